/-! the start: all is nought -/
def zs : Sp := (0, 0, fun _ => 0, fun _ => 0, fun _ => 0, fun _ => 0, fun _ => 0, fun _ => 0, fun _ => 0)
def z0 : Ab := (zs, (0, zs), fun _ => 0, (0, fun _ => 0), (0, fun _ => 0), fun _ => 0)
def zz (L : Nat) (xs : Nat → Int32) : ax_Hp := (fun _ _ => 0, fun _ _ => 0, L, xs)
theorem okS_zero : okS zs := ⟨by show 0 ≤ 7; omega, by show 0 < 1000000; omega, fun i _ => ⟨by show 0 ≤ 5; omega, by show 0 ≤ 9; omega, by show 0 < 8; omega, by show 0 < 8; omega⟩, fun j _ => by show 0 ≤ 9; omega⟩
theorem okA_zero : okA z0 := ⟨by show 0 ≤ 999; omega, by show 0 ≤ 1; omega, fun q => absurd (show (0 : Nat) = 1 from q) (by omega), by show 0 ≤ 96; omega, fun i _ => by show 0 ≤ 255; omega, by show 0 ≤ 16; omega, fun i _ => by show 0 ≤ 99; omega⟩
theorem RC_zero (L : Nat) (xs : Nat → Int32) (c : Nat) : RC (zz L xs) c zs 0 :=
  ⟨⟨okS_zero, by omega, rfl, rfl, rfl, fun _ _ => ⟨rfl, rfl, rfl, rfl, rfl⟩, fun _ _ => rfl, fun _ _ => rfl⟩, fun i hi => absurd (show i < 0 from hi) (by omega), fun _ _ => rfl⟩
theorem IC_zero (L : Nat) (xs : Nat → Int32) : IC (zz L xs) z0 :=
  ⟨RC_zero L xs 1, rfl, fun q => absurd (show (0 : Nat) = 1 from q) (by omega), fun i h1 h2 => rfl, rfl, fun i hi => rfl, rfl, fun i hi => rfl, fun i hi => rfl⟩
theorem IM_zero (L : Nat) (xs : Nat → Int32) : IM (zz L xs) z0 :=
  ⟨⟨okS_zero, Or.inl ⟨rfl, rfl⟩, rfl, rfl, fun _ _ => ⟨rfl, rfl, rfl, rfl, rfl⟩, fun _ _ => rfl, fun _ _ => rfl⟩, rfl, fun q => absurd (show (0 : Nat) = 1 from q) (by omega), fun i h1 h2 => rfl, rfl, fun i hi => rfl, rfl, fun i hi => rfl, fun i hi => rfl⟩
theorem law_true {L : Nat} (hL : L ≤ 2560) (xs : Nat → Int32) : ∃ n h2, ax_fuel n m_L_law 18 [(0, .ref 66), (1, .ref 0), (2, .ref 47), (3, .int 0)] [] (zz L xs) = some (some (.int 1), h2) := by
  obtain ⟨h2, e⟩ := law_loop L 0 (zz L xs) z0 hL (by omega) (by show L < 0 + 5 * L + 5; omega) okA_zero (IC_zero L xs) (IM_zero L xs)
  obtain ⟨n, e2⟩ := ax_run_fuel.mp (show ax_run m_L_law 18 [(0, .ref 66), (1, .ref 0), (2, .ref 47), (3, .int 0)] [] (zz L xs) = _ from e)
  exact ⟨n, h2, e2⟩
