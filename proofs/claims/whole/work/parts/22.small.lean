/-! houses, distances, bits -/
theorem isHouse_ (x : Int32) (h : ax_Hp) : rI m_X7_isHouse [.int x] h = some (if 0 ≤ x ∧ x < 8 then 1 else 0, h) := by
  refine rI_of ((e_X7_isHouse_0 _ h).trans ?_)
  simp only [fa_lt', Int32.le_iff_toInt_le]
  repeat' split
  all_goals first | rfl | omega
theorem isHouse_n {j : Nat} (hj : j < 8) (h : ax_Hp) : rI m_X7_isHouse [.int (nI j)] h = some (1, h) := by
  rw [isHouse_, if_pos]
  simp (disch := omega) only [l0, l8, le_, lt_]
  omega
theorem steps_ {a b : Nat} (ha : a < 8) (hb : b < 8) (h : ax_Hp) : rI m_X7_stepsBetween [.int (nI a), .int (nI b)] h = some (nI (if a ≤ b then b - a else a - b), h) := by
  refine rI_of ((e_X7_stepsBetween_0 _ _ h).trans ?_)
  revert ha hb
  have : ∀ a, a < 8 → ∀ b, b < 8 → (if 0 ≤ nI a - nI b then nI a - nI b else 0 - (nI a - nI b)) = nI (if a ≤ b then b - a else a - b) := by decide
  intro ha hb
  rw [this a ha b hb]
def bitB (x : Int32) (j : Nat) : Bool := decide ((x >>> (nI j &&& 31)) &&& 1 = 1)
theorem hasBit_ (x : Int32) (j : Nat) (h : ax_Hp) : rI m_X7_hasBit [.int x, .int (nI j)] h = some (if bitB x j = true then 1 else 0, h) := by
  refine rI_of ((e_X7_hasBit_0 _ _ h).trans ?_)
  unfold bitB
  simp only [decide_eq_true_eq]
  split <;> rfl
/-! what a street covers, has, needs, lacks -/
def zcov (s : Sp) (i : Nat) : Nat := covN (zK s i) (zF s i) (zT s % 6)
def zhas (s : Sp) (j : Nat) : Nat := smN (zW s) (fun i => if zP s i = j then zcov s i else 0)
def zneed (s : Sp) (w j : Nat) : Nat := zN s (6 * j + zT s % 6) + w
def zlack (s : Sp) (w j : Nat) : Nat := zneed s w j - zhas s j
def zlwo (s : Sp) (w i : Nat) : Nat := zneed s w (zP s i) - (zhas s (zP s i) - zcov s i)
def dst (a b : Nat) : Nat := if a ≤ b then b - a else a - b
def zcgo (s : Sp) (i a b : Nat) : Bool := a ≠ b && (!bitB (zB s a) b && strN (zK s i) (dst a b))
def okS (s : Sp) : Prop := zW s ≤ 7 ∧ zT s < 1000000 ∧ (∀ i, i < 7 → zK s i ≤ 5 ∧ zF s i ≤ 9 ∧ zO s i < 8 ∧ zP s i < 8) ∧ (∀ j, j < 48 → zN s j ≤ 9)
/-- the class's street at the cells from c holds s -/
def RB (h : ax_Hp) (c : Nat) (s : Sp) (w : Nat) : Prop :=
  okS s ∧ w ≤ 2 ∧ h.1 c 0 = nI (zW s) ∧ h.1 c 1 = nI (zT s) ∧ h.1 c 2 = nI w ∧
  (∀ i, i < 7 → h.1 (c + 1) i = nI (zK s i) ∧ h.1 (c + 2) i = nI (zF s i) ∧ h.1 (c + 3) i = nI (zO s i) ∧ h.1 (c + 4) i = nI (zP s i) ∧ h.1 (c + 5) i = zL s i) ∧
  (∀ j, j < 48 → h.1 (c + 7) j = nI (zN s j)) ∧ (∀ j, j < 8 → h.1 (c + 8) j = zB s j)
/-- and what it keeps in mind of it is right -/
def RK (h : ax_Hp) (c : Nat) (s : Sp) : Prop := (∀ i, i < zW s → h.1 (c + 9) i = nI (zcov s i)) ∧ (∀ j, j < 8 → h.1 (c + 10) j = nI (zhas s j))
def RC (h : ax_Hp) (c : Nat) (s : Sp) (w : Nat) : Prop := RB h c s w ∧ RK h c s
theorem RB_of {h h' : ax_Hp} {c : Nat} {s : Sp} {w : Nat} (e : ∀ k, c ≤ k → k ≤ c + 8 → k ≠ c + 6 → h'.1 k = h.1 k) (r : RB h c s w) : RB h' c s w := by
  unfold RB at r ⊢
  rw [e c (by omega) (by omega) (by omega), e (c + 1) (by omega) (by omega) (by omega), e (c + 2) (by omega) (by omega) (by omega), e (c + 3) (by omega) (by omega) (by omega), e (c + 4) (by omega) (by omega) (by omega), e (c + 5) (by omega) (by omega) (by omega), e (c + 7) (by omega) (by omega) (by omega), e (c + 8) (by omega) (by omega) (by omega)]
  exact r
/-- nothing but the street at c has changed -/
def Fr (c : Nat) (h h' : ax_Hp) : Prop := h'.2 = h.2 ∧ ∀ k, k < c ∨ c + 10 < k → h'.1 k = h.1 k
theorem Fr.refl (c : Nat) (h : ax_Hp) : Fr c h h := ⟨rfl, fun _ _ => rfl⟩
theorem Fr.trans {c : Nat} {h h1 h2 : ax_Hp} (a : Fr c h h1) (b : Fr c h1 h2) : Fr c h h2 := ⟨b.1.trans a.1, fun k hk => (b.2 k hk).trans (a.2 k hk)⟩
theorem Fr.wI {c : Nat} {h h1 : ax_Hp} (a : Fr c h h1) {k i : Nat} {x : Int32} (hk : c ≤ k ∧ k ≤ c + 10) : Fr c h (wI h1 k i x) :=
  ⟨a.1, fun m hm => (wI_ne (by omega)).trans (a.2 m hm)⟩
/-- one more from k on, with something that is kept -/
theorem ex_loop {α ρ : Type} (P : Int32 → α → ρ) (Inv : Nat → α → Prop) (n : Nat) (hs : ∀ k a, k < n → Inv k a → ∃ a', P (nI k) a = P (nI (k + 1)) a' ∧ Inv (k + 1) a') (a : α) {k0 : Nat} (h0 : Inv k0 a) (hk0 : k0 ≤ n) : ∃ a', P (nI k0) a = P (nI n) a' ∧ Inv n a' := by
  obtain ⟨d, hd⟩ : ∃ d, n = k0 + d := ⟨n - k0, by omega⟩
  clear hk0
  induction d generalizing k0 a with
  | zero => subst hd; exact ⟨a, rfl, h0⟩
  | succ d ih =>
    obtain ⟨a1, e1, i1⟩ := hs k0 a (by omega) h0
    obtain ⟨a2, e2, i2⟩ := ih a1 i1 (by omega)
    exact ⟨a2, e1.trans e2, i2⟩
theorem zcov_le {s : Sp} (hs : okS s) {i : Nat} (hi : i < 7) : zcov s i ≤ 20 := covN_le (hs.2.2.1 i hi).2.1
theorem zhas_le {s : Sp} (hs : okS s) (j : Nat) : zhas s j ≤ 140 := by
  have h1 : zhas s j ≤ zW s * 20 := smN_le (fun k hk => by
    have := zcov_le hs (i := k) (by have := hs.1; omega)
    split <;> omega)
  have := hs.1
  omega
theorem zcov_has {s : Sp} {i : Nat} (hi : i < zW s) : zcov s i ≤ zhas s (zP s i) := by
  have := smN_part (f := fun k => if zP s k = zP s i then zcov s k else 0) hi
  simpa [zhas] using this
theorem zneed_le {s : Sp} (hs : okS s) {w j : Nat} (hw : w ≤ 2) (hj : j < 8) : zneed s w j ≤ 11 := by
  have := hs.2.2.2 (6 * j + zT s % 6) (by omega)
  unfold zneed
  omega
theorem needOf_ {h : ax_Hp} {c : Nat} {s : Sp} {w j : Nat} (hc : isS c) (r : RC h c s w) (hj : j < 8) : rI m_X5_needOf [.ref c, .int (nI j)] h = some (nI (zneed s w j), h) := by
  refine rI_of ((e_X5_needOf_0 hc _ h).trans ?_)
  obtain ⟨⟨ok, hw, r0, r1, r2, rr, rn, rb⟩, rc, rh⟩ := r
  have hT := ok.2.1
  rw [r1, r2]
  simp (disch := omega) only [l6, rem_]
  simp (disch := omega) only [mul_, add_, cl_, g_in]
  rw [Nat.mul_comm j 6, rn _ (by omega)]
  simp only [add_]
  rfl
theorem lackOf_ {h : ax_Hp} {c : Nat} {s : Sp} {w j : Nat} (hc : isS c) (r : RC h c s w) (hj : j < 8) : rI m_X5_lackOf [.ref c, .int (nI j)] h = some (nI (zlack s w j), h) := by
  refine rI_of ((e_X5_lackOf_0 hc _ h).trans ?_)
  rw [needOf_ hc r hj]
  obtain ⟨⟨ok, hw, r0, r1, r2, rr, rn, rb⟩, rc, rh⟩ := r
  have h1 := zneed_le ok hw hj
  have h2 := zhas_le ok j
  simp (disch := omega) only [bnd, g_in, cl_]
  rw [rh j hj]
  simp (disch := omega) only [max0]
  rfl
theorem sub_back {n a b : Nat} (h : b ≤ a) : nI n - nI a + nI b = nI n - nI (a - b) := by
  rw [← sub_ h]
  grind
theorem lwo_ {h : ax_Hp} {c : Nat} {s : Sp} {w i : Nat} (hc : isS c) (r : RC h c s w) (hi : i < zW s) : rI m_X5_lackWithout [.ref c, .int (nI i)] h = some (nI (zlwo s w i), h) := by
  refine rI_of ((e_X5_lackWithout_0 hc _ h).trans ?_)
  have r' := r
  obtain ⟨⟨ok, hw, r0, r1, r2, rr, rn, rb⟩, rc, rh⟩ := r'
  have hW := ok.1
  have hp := (ok.2.2.1 i (by omega)).2.2.2
  have h1 := zneed_le ok hw hp
  have h2 := zhas_le ok (zP s i)
  have h3 := zcov_has hi
  simp (disch := omega) only [g_in, cl_]
  rw [(rr i (by omega)).2.2.2.1, needOf_ hc r hp]
  simp (disch := omega) only [bnd, g_in, cl_]
  rw [rh _ hp, rc i hi]
  simp (disch := omega) only [sub_back, max0]
  rfl
