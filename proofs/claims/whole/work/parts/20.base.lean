/-! small rows: calls, places, numbers, loops -/
theorem fa_lt' (a b : Int32) : a < b ↔ a.toInt < b.toInt := Int32.lt_iff_toInt_lt
theorem rI_of {z : Nat} {as : List Value} {h h' : ax_Hp} {x : Int32} (e : ax_run z 0 (lv_args 0 as) [] h = some (some (.int x), h')) : rI z as h = some (x, h') := by
  unfold rI ax_rI
  rw [e]
theorem rV_of {z : Nat} {as : List Value} {h h' : ax_Hp} (e : ax_run z 0 (lv_args 0 as) [] h = some (none, h')) : rV z as h = some h' := by
  unfold rV ax_rV
  rw [e]
theorem rL_of {z : Nat} {as : List Value} {h h' : ax_Hp} {x : Int64} (e : ax_run z 0 (lv_args 0 as) [] h = some (some (.long x), h')) : rL z as h = some (x, h') := by
  unfold rL ax_rL
  rw [e]
theorem rA_of {z : Nat} {as : List Value} {h h' : ax_Hp} {x : Nat} (e : ax_run z 0 (lv_args 0 as) [] h = some (some (.ref x), h')) : rA z as h = some (x, h') := by
  unfold rA ax_rA
  rw [e]
theorem in_nI {k n : Nat} (hk : k < n) (hn : n < 2147483648 := by decide) : ax_in (nI k) n = true := by
  unfold ax_in
  exact @decide_eq_true _ (Classical.propDecidable _) (vp_in_nI hk hn)
theorem g_true (o : Option ax_Rs) : ax_g true o = o := rfl
theorem g_in {k n : Nat} (hk : k < n) (o : Option ax_Rs) (hn : n < 2147483648 := by decide) : ax_g (ax_in (nI k) n) o = o := by
  rw [in_nI hk hn]; rfl
theorem g_nz {b : Bool} (hb : b = true) (o : Option ax_Rs) : ax_g b o = o := by rw [hb]; rfl
theorem bnd {α β : Type} (a : α) (f : α → Option β) : (some a).bind f = f a := rfl
theorem cl_ {k : Nat} (h : k < 2147483648) : (nI k).toNatClampNeg = k := nI_clamp h
theorem lt_ {a b : Nat} (ha : a < 2147483648) (hb : b < 2147483648) : nI a < nI b ↔ a < b := nI_ltI ha hb
theorem le_ {a b : Nat} (ha : a < 2147483648) (hb : b < 2147483648) : nI a ≤ nI b ↔ a ≤ b := nI_leI ha hb
theorem eq_ {a b : Nat} (ha : a < 2147483648) (hb : b < 2147483648) : nI a = nI b ↔ a = b := nI_eq ha hb
theorem l0 : (0 : Int32) = nI 0 := rfl
theorem l1 : (1 : Int32) = nI 1 := rfl
theorem l2 : (2 : Int32) = nI 2 := rfl
theorem l3 : (3 : Int32) = nI 3 := rfl
theorem l4 : (4 : Int32) = nI 4 := rfl
theorem l5 : (5 : Int32) = nI 5 := rfl
theorem l6 : (6 : Int32) = nI 6 := rfl
theorem l7 : (7 : Int32) = nI 7 := rfl
theorem l8 : (8 : Int32) = nI 8 := rfl
theorem l9 : (9 : Int32) = nI 9 := rfl
theorem l10 : (10 : Int32) = nI 10 := rfl
theorem add_ (a b : Nat) : nI a + nI b = nI (a + b) := nI_add a b
theorem mul_ (a b : Nat) : nI a * nI b = nI (a * b) := pk_mul a b
theorem sub_ {a b : Nat} (h : b ≤ a) : nI a - nI b = nI (a - b) := pk_sub h
theorem rem_ {a d : Nat} (ha : a < 2147483648) (h0 : 0 < d) (hd : d < 2147483648) : nI a - nI a / nI d * nI d = nI (a % d) := pk_rem ha h0 hd
theorem div_ {a d : Nat} (ha : a < 2147483648) (h0 : 0 < d) (hd : d < 2147483648) : nI a / nI d = nI (a / d) := pk_div ha h0 hd
/-- what is lacking, at least 0 -/
theorem max0 {a b : Nat} (ha : a < 1073741824) (hb : b < 1073741824) : (if 0 < nI a - nI b then nI a - nI b else 0) = nI (a - b) := by
  by_cases h : b ≤ a
  · have e := sub_ h
    have hc : (0:Int32) < nI a - nI b ↔ 0 < a - b := by
      rw [e, l0]
      exact lt_ (by omega) (by omega)
    by_cases h0 : 0 < a - b
    · rw [if_pos (hc.mpr h0)]
      exact e
    · rw [if_neg (fun q => h0 (hc.mp q))]
      have : a - b = 0 := by omega
      rw [this]
      rfl
  · have h1 : nI a - nI b < 0 := pk_sneg hb (by omega)
    rw [if_neg (by
      intro q
      have := (fa_lt' _ _).mp q
      have h2 := (fa_lt' _ _).mp h1
      omega)]
    have : a - b = 0 := by omega
    rw [this]
    rfl
/-- n times over, from 0 up -/
def it {α : Type} (g : Nat → α → α) : Nat → α → α
  | 0, a => a
  | n + 1, a => g n (it g n a)
theorem it_loop {α ρ : Type} (P : Int32 → α → ρ) (g : Nat → α → α) (Inv : Nat → α → Prop) (n : Nat) (hs : ∀ k a, k < n → Inv k a → P (nI k) a = P (nI (k + 1)) (g k a) ∧ Inv (k + 1) (g k a)) (a : α) (h0 : Inv 0 a) :
    ∀ k, k ≤ n → P 0 a = P (nI k) (it g k a) ∧ Inv k (it g k a) := by
  intro k
  induction k with
  | zero => intro _; exact ⟨rfl, h0⟩
  | succ k ih =>
    intro hk
    obtain ⟨e, i⟩ := ih (by omega)
    obtain ⟨e2, i2⟩ := hs k _ (by omega) i
    exact ⟨e.trans e2, i2⟩
theorem it_congr {α : Type} {g g' : Nat → α → α} {n : Nat} (h : ∀ k a, k < n → g k a = g' k a) (a : α) : it g n a = it g' n a := by
  induction n with
  | zero => rfl
  | succ n ih =>
    show g n (it g n a) = g' n (it g' n a)
    rw [ih (fun k a hk => h k a (by omega)), h n _ (by omega)]
def smN : Nat → (Nat → Nat) → Nat
  | 0, _ => 0
  | n + 1, f => smN n f + f n
theorem smN_congr {n : Nat} {f g : Nat → Nat} (h : ∀ k, k < n → f k = g k) : smN n f = smN n g := by
  induction n with
  | zero => rfl
  | succ n ih => simp only [smN]; rw [ih (fun k hk => h k (by omega)), h n (by omega)]
theorem smN_le {n b : Nat} {f : Nat → Nat} (h : ∀ k, k < n → f k ≤ b) : smN n f ≤ n * b := by
  induction n with
  | zero => simp [smN]
  | succ n ih =>
    have h1 := ih (fun k hk => h k (by omega))
    have h2 := h n (by omega)
    simp only [smN, Nat.succ_mul]
    omega
theorem smN_part {n k : Nat} {f : Nat → Nat} (h : k < n) : f k ≤ smN n f := by
  induction n with
  | zero => omega
  | succ n ih =>
    simp only [smN]
    by_cases hk : k = n
    · subst hk; omega
    · have := ih (by omega); omega
/-- one place of the sum changes -/
theorem smN_upd {n k : Nat} {f g : Nat → Nat} (hk : k < n) (h : ∀ j, j < n → j ≠ k → g j = f j) : smN n g + f k = smN n f + g k := by
  induction n with
  | zero => omega
  | succ n ih =>
    simp only [smN]
    by_cases hkn : k = n
    · subst hkn
      have := smN_congr (n := k) (f := f) (g := g) (fun j hj => (h j (by omega) (by omega)).symm)
      omega
    · have h1 := ih (by omega) (fun j hj hjk => h j (by omega) hjk)
      have h2 := h n (by omega) (fun q => hkn q.symm)
      omega
/-! writes -/
theorem wI_at (h : ax_Hp) (k i : Nat) (x : Int32) : (wI h k i x).1 k = upd (h.1 k) i x := by simp [wI, sA]
theorem wI_ne {h : ax_Hp} {k i j : Nat} {x : Int32} (hj : j ≠ k) : (wI h k i x).1 j = h.1 j := by simp [wI, sA, hj]
theorem wI_L (h : ax_Hp) (k i : Nat) (x : Int32) : (wI h k i x).2 = h.2 := rfl
theorem upd_at (f : Nat → Int32) (i : Nat) (x : Int32) : upd f i x i = x := by simp [upd]
theorem upd_ne {f : Nat → Int32} {i j : Nat} {x : Int32} (h : j ≠ i) : upd f i x j = f j := by simp [upd, h]
