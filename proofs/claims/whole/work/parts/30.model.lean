/-! the reference holds the street s -/
def RM (h : ax_Hp) (s : Sp) (w : Nat) : Prop :=
  okS s ∧ ((w = 0 ∧ h.1 47 22 = 0) ∨ (w = 2 ∧ h.1 47 22 = 1)) ∧ h.1 47 8 = nI (zW s) ∧ h.1 47 9 = nI (zT s) ∧
  (∀ i, i < 7 → h.1 49 i = nI (zK s i) ∧ h.1 50 i = nI (zF s i) ∧ h.1 51 i = nI (zO s i) ∧ h.1 52 i = nI (zP s i) ∧ h.1 53 i = zL s i) ∧
  (∀ j, j < 48 → h.1 54 j = nI (zN s j)) ∧ (∀ j, j < 8 → h.1 55 j = zB s j)
theorem RM.w {h : ax_Hp} {s : Sp} {w : Nat} (r : RM h s w) : w ≤ 2 := by
  rcases r.2.1 with a | a <;> omega
theorem coversAt_ {h : ax_Hp} {s : Sp} {w i p : Nat} (r : RM h s w) (hi : i < 7) (hp : p < 6) : rI m_X8_coversAt [.ref 47, .int (nI i), .int (nI p)] h = some (nI (zcovT s i p), h) := by
  refine rI_of ((e_X8_coversAt_0 _ _ h).trans ?_)
  have ok := r.1.2.2.1 i hi
  have rr := r.2.2.2.2.1 i hi
  simp (disch := omega) only [g_in, cl_]
  rw [rr.1, rr.2.1]
  unfold zcovT covN
  have hk := ok.1
  have hf := ok.2.1
  simp (disch := omega) only [l1, l2, l3, l4, l5, eq_, le_, add_, div_, mul_]
  repeat' split
  all_goals first | rfl | omega
theorem covers_ {h : ax_Hp} {s : Sp} {w i : Nat} (r : RM h s w) (hi : i < 7) : rI m_X8_covers [.ref 47, .int (nI i)] h = some (nI (zcov s i), h) := by
  have hT := r.1.2.1
  refine rI_of ((e_X8_covers_0 _ h).trans ?_)
  rw [r.2.2.2.1, nI_mod (by omega), coversAt_ r hi (by omega)]
  rfl
theorem hasAt_ {h : ax_Hp} {s : Sp} {w j : Nat} (r : RM h s w) (hj : j < 8) : rI m_X8_hasAt [.ref 47, .int (nI j)] h = some (nI (zhas s j), h) := by
  have hW := r.1.1
  refine rI_of ((e_X8_hasAt_0 _ h).trans ?_)
  refine (lp (fun k x => ax_run m_X8_hasAt 4 [(0, .ref 47), (1, .int (nI j)), (2, .int x), (3, .int k)] [] h) (fun k => nI (smN k (fun i => if zP s i = j then zcov s i else 0))) (zW s) (fun k hk => ?_)).trans ?_
  · show ax_run m_X8_hasAt 4 _ [] h = _
    have okk := (r.1.2.2.1 k (by omega)).2.2.2
    rw [e_X8_hasAt_4, r.2.2.1]
    simp (disch := omega) only [le_, g_in, cl_]
    rw [if_neg (by omega), (r.2.2.2.2.1 k (by omega)).2.2.2.1, covers_ r (by omega), bnd]
    simp (disch := omega) only [eq_, smN, l0, l1, add_]
    split <;> rfl
  · show ax_run m_X8_hasAt 4 _ [] h = _
    rw [e_X8_hasAt_4, r.2.2.1]
    exact if_pos ((le_ (a := zW s) (b := zW s) (by omega) (by omega)).mpr (Nat.le_refl _))
theorem max0' {a b : Nat} (ha : a < 1073741824) (hb : b < 1073741824) : (if 0 ≤ nI a - nI b then nI a - nI b else 0) = nI (a - b) := by
  by_cases h : b ≤ a
  · have e := sub_ h
    rw [if_pos (by rw [e]; exact (le_ (a := 0) (by omega) (by omega)).mpr (by omega))]
    exact e
  · have h1 : nI a - nI b < 0 := pk_sneg hb (by omega)
    rw [if_neg (by
      intro q
      have := Int32.le_iff_toInt_le.mp q
      have h2 := (fa_lt' _ _).mp h1
      omega)]
    rw [show a - b = 0 by omega]
    rfl
theorem lacksWith_ {h : ax_Hp} {s : Sp} {w j v : Nat} (r : RM h s w) (hj : j < 8) (hv : v < 1000000) : rI m_X8_lacksWith [.ref 47, .int (nI j), .int (nI v)] h = some (nI (zneed s w j - v), h) := by
  have hT := r.1.2.1
  have hw := r.w
  have hn := zneed_le r.1 hw hj
  refine rI_of ((e_X8_lacksWith_0 _ _ h).trans ?_)
  rw [r.2.2.2.1, nI_mod (by omega), l6]
  simp (disch := omega) only [mul_, add_, g_in, cl_]
  rw [r.2.2.2.2.2.1 _ (by omega)]
  unfold zneed at hn ⊢
  rcases r.2.1 with ⟨a, b⟩ | ⟨a, b⟩
  · rw [b, if_pos rfl, a]
    have hm := max0' (a := zN s (6 * j + zT s % 6) + 0) (b := v) (by omega) (by omega)
    rw [← hm, ← add_, ← l0]
    split <;> rfl
  · rw [b, if_neg (by decide), a]
    have hm := max0' (a := zN s (6 * j + zT s % 6) + 2) (b := v) (by omega) (by omega)
    rw [← hm, ← add_, ← l2]
    split <;> rfl
theorem lacks_ {h : ax_Hp} {s : Sp} {w j : Nat} (r : RM h s w) (hj : j < 8) : rI m_X8_lacks [.ref 47, .int (nI j)] h = some (nI (zlack s w j), h) := by
  have := zhas_le r.1 j
  refine rI_of ((e_X8_lacks_0 _ h).trans ?_)
  rw [hasAt_ r hj, bnd, lacksWith_ r hj (by omega)]
  rfl
theorem lacksWithout_ {h : ax_Hp} {s : Sp} {w i : Nat} (r : RM h s w) (hi : i < zW s) : rI m_X8_lacksWithout [.ref 47, .int (nI i)] h = some (nI (zlwo s w i), h) := by
  have hW := r.1.1
  have okk := (r.1.2.2.1 i (by omega)).2.2.2
  have h1 := zhas_le r.1 (zP s i)
  have h2 := zcov_has hi
  refine rI_of ((e_X8_lacksWithout_0 _ h).trans ?_)
  simp (disch := omega) only [g_in, cl_]
  rw [(r.2.2.2.2.1 i (by omega)).2.2.2.1, hasAt_ r okk, bnd, covers_ r (by omega), bnd, sub_ h2, lacksWith_ r okk (by omega)]
  rfl
