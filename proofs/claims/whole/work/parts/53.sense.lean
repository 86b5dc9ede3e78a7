/-! letters: has a statement sense; it comes -/
/-- a letter's digit -/
def dv (c : Nat → Nat) (p : Nat) : Nat := c p - 48
/-- has the statement at p sense, with so many walls, at such an hour -/
def snB (c : Nat → Nat) (W T p : Nat) : Bool :=
  if c p = 119 then decide (W < 7 ∧ dv c (p + 3) < 8) else if c p = 109 then decide (dv c (p + 1) < W ∧ dv c (p + 2) < 8) else if c p = 115 then decide (dv c (p + 1) < W ∧ dv c (p + 2) < 8)
  else if c p = 110 then decide (dv c (p + 1) < 8) else if c p = 98 then decide (dv c (p + 1) < 8 ∧ dv c (p + 2) < 8 ∧ dv c (p + 1) ≠ dv c (p + 2))
  else decide (1 ≤ 10 * dv c (p + 1) + dv c (p + 2) ∧ 10 * dv c (p + 1) + dv c (p + 2) ≤ 60 ∧ T + (10 * dv c (p + 1) + dv c (p + 2)) ≤ 999)
def znn (c : Nat → Nat) (s : Sp) (p : Nat) : Nat → Sp
  | 0 => s
  | k + 1 => znd (znn c s p k) (6 * dv c (p + 1) + k) (dv c (p + 2 + k))
/-- it comes -/
def stA (c : Nat → Nat) (A : Ab) (p : Nat) : Ab :=
  if c p = 119 then bSet A (zad (bS A) (kdN (c (p + 1))) (dv c (p + 2)) (dv c (p + 3))) else if c p = 109 then bSet A (zput (bS A) (dv c (p + 1)) (dv c (p + 2)))
  else if c p = 115 then bSet A (zsel (bS A) (dv c (p + 1)) (dv c (p + 2))) else if c p = 110 then bSet A (znn c (bS A) p 6)
  else if c p = 98 then bSet A (zbr (bS A) (dv c (p + 1)) (dv c (p + 2))) else bPass A (10 * dv c (p + 1) + dv c (p + 2))
theorem znn_T (c : Nat → Nat) (s : Sp) (p k : Nat) : zT (znn c s p k) = zT s := by
  induction k with
  | zero => rfl
  | succ k ih => exact ih
theorem znn_W (c : Nat → Nat) (s : Sp) (p k : Nat) : zW (znn c s p k) = zW s := by
  induction k with
  | zero => rfl
  | succ k ih => exact ih
/-- the letters of a well formed statement -/
def WF (c : Nat → Nat) (p : Nat) : Prop := szN (c p) ≠ 0 ∧ badS c p = szN (c p)
theorem wf_fit {c : Nat → Nat} {p : Nat} (w : WF c p) : ∀ i, 1 ≤ i → i < szN (c p) → fitB (c p) i (c (p + i)) = true := by
  intro i h1 h2
  have h4 := sz4 w.1
  have hb : bad c p (szN (c p) - 1) 1 = szN (c p) := w.2
  exact bad_all (szN (c p) - 1) 1 (by omega) i h1 (by omega)
theorem wf_dig {c : Nat → Nat} {p i : Nat} (w : WF c p) (h1 : 1 ≤ i) (h2 : i + 1 < szN (c p)) (h3 : i ≠ 1 ∨ c p ≠ 119) : dgt (c (p + i)) = true := by
  have := wf_fit w i h1 (by omega)
  unfold fitB at this
  rw [if_neg (by omega), if_neg (fun y => by omega)] at this
  exact this
theorem wf_kind {c : Nat → Nat} {p : Nat} (w : WF c p) (e : c p = 119) : kdN (c (p + 1)) < 9 := by
  have := wf_fit w 1 (by omega) (by rw [e]; decide)
  unfold fitB at this
  rw [if_neg (by rw [e]; decide), if_pos ⟨rfl, e⟩] at this
  exact of_decide_eq_true this
theorem kd5 {c : Nat} (h : kdN c < 9) : kdN c ≤ 5 := by
  unfold kdN at h ⊢
  repeat' split
  all_goals first | omega | (exfalso; simp_all)
theorem dv_le {c : Nat → Nat} {p : Nat} (h : dgt (c p) = true) : dv c p ≤ 9 := (dgt_val h).2.1
theorem dig_n {h : ax_Hp} {n : Nat} {tx : Nat → Nat} (t : LT h n tx) {p : Nat} (hp : p < 1073741824) (hd : dgt (cg n tx p) = true) : rI m_X3_digitAt [.ref 36, .int (nI p)] h = some (nI (dv (cg n tx) p), h) := by
  rw [digitAt_ t hp, (dgt_val hd).1]
  rfl
theorem two_iff {a b : Nat} (ha : a ≤ 9) (hb : b ≤ 9) : twoP (nI a) (nI b) ↔ (a < 8 ∧ b < 8 ∧ a ≠ b) := by
  unfold twoP
  rw [l8]
  simp (disch := omega) only [lt_, ne_eq, eq_]
  have h1 : 0 ≤ nI a := nI_pos' (by omega)
  have h2 : 0 ≤ nI b := nI_pos' (by omega)
  constructor
  · intro h; exact ⟨h.1.2, h.2.1.2, h.2.2⟩
  · intro h; exact ⟨⟨h1, h.1⟩, ⟨h2, h.2.1⟩, h.2.2⟩
theorem hs_n {a : Nat} (ha : a ≤ 9) : (0 ≤ nI a ∧ nI a < 8) ↔ a < 8 := by
  rw [l8]
  simp (disch := omega) only [lt_]
  exact ⟨fun h => h.2, fun h => ⟨nI_pos' (by omega), h⟩⟩
theorem two_B (a b : Nat) (ha : a ≤ 9) (hb : b ≤ 9) (h : ax_Hp) : rI m_X7_areTwoHouses [.int (nI a), .int (nI b)] h = some (if a < 8 ∧ b < 8 ∧ a ≠ b then 1 else 0, h) := by
  by_cases q : a < 8 ∧ b < 8 ∧ a ≠ b
  · rw [if_pos q, areTwo_pos ((two_iff ha hb).mpr q)]
  · rw [if_neg q, areTwo_neg (fun y => q ((two_iff ha hb).mp y))]
theorem two_BM (a b : Nat) (ha : a ≤ 9) (hb : b ≤ 9) (h : ax_Hp) : rI m_X8_areTwo [.int (nI a), .int (nI b)] h = some (if a < 8 ∧ b < 8 ∧ a ≠ b then 1 else 0, h) := by
  by_cases q : a < 8 ∧ b < 8 ∧ a ≠ b
  · rw [if_pos q, areTwoM_pos ((two_iff ha hb).mpr q)]
  · rw [if_neg q, areTwoM_neg (fun y => q ((two_iff ha hb).mp y))]
theorem house_B (a : Nat) (ha : a ≤ 9) (h : ax_Hp) : rI m_X7_isHouse [.int (nI a)] h = some (if a < 8 then 1 else 0, h) := by
  rw [isHouse_]
  simp only [hs_n ha]
theorem house_BM (a : Nat) (ha : a ≤ 9) (h : ax_Hp) : rI m_X8_isHouse [.int (nI a)] h = some (if a < 8 then 1 else 0, h) := by
  rw [isHouseM_]
  simp only [hs_n ha]
theorem bool_01 {p : Prop} [Decidable p] (h : ax_Hp) : (if (if p then (1 : Int32) else 0) = 0 ∨ (if p then (1 : Int32) else 0) = 1 then some (some (Value.int (if p then 1 else 0)), h) else none) = some (some (.int (if p then 1 else 0)), h) := by
  by_cases q : p
  · simp only [q, if_true]; exact if_pos (Or.inr trivial)
  · simp only [q, if_false]; exact if_pos (Or.inl trivial)
theorem sense_ {h : ax_Hp} {n : Nat} {tx : Nat → Nat} {p W T : Nat} (t : LT h n tx) (hp : p < 1000) (w : WF (cg n tx) p) (hW : W ≤ 7) (hT : T ≤ 999) :
    rI m_X3_hasSense [.ref 36, .int (nI p), .int (nI W), .int (nI T)] h = some (if snB (cg n tx) W T p = true then 1 else 0, h) := by
  have hc := cg_le (fun i hi => (t.2.2 i hi).2) p
  obtain ⟨a1, a2, a3, a4, a5, a6, a7⟩ := sI_eq _ (show cg n tx p < 257 by omega)
  refine rI_of ((e_X3_hasSense_0 _ _ _ h).trans ?_)
  have c6 := sz6 w.1
  have d2 : dgt (cg n tx (p + 2)) = true := wf_dig w (by omega) (by rcases c6 with e | e | e | e | e | e <;> (rw [e]; decide)) (by omega)
  have b2 := dv_le d2
  rw [nI_1, show (2 : Int32) = nI 2 from rfl, show (3 : Int32) = nI 3 from rfl, add_, add_, digitAt_ t (by omega), bnd]
  simp only []
  rw [dig_n t (by omega) d2, bnd]
  simp only []
  rw [signAt_ t (by omega), bnd]
  simp only [a1, a3, a4, a5, a6]
  unfold snB
  by_cases e119 : cg n tx p = 119
  · rw [if_neg (by omega), if_neg (by omega), if_neg (by omega), if_neg (by omega), if_pos e119, if_pos e119]
    have d3 : dgt (cg n tx (p + 3)) = true := wf_dig w (by omega) (by rw [e119]; decide) (by omega)
    have b3 := dv_le d3
    simp (disch := omega) only [l7, le_, decide_eq_true_eq]
    by_cases q : 7 ≤ W
    · rw [if_pos q, if_neg (fun y => by omega)]
    · rw [if_neg q, dig_n t (by omega) d3, bnd]
      simp only []
      rw [house_B _ b3, bnd]
      by_cases q2 : dv (cg n tx) (p + 3) < 8
      · simp only [q2, if_true, ax_10, if_false, and_true]
        rw [if_pos (by omega)]
      · simp only [q2, if_false, if_true, and_false]
  · have d1 : dgt (cg n tx (p + 1)) = true := wf_dig w (by omega) (by rcases c6 with e | e | e | e | e | e <;> (rw [e]; decide)) (Or.inr e119)
    have b1 := dv_le d1
    have v1 : sI_ (cg n tx (p + 1)) - 48 = nI (dv (cg n tx) (p + 1)) := (dgt_val d1).1
    rw [v1]
    by_cases e98 : cg n tx p = 98
    · simp only [e98, if_true, Nat.reduceEqDiff, if_false]
      rw [two_B _ _ b1 b2, bnd]
      simp only [decide_eq_true_eq]
      exact bool_01 h
    · by_cases e109 : cg n tx p = 109
      · rw [if_neg e98, if_pos e109, if_neg e119, if_pos e109]
        simp (disch := omega) only [le_, decide_eq_true_eq]
        by_cases q : W ≤ dv (cg n tx) (p + 1)
        · rw [if_pos q, if_neg (fun y => by omega)]
        · rw [if_neg q, house_B _ b2, bnd]
          by_cases q2 : dv (cg n tx) (p + 2) < 8
          · simp only [q2, if_true, ax_10, if_false, and_true]
            rw [if_pos (by omega)]
          · simp only [q2, if_false, if_true, and_false]
      · by_cases e110 : cg n tx p = 110
        · simp only [e110, if_true, Nat.reduceEqDiff, if_false]
          rw [house_B _ b1, bnd]
          simp only [decide_eq_true_eq]
          exact bool_01 h
        · by_cases e115 : cg n tx p = 115
          · rw [if_neg e98, if_neg e109, if_neg e110, if_pos e115, if_neg e119, if_neg e109, if_pos e115]
            simp (disch := omega) only [le_, decide_eq_true_eq]
            by_cases q : W ≤ dv (cg n tx) (p + 1)
            · rw [if_pos q, if_neg (fun y => by omega)]
            · rw [if_neg q, house_B _ b2, bnd]
              by_cases q2 : dv (cg n tx) (p + 2) < 8
              · simp only [q2, if_true, ax_10, if_false, and_true]
                rw [if_pos (by omega)]
              · simp only [q2, if_false, if_true, and_false]
          · have ho : rI m_X3_hoursAt [.ref 36, .int (nI p)] h = some (nI (10 * dv (cg n tx) (p + 1) + dv (cg n tx) (p + 2)), h) := by
              refine rI_of ((e_X3_hoursAt_0 _ h).trans ?_)
              rw [nI_1, show (2 : Int32) = nI 2 from rfl, add_, dig_n t (by omega) d1, bnd]
              simp only []
              rw [dig_n t (by omega) d2, bnd, l10, mul_, add_]
            rw [if_neg e98, if_neg e109, if_neg e110, if_neg e115, if_neg e119, if_neg e119, if_neg e109, if_neg e115, if_neg e110, if_neg e98, ho, bnd]
            simp only []
            rw [outs_, bnd]
            have hv : 10 * dv (cg n tx) (p + 1) + dv (cg n tx) (p + 2) ≤ 99 := by omega
            generalize 10 * dv (cg n tx) (p + 1) + dv (cg n tx) (p + 2) = v at *
            have l60' : (60 : Int32) = nI 60 := rfl
            have l999' : (999 : Int32) = nI 999 := rfl
            by_cases q1 : 1 ≤ v
            · have q1' : (1 : Int32) ≤ nI v := (le_ (a := 1) (b := v) (by omega) (by omega)).mpr q1
              by_cases q2 : v ≤ 60
              · have q2' : nI v ≤ 60 := (le_ (a := v) (b := 60) (by omega) (by omega)).mpr q2
                simp only [q1', q2', if_true, ho, bnd]
                rw [l999', add_]
                simp (disch := omega) only [lt_, decide_eq_true_eq]
                by_cases q3 : T + v ≤ 999
                · rw [if_neg (by omega), if_pos ⟨q1, q2, q3⟩]
                · rw [if_pos (by omega), if_neg (fun y => q3 y.2.2)]
              · have q2' : ¬ nI v ≤ 60 := fun y => q2 ((le_ (a := v) (b := 60) (by omega) (by omega)).mp y)
                simp only [q1', q2', if_true, if_false, ax_n6, decide_eq_true_eq]
                rw [if_neg (fun y => q2 y.2.1)]
            · have q1' : ¬ (1 : Int32) ≤ nI v := fun y => q1 ((le_ (a := 1) (b := v) (by omega) (by omega)).mp y)
              simp only [q1', if_false, ax_n4, decide_eq_true_eq]
              rw [if_neg (fun y => q1 y.1)]
theorem stA_W {c : Nat → Nat} {A : Ab} {p : Nat} : zW (bS (stA c A p)) = if c p = 119 then zW (bS A) + 1 else zW (bS A) := by
  unfold stA
  by_cases e : c p = 119
  · rw [if_pos e, if_pos e]; rfl
  · rw [if_neg e, if_neg e]
    repeat' split
    all_goals first | rfl | exact znn_W _ _ _ _ | exact zit_W _ _ _
theorem stA_T {c : Nat → Nat} {A : Ab} {p : Nat} (z : szN (c p) ≠ 0) : zT (bS (stA c A p)) = if c p = 104 then zT (bS A) + (10 * dv c (p + 1) + dv c (p + 2)) else zT (bS A) := by
  unfold stA
  rcases sz6 z with e | e | e | e | e | e <;> simp only [e, if_true, Nat.reduceEqDiff, if_false]
  · rfl
  · rfl
  · rfl
  · exact znn_T _ _ _ _
  · rfl
  · exact zit_T _ _ _
theorem okA_st {c : Nat → Nat} {A : Ab} {p : Nat} (oa : okA A) (w : WF c p) (s : snB c (zW (bS A)) (zT (bS A)) p = true) : okA (stA c A p) := by
  unfold stA
  unfold snB at s
  rcases sz6 w.1 with e | e | e | e | e | e <;> simp only [e, if_true, Nat.reduceEqDiff, if_false, decide_eq_true_eq] at s ⊢
  · exact okA_set oa rfl
  · exact okA_set oa rfl
  · exact okA_set oa rfl
  · exact okA_set oa (znn_T _ _ _ _)
  · exact okA_set oa rfl
  · exact okA_pass oa s.2.2
theorem IC_LT {h : ax_Hp} {A : Ab} (ic : IC h A) (oa : okA A) : LT h (bLn A) (bL A) := ⟨ic.2.2.2.2.1, oa.2.2.2.1, fun i hi => ⟨ic.2.2.2.2.2.1 i hi, oa.2.2.2.2.1 i hi⟩⟩
theorem LT_fr {h h' : ax_Hp} {n : Nat} {tx : Nat → Nat} (f : Fr 1 h h') (t : LT h n tx) : LT h' n tx := by
  obtain ⟨t1, t2, t3⟩ := t
  refine ⟨by rw [f.2 36 (by omega)]; exact t1, t2, fun i hi => by rw [f.2 37 (by omega)]; exact t3 i hi⟩
/-- the needs of a house come -/
theorem needs_in {h : ax_Hp} {n : Nat} {tx : Nat → Nat} {p : Nat} {s : Sp} (t : LT h n tx) (hp : p < 1000) (r : RC h 1 s 0) (w : WF (cg n tx) p) (e : cg n tx p = 110) (h8 : dv (cg n tx) (p + 1) < 8) :
    ∃ h', ax_run m_X7_tell 138 [(0, .ref 0), (1, .int (nI p)), (2, .int (nI (dv (cg n tx) (p + 1)))), (4, .int 0)] [] h = some (none, h') ∧ RC h' 1 (znn (cg n tx) s p 6) 0 ∧ Fr 1 h h' := by
  obtain ⟨h2, e2, r2, f2⟩ := ex_loop (fun (k : Int32) (g : ax_Hp) => ax_run m_X7_tell 138 [(0, .ref 0), (1, .int (nI p)), (2, .int (nI (dv (cg n tx) (p + 1)))), (4, .int k)] [] g) (fun k g => RC g 1 (znn (cg n tx) s p k) 0 ∧ Fr 1 h g) 6 (by
    intro k g hk ⟨rg, fg⟩
    have d : dgt (cg n tx (p + 2 + k)) = true := by
      have := wf_dig (i := 2 + k) w (by omega) (by rw [e]; show 2 + k + 1 < 9; omega) (by omega)
      rw [show p + (2 + k) = p + 2 + k by omega] at this
      exact this
    obtain ⟨g2, e2, r2, f2⟩ := setNeed_ is1 rg (j := dv (cg n tx) (p + 1)) (p := k) (v := dv (cg n tx) (p + 2 + k)) h8 hk (dv_le d)
    refine ⟨g2, ?_, r2, fg.trans f2⟩
    show ax_run m_X7_tell 138 _ [] g = _
    rw [e_X7_tell_138, if_neg (fun y => by
      have := (le_ (a := 6) (b := k) (by omega) (by omega)).mp y
      omega), show (2 : Int32) = nI 2 from rfl, add_, add_, dig_n (LT_fr fg t) (by omega) d, bnd]
    simp only []
    rw [e2, bnd, nI_1]) h (k0 := 0) ⟨r, Fr.refl 1 h⟩ (by omega)
  refine ⟨h2, e2.trans ?_, r2, f2⟩
  show ax_run m_X7_tell 138 [(0, .ref 0), (1, .int (nI p)), (2, .int (nI (dv (cg n tx) (p + 1)))), (4, .int (nI 6))] [] h2 = _
  rw [e_X7_tell_138, if_pos (by decide)]
theorem tell_ {h : ax_Hp} {A : Ab} {p : Nat} {n : Nat} {tx : Nat → Nat} (oa : okA A) (ic : IC h A) (t : LT h n tx) (hp : p < 1000) (w : WF (cg n tx) p) (s : snB (cg n tx) (zW (bS A)) (zT (bS A)) p = true) :
    ∃ h', rV m_X7_tell [.ref 0, .int (nI p)] h = some h' ∧ IC h' (stA (cg n tx) A p) ∧ FC h h' ∧ LT h' n tx := by
  have hW := ic.1.1.1.1
  have hc := cg_le (fun i hi => (t.2.2 i hi).2) p
  obtain ⟨a1, a2, a3, a4, a5, a6, a7⟩ := sI_eq _ (show cg n tx p < 257 by omega)
  have st := e_X7_tell_0 (nI p) h
  have c6 := sz6 w.1
  have d2 : dgt (cg n tx (p + 2)) = true := wf_dig w (by omega) (by rcases c6 with e | e | e | e | e | e <;> (rw [e]; decide)) (by omega)
  have b2 := dv_le d2
  have st2 := st
  rw [nI_1, show (2 : Int32) = nI 2 from rfl, show (3 : Int32) = nI 3 from rfl, add_, add_, digitAt_ t (by omega), bnd] at st
  simp only [] at st
  rw [dig_n t (by omega) d2, bnd] at st
  simp only [] at st
  rw [signAt_ t (by omega), bnd] at st
  simp only [a1, a3, a4, a5, a6] at st
  unfold snB at s
  unfold stA
  rcases c6 with e | e | e | e | e | e <;> simp only [e, if_true, Nat.reduceEqDiff, if_false, decide_eq_true_eq] at s st ⊢
  · have d3 : dgt (cg n tx (p + 3)) = true := wf_dig w (by omega) (by rw [e]; decide) (by omega)
    have kk := wf_kind w e
    rw [kindAt_ t (by omega), if_pos kk, bnd] at st
    simp only [] at st
    rw [dig_n t (by omega) d3, bnd] at st
    simp only [] at st
    obtain ⟨h2, e2, r2, f2⟩ := addWall_ is1 ic.1.1 s.1 (kd5 kk) b2 s.2
    rw [e2, bnd] at st
    exact ⟨h2, rV_of st, IC_set ic f2 r2 rfl, FC_fr f2, LT_fr f2 t⟩
  · have d1 : dgt (cg n tx (p + 1)) = true := wf_dig w (by omega) (by rw [e]; decide) (by omega)
    rw [show sI_ (cg n tx (p + 1)) - 48 = nI (dv (cg n tx) (p + 1)) from (dgt_val d1).1] at st
    obtain ⟨h2, e2, r2, f2⟩ := takeTo_ is1 ic.1.1 s.1 s.2
    rw [e2, bnd] at st
    exact ⟨h2, rV_of st, IC_set ic f2 r2 rfl, FC_fr f2, LT_fr f2 t⟩
  · have d1 : dgt (cg n tx (p + 1)) = true := wf_dig w (by omega) (by rw [e]; decide) (by omega)
    rw [show sI_ (cg n tx (p + 1)) - 48 = nI (dv (cg n tx) (p + 1)) from (dgt_val d1).1] at st
    obtain ⟨h2, e2, r2, f2⟩ := sellTo_ is1 ic.1 s.1 s.2
    rw [e2, bnd] at st
    exact ⟨h2, rV_of st, IC_set ic f2 r2 rfl, FC_fr f2, LT_fr f2 t⟩
  · have d1 : dgt (cg n tx (p + 1)) = true := wf_dig w (by omega) (by rw [e]; decide) (by omega)
    rw [show sI_ (cg n tx (p + 1)) - 48 = nI (dv (cg n tx) (p + 1)) from (dgt_val d1).1] at st
    obtain ⟨h2, e2, r2, f2⟩ := needs_in t hp ic.1 w e s
    rw [e2] at st
    exact ⟨h2, rV_of st, IC_set ic f2 r2 (znn_T _ _ _ _), FC_fr f2, LT_fr f2 t⟩
  · have d1 : dgt (cg n tx (p + 1)) = true := wf_dig w (by omega) (by rw [e]; decide) (by omega)
    rw [show sI_ (cg n tx (p + 1)) - 48 = nI (dv (cg n tx) (p + 1)) from (dgt_val d1).1] at st
    obtain ⟨h2, e2, r2, f2⟩ := turnBar_ is1 ic.1 s.1 s.2.1 s.2.2
    rw [e2, bnd] at st
    exact ⟨h2, rV_of st, IC_set ic f2 r2 rfl, FC_fr f2, LT_fr f2 t⟩
  · have d1 : dgt (cg n tx (p + 1)) = true := wf_dig w (by omega) (by rw [e]; decide) (by omega)
    rw [show sI_ (cg n tx (p + 1)) - 48 = nI (dv (cg n tx) (p + 1)) from (dgt_val d1).1, l10, mul_, add_] at st
    obtain ⟨h2, e2, i2, f2⟩ := pass_ ic s.2.2
    rw [e2, bnd] at st
    have ha := oa.2.2.2.1
    have hn := t.2.1
    have en : n = bLn A := (eq_ (by omega) (by omega)).mp (t.1.symm.trans ic.2.2.2.2.1)
    refine ⟨h2, rV_of st, i2, f2, ?_, t.2.1, fun i hi => ⟨?_, (t.2.2 i hi).2⟩⟩
    · rw [en]; exact i2.2.2.2.2.1
    · exact (i2.2.2.2.2.2.1 i (by show i < bLn A; omega)).trans ((ic.2.2.2.2.2.1 i (by omega)).symm.trans (t.2.2 i hi).1)
