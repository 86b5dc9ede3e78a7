/-! operations in mind: hours on (by wip/whole/gen41.py) -/
theorem rA_exec_lack {h : ax_Hp} {t : Sp} {w j : Nat} {x2 : Int32} (r : RC h 23 t w) (hj : j < 8) : ax_exec ax_run m_X7_lacksThen 1 (0, []) [(43, .iload_n 1, 1, [(.null, 1, [])]), (44, .invokevirtual 160, 3, [(.null, 50, [2, 1, 4, 2, 366])]), (47, .ireturn, 1, [])] [(0, .ref 0), (1, .int (nI j)), (2, .int x2)] [.ref 23] h = some (some (.int (nI (zlack t w j))), h) := by
  have e : ax_exec ax_run m_X7_lacksThen 1 (0, []) [(43, .iload_n 1, 1, [(.null, 1, [])]), (44, .invokevirtual 160, 3, [(.null, 50, [2, 1, 4, 2, 366])]), (47, .ireturn, 1, [])] [(0, .ref 0), (1, .int (nI j)), (2, .int x2)] [.ref 23] h = (rI m_X5_lackOf [.ref 23, .int (nI j)] h).bind (fun q => some (some (.int q.1), q.2)) := rfl
  rw [e, lackOf_ is23 r hj, bnd]
theorem rA_exec_all {h : ax_Hp} {t : Sp} {w : Nat} {x1 : Int32} (r : RC h 23 t w) : ax_exec ax_run m_X7_allLack 1 (0, []) [(30, .invokevirtual 186, 3, [(.null, 52, [1, 1, 4, 3, 409])]), (33, .ireturn, 1, [])] [(0, .ref 0), (1, .int x1)] [.ref 23] h = some (some (.int (nI (zall t w))), h) := by
  have e : ax_exec ax_run m_X7_allLack 1 (0, []) [(30, .invokevirtual 186, 3, [(.null, 52, [1, 1, 4, 3, 409])]), (33, .ireturn, 1, [])] [(0, .ref 0), (1, .int x1)] [.ref 23] h = (rI m_X5_allLacking [.ref 23] h).bind (fun q => some (some (.int q.1), q.2)) := rfl
  rw [e, allLacking_ is23 r, bnd]
theorem rA_exec_at {h : ax_Hp} {t : Sp} {w i : Nat} {x2 : Int32} (r : RC h 23 t w) (hi : i < 7) : ax_exec ax_run m_X7_atThen 1 (0, []) [(47, .getfield 142, 3, [(.null, 4, [6, 115])]), (50, .iload_n 1, 1, [(.null, 1, [])]), (51, .iaload, 1, []), (52, .ireturn, 1, [])] [(0, .ref 0), (1, .int (nI i)), (2, .int x2)] [.ref 23] h = some (some (.int (nI (zP t i))), h) := by
  have e : ax_exec ax_run m_X7_atThen 1 (0, []) [(47, .getfield 142, 3, [(.null, 4, [6, 115])]), (50, .iload_n 1, 1, [(.null, 1, [])]), (51, .iaload, 1, []), (52, .ireturn, 1, [])] [(0, .ref 0), (1, .int (nI i)), (2, .int x2)] [.ref 23] h = ax_g (ax_in (nI i) 7) (some (some (.int (h.1 27 (nI i).toNatClampNeg)), h)) := rfl
  have rr : h.1 27 i = nI (zP t i) := (r.1.2.2.2.2.2.1 i hi).2.2.2.1
  rw [e]
  simp (disch := omega) only [g_in, cl_, rr]
theorem allIn_ {h : ax_Hp} {s : Sp} {n : Nat} (r : RM h s 0) (hT : zT s + n < 1000000) : ∃ h', rI m_X8_allIn [.ref 47, .int (nI n)] h = some (nI (zall (zit s 0 n) 0), h') ∧ QM h h' s := by
  obtain ⟨h1, e1, q1, _⟩ := QI_minds r
  obtain ⟨h2, e2, q2, _⟩ := QI_hours q1 hT
  obtain ⟨h3, e3, q3, _⟩ := QI_forgets q2
  refine ⟨h3, rI_of ((e_X8_allIn_0 _ h).trans ?_), q3⟩
  rw [e1, bnd, e2, bnd, allM_ q2.2.2.1, bnd]
  simp only []
  rw [e3, bnd]
theorem lacksIn_ {h : ax_Hp} {s : Sp} {n j : Nat} (r : RM h s 0) (hj : j < 8) (hT : zT s + n < 1000000) : ∃ h', rI m_X8_lacksIn [.ref 47, .int (nI j), .int (nI n)] h = some (nI (zlack (zit s 0 n) 0 j), h') ∧ QM h h' s := by
  obtain ⟨h1, e1, q1, _⟩ := QI_minds r
  obtain ⟨h2, e2, q2, _⟩ := QI_hours q1 hT
  obtain ⟨h3, e3, q3, _⟩ := QI_forgets q2
  refine ⟨h3, rI_of ((e_X8_lacksIn_0 _ _ h).trans ?_), q3⟩
  rw [e1, bnd, e2, bnd, lacks_ q2.2.2.1 hj, bnd]
  simp only []
  rw [e3, bnd]
theorem op_allLack {h : ax_Hp} {A : Ab} (oa : okA A) (ic : IC h A) (im : IM h A) (x1 : Int32) : OP m_X7_allLack m_X8_allLack [.int x1] h := by
  have hW := ic.1.1.1.1
  by_cases ha : 0 ≤ x1
  · by_cases hb : x1 ≤ 60
    · obtain ⟨n, _, hn, rfl⟩ := in_n (m := 0) (n := 60) rfl rfl ha hb (by omega) (by omega)
      refine OP_q (v := nI (zall (zit (bS A) 0 n) 0)) oa ic im ?_ (fun h1 m => ?_)
      · obtain ⟨h1, e1, r1, f1⟩ := after_ (n := n) ic.1 (tbig oa.1 (by omega))
        refine ⟨h1, rI_of ((e_X7_allLack_0 _ h).trans ?_), QC.fr f1⟩
        simp only [outs_, ha, hb, if_true, bnd, e1, rA_exec_all r1]
      · obtain ⟨h2, e2, q2⟩ := allIn_ (n := n) m.1 (tbig oa.1 (by omega))
        refine ⟨h2, rI_of ((e_X8_allLack_0 _ h1).trans ?_), q2⟩
        simp only [notH_, ha, hb, if_true, bnd, e2]
    · exact OP_no (x := -6) 6 (by omega) oa ic im (rI_of ((e_X7_allLack_0 _ h).trans (by simp only [isWall_ is1 ic.1.1, isHouse_, outs_, bnd, no1, no2, no3, no4, no6, lo1, lo2, lo4, lo6, if_true, if_false, ax_10, ax_n4, ax_n6, and_self, ha, hb]))) (fun h1 m => rI_of ((e_X8_allLack_0 _ h1).trans (by simp only [isWallM_ m.1, isHouseM_, outsM_, isIn_, notH_, bnd, mo1, mo2, mo3, mo4, mo6, ml1, ml2, ml4, ml6, if_true, if_false, ax_10, ax_n4, ax_n6, and_self, ha, hb])))
  · exact OP_no (x := -4) 4 (by omega) oa ic im (rI_of ((e_X7_allLack_0 _ h).trans (by simp only [isWall_ is1 ic.1.1, isHouse_, outs_, bnd, no1, no2, no3, no4, no6, lo1, lo2, lo4, lo6, if_true, if_false, ax_10, ax_n4, ax_n6, and_self, ha]))) (fun h1 m => rI_of ((e_X8_allLack_0 _ h1).trans (by simp only [isWallM_ m.1, isHouseM_, outsM_, isIn_, notH_, bnd, mo1, mo2, mo3, mo4, mo6, ml1, ml2, ml4, ml6, if_true, if_false, ax_10, ax_n4, ax_n6, and_self, ha])))
theorem op_lacksThen {h : ax_Hp} {A : Ab} (oa : okA A) (ic : IC h A) (im : IM h A) (x1 x2 : Int32) : OP m_X7_lacksThen m_X8_lacksThen [.int x1, .int x2] h := by
  have hW := ic.1.1.1.1
  by_cases hw : 0 ≤ x1 ∧ x1 < 8
  · by_cases ha : 0 ≤ x2
    · by_cases hb : x2 ≤ 60
      · obtain ⟨j, hj, rfl⟩ := of_in hw.1 hw.2 (n := 8) (by omega)
        obtain ⟨n, _, hn, rfl⟩ := in_n (m := 0) (n := 60) rfl rfl ha hb (by omega) (by omega)
        refine OP_q (v := nI (zlack (zit (bS A) 0 n) 0 j)) oa ic im ?_ (fun h1 m => ?_)
        · obtain ⟨h1, e1, r1, f1⟩ := after_ (n := n) ic.1 (tbig oa.1 (by omega))
          refine ⟨h1, rI_of ((e_X7_lacksThen_0 _ _ h).trans ?_), QC.fr f1⟩
          simp only [isHouse_, hw, and_self, outs_, ha, hb, if_true, ax_10, if_false, bnd, e1, rA_exec_lack r1 hj]
        · obtain ⟨h2, e2, q2⟩ := lacksIn_ (n := n) m.1 hj (tbig oa.1 (by omega))
          refine ⟨h2, rI_of ((e_X8_lacksThen_0 _ _ h1).trans ?_), q2⟩
          simp only [isHouseM_, hw, and_self, notH_, ha, hb, if_true, ax_10, if_false, bnd, e2]
      · exact OP_no (x := -6) 6 (by omega) oa ic im (rI_of ((e_X7_lacksThen_0 _ _ h).trans (by simp only [isWall_ is1 ic.1.1, isHouse_, outs_, bnd, no1, no2, no3, no4, no6, lo1, lo2, lo4, lo6, if_true, if_false, ax_10, ax_n4, ax_n6, and_self, hw, ha, hb]))) (fun h1 m => rI_of ((e_X8_lacksThen_0 _ _ h1).trans (by simp only [isWallM_ m.1, isHouseM_, outsM_, isIn_, notH_, bnd, mo1, mo2, mo3, mo4, mo6, ml1, ml2, ml4, ml6, if_true, if_false, ax_10, ax_n4, ax_n6, and_self, hw, ha, hb])))
    · exact OP_no (x := -4) 4 (by omega) oa ic im (rI_of ((e_X7_lacksThen_0 _ _ h).trans (by simp only [isWall_ is1 ic.1.1, isHouse_, outs_, bnd, no1, no2, no3, no4, no6, lo1, lo2, lo4, lo6, if_true, if_false, ax_10, ax_n4, ax_n6, and_self, hw, ha]))) (fun h1 m => rI_of ((e_X8_lacksThen_0 _ _ h1).trans (by simp only [isWallM_ m.1, isHouseM_, outsM_, isIn_, notH_, bnd, mo1, mo2, mo3, mo4, mo6, ml1, ml2, ml4, ml6, if_true, if_false, ax_10, ax_n4, ax_n6, and_self, hw, ha])))
  · exact OP_no (x := -1) 1 (by omega) oa ic im (rI_of ((e_X7_lacksThen_0 _ _ h).trans (by simp only [isWall_ is1 ic.1.1, isHouse_, outs_, bnd, no1, no2, no3, no4, no6, lo1, lo2, lo4, lo6, if_true, if_false, ax_10, ax_n4, ax_n6, and_self, hw]))) (fun h1 m => rI_of ((e_X8_lacksThen_0 _ _ h1).trans (by simp only [isWallM_ m.1, isHouseM_, outsM_, isIn_, notH_, bnd, mo1, mo2, mo3, mo4, mo6, ml1, ml2, ml4, ml6, if_true, if_false, ax_10, ax_n4, ax_n6, and_self, hw])))
theorem op_atThen {h : ax_Hp} {A : Ab} (oa : okA A) (ic : IC h A) (im : IM h A) (x1 x2 : Int32) : OP m_X7_atThen m_X8_atThen [.int x1, .int x2] h := by
  have hW := ic.1.1.1.1
  by_cases hw : 0 ≤ x1 ∧ x1 < nI (zW (bS A))
  · by_cases ha : 0 ≤ x2
    · by_cases hb : x2 ≤ 60
      · obtain ⟨i, hi, rfl⟩ := of_in hw.1 hw.2 (by omega)
        obtain ⟨n, _, hn, rfl⟩ := in_n (m := 0) (n := 60) rfl rfl ha hb (by omega) (by omega)
        refine OP_q (v := nI (zP (zit (bS A) 0 n) i)) oa ic im ?_ (fun h1 m => ?_)
        · obtain ⟨h1, e1, r1, f1⟩ := after_ (n := n) ic.1 (tbig oa.1 (by omega))
          refine ⟨h1, rI_of ((e_X7_atThen_0 _ _ h).trans ?_), QC.fr f1⟩
          simp only [isWall_ is1 ic.1.1, hw, and_self, outs_, ha, hb, if_true, ax_10, if_false, bnd, e1]
          exact rA_exec_at r1 (by omega)
        · obtain ⟨h2, e2, q2, _⟩ := QI_minds m.1
          obtain ⟨h3, e3, q3, _⟩ := QI_hours (n := n) q2 (tbig oa.1 (by omega))
          obtain ⟨h4, e4, q4, _⟩ := QI_forgets q3
          have p4 := (q3.2.2.1.2.2.2.2.1 i (by omega)).2.2.2.1
          refine ⟨h4, rI_of ((e_X8_atThen_0 _ _ h1).trans ?_), q4⟩
          simp (disch := omega) only [isWallM_ m.1, hw, and_self, notH_, ha, hb, if_true, ax_10, if_false, bnd, e2, e3, g_in, cl_, e4, p4]
      · exact OP_no (x := -6) 6 (by omega) oa ic im (rI_of ((e_X7_atThen_0 _ _ h).trans (by simp only [isWall_ is1 ic.1.1, isHouse_, outs_, bnd, no1, no2, no3, no4, no6, lo1, lo2, lo4, lo6, if_true, if_false, ax_10, ax_n4, ax_n6, and_self, hw, ha, hb]))) (fun h1 m => rI_of ((e_X8_atThen_0 _ _ h1).trans (by simp only [isWallM_ m.1, isHouseM_, outsM_, isIn_, notH_, bnd, mo1, mo2, mo3, mo4, mo6, ml1, ml2, ml4, ml6, if_true, if_false, ax_10, ax_n4, ax_n6, and_self, hw, ha, hb])))
    · exact OP_no (x := -4) 4 (by omega) oa ic im (rI_of ((e_X7_atThen_0 _ _ h).trans (by simp only [isWall_ is1 ic.1.1, isHouse_, outs_, bnd, no1, no2, no3, no4, no6, lo1, lo2, lo4, lo6, if_true, if_false, ax_10, ax_n4, ax_n6, and_self, hw, ha]))) (fun h1 m => rI_of ((e_X8_atThen_0 _ _ h1).trans (by simp only [isWallM_ m.1, isHouseM_, outsM_, isIn_, notH_, bnd, mo1, mo2, mo3, mo4, mo6, ml1, ml2, ml4, ml6, if_true, if_false, ax_10, ax_n4, ax_n6, and_self, hw, ha])))
  · exact OP_no (x := -1) 1 (by omega) oa ic im (rI_of ((e_X7_atThen_0 _ _ h).trans (by simp only [isWall_ is1 ic.1.1, isHouse_, outs_, bnd, no1, no2, no3, no4, no6, lo1, lo2, lo4, lo6, if_true, if_false, ax_10, ax_n4, ax_n6, and_self, hw]))) (fun h1 m => rI_of ((e_X8_atThen_0 _ _ h1).trans (by simp only [isWallM_ m.1, isHouseM_, outsM_, isIn_, notH_, bnd, mo1, mo2, mo3, mo4, mo6, ml1, ml2, ml4, ml6, if_true, if_false, ax_10, ax_n4, ax_n6, and_self, hw])))
/-- behind how many hours p holds of the street first -/
def pHome (s : Sp) (i a : Nat) : Bool := decide (zP (zit s 0 a) i = zO (zit s 0 a) i)
def pGone (s : Sp) (i a : Nat) : Bool := decide (zP (zit s 0 a) i ≠ zP s i)
def pSeen (s : Sp) (j a : Nat) : Bool := decide (0 < zlack (zit s 0 a) 0 j)
def pLent (s : Sp) (a : Nat) : Bool := decide (cntB (fun i => decide (zP (zit s 0 a) i ≠ zO (zit s 0 a) i)) (zW s) = zW s)
theorem l60 : (60 : Int32) = nI 60 := rfl
theorem home_ {h : ax_Hp} {s : Sp} {i : Nat} (r : RC h 1 s 0) (hi : i < zW s) (hT : zT s ≤ 999) : ∃ h', rI m_X6_hoursToHome [.ref 43, .ref 1, .int (nI i)] h = some (fst_ (pHome s i) 61 0, h') ∧ Fr 23 h h' := by
  obtain ⟨h1, e1, r1, f1⟩ := begin_ r
  obtain ⟨h2, e2, f2⟩ := srchC (R := fun x h => ax_run m_X6_hoursToHome 7 [(0, .ref 43), (2, .int (nI i)), (3, .int x)] [] h) (St := fun a h2 => RC h2 23 (zit s 0 a) 0 ∧ Fr 23 h h2) (Fin := fun h2 => Fr 23 h h2) (p := pHome s i) (N := 61) (by
    intro h2 st
    refine ⟨?_, st.2⟩
    show ax_run m_X6_hoursToHome 7 _ [] h2 = _
    rw [e_X6_hoursToHome_7, if_pos (by decide)]) (by
    intro a h2 ha st q
    refine ⟨h2, ?_, st.2⟩
    show ax_run m_X6_hoursToHome 7 _ [] h2 = _
    have q' := of_decide_eq_true q
    rw [e_X6_hoursToHome_7, l60]
    simp (disch := omega) only [lt_]
    rw [if_neg (by omega), isLent_ is23 st.1.1 (by rw [zit_W]; exact hi), bnd]
    simp only [q', if_true]) (by
    intro a h2 ha st q
    have q' := of_decide_eq_false q
    obtain ⟨h3, e3, r3, f3, _⟩ := passHour_ is23 st.1 (by rw [zit_T]; omega)
    refine ⟨h3, ?_, r3, st.2.trans f3⟩
    show ax_run m_X6_hoursToHome 7 _ [] h2 = _
    rw [e_X6_hoursToHome_7, l60]
    simp (disch := omega) only [lt_]
    rw [if_neg (by omega), isLent_ is23 st.1.1 (by rw [zit_W]; exact hi), bnd]
    simp only [q', if_false, ax_10]
    rw [e3, bnd, l1, add_]) 61 0 h1 (by omega) ⟨r1, f1⟩
  refine ⟨h2, rI_of ((e_X6_hoursToHome_0 _ h).trans ?_), f2⟩
  rw [e1, bnd]
  exact e2
theorem homeM_ {h : ax_Hp} {s : Sp} {i : Nat} (r : RM h s 0) (hi : i < zW s) (hT : zT s ≤ 999) : ∃ h', rI m_X8_homeWhen [.ref 47, .int (nI i)] h = some (fst_ (pHome s i) 61 0, h') ∧ QM h h' s := by
  have hW := r.1.1
  obtain ⟨h1, e1, r1, _⟩ := QI_minds r
  obtain ⟨h2, e2, f2⟩ := srchM (R := fun v x h => ax_run m_X8_homeWhen 9 [(0, .ref 47), (1, .int (nI i)), (2, .int v), (3, .int x)] [] h) (St := fun a h2 => QI h h2 s (zit s 0 a) 0) (Fin := fun h2 => QM h h2 s) (p := pHome s i) (N := 61) (by omega) (by
    intro a v h2 st q
    obtain ⟨h3, e3, q3, _⟩ := QI_forgets st
    refine ⟨h3, ?_, q3⟩
    show ax_run m_X8_homeWhen 9 _ [] h2 = _
    rw [e_X8_homeWhen_9, e3, bnd]
    rcases q with q | q
    · subst q; rw [if_pos (by decide)]
    · rw [if_pos q]; split <;> rfl) (by
    intro a h2 ha st
    obtain ⟨h3, e3, q3, _⟩ := QI_hour st (by rw [zit_T]; omega)
    refine ⟨h3, ?_, q3⟩
    show ax_run m_X8_homeWhen 9 _ [] h2 = _
    rw [e_X8_homeWhen_9, l60]
    simp (disch := omega) only [lt_]
    rw [if_neg (by omega), if_neg (by decide), isLentM_ st.2.2.1 (by omega), bnd]
    unfold pHome
    simp only [decide_eq_true_eq]
    by_cases q : zP (zit s 0 a) i = zO (zit s 0 a) i
    · simp only [q, if_true]
      rw [e3, bnd, l1, add_]
    · simp only [q, if_false, ax_10]
      rw [e3, bnd, l1, add_]) 61 0 h1 (by omega) r1
  refine ⟨h2, rI_of ((e_X8_homeWhen_0 _ h).trans ?_), f2⟩
  rw [e1, bnd]
  exact e2
theorem gone_ {h : ax_Hp} {s : Sp} {i : Nat} (r : RC h 1 s 0) (hi : i < zW s) (hT : zT s ≤ 999) : ∃ h', rI m_X6_hoursToGone [.ref 43, .ref 1, .int (nI i)] h = some (fst_ (pGone s i) 60 1, h') ∧ Fr 23 h h' := by
  have hW := r.1.1.1
  obtain ⟨h1, e1, r1, f1⟩ := begin_ r
  have at1 : h.1 5 i = nI (zP s i) := (r.1.2.2.2.2.2.1 i (by omega)).2.2.2.1
  have okP := (r.1.1.2.2.1 i (by omega)).2.2.2
  have key : ∀ a h2, a < 61 → 1 ≤ a → (RC h2 23 (zit s 0 (a - 1)) 0 ∧ Fr 23 h h2) → ∃ h3, ax_run m_X6_hoursToGone 7 [(0, .ref 43), (1, .ref 1), (2, .int (nI i)), (3, .int (nI a))] [] h2 = (if nI (zP (zit s 0 a) i) = nI (zP s i) then ax_run m_X6_hoursToGone 7 [(0, .ref 43), (1, .ref 1), (2, .int (nI i)), (3, .int (nI (a + 1)))] [] h3 else some (some (.int (nI a)), h3)) ∧ RC h3 23 (zit s 0 a) 0 ∧ Fr 23 h h3 := by
    intro a h2 ha h1a st
    obtain ⟨h3, e3, r3, f3, _⟩ := passHour_ is23 st.1 (by rw [zit_T]; omega)
    have hs : zhour (zit s 0 (a - 1)) 0 = zit s 0 a := by
      have : zit s 0 (a - 1 + 1) = zhour (zit s 0 (a - 1)) 0 := rfl
      rw [← this, show a - 1 + 1 = a by omega]
    rw [hs] at r3
    have f4 := st.2.trans f3
    refine ⟨h3, ?_, r3, f4⟩
    have p3 : h3.1 27 i = nI (zP (zit s 0 a) i) := (r3.1.2.2.2.2.2.1 i (by omega)).2.2.2.1
    have p5 : h3.1 5 i = nI (zP s i) := by rw [f4.2 5 (by omega)]; exact at1
    rw [e_X6_hoursToGone_7, l60]
    simp (disch := omega) only [lt_]
    rw [if_neg (by omega), e3, bnd]
    simp (disch := omega) only [g_in, cl_, p3, p5, l1, add_]
  obtain ⟨h2, e2, f2⟩ := srchC (R := fun x h => ax_run m_X6_hoursToGone 7 [(0, .ref 43), (1, .ref 1), (2, .int (nI i)), (3, .int x)] [] h) (St := fun a h2 => 1 ≤ a ∧ RC h2 23 (zit s 0 (a - 1)) 0 ∧ Fr 23 h h2) (Fin := fun h2 => Fr 23 h h2) (p := pGone s i) (N := 61) (by
    intro h2 st
    refine ⟨?_, st.2.2⟩
    show ax_run m_X6_hoursToGone 7 _ [] h2 = _
    rw [e_X6_hoursToGone_7, if_pos (by decide)]) (by
    intro a h2 ha st q
    obtain ⟨h3, e3, r3, f3⟩ := key a h2 ha st.1 st.2
    have q' := of_decide_eq_true q
    have b := (r3.1.1.2.2.1 i (by omega)).2.2.2
    refine ⟨h3, ?_, f3⟩
    show ax_run m_X6_hoursToGone 7 _ [] h2 = _
    rw [e3, if_neg (fun x => q' ((eq_ (by omega) (by omega)).mp x))]) (by
    intro a h2 ha st q
    obtain ⟨h3, e3, r3, f3⟩ := key a h2 ha st.1 st.2
    have q' : zP (zit s 0 a) i = zP s i := Classical.byContradiction fun x => absurd (decide_eq_true (p := zP (zit s 0 a) i ≠ zP s i) x) (by unfold pGone at q; rw [q]; decide)
    refine ⟨h3, ?_, by omega, by rw [show a + 1 - 1 = a by omega]; exact r3, f3⟩
    show ax_run m_X6_hoursToGone 7 _ [] h2 = _
    rw [e3, if_pos (by rw [q'])]) 60 1 h1 (by omega) ⟨by omega, r1, f1⟩
  refine ⟨h2, rI_of ((e_X6_hoursToGone_0 _ h).trans ?_), f2⟩
  rw [e1, bnd]
  exact e2
theorem goneM_ {h : ax_Hp} {s : Sp} {i : Nat} (r : RM h s 0) (hi : i < zW s) (hT : zT s ≤ 999) : ∃ h', rI m_X8_goneWhen [.ref 47, .int (nI i)] h = some (fst_ (pGone s i) 60 1, h') ∧ QM h h' s := by
  have hW := r.1.1
  obtain ⟨h1, e1, r1, _⟩ := QI_minds r
  have p1 := (r1.2.2.1.2.2.2.2.1 i (by omega)).2.2.2.1
  have okP := (r.1.2.2.1 i (by omega)).2.2.2
  obtain ⟨h2, e2, f2⟩ := srchM (R := fun v x h => ax_run m_X8_goneWhen 17 [(0, .ref 47), (1, .int (nI i)), (2, .int (nI (zP s i))), (3, .int v), (4, .int x)] [] h) (St := fun a h2 => 1 ≤ a ∧ QI h h2 s (zit s 0 (a - 1)) 0) (Fin := fun h2 => QM h h2 s) (p := pGone s i) (N := 61) (by omega) (by
    intro a v h2 st q
    obtain ⟨h3, e3, q3, _⟩ := QI_forgets st.2
    refine ⟨h3, ?_, q3⟩
    show ax_run m_X8_goneWhen 17 _ [] h2 = _
    rw [e_X8_goneWhen_17, e3, bnd]
    rcases q with q | q
    · subst q; rw [if_pos (by decide)]
    · rw [if_pos q]; split <;> rfl) (by
    intro a h2 ha st
    obtain ⟨h3, e3, q3, _⟩ := QI_hour st.2 (by rw [zit_T]; omega)
    have hs : zhour (zit s 0 (a - 1)) 0 = zit s 0 a := by
      have : zit s 0 (a - 1 + 1) = zhour (zit s 0 (a - 1)) 0 := rfl
      rw [← this, show a - 1 + 1 = a by have := st.1; omega]
    rw [hs] at q3
    have b := (q3.2.2.1.1.2.2.1 i (by omega)).2.2.2
    have p3 := (q3.2.2.1.2.2.2.2.1 i (by omega)).2.2.2.1
    refine ⟨h3, ?_, by omega, by rw [show a + 1 - 1 = a by omega]; exact q3⟩
    show ax_run m_X8_goneWhen 17 _ [] h2 = _
    rw [e_X8_goneWhen_17, l60]
    simp (disch := omega) only [lt_]
    rw [if_neg (by omega), if_neg (by decide), e3, bnd]
    unfold pGone
    simp (disch := omega) only [g_in, cl_, p3, eq_, decide_eq_true_eq, l1, add_]
    by_cases q : zP (zit s 0 a) i = zP s i
    · rw [if_pos q, if_neg (fun x => x q)]
    · rw [if_neg q, if_pos q]) 60 1 h1 (by omega) ⟨by omega, r1⟩
  refine ⟨h2, rI_of ((e_X8_goneWhen_0 _ h).trans ?_), f2⟩
  rw [e1, bnd]
  simp (disch := omega) only [g_in, cl_, p1]
  exact e2
theorem op_goes {h : ax_Hp} {A : Ab} (oa : okA A) (ic : IC h A) (im : IM h A) (x1 x2 : Int32) : OP m_X7_goes m_X8_goes [.int x1, .int x2] h := by
  have hW := ic.1.1.1.1
  by_cases hw : 0 ≤ x1 ∧ x1 < nI (zW (bS A))
  · by_cases ha : x2 < 0
    · exact OP_no (x := -2) 2 (by omega) oa ic im (rI_of ((e_X7_goes_0 _ _ h).trans (by simp only [isWall_ is1 ic.1.1, isHouse_, outs_, bnd, no1, no2, no3, no4, no6, lo1, lo2, lo4, lo6, if_true, if_false, ax_10, ax_n4, ax_n6, and_self, hw, ha]))) (fun h1 m => rI_of ((e_X8_goes_0 _ _ h1).trans (by simp only [isWallM_ m.1, isHouseM_, outsM_, isIn_, notH_, bnd, mo1, mo2, mo3, mo4, mo6, ml1, ml2, ml4, ml6, if_true, if_false, ax_10, ax_n4, ax_n6, and_self, hw, lt0_of ha 1])))
    · by_cases hb : x2 ≤ 1
      · obtain ⟨i, hi, rfl⟩ := of_in hw.1 hw.2 (by omega)
        have hx : 0 ≤ x2 ∧ x2 ≤ 1 := ⟨n0l ha, hb⟩
        by_cases q : x2 = 0
        · refine OP_q (v := fst_ (pHome (bS A) i) 61 0) oa ic im ?_ (fun h1 m => ?_)
          · obtain ⟨h1, e1, f1⟩ := home_ ic.1 hi oa.1
            refine ⟨h1, rI_of ((e_X7_goes_0 _ _ h).trans ?_), QC.fr f1⟩
            simp only [isWall_ is1 ic.1.1, hw, and_self, if_true, ax_10, if_false, bnd, ha, hb, q, e1]
            simp only [q] at ha hb
            simp only [ha, hb, if_true, if_false]
          · obtain ⟨h2, e2, q2⟩ := homeM_ m.1 hi oa.1
            refine ⟨h2, rI_of ((e_X8_goes_0 _ _ h1).trans ?_), q2⟩
            simp only [isWallM_ m.1, isIn_, hw, hx, and_self, if_true, ax_10, if_false, bnd]
            rw [if_pos q, e2, bnd]
        · refine OP_q (v := fst_ (pGone (bS A) i) 60 1) oa ic im ?_ (fun h1 m => ?_)
          · obtain ⟨h1, e1, f1⟩ := gone_ ic.1 hi oa.1
            refine ⟨h1, rI_of ((e_X7_goes_0 _ _ h).trans ?_), QC.fr f1⟩
            simp only [isWall_ is1 ic.1.1, hw, and_self, if_true, ax_10, if_false, bnd, ha, hb, q, e1]
          · obtain ⟨h2, e2, q2⟩ := goneM_ m.1 hi oa.1
            refine ⟨h2, rI_of ((e_X8_goes_0 _ _ h1).trans ?_), q2⟩
            simp only [isWallM_ m.1, isIn_, hw, hx, and_self, if_true, ax_10, if_false, bnd, q, e2]
      · have hx : ¬ (0 ≤ x2 ∧ x2 ≤ 1) := fun q => hb q.2
        exact OP_no (x := -2) 2 (by omega) oa ic im (rI_of ((e_X7_goes_0 _ _ h).trans (by simp only [isWall_ is1 ic.1.1, isHouse_, outs_, bnd, no1, no2, no3, no4, no6, lo1, lo2, lo4, lo6, if_true, if_false, ax_10, ax_n4, ax_n6, and_self, hw, ha, hb]))) (fun h1 m => rI_of ((e_X8_goes_0 _ _ h1).trans (by simp only [isWallM_ m.1, isHouseM_, outsM_, isIn_, notH_, bnd, mo1, mo2, mo3, mo4, mo6, ml1, ml2, ml4, ml6, if_true, if_false, ax_10, ax_n4, ax_n6, and_self, hw, hx])))
  · exact OP_no (x := -1) 1 (by omega) oa ic im (rI_of ((e_X7_goes_0 _ _ h).trans (by simp only [isWall_ is1 ic.1.1, isHouse_, outs_, bnd, no1, no2, no3, no4, no6, lo1, lo2, lo4, lo6, if_true, if_false, ax_10, ax_n4, ax_n6, and_self, hw]))) (fun h1 m => rI_of ((e_X8_goes_0 _ _ h1).trans (by simp only [isWallM_ m.1, isHouseM_, outsM_, isIn_, notH_, bnd, mo1, mo2, mo3, mo4, mo6, ml1, ml2, ml4, ml6, if_true, if_false, ax_10, ax_n4, ax_n6, and_self, hw])))
theorem shown_ {h : ax_Hp} {s : Sp} {j : Nat} (r : RC h 1 s 0) (hj : j < 8) (hT : zT s ≤ 999) : ∃ h', rI m_X6_hoursToSeen [.ref 43, .ref 1, .int (nI j)] h = some (fst_ (pSeen s j) 61 0, h') ∧ Fr 23 h h' := by
  obtain ⟨h1, e1, r1, f1⟩ := begin_ r
  obtain ⟨h2, e2, f2⟩ := srchC (R := fun x h => ax_run m_X6_hoursToSeen 7 [(0, .ref 43), (2, .int (nI j)), (3, .int x)] [] h) (St := fun a h2 => RC h2 23 (zit s 0 a) 0 ∧ Fr 23 h h2) (Fin := fun h2 => Fr 23 h h2) (p := pSeen s j) (N := 61) (by
    intro h2 st
    refine ⟨?_, st.2⟩
    show ax_run m_X6_hoursToSeen 7 _ [] h2 = _
    rw [e_X6_hoursToSeen_7, if_pos (by decide)]) (by
    intro a h2 ha st q
    refine ⟨h2, ?_, st.2⟩
    show ax_run m_X6_hoursToSeen 7 _ [] h2 = _
    have q' := of_decide_eq_true q
    have b := zlack_le st.1.1.1 st.1.1.2.1 hj
    rw [e_X6_hoursToSeen_7, l60]
    simp (disch := omega) only [lt_]
    rw [if_neg (by omega), lackOf_ is23 st.1 hj, bnd]
    simp (disch := omega) only [le0]
    rw [if_neg (by omega)]) (by
    intro a h2 ha st q
    have q' := of_decide_eq_false q
    have b := zlack_le st.1.1.1 st.1.1.2.1 hj
    obtain ⟨h3, e3, r3, f3, _⟩ := passHour_ is23 st.1 (by rw [zit_T]; omega)
    refine ⟨h3, ?_, r3, st.2.trans f3⟩
    show ax_run m_X6_hoursToSeen 7 _ [] h2 = _
    rw [e_X6_hoursToSeen_7, l60]
    simp (disch := omega) only [lt_]
    rw [if_neg (by omega), lackOf_ is23 st.1 hj, bnd]
    simp (disch := omega) only [le0]
    rw [if_pos (by omega), e3, bnd, l1, add_]) 61 0 h1 (by omega) ⟨r1, f1⟩
  refine ⟨h2, rI_of ((e_X6_hoursToSeen_0 _ h).trans ?_), f2⟩
  rw [e1, bnd]
  exact e2
theorem op_shown {h : ax_Hp} {A : Ab} (oa : okA A) (ic : IC h A) (im : IM h A) (x1 : Int32) : OP m_X7_shown m_X8_shown [.int x1] h := by
  have hW := ic.1.1.1.1
  by_cases hw : 0 ≤ x1 ∧ x1 < 8
  · obtain ⟨j, hj, rfl⟩ := of_in hw.1 hw.2 (n := 8) (by omega)
    have hT := oa.1
    refine OP_q (v := fst_ (pSeen (bS A) j) 61 0) oa ic im ?_ (fun h1 m => ?_)
    · obtain ⟨h1, e1, f1⟩ := shown_ ic.1 hj oa.1
      refine ⟨h1, rI_of ((e_X7_shown_0 _ h).trans ?_), QC.fr f1⟩
      simp only [isHouse_, hw, and_self, if_true, ax_10, if_false, bnd, e1]
    · obtain ⟨h2, e2, r2, _⟩ := QI_minds m.1
      obtain ⟨h3, e3, f3⟩ := srchM (R := fun v x h => ax_run m_X8_shown 22 [(0, .ref 47), (1, .int (nI j)), (2, .int v), (3, .int x)] [] h) (St := fun a h2 => QI h1 h2 (bS A) (zit (bS A) 0 a) 0) (Fin := fun h2 => QM h1 h2 (bS A)) (p := pSeen (bS A) j) (N := 61) (by omega) (by
        intro a v h2 st q
        obtain ⟨h3, e3, q3, _⟩ := QI_forgets st
        refine ⟨h3, ?_, q3⟩
        show ax_run m_X8_shown 22 _ [] h2 = _
        rw [e_X8_shown_22, e3, bnd]
        rcases q with q | q
        · subst q; rw [if_pos (by decide)]
        · rw [if_pos q]; split <;> rfl) (by
        intro a h2 ha st
        obtain ⟨h3, e3, q3, _⟩ := QI_hour st (by rw [zit_T]; omega)
        have b := zlack_le st.2.2.1.1 (w := 0) (by omega) hj
        refine ⟨h3, ?_, q3⟩
        show ax_run m_X8_shown 22 _ [] h2 = _
        rw [e_X8_shown_22, l60]
        simp (disch := omega) only [lt_]
        rw [if_neg (by omega), if_neg (by decide), lacks_ st.2.2.1 hj, bnd]
        unfold pSeen
        simp (disch := omega) only [decide_eq_true_eq, le0]
        by_cases q : 0 < zlack (zit (bS A) 0 a) 0 j
        · rw [if_neg (by omega), if_pos q, e3, bnd, l1, add_]
        · rw [if_pos (by omega), if_neg q, e3, bnd, l1, add_]) 61 0 h2 (by omega) r2
      refine ⟨h3, rI_of ((e_X8_shown_0 _ h1).trans ?_), f3⟩
      simp only [isHouseM_, hw, and_self, if_true, ax_10, if_false, bnd, e2]
      exact e3
  · exact OP_no (x := -1) 1 (by omega) oa ic im (rI_of ((e_X7_shown_0 _ h).trans (by simp only [isWall_ is1 ic.1.1, isHouse_, outs_, bnd, no1, no2, no3, no4, no6, lo1, lo2, lo4, lo6, if_true, if_false, ax_10, ax_n4, ax_n6, and_self, hw]))) (fun h1 m => rI_of ((e_X8_shown_0 _ h1).trans (by simp only [isWallM_ m.1, isHouseM_, outsM_, isIn_, notH_, bnd, mo1, mo2, mo3, mo4, mo6, ml1, ml2, ml4, ml6, if_true, if_false, ax_10, ax_n4, ax_n6, and_self, hw])))
theorem op_asked {h : ax_Hp} {A : Ab} (oa : okA A) (ic : IC h A) (im : IM h A) : OP m_X7_asked m_X8_asked [] h := by
  have hW := ic.1.1.1.1
  have hT := oa.1
  have n0 : h.1 1 0 = nI (zW (bS A)) := ic.1.1.2.2.1
  by_cases q : zW (bS A) = 0
  · refine OP_q (v := -9) oa ic im ⟨h, rI_of ((e_X7_asked_0 h).trans ?_), QC.refl h⟩ (fun h1 m => ?_)
    · have e : rI m_X6_hoursToAllLent [.ref 43, .ref 1] h = some (-9, h) := rI_of ((e_X6_hoursToAllLent_0 h).trans (by rw [n0, q]; rfl))
      rw [e, bnd]
    · obtain ⟨h2, e2, r2, _⟩ := QI_minds m.1
      obtain ⟨h3, e3, q3, _⟩ := QI_forgets r2
      refine ⟨h3, rI_of ((e_X8_asked_0 h1).trans ?_), q3⟩
      rw [e2, bnd, e_X8_asked_9, r2.2.2.1.2.2.1, q, if_neg (by decide), if_neg (by decide), if_pos (by decide), e3, bnd]
  · refine OP_q (v := fst_ (pLent (bS A)) 61 0) oa ic im ?_ (fun h1 m => ?_)
    · obtain ⟨h1, e1, r1, f1⟩ := begin_ ic.1
      have c1 : ∀ a (h : ax_Hp), rI m_X7_bitsIn [.int (zlent (zit (bS A) 0 a))] h = some (nI (cntB (fun i => decide (zP (zit (bS A) 0 a) i ≠ zO (zit (bS A) 0 a) i)) (zW (bS A))), h) := fun a h => by
        have := bitsIn_bm (fun i => decide (zP (zit (bS A) 0 a) i ≠ zO (zit (bS A) 0 a) i)) (n := zW (bS A)) (by omega) h
        unfold zlent; rw [zit_W]; exact this
      have cl : ∀ a, cntB (fun i => decide (zP (zit (bS A) 0 a) i ≠ zO (zit (bS A) 0 a) i)) (zW (bS A)) ≤ 8 := fun a => cntB_le _ _
      obtain ⟨h2, e2, f2⟩ := srchC (R := fun x h => ax_run m_X6_hoursToAllLent 17 [(0, .ref 43), (2, .int x)] [] h) (St := fun a h2 => RC h2 23 (zit (bS A) 0 a) 0 ∧ Fr 23 h h2) (Fin := fun h2 => Fr 23 h h2) (p := pLent (bS A)) (N := 61) (by
        intro h2 st
        refine ⟨?_, st.2⟩
        show ax_run m_X6_hoursToAllLent 17 _ [] h2 = _
        rw [e_X6_hoursToAllLent_17, if_pos (by decide)]) (by
        intro a h2 ha st q
        refine ⟨h2, ?_, st.2⟩
        show ax_run m_X6_hoursToAllLent 17 _ [] h2 = _
        have q' := of_decide_eq_true q
        rw [e_X6_hoursToAllLent_17, l60]
        simp (disch := omega) only [lt_]
        rw [if_neg (by omega), lentBits_ is23 st.1.1, bnd]
        simp only []
        rw [c1, bnd, st.1.1.2.2.1, zit_W]
        simp only []
        rw [if_pos (by rw [q'])]) (by
        intro a h2 ha st q
        have q' := of_decide_eq_false q
        have := cl a
        obtain ⟨h3, e3, r3, f3, _⟩ := passHour_ is23 st.1 (by rw [zit_T]; omega)
        refine ⟨h3, ?_, r3, st.2.trans f3⟩
        show ax_run m_X6_hoursToAllLent 17 _ [] h2 = _
        rw [e_X6_hoursToAllLent_17, l60]
        simp (disch := omega) only [lt_]
        rw [if_neg (by omega), lentBits_ is23 st.1.1, bnd]
        simp only []
        rw [c1, bnd, st.1.1.2.2.1, zit_W]
        simp only []
        rw [if_neg (fun x => q' ((eq_ (by omega) (by omega)).mp x)), e3, bnd, l1, add_]) 61 0 h1 (by omega) ⟨r1, f1⟩
      have e : rI m_X6_hoursToAllLent [.ref 43, .ref 1] h = some (fst_ (pLent (bS A)) 61 0, h2) := by
        refine rI_of ((e_X6_hoursToAllLent_0 h).trans ?_)
        rw [n0, if_neg (fun x => q ((eq0 (by omega)).mp x)), e1, bnd]
        exact e2
      exact ⟨h2, rI_of ((e_X7_asked_0 h).trans (by rw [e, bnd])), QC.fr f2⟩
    · obtain ⟨h2, e2, r2, _⟩ := QI_minds m.1
      have c1 : ∀ a (h : ax_Hp), rI m_X8_bits [.int (zlent (zit (bS A) 0 a))] h = some (nI (cntB (fun i => decide (zP (zit (bS A) 0 a) i ≠ zO (zit (bS A) 0 a) i)) (zW (bS A))), h) := fun a h => by
        have := bits_bm (fun i => decide (zP (zit (bS A) 0 a) i ≠ zO (zit (bS A) 0 a) i)) (n := zW (bS A)) (by omega) h
        unfold zlent; rw [zit_W]; exact this
      have cl : ∀ a, cntB (fun i => decide (zP (zit (bS A) 0 a) i ≠ zO (zit (bS A) 0 a) i)) (zW (bS A)) ≤ 8 := fun a => cntB_le _ _
      obtain ⟨h3, e3, f3⟩ := srchM (R := fun v x h => ax_run m_X8_asked 9 [(0, .ref 47), (1, .int v), (2, .int x)] [] h) (St := fun a h2 => QI h1 h2 (bS A) (zit (bS A) 0 a) 0) (Fin := fun h2 => QM h1 h2 (bS A)) (p := pLent (bS A)) (N := 61) (by omega) (by
        intro a v h2 st q
        obtain ⟨h3, e3, q3, _⟩ := QI_forgets st
        refine ⟨h3, ?_, q3⟩
        show ax_run m_X8_asked 9 _ [] h2 = _
        rw [e_X8_asked_9, e3, bnd]
        rcases q with q | q
        · subst q; rw [if_pos (by decide)]
        · rw [if_pos q]; split <;> rfl) (by
        intro a h2 ha st
        obtain ⟨h3, e3, q3, _⟩ := QI_hour st (by rw [zit_T]; omega)
        have := cl a
        refine ⟨h3, ?_, q3⟩
        show ax_run m_X8_asked 9 _ [] h2 = _
        rw [e_X8_asked_9, l60, st.2.2.1.2.2.1, zit_W]
        simp (disch := omega) only [lt_, le0]
        rw [if_neg (by omega), if_neg (by decide), if_neg (by omega), lentNow_ st.2.2.1, bnd]
        simp only []
        rw [c1, bnd]
        simp only []
        rw [st.2.2.1.2.2.1, zit_W]
        unfold pLent
        simp (disch := omega) only [eq_, decide_eq_true_eq]
        split
        · rw [e3, bnd, l1, add_]
        · rw [e3, bnd, l1, add_]) 61 0 h2 (by omega) r2
      refine ⟨h3, rI_of ((e_X8_asked_0 h1).trans ?_), f3⟩
      rw [e2, bnd]
      exact e3
/-- told lacking, by the row -/
def pJudge (s : Sp) (f : Nat → Nat) (a : Nat) : Bool := decide (zall (zit s 0 a) 0 ≠ f a)
theorem numAt_ {h : ax_Hp} {n k : Nat} {f : Nat → Nat} (hn : h.1 38 1 = nI n) (n16 : n ≤ 16) (hf : ∀ i, i < n → h.1 39 i = nI (f i)) (hk : k < n) : rI m_X4_numberAt [.ref 38, .int (nI k)] h = some (nI (f k), h) := by
  refine rI_of ((e_X4_numberAt_0 _ h).trans ?_)
  rw [if_neg (nI_pos (by omega)), hn]
  simp (disch := omega) only [le_]
  rw [if_neg (by omega)]
  simp (disch := omega) only [g_in, cl_, hf k hk]
theorem op_judge {h : ax_Hp} {A : Ab} (oa : okA A) (ic : IC h A) (im : IM h A) : OP m_X7_judge m_X8_judge [] h := by
  have hW := ic.1.1.1.1
  have hT := oa.1
  have n16 := oa.2.2.2.2.2.1
  have n99 := oa.2.2.2.2.2.2
  have n1 : h.1 38 1 = nI (bRn A) := ic.2.2.2.2.2.2.1
  have n2 := ic.2.2.2.2.2.2.2.1
  refine OP_of (A := A) (B := bClr A) (v := fst_ (pJudge (bS A) (bR A)) (bRn A) 0) (okA_clr oa) im ?_ (fun h1 m => ?_)
  · obtain ⟨h1, e1, r1, f1⟩ := begin_ ic.1
    obtain ⟨h2, e2, f2⟩ := srchC (R := fun x h => ax_run m_X6_firstNotSo 7 [(0, .ref 43), (2, .ref 38), (3, .int x)] [] h) (St := fun a h2 => RC h2 23 (zit (bS A) 0 a) 0 ∧ Fr 23 h h2) (Fin := fun h2 => Fr 23 h h2) (p := pJudge (bS A) (bR A)) (N := bRn A) (by
      intro h2 st
      refine ⟨?_, st.2⟩
      show ax_run m_X6_firstNotSo 7 _ [] h2 = _
      rw [e_X6_firstNotSo_7, st.2.2 38 (by omega), n1]
      exact if_pos ((le_ (a := bRn A) (b := bRn A) (by omega) (by omega)).mpr (Nat.le_refl _))) (by
      intro a h2 ha st q
      refine ⟨h2, ?_, st.2⟩
      show ax_run m_X6_firstNotSo 7 _ [] h2 = _
      have q' := of_decide_eq_true q
      have b := zall_le st.1.1.1 (w := 0) (by omega)
      have b2 := n99 a ha
      rw [e_X6_firstNotSo_7, st.2.2 38 (by omega), n1]
      simp (disch := omega) only [le_]
      rw [if_neg (by omega), allLacking_ is23 st.1, bnd]
      simp only []
      rw [numAt_ (n := bRn A) (f := bR A) (by rw [st.2.2 38 (by omega), n1]) n16 (by rw [st.2.2 39 (by omega)]; exact n2) ha, bnd]
      simp only []
      rw [if_neg (fun x => q' ((eq_ (by omega) (by omega)).mp x))]) (by
      intro a h2 ha st q
      have q' : zall (zit (bS A) 0 a) 0 = bR A a := Classical.byContradiction fun x => absurd (decide_eq_true (p := zall (zit (bS A) 0 a) 0 ≠ bR A a) x) (by unfold pJudge at q; rw [q]; decide)
      have b := zall_le st.1.1.1 (w := 0) (by omega)
      have b2 := n99 a ha
      obtain ⟨h3, e3, r3, f3, _⟩ := passHour_ is23 st.1 (by rw [zit_T]; omega)
      refine ⟨h3, ?_, r3, st.2.trans f3⟩
      show ax_run m_X6_firstNotSo 7 _ [] h2 = _
      rw [e_X6_firstNotSo_7, st.2.2 38 (by omega), n1]
      simp (disch := omega) only [le_]
      rw [if_neg (by omega), allLacking_ is23 st.1, bnd]
      simp only []
      rw [numAt_ (n := bRn A) (f := bR A) (by rw [st.2.2 38 (by omega), n1]) n16 (by rw [st.2.2 39 (by omega)]; exact n2) ha, bnd]
      simp only []
      rw [if_pos (by rw [q']), e3, bnd, l1, add_]) (bRn A) 0 h1 (by omega) ⟨r1, f1⟩
    have e : rI m_X6_firstNotSo [.ref 43, .ref 1, .ref 38] h = some (fst_ (pJudge (bS A) (bR A)) (bRn A) 0, h2) := by
      refine rI_of ((e_X6_firstNotSo_0 h).trans ?_)
      rw [e1, bnd]
      exact e2
    exact ⟨_, rI_of ((e_X7_judge_0 h).trans (by rw [e, bnd])), IC_clr (IC_QC (QC.fr f2) ic), by show h2.2.2 = h.2.2; rw [f2.1], fun k hk => (wI_ne (by omega)).trans (f2.2 k (by omega))⟩
  · obtain ⟨h2, e2, r2, _⟩ := QI_minds m.1
    have m1 : ∀ h2 t, QI h1 h2 (bS A) t 0 → h2.1 47 34 = nI (bRn A) := fun h2 t st => (st.2.2.2.2.2.2.2.1 34 (by omega)).trans m.2.2.2.2.2.2.1
    have m2 : ∀ h2 t a, QI h1 h2 (bS A) t 0 → a < bRn A → h2.1 65 a = nI (bR A a) := fun h2 t a st ha => by rw [st.2.2.2.2.2.2.1]; exact m.2.2.2.2.2.2.2.1 a ha
    obtain ⟨h3, e3, f3⟩ := srchM (R := fun v x h => ax_run m_X8_judge 9 [(0, .ref 47), (1, .int v), (2, .int x)] [] h) (St := fun a h2 => QI h1 h2 (bS A) (zit (bS A) 0 a) 0) (Fin := fun h2 => ∃ h3, h2 = wI h3 47 34 0 ∧ QM h1 h3 (bS A)) (p := pJudge (bS A) (bR A)) (N := bRn A) (by omega) (by
      intro a v h2 st q
      obtain ⟨h3, e3, q3, _⟩ := QI_forgets st
      refine ⟨wI h3 47 34 0, ?_, h3, rfl, q3⟩
      show ax_run m_X8_judge 9 _ [] h2 = _
      rw [e_X8_judge_9, m1 _ _ st, e3, bnd]
      rcases q with q | q
      · subst q; rw [if_pos ((le_ (by omega) (by omega)).mpr (Nat.le_refl _))]
      · rw [if_pos q]; split <;> rfl) (by
      intro a h2 ha st
      obtain ⟨h3, e3, q3, _⟩ := QI_hour st (by rw [zit_T]; omega)
      have b := zall_le st.2.2.1.1 (w := 0) (by omega)
      have b2 := n99 a ha
      refine ⟨h3, ?_, q3⟩
      show ax_run m_X8_judge 9 _ [] h2 = _
      rw [e_X8_judge_9, m1 _ _ st]
      simp (disch := omega) only [le_]
      rw [if_neg (by omega), if_neg (by decide), allM_ st.2.2.1, bnd]
      simp (disch := omega) only [g_in, cl_, m2 _ _ a st ha, eq_]
      unfold pJudge
      simp only [decide_eq_true_eq]
      by_cases q : zall (zit (bS A) 0 a) 0 = bR A a
      · rw [if_pos q, if_neg (fun x => x q), e3, bnd, l1, add_]
      · rw [if_neg q, if_pos q, e3, bnd, l1, add_]) (bRn A) 0 h2 (by omega) r2
    obtain ⟨h4, rfl, q4⟩ := f3
    refine ⟨_, rI_of ((e_X8_judge_0 h1).trans (by rw [e2, bnd]; exact e3)), IM_clr (IM_QM q4 m), q4.1, fun k hk => (wI_ne (by omega)).trans (q4.2.1 k hk)⟩
