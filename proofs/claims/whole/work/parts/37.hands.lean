/-! operations: looks at walls and houses; changes by hand (by wip/whole/gen37.py) -/
theorem now_ {h : ax_Hp} {s : Sp} {w : Nat} (r : RC h 1 s w) : h.1 1 0 = nI (zW s) ∧ h.1 1 1 = nI (zT s) ∧
    (∀ i, i < 7 → h.1 2 i = nI (zK s i) ∧ h.1 3 i = nI (zF s i) ∧ h.1 4 i = nI (zO s i) ∧ h.1 5 i = nI (zP s i) ∧ h.1 6 i = zL s i) ∧ (∀ j, j < 8 → h.1 9 j = zB s j) ∧
    (∀ i, i < zW s → h.1 10 i = nI (zcov s i)) ∧ (∀ j, j < 8 → h.1 11 j = nI (zhas s j)) :=
  ⟨r.1.2.2.1, r.1.2.2.2.1, r.1.2.2.2.2.2.1, r.1.2.2.2.2.2.2.2, r.2.1, r.2.2⟩
theorem lt0_of {x : Int32} (h : x < 0) (b : Int32) : ¬ (0 ≤ x ∧ x ≤ b) := fun q => by
  have a := (fa_lt' _ _).mp h
  have c := Int32.le_iff_toInt_le.mp q.1
  omega
theorem nl0 {x : Int32} (h : 0 ≤ x) : ¬ x < 0 := fun q => by
  have a := (fa_lt' _ _).mp q
  have c := Int32.le_iff_toInt_le.mp h
  omega
theorem n0l {x : Int32} (h : ¬ x < 0) : 0 ≤ x := by
  have a : ¬ x.toInt < (0 : Int32).toInt := fun q => h ((fa_lt' _ _).mpr q)
  exact Int32.le_iff_toInt_le.mpr (by omega)
theorem nlt_le {x y : Int32} (h : ¬ x < y) : y ≤ x := by
  have a : ¬ x.toInt < y.toInt := fun q => h ((fa_lt' _ _).mpr q)
  exact Int32.le_iff_toInt_le.mpr (by omega)
theorem le_nlt {x y : Int32} (h : y ≤ x) : ¬ x < y := fun q => by
  have a := (fa_lt' _ _).mp q
  have c := Int32.le_iff_toInt_le.mp h
  omega
theorem nle_lt {x y : Int32} (h : ¬ x ≤ y) : y < x := by
  have a : ¬ x.toInt ≤ y.toInt := fun q => h (Int32.le_iff_toInt_le.mpr q)
  exact (fa_lt' _ _).mpr (by omega)
theorem lt_nle {x y : Int32} (h : y < x) : ¬ x ≤ y := fun q => le_nlt q h
theorem nle0 {x : Int32} (h : ¬ 0 ≤ x) : x < 0 := nle_lt h
theorem lt6_le5 {x : Int32} : x < 6 ↔ x ≤ 5 := by
  simp only [fa_lt', Int32.le_iff_toInt_le]
  have h7 : (5 : Int32).toInt = 5 := rfl
  have h8 : (6 : Int32).toInt = 6 := rfl
  omega
def vwall (s : Sp) (i k : Nat) : Int32 := if k = 0 then nI (zK s i) else if k = 1 then nI (zF s i) else if k = 2 then nI (zO s i) else if k = 3 then nI (zP s i) else if k = 4 then zL s i else nI (zcov s i)
theorem op_wall {h : ax_Hp} {A : Ab} (oa : okA A) (ic : IC h A) (im : IM h A) (x1 x2 : Int32) : OP m_X7_wall m_X8_wall [.int x1, .int x2] h := by
  have hW := ic.1.1.1.1
  by_cases hw : 0 ≤ x1 ∧ x1 < nI (zW (bS A))
  · obtain ⟨i, hi, rfl⟩ := of_in hw.1 hw.2 (by omega)
    by_cases hx : 0 ≤ x2 ∧ x2 ≤ 5
    · obtain ⟨k, _, hk, rfl⟩ := in_n (m := 0) (n := 5) rfl rfl hx.1 hx.2 (by omega) (by omega)
      obtain ⟨n0, n1, nr, nb, nc, nh⟩ := now_ ic.1
      obtain ⟨r1, r2, r3, r4, r5⟩ := nr i (by omega)
      refine OP_q (v := vwall (bS A) i k) oa ic im ⟨h, rI_of ((e_X7_wall_0 _ _ h).trans ?_), QC.refl h⟩ (fun h1 m => ⟨h1, rI_of ((e_X8_wall_0 _ _ h1).trans ?_), QM.refl m.1⟩)
      · simp (disch := omega) only [isWall_n is1 ic.1.1 hi, bnd, ax_10, if_false, g_in, cl_, r1, r2, r3, r4, r5, nc i hi]
        simp (disch := omega) only [l0, l1, l2, l3, l4, l5, eq_, vwall]
        repeat' split
        all_goals first | rfl | omega
      · obtain ⟨p1, p2, p3, p4, p5⟩ := m.1.2.2.2.2.1 i (by omega)
        have hwM := hw
        simp (disch := omega) only [isWallM_ m.1, hw, and_self, if_true, bnd, ax_10, if_false, g_in, cl_, p1, p2, p3, p4, p5, covers_ m.1]
        simp (disch := omega) only [l0, l1, l2, l3, l4, l5, eq_, vwall]
        repeat' split
        all_goals first | rfl | omega
    · have e0 : ¬ x2 = 0 := fun e => hx (by rw [e]; decide)
      have e1 : ¬ x2 = 1 := fun e => hx (by rw [e]; decide)
      have e2 : ¬ x2 = 2 := fun e => hx (by rw [e]; decide)
      have e3 : ¬ x2 = 3 := fun e => hx (by rw [e]; decide)
      have e4 : ¬ x2 = 4 := fun e => hx (by rw [e]; decide)
      have e5 : ¬ x2 = 5 := fun e => hx (by rw [e]; decide)
      exact OP_no (x := -2) 2 (by omega) oa ic im (rI_of ((e_X7_wall_0 _ _ h).trans (by simp only [isWall_ is1 ic.1.1, isHouse_, outs_, bnd, no1, no2, no3, no4, no6, lo1, lo2, lo4, lo6, if_true, if_false, ax_10, ax_n4, ax_n6, and_self, hw, e0, e1, e2, e3, e4, e5]))) (fun h1 m => rI_of ((e_X8_wall_0 _ _ h1).trans (by simp only [isWallM_ m.1, isHouseM_, outsM_, isIn_, notH_, bnd, mo1, mo2, mo3, mo4, mo6, ml1, ml2, ml4, ml6, if_true, if_false, ax_10, ax_n4, ax_n6, and_self, hw, e0, e1, e2, e3, e4, e5])))
  · exact OP_no (x := -1) 1 (by omega) oa ic im (rI_of ((e_X7_wall_0 _ _ h).trans (by simp only [isWall_ is1 ic.1.1, isHouse_, outs_, bnd, no1, no2, no3, no4, no6, lo1, lo2, lo4, lo6, if_true, if_false, ax_10, ax_n4, ax_n6, and_self, hw]))) (fun h1 m => rI_of ((e_X8_wall_0 _ _ h1).trans (by simp only [isWallM_ m.1, isHouseM_, outsM_, isIn_, notH_, bnd, mo1, mo2, mo3, mo4, mo6, ml1, ml2, ml4, ml6, if_true, if_false, ax_10, ax_n4, ax_n6, and_self, hw])))
def vhouse (s : Sp) (j k : Nat) : Int32 := if k = 0 then nI (zneed s 0 j) else if k = 1 then nI (zhas s j) else if k = 2 then nI (zlack s 0 j) else if k = 3 then zat s j else if k = 4 then zown s j else zB s j
theorem wallsOfAt_ {h : ax_Hp} {s : Sp} {w j : Nat} (r : RM h s w) (hj : j < 2147483648) : rI m_X8_wallsOf [.ref 47, .ref 52, .int (nI j)] h = some (zat s j, h) := by
  have hW := r.1.1
  refine rI_of ((e_X8_wallsOf_0_k47_52 _ h).trans ?_)
  refine (lp (fun k x => ax_run m_X8_wallsOf 5 [(0, .ref 47), (1, .ref 52), (2, .int (nI j)), (3, .int x), (4, .int k)] [] h) (bm (fun i => decide (zP s i = j))) (zW s) (fun k hk => ?_)).trans ?_
  · show ax_run m_X8_wallsOf 5 _ [] h = _
    have okk := (r.1.2.2.1 k (by omega)).2.2.2
    rw [e_X8_wallsOf_5_k47_52, r.2.2.1]
    simp (disch := omega) only [le_, g_in, cl_]
    rw [if_neg (by omega), (r.2.2.2.2.1 k (by omega)).2.2.2.1]
    simp (disch := omega) only [bm, decide_eq_true_eq, l1, add_, eq_, Int32.or_zero]
    split <;> rfl
  · show ax_run m_X8_wallsOf 5 _ [] h = _
    rw [e_X8_wallsOf_5_k47_52, r.2.2.1]
    exact if_pos ((le_ (a := zW s) (b := zW s) (by omega) (by omega)).mpr (Nat.le_refl _))
theorem wallsOfOwn_ {h : ax_Hp} {s : Sp} {w j : Nat} (r : RM h s w) (hj : j < 2147483648) : rI m_X8_wallsOf [.ref 47, .ref 51, .int (nI j)] h = some (zown s j, h) := by
  have hW := r.1.1
  refine rI_of ((e_X8_wallsOf_0_k47_51 _ h).trans ?_)
  refine (lp (fun k x => ax_run m_X8_wallsOf 5 [(0, .ref 47), (1, .ref 51), (2, .int (nI j)), (3, .int x), (4, .int k)] [] h) (bm (fun i => decide (zO s i = j))) (zW s) (fun k hk => ?_)).trans ?_
  · show ax_run m_X8_wallsOf 5 _ [] h = _
    have okk := (r.1.2.2.1 k (by omega)).2.2.1
    rw [e_X8_wallsOf_5_k47_51, r.2.2.1]
    simp (disch := omega) only [le_, g_in, cl_]
    rw [if_neg (by omega), (r.2.2.2.2.1 k (by omega)).2.2.1]
    simp (disch := omega) only [bm, decide_eq_true_eq, l1, add_, eq_, Int32.or_zero]
    split <;> rfl
  · show ax_run m_X8_wallsOf 5 _ [] h = _
    rw [e_X8_wallsOf_5_k47_51, r.2.2.1]
    exact if_pos ((le_ (a := zW s) (b := zW s) (by omega) (by omega)).mpr (Nat.le_refl _))
theorem op_house {h : ax_Hp} {A : Ab} (oa : okA A) (ic : IC h A) (im : IM h A) (x1 x2 : Int32) : OP m_X7_house m_X8_house [.int x1, .int x2] h := by
  have hW := ic.1.1.1.1
  have hT := ic.1.1.1.2.1
  by_cases hw : 0 ≤ x1 ∧ x1 < 8
  · obtain ⟨j, hj, rfl⟩ := of_in hw.1 hw.2 (n := 8) (by omega)
    by_cases hx : 0 ≤ x2 ∧ x2 ≤ 5
    · obtain ⟨k, _, hk, rfl⟩ := in_n (m := 0) (n := 5) rfl rfl hx.1 hx.2 (by omega) (by omega)
      obtain ⟨n0, n1, nr, nb, nc, nh⟩ := now_ ic.1
      refine OP_q (v := vhouse (bS A) j k) oa ic im ⟨h, rI_of ((e_X7_house_0 _ _ h).trans ?_), QC.refl h⟩ (fun h1 m => ⟨h1, rI_of ((e_X8_house_0 _ _ h1).trans ?_), QM.refl m.1⟩)
      · simp (disch := omega) only [isHouse_, hw, and_self, if_true, bnd, ax_10, if_false, g_in, cl_, nh j hj, nb j hj, needOf_ is1 ic.1 hj, lackOf_ is1 ic.1 hj, wallsAt_ is1 ic.1.1, wallsOwned_ is1 ic.1.1]
        simp (disch := omega) only [l0, l1, l2, l3, l4, l5, eq_, vhouse]
        repeat' split
        all_goals first | rfl | omega
      · have p1 := m.1.2.2.2.2.2.1 (6 * j + zT (bS A) % 6) (by omega)
        have p2 := m.1.2.2.2.2.2.2 j hj
        simp (disch := omega) only [isHouseM_, hw, and_self, if_true, bnd, ax_10, if_false, m.1.2.2.2.1, rem_, l6, mul_, add_, g_in, cl_, p1, p2, hasAt_ m.1 hj, lacks_ m.1 hj, wallsOfAt_ m.1, wallsOfOwn_ m.1]
        simp (disch := omega) only [l0, l1, l2, l3, l4, l5, eq_, vhouse]
        repeat' split
        all_goals first | rfl | omega
    · have e0 : ¬ x2 = 0 := fun e => hx (by rw [e]; decide)
      have e1 : ¬ x2 = 1 := fun e => hx (by rw [e]; decide)
      have e2 : ¬ x2 = 2 := fun e => hx (by rw [e]; decide)
      have e3 : ¬ x2 = 3 := fun e => hx (by rw [e]; decide)
      have e4 : ¬ x2 = 4 := fun e => hx (by rw [e]; decide)
      have e5 : ¬ x2 = 5 := fun e => hx (by rw [e]; decide)
      exact OP_no (x := -2) 2 (by omega) oa ic im (rI_of ((e_X7_house_0 _ _ h).trans (by simp only [isWall_ is1 ic.1.1, isHouse_, outs_, bnd, no1, no2, no3, no4, no6, lo1, lo2, lo4, lo6, if_true, if_false, ax_10, ax_n4, ax_n6, and_self, hw, e0, e1, e2, e3, e4, e5]))) (fun h1 m => rI_of ((e_X8_house_0 _ _ h1).trans (by simp only [isWallM_ m.1, isHouseM_, outsM_, isIn_, notH_, bnd, mo1, mo2, mo3, mo4, mo6, ml1, ml2, ml4, ml6, if_true, if_false, ax_10, ax_n4, ax_n6, and_self, hw, e0, e1, e2, e3, e4, e5])))
  · exact OP_no (x := -1) 1 (by omega) oa ic im (rI_of ((e_X7_house_0 _ _ h).trans (by simp only [isWall_ is1 ic.1.1, isHouse_, outs_, bnd, no1, no2, no3, no4, no6, lo1, lo2, lo4, lo6, if_true, if_false, ax_10, ax_n4, ax_n6, and_self, hw]))) (fun h1 m => rI_of ((e_X8_house_0 _ _ h1).trans (by simp only [isWallM_ m.1, isHouseM_, outsM_, isIn_, notH_, bnd, mo1, mo2, mo3, mo4, mo6, ml1, ml2, ml4, ml6, if_true, if_false, ax_10, ax_n4, ax_n6, and_self, hw])))
def bSet (A : Ab) (s : Sp) : Ab := (s, A.2)
theorem IC_set {h h' : ax_Hp} {A : Ab} {s : Sp} (i : IC h A) (f : Fr 1 h h') (r : RC h' 1 s 0) (hT : zT s = zT (bS A)) : IC h' (bSet A s) := by
  obtain ⟨a1, a2, a3, a4, a5, a6, a7, a8, a9⟩ := i
  refine ⟨r, ?_, fun q => RC_of (fun k _ _ => f.2 k (by omega)) (a3 q), ?_, ?_, ?_, ?_, ?_, ?_⟩
  · rw [f.2 0 (by omega)]; exact a2
  · rw [f.2 35 (by omega)]; show ∀ i, 1 ≤ i → i ≤ zT s → _; rw [hT]; exact a4
  · rw [f.2 36 (by omega)]; exact a5
  · rw [f.2 37 (by omega)]; exact a6
  · rw [f.2 38 (by omega)]; exact a7
  · rw [f.2 39 (by omega)]; exact a8
  · rw [f.2 46 (by omega)]; exact a9
theorem FC_fr {h h' : ax_Hp} (f : Fr 1 h h') : FC h h' := ⟨by rw [f.1], fun k hk => f.2 k (by omega)⟩
theorem IM_set {h h' : ax_Hp} {A : Ab} {s : Sp} (i : IM h A) (r : RM h' s 0) (hT : zT s = zT (bS A)) (f : ∀ k, k = 48 ∨ k = 56 ∨ k = 60 ∨ k = 61 ∨ k = 65 → h'.1 k = h.1 k) (f2 : ∀ i, i = 14 ∨ i = 19 ∨ i = 34 → h'.1 47 i = h.1 47 i) : IM h' (bSet A s) := by
  obtain ⟨a1, a2, a3, a4, a5, a6, a7, a8, a9⟩ := i
  refine ⟨r, ?_, fun q => KP_of (fun p _ _ => by rw [f 60 (by omega)]) (a3 q), ?_, ?_, ?_, ?_, ?_, ?_⟩
  · rw [f2 19 (by omega)]; exact a2
  · rw [f 61 (by omega)]; show ∀ i, 1 ≤ i → i ≤ zT s → _; rw [hT]; exact a4
  · rw [f2 14 (by omega)]; exact a5
  · rw [f 56 (by omega)]; exact a6
  · rw [f2 34 (by omega)]; exact a7
  · rw [f 65 (by omega)]; exact a8
  · rw [f 48 (by omega)]; exact a9
theorem okA_set {A : Ab} (oa : okA A) {s : Sp} (hT : zT s = zT (bS A)) : okA (bSet A s) := by
  obtain ⟨a1, a2, a3, a4, a5, a6, a7⟩ := oa
  refine ⟨?_, a2, fun q => ⟨?_, (a3 q).2⟩, a4, a5, a6, a7⟩
  · show zT s ≤ 999; rw [hT]; exact a1
  · show zT (bK A) ≤ zT s; rw [hT]; exact (a3 q).1
theorem op_takes {h : ax_Hp} {A : Ab} (oa : okA A) (ic : IC h A) (im : IM h A) (x1 x2 : Int32) : OP m_X7_takes m_X8_takes [.int x1, .int x2] h := by
  have hW := ic.1.1.1.1
  by_cases hw : 0 ≤ x1 ∧ x1 < nI (zW (bS A))
  · by_cases hx : 0 ≤ x2 ∧ x2 < 8
    · obtain ⟨i, hi, rfl⟩ := of_in hw.1 hw.2 (by omega)
      obtain ⟨j, hj, rfl⟩ := of_in hx.1 hx.2 (n := 8) (by omega)
      obtain ⟨h', e, r', f⟩ := takeTo_ is1 ic.1.1 hi hj
      obtain ⟨n0, n1, nr, nb, nc, nh⟩ := now_ ic.1
      obtain ⟨r1, r2, r3, r4, r5⟩ := nr i (by omega)
      refine OP_of (A := A) (B := bSet A (zput (bS A) i j)) (v := nI (zP (bS A) i)) (okA_set oa rfl) im ⟨h', rI_of ((e_X7_takes_0 _ _ h).trans ?_), IC_set ic f r' rfl, FC_fr f⟩ (fun h1 m => ⟨_, rI_of ((e_X8_takes_0 _ _ h1).trans ?_), IM_set (h' := wI h1 52 i (nI j)) m (RM_put m.1 hj) rfl (fun k hk => wI_ne (by omega)) (fun i hi => by rw [wI_ne (by omega)]), rfl, fun k hk => wI_ne (by omega)⟩)
      · simp (disch := omega) only [isWall_ is1 ic.1.1, isHouse_, hw, hx, and_self, if_true, bnd, ax_10, if_false, g_in, cl_, e, r4]
      · obtain ⟨p1, p2, p3, p4, p5⟩ := m.1.2.2.2.2.1 i (by omega)
        simp (disch := omega) only [isWallM_ m.1, isHouseM_, hw, hx, and_self, if_true, bnd, ax_10, if_false, g_in, cl_, p4]
    · exact OP_no (x := -1) 1 (by omega) oa ic im (rI_of ((e_X7_takes_0 _ _ h).trans (by simp only [isWall_ is1 ic.1.1, isHouse_, outs_, bnd, no1, no2, no3, no4, no6, lo1, lo2, lo4, lo6, if_true, if_false, ax_10, ax_n4, ax_n6, and_self, hw, hx]))) (fun h1 m => rI_of ((e_X8_takes_0 _ _ h1).trans (by simp only [isWallM_ m.1, isHouseM_, outsM_, isIn_, notH_, bnd, mo1, mo2, mo3, mo4, mo6, ml1, ml2, ml4, ml6, if_true, if_false, ax_10, ax_n4, ax_n6, and_self, hw, hx])))
  · exact OP_no (x := -1) 1 (by omega) oa ic im (rI_of ((e_X7_takes_0 _ _ h).trans (by simp only [isWall_ is1 ic.1.1, isHouse_, outs_, bnd, no1, no2, no3, no4, no6, lo1, lo2, lo4, lo6, if_true, if_false, ax_10, ax_n4, ax_n6, and_self, hw]))) (fun h1 m => rI_of ((e_X8_takes_0 _ _ h1).trans (by simp only [isWallM_ m.1, isHouseM_, outsM_, isIn_, notH_, bnd, mo1, mo2, mo3, mo4, mo6, ml1, ml2, ml4, ml6, if_true, if_false, ax_10, ax_n4, ax_n6, and_self, hw])))
theorem op_sells {h : ax_Hp} {A : Ab} (oa : okA A) (ic : IC h A) (im : IM h A) (x1 x2 : Int32) : OP m_X7_sells m_X8_sells [.int x1, .int x2] h := by
  have hW := ic.1.1.1.1
  by_cases hw : 0 ≤ x1 ∧ x1 < nI (zW (bS A))
  · by_cases hx : 0 ≤ x2 ∧ x2 < 8
    · obtain ⟨i, hi, rfl⟩ := of_in hw.1 hw.2 (by omega)
      obtain ⟨j, hj, rfl⟩ := of_in hx.1 hx.2 (n := 8) (by omega)
      obtain ⟨h', e, r', f⟩ := sellTo_ is1 ic.1 hi hj
      obtain ⟨n0, n1, nr, nb, nc, nh⟩ := now_ ic.1
      obtain ⟨r1, r2, r3, r4, r5⟩ := nr i (by omega)
      refine OP_of (A := A) (B := bSet A (zsel (bS A) i j)) (v := nI (zO (bS A) i)) (okA_set oa rfl) im ⟨h', rI_of ((e_X7_sells_0 _ _ h).trans ?_), IC_set ic f r' rfl, FC_fr f⟩ (fun h1 m => ⟨_, rI_of ((e_X8_sells_0 _ _ h1).trans ?_), IM_set (h' := wI h1 51 i (nI j)) m (RM_sel m.1 hj) rfl (fun k hk => wI_ne (by omega)) (fun i hi => by rw [wI_ne (by omega)]), rfl, fun k hk => wI_ne (by omega)⟩)
      · simp (disch := omega) only [isWall_ is1 ic.1.1, isHouse_, hw, hx, and_self, if_true, bnd, ax_10, if_false, g_in, cl_, e, r3]
      · obtain ⟨p1, p2, p3, p4, p5⟩ := m.1.2.2.2.2.1 i (by omega)
        simp (disch := omega) only [isWallM_ m.1, isHouseM_, hw, hx, and_self, if_true, bnd, ax_10, if_false, g_in, cl_, p3]
    · exact OP_no (x := -1) 1 (by omega) oa ic im (rI_of ((e_X7_sells_0 _ _ h).trans (by simp only [isWall_ is1 ic.1.1, isHouse_, outs_, bnd, no1, no2, no3, no4, no6, lo1, lo2, lo4, lo6, if_true, if_false, ax_10, ax_n4, ax_n6, and_self, hw, hx]))) (fun h1 m => rI_of ((e_X8_sells_0 _ _ h1).trans (by simp only [isWallM_ m.1, isHouseM_, outsM_, isIn_, notH_, bnd, mo1, mo2, mo3, mo4, mo6, ml1, ml2, ml4, ml6, if_true, if_false, ax_10, ax_n4, ax_n6, and_self, hw, hx])))
  · exact OP_no (x := -1) 1 (by omega) oa ic im (rI_of ((e_X7_sells_0 _ _ h).trans (by simp only [isWall_ is1 ic.1.1, isHouse_, outs_, bnd, no1, no2, no3, no4, no6, lo1, lo2, lo4, lo6, if_true, if_false, ax_10, ax_n4, ax_n6, and_self, hw]))) (fun h1 m => rI_of ((e_X8_sells_0 _ _ h1).trans (by simp only [isWallM_ m.1, isHouseM_, outsM_, isIn_, notH_, bnd, mo1, mo2, mo3, mo4, mo6, ml1, ml2, ml4, ml6, if_true, if_false, ax_10, ax_n4, ax_n6, and_self, hw])))
theorem op_needs {h : ax_Hp} {A : Ab} (oa : okA A) (ic : IC h A) (im : IM h A) (x1 x2 x3 : Int32) : OP m_X7_needs m_X8_needs [.int x1, .int x2, .int x3] h := by
  have hW := ic.1.1.1.1
  by_cases hw : 0 ≤ x1 ∧ x1 < 8
  · by_cases ha : x2 < 0
    · exact OP_no (x := -2) 2 (by omega) oa ic im (rI_of ((e_X7_needs_0 _ _ _ h).trans (by simp only [isWall_ is1 ic.1.1, isHouse_, outs_, bnd, no1, no2, no3, no4, no6, lo1, lo2, lo4, lo6, if_true, if_false, ax_10, ax_n4, ax_n6, and_self, hw, ha]))) (fun h1 m => rI_of ((e_X8_needs_0 _ _ _ h1).trans (by simp only [isWallM_ m.1, isHouseM_, outsM_, isIn_, notH_, bnd, mo1, mo2, mo3, mo4, mo6, ml1, ml2, ml4, ml6, if_true, if_false, ax_10, ax_n4, ax_n6, and_self, hw, lt0_of ha 5])))
    · by_cases hb : x2 < 6
      · by_cases hc : 0 ≤ x3
        · by_cases hd : x3 ≤ 9
          · obtain ⟨j, hj, rfl⟩ := of_in hw.1 hw.2 (n := 8) (by omega)
            obtain ⟨p, hp, rfl⟩ := of_in (n0l ha) hb (n := 6) (by omega)
            obtain ⟨v, _, hv, rfl⟩ := in_n (m := 0) (n := 9) rfl rfl hc hd (by omega) (by omega)
            obtain ⟨h', e, r', f⟩ := setNeed_ is1 ic.1 hj hp hv
            have q1 : 0 ≤ nI p ∧ nI p ≤ 5 := ⟨n0l ha, lt6_le5.mp hb⟩
            refine OP_of (A := A) (B := bSet A (znd (bS A) (6 * j + p) v)) (v := nI (zN (bS A) (6 * j + p))) (okA_set oa rfl) im ⟨h', rI_of ((e_X7_needs_0 _ _ _ h).trans ?_), IC_set ic f r' rfl, FC_fr f⟩ (fun h1 m => ⟨_, rI_of ((e_X8_needs_0 _ _ _ h1).trans ?_), IM_set (h' := wI h1 54 (6 * j + p) (nI v)) m (RM_nd m.1 hv) rfl (fun k hk => wI_ne (by omega)) (fun i hi => by rw [wI_ne (by omega)]), rfl, fun k hk => wI_ne (by omega)⟩)
            · simp (disch := omega) only [isHouse_, outs_, hw, ha, hb, hc, hd, and_self, if_true, bnd, ax_10, if_false, needAt_ is1 ic.1.1 hj hp, e]
            · have p1 := m.1.2.2.2.2.2.1 (6 * j + p) (by omega)
              simp (disch := omega) only [isHouseM_, isIn_, outsM_, hw, q1, hc, hd, and_self, if_true, bnd, ax_10, if_false, l6, mul_, add_, g_in, cl_, p1]
          · have q1 : 0 ≤ x2 ∧ x2 ≤ 5 := ⟨n0l ha, lt6_le5.mp hb⟩
            exact OP_no (x := -6) 6 (by omega) oa ic im (rI_of ((e_X7_needs_0 _ _ _ h).trans (by simp only [isWall_ is1 ic.1.1, isHouse_, outs_, bnd, no1, no2, no3, no4, no6, lo1, lo2, lo4, lo6, if_true, if_false, ax_10, ax_n4, ax_n6, and_self, hw, ha, hb, hc, hd]))) (fun h1 m => rI_of ((e_X8_needs_0 _ _ _ h1).trans (by simp only [isWallM_ m.1, isHouseM_, outsM_, isIn_, notH_, bnd, mo1, mo2, mo3, mo4, mo6, ml1, ml2, ml4, ml6, if_true, if_false, ax_10, ax_n4, ax_n6, and_self, hw, q1, hc, hd])))
        · have q1 : 0 ≤ x2 ∧ x2 ≤ 5 := ⟨n0l ha, lt6_le5.mp hb⟩
          exact OP_no (x := -4) 4 (by omega) oa ic im (rI_of ((e_X7_needs_0 _ _ _ h).trans (by simp only [isWall_ is1 ic.1.1, isHouse_, outs_, bnd, no1, no2, no3, no4, no6, lo1, lo2, lo4, lo6, if_true, if_false, ax_10, ax_n4, ax_n6, and_self, hw, ha, hb, hc]))) (fun h1 m => rI_of ((e_X8_needs_0 _ _ _ h1).trans (by simp only [isWallM_ m.1, isHouseM_, outsM_, isIn_, notH_, bnd, mo1, mo2, mo3, mo4, mo6, ml1, ml2, ml4, ml6, if_true, if_false, ax_10, ax_n4, ax_n6, and_self, hw, q1, hc])))
      · have q1 : ¬ (0 ≤ x2 ∧ x2 ≤ 5) := fun q => hb (lt6_le5.mpr q.2)
        exact OP_no (x := -2) 2 (by omega) oa ic im (rI_of ((e_X7_needs_0 _ _ _ h).trans (by simp only [isWall_ is1 ic.1.1, isHouse_, outs_, bnd, no1, no2, no3, no4, no6, lo1, lo2, lo4, lo6, if_true, if_false, ax_10, ax_n4, ax_n6, and_self, hw, ha, hb]))) (fun h1 m => rI_of ((e_X8_needs_0 _ _ _ h1).trans (by simp only [isWallM_ m.1, isHouseM_, outsM_, isIn_, notH_, bnd, mo1, mo2, mo3, mo4, mo6, ml1, ml2, ml4, ml6, if_true, if_false, ax_10, ax_n4, ax_n6, and_self, hw, q1])))
  · exact OP_no (x := -1) 1 (by omega) oa ic im (rI_of ((e_X7_needs_0 _ _ _ h).trans (by simp only [isWall_ is1 ic.1.1, isHouse_, outs_, bnd, no1, no2, no3, no4, no6, lo1, lo2, lo4, lo6, if_true, if_false, ax_10, ax_n4, ax_n6, and_self, hw]))) (fun h1 m => rI_of ((e_X8_needs_0 _ _ _ h1).trans (by simp only [isWallM_ m.1, isHouseM_, outsM_, isIn_, notH_, bnd, mo1, mo2, mo3, mo4, mo6, ml1, ml2, ml4, ml6, if_true, if_false, ax_10, ax_n4, ax_n6, and_self, hw])))
theorem bit_v (x : Int32) (j : Nat) : (x >>> (nI j &&& 31)) &&& 1 = if bitB x j = true then 1 else 0 := by
  unfold bitB
  have h := pk_andE (x >>> (nI j &&& 31)) (m := 1) 1 rfl
  obtain ⟨k, hk, e⟩ := h
  rw [e]
  have : k = 0 ∨ k = 1 := by omega
  rcases this with rfl | rfl <;> rfl
theorem op_bars {h : ax_Hp} {A : Ab} (oa : okA A) (ic : IC h A) (im : IM h A) (x1 x2 : Int32) : OP m_X7_bars m_X8_bars [.int x1, .int x2] h := by
  have hW := ic.1.1.1.1
  by_cases ht : twoP x1 x2
  · obtain ⟨a, b, ha, hb, hab, rfl, rfl⟩ := two_n ht
    obtain ⟨h', e, r', f⟩ := turnBar_ is1 ic.1 ha hb hab
    refine OP_of (A := A) (B := bSet A (zbr (bS A) a b)) (v := if bitB (zB (zbr (bS A) a b) a) b = true then 1 else 0) (okA_set oa rfl) im ⟨h', rI_of ((e_X7_bars_0 _ _ h).trans ?_), IC_set ic f r' rfl, FC_fr f⟩ (fun h1 m => ⟨_, rI_of ((e_X8_bars_0 _ _ h1).trans ?_), IM_set (h' := wI h1 55 a (zB (bS A) a ^^^ (1 <<< (nI b &&& 31)))) m (RM_br m.1) rfl (fun k hk => wI_ne (by omega)) (fun i hi => by rw [wI_ne (by omega)]), rfl, fun k hk => wI_ne (by omega)⟩)
    · simp (disch := omega) only [areTwo_pos ht, bnd, ax_10, if_false, e]
    · have p2 := m.1.2.2.2.2.2.2 a ha
      have hz : zB (zbr (bS A) a b) a = zB (bS A) a ^^^ (1 <<< (nI b &&& 31)) := upd_at _ _ _
      simp (disch := omega) only [areTwoM_pos ht, bnd, ax_10, if_false, g_in, cl_, wI_at, upd_at, p2, hz]
      rw [bit_v]
  · exact OP_no (x := -1) 1 (by omega) oa ic im (rI_of ((e_X7_bars_0 _ _ h).trans (by simp only [isWall_ is1 ic.1.1, isHouse_, outs_, bnd, no1, no2, no3, no4, no6, lo1, lo2, lo4, lo6, if_true, if_false, ax_10, ax_n4, ax_n6, and_self, areTwo_neg ht]))) (fun h1 m => rI_of ((e_X8_bars_0 _ _ h1).trans (by simp only [isWallM_ m.1, isHouseM_, outsM_, isIn_, notH_, bnd, mo1, mo2, mo3, mo4, mo6, ml1, ml2, ml4, ml6, if_true, if_false, ax_10, ax_n4, ax_n6, and_self, areTwoM_neg ht])))
theorem op_turn {h : ax_Hp} {A : Ab} (oa : okA A) (ic : IC h A) (im : IM h A) (x1 x2 x3 : Int32) : OP m_X7_turn m_X8_turn [.int x1, .int x2, .int x3] h := by
  have hW := ic.1.1.1.1
  by_cases hw : 0 ≤ x1 ∧ x1 < nI (zW (bS A))
  · by_cases ha : x2 < 0
    · exact OP_no (x := -2) 2 (by omega) oa ic im (rI_of ((e_X7_turn_0 _ _ _ h).trans (by simp only [isWall_ is1 ic.1.1, isHouse_, outs_, bnd, no1, no2, no3, no4, no6, lo1, lo2, lo4, lo6, if_true, if_false, ax_10, ax_n4, ax_n6, and_self, hw, ha]))) (fun h1 m => rI_of ((e_X8_turn_0 _ _ _ h1).trans (by simp only [isWallM_ m.1, isHouseM_, outsM_, isIn_, notH_, bnd, mo1, mo2, mo3, mo4, mo6, ml1, ml2, ml4, ml6, if_true, if_false, ax_10, ax_n4, ax_n6, and_self, hw, lt0_of ha 5])))
    · by_cases hb : x2 < 6
      · by_cases hc : 0 ≤ x3
        · by_cases hd : x3 ≤ 9
          · obtain ⟨i, hi, rfl⟩ := of_in hw.1 hw.2 (by omega)
            obtain ⟨k, hk, rfl⟩ := of_in (n0l ha) hb (n := 6) (by omega)
            obtain ⟨f, _, hf, rfl⟩ := in_n (m := 0) (n := 9) rfl rfl hc hd (by omega) (by omega)
            obtain ⟨h', e, r', fr⟩ := turnInto_ is1 ic.1.1 hi (k := k) (by omega) hf
            obtain ⟨n0, n1, nr, nb, nc, nh⟩ := now_ ic.1
            obtain ⟨r1, r2, r3, r4, r5⟩ := nr i (by omega)
            have q1 : 0 ≤ nI k ∧ nI k ≤ 5 := ⟨n0l ha, lt6_le5.mp hb⟩
            refine OP_of (A := A) (B := bSet A (zkf (bS A) i k f)) (v := 10 * nI (zK (bS A) i) + nI (zF (bS A) i)) (okA_set oa rfl) im ⟨h', rI_of ((e_X7_turn_0 _ _ _ h).trans ?_), IC_set ic fr r' rfl, FC_fr fr⟩ (fun h1 m => ⟨_, rI_of ((e_X8_turn_0 _ _ _ h1).trans ?_), IM_set (h' := wI (wI h1 49 i (nI k)) 50 i (nI f)) m (RM_kf m.1 (by omega) hf) rfl (fun k hk => by simp (disch := omega) only [wI_ne]) (fun i hi => by simp (disch := omega) only [wI_ne]), rfl, fun k hk => by simp (disch := omega) only [wI_ne]⟩)
            · simp (disch := omega) only [isWall_ is1 ic.1.1, outs_, hw, ha, hb, hc, hd, and_self, if_true, bnd, ax_10, if_false, g_in, cl_, e, r1, r2]
            · obtain ⟨p1, p2, p3, p4, p5⟩ := m.1.2.2.2.2.1 i (by omega)
              simp (disch := omega) only [isWallM_ m.1, isIn_, outsM_, hw, q1, hc, hd, and_self, if_true, bnd, ax_10, if_false, g_in, cl_, p1, p2]
          · have q1 : 0 ≤ x2 ∧ x2 ≤ 5 := ⟨n0l ha, lt6_le5.mp hb⟩
            exact OP_no (x := -6) 6 (by omega) oa ic im (rI_of ((e_X7_turn_0 _ _ _ h).trans (by simp only [isWall_ is1 ic.1.1, isHouse_, outs_, bnd, no1, no2, no3, no4, no6, lo1, lo2, lo4, lo6, if_true, if_false, ax_10, ax_n4, ax_n6, and_self, hw, ha, hb, hc, hd]))) (fun h1 m => rI_of ((e_X8_turn_0 _ _ _ h1).trans (by simp only [isWallM_ m.1, isHouseM_, outsM_, isIn_, notH_, bnd, mo1, mo2, mo3, mo4, mo6, ml1, ml2, ml4, ml6, if_true, if_false, ax_10, ax_n4, ax_n6, and_self, hw, q1, hc, hd])))
        · have q1 : 0 ≤ x2 ∧ x2 ≤ 5 := ⟨n0l ha, lt6_le5.mp hb⟩
          exact OP_no (x := -4) 4 (by omega) oa ic im (rI_of ((e_X7_turn_0 _ _ _ h).trans (by simp only [isWall_ is1 ic.1.1, isHouse_, outs_, bnd, no1, no2, no3, no4, no6, lo1, lo2, lo4, lo6, if_true, if_false, ax_10, ax_n4, ax_n6, and_self, hw, ha, hb, hc]))) (fun h1 m => rI_of ((e_X8_turn_0 _ _ _ h1).trans (by simp only [isWallM_ m.1, isHouseM_, outsM_, isIn_, notH_, bnd, mo1, mo2, mo3, mo4, mo6, ml1, ml2, ml4, ml6, if_true, if_false, ax_10, ax_n4, ax_n6, and_self, hw, q1, hc])))
      · have q1 : ¬ (0 ≤ x2 ∧ x2 ≤ 5) := fun q => hb (lt6_le5.mpr q.2)
        exact OP_no (x := -2) 2 (by omega) oa ic im (rI_of ((e_X7_turn_0 _ _ _ h).trans (by simp only [isWall_ is1 ic.1.1, isHouse_, outs_, bnd, no1, no2, no3, no4, no6, lo1, lo2, lo4, lo6, if_true, if_false, ax_10, ax_n4, ax_n6, and_self, hw, ha, hb]))) (fun h1 m => rI_of ((e_X8_turn_0 _ _ _ h1).trans (by simp only [isWallM_ m.1, isHouseM_, outsM_, isIn_, notH_, bnd, mo1, mo2, mo3, mo4, mo6, ml1, ml2, ml4, ml6, if_true, if_false, ax_10, ax_n4, ax_n6, and_self, hw, q1])))
  · exact OP_no (x := -1) 1 (by omega) oa ic im (rI_of ((e_X7_turn_0 _ _ _ h).trans (by simp only [isWall_ is1 ic.1.1, isHouse_, outs_, bnd, no1, no2, no3, no4, no6, lo1, lo2, lo4, lo6, if_true, if_false, ax_10, ax_n4, ax_n6, and_self, hw]))) (fun h1 m => rI_of ((e_X8_turn_0 _ _ _ h1).trans (by simp only [isWallM_ m.1, isHouseM_, outsM_, isIn_, notH_, bnd, mo1, mo2, mo3, mo4, mo6, ml1, ml2, ml4, ml6, if_true, if_false, ax_10, ax_n4, ax_n6, and_self, hw])))
