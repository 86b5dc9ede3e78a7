/-! operations: hours, letters, the row, counts, the image; some looks (by wip/whole/gen39.py) -/
theorem op_hours {h : ax_Hp} {A : Ab} (oa : okA A) (ic : IC h A) (im : IM h A) (x1 : Int32) : OP m_X7_hours m_X8_hours [.int x1] h := by
  have hW := ic.1.1.1.1
  have hT9 := oa.1
  by_cases ha : 1 ≤ x1
  · by_cases hb : x1 ≤ 60
    · obtain ⟨n, hn1, hn2, rfl⟩ := in_n (m := 1) (n := 60) rfl rfl ha hb (by omega) (by omega)
      have n1 : h.1 1 1 = nI (zT (bS A)) := ic.1.1.2.2.2.1
      by_cases hc : zT (bS A) + n ≤ 999
      · obtain ⟨h1, e1, i1, f1⟩ := pass_ ic hc
        refine OP_of (A := A) (B := bPass A n) (v := nI (zall (zit (bS A) 0 n) 0)) (okA_pass oa hc) im ⟨h1, rI_of ((e_X7_hours_0 _ h).trans ?_), i1, f1⟩ (fun h2 m => ?_)
        · simp (disch := omega) only [outs_, ha, hb, if_true, bnd, n1, add_, show (999 : Int32) = nI 999 from rfl, le_, hc, e1, allLacking_ is1 i1.1]
          rfl
        · obtain ⟨h3, e3, i3, g3⟩ := passM_ m hc
          have n2 := m.1.2.2.2.1
          refine ⟨h3, rI_of ((e_X8_hours_0 _ h2).trans ?_), i3, FM_gh g3⟩
          simp (disch := omega) only [outsM_, ha, hb, if_true, bnd, n2, add_, show (999 : Int32) = nI 999 from rfl, le_, hc, e3, allM_ i3.1]
          rfl
      · exact OP_no (x := -6) 6 (by omega) oa ic im (rI_of ((e_X7_hours_0 _ h).trans (by simp only [isWall_ is1 ic.1.1, isHouse_, outs_, bnd, no1, no2, no3, no4, no6, lo1, lo2, lo4, lo6, if_true, if_false, ax_10, ax_n4, ax_n6, and_self, ha, hb, n1, add_, show (999 : Int32) = nI 999 from rfl, le_ (a := zT (bS A) + n) (b := 999) (by omega) (by omega), hc]))) (fun h1 m => rI_of ((e_X8_hours_0 _ h1).trans (by simp only [isWallM_ m.1, isHouseM_, outsM_, isIn_, notH_, bnd, mo1, mo2, mo3, mo4, mo6, ml1, ml2, ml4, ml6, if_true, if_false, ax_10, ax_n4, ax_n6, and_self, ha, hb, m.1.2.2.2.1, add_, show (999 : Int32) = nI 999 from rfl, le_ (a := zT (bS A) + n) (b := 999) (by omega) (by omega), hc])))
    · exact OP_no (x := -6) 6 (by omega) oa ic im (rI_of ((e_X7_hours_0 _ h).trans (by simp only [isWall_ is1 ic.1.1, isHouse_, outs_, bnd, no1, no2, no3, no4, no6, lo1, lo2, lo4, lo6, if_true, if_false, ax_10, ax_n4, ax_n6, and_self, ha, hb]))) (fun h1 m => rI_of ((e_X8_hours_0 _ h1).trans (by simp only [isWallM_ m.1, isHouseM_, outsM_, isIn_, notH_, bnd, mo1, mo2, mo3, mo4, mo6, ml1, ml2, ml4, ml6, if_true, if_false, ax_10, ax_n4, ax_n6, and_self, ha, hb])))
  · exact OP_no (x := -4) 4 (by omega) oa ic im (rI_of ((e_X7_hours_0 _ h).trans (by simp only [isWall_ is1 ic.1.1, isHouse_, outs_, bnd, no1, no2, no3, no4, no6, lo1, lo2, lo4, lo6, if_true, if_false, ax_10, ax_n4, ax_n6, and_self, ha]))) (fun h1 m => rI_of ((e_X8_hours_0 _ h1).trans (by simp only [isWallM_ m.1, isHouseM_, outsM_, isIn_, notH_, bnd, mo1, mo2, mo3, mo4, mo6, ml1, ml2, ml4, ml6, if_true, if_false, ax_10, ax_n4, ax_n6, and_self, ha])))
def bLet (A : Ab) (c : Nat) : Ab := (A.1, A.2.1, A.2.2.1, (bLn A + 1, updN (bL A) (bLn A) c), A.2.2.2.2)
def bRow (A : Ab) (c : Nat) : Ab := (A.1, A.2.1, A.2.2.1, A.2.2.2.1, (bRn A + 1, updN (bR A) (bRn A) c), A.2.2.2.2.2)
def bClr (A : Ab) : Ab := (A.1, A.2.1, A.2.2.1, A.2.2.2.1, (0, bR A), A.2.2.2.2.2)
theorem updN_at (f : Nat → Nat) (i x : Nat) : updN f i x i = x := if_pos rfl
theorem updN_ne {f : Nat → Nat} {i x j : Nat} (h : j ≠ i) : updN f i x j = f j := if_neg h
theorem add_in {f : Nat → Int32} {g : Nat → Nat} {n c : Nat} (h : ∀ i, i < n → f i = nI (g i)) : ∀ i, i < n + 1 → upd f n (nI c) i = nI (updN g n c i) := by
  intro i hi
  by_cases e : i = n
  · rw [e, upd_at, updN_at]
  · rw [upd_ne e, updN_ne e]; exact h i (by omega)
theorem op_letter {h : ax_Hp} {A : Ab} (oa : okA A) (ic : IC h A) (im : IM h A) (x1 : Int32) : OP m_X7_letter m_X8_letter [.int x1] h := by
  have hW := ic.1.1.1.1
  have hN := oa.2.2.2.1
  have l96 : (96 : Int32) = nI 96 := rfl
  by_cases ha : 0 ≤ x1
  · by_cases hb : x1 ≤ 255
    · obtain ⟨c, _, hc, rfl⟩ := in_n (m := 0) (n := 255) rfl rfl ha hb (by omega) (by omega)
      have n1 : h.1 36 1 = nI (bLn A) := ic.2.2.2.2.1
      have hb' : ¬ 255 < nI c := le_nlt hb
      by_cases hd : bLn A < 96
      · refine OP_of (A := A) (B := bLet A c) (v := nI (bLn A + 1)) ?_ im ⟨wI (wI h 37 (bLn A) (nI c)) 36 1 (nI (bLn A + 1)), rI_of ((e_X7_letter_0 _ h).trans ?_), ?_, rfl, fun k hk => by simp (disch := omega) only [wI_ne]⟩ (fun h1 m => ⟨wI (wI h1 56 (bLn A) (nI c)) 47 14 (nI (bLn A + 1)), rI_of ((e_X8_letter_0 _ h1).trans ?_), ?_, rfl, fun k hk => by simp (disch := omega) only [wI_ne]⟩)
        · obtain ⟨b1, b2, b3, b4, b5, b6, b7⟩ := oa
          exact ⟨b1, b2, b3, by show bLn A + 1 ≤ 96; omega, fun i hi => by
            show updN (bL A) (bLn A) c i ≤ 255
            by_cases e : i = bLn A
            · rw [e, updN_at]; exact hc
            · rw [updN_ne e]; exact b5 i (by have : i < bLn A + 1 := hi; omega), b6, b7⟩
        · have e : rI m_X3_add [.ref 36, .int (nI c)] h = some (nI (bLn A + 1), wI (wI h 37 (bLn A) (nI c)) 36 1 (nI (bLn A + 1))) := by
            refine rI_of ((e_X3_add_0 _ h).trans ?_)
            simp (disch := omega) only [n1, l96, le_]
            rw [if_neg (by omega)]
            simp (disch := omega) only [g_in, cl_, wI_ne, wI_at, upd_at, n1, l1, add_]
          simp (disch := omega) only [ha, hb', if_true, if_false, n1, l96, lt_, hd, e, bnd]
        · obtain ⟨a1, a2, a3, a4, a5, a6, a7, a8, a9⟩ := ic
          refine ⟨RC_of (fun c _ _ => by simp (disch := omega) only [wI_ne]) a1, ?_, fun q => RC_of (fun c _ _ => by simp (disch := omega) only [wI_ne]) (a3 q), ?_, ?_, ?_, ?_, ?_, ?_⟩ <;> simp (disch := omega) only [wI_ne, wI_at, upd_at] <;> first | assumption | rfl | exact add_in a6
        · have n2 := m.2.2.2.2.1
          simp (disch := omega) only [outsM_, ha, hb, if_true, bnd, n2, l96, eq_]
          rw [if_neg (by omega)]
          simp (disch := omega) only [g_in, cl_, wI_ne, wI_at, upd_at, n2, l1, add_]
        · obtain ⟨a1, a2, a3, a4, a5, a6, a7, a8, a9⟩ := m
          refine ⟨RM_of (fun c _ _ => by simp (disch := omega) only [wI_ne]) (by simp (disch := omega) only [wI_ne, wI_at, upd_ne]) (by simp (disch := omega) only [wI_ne, wI_at, upd_ne]) (by simp (disch := omega) only [wI_ne, wI_at, upd_ne]) a1, ?_, fun q => KP_of (fun p _ _ => by simp (disch := omega) only [wI_ne]) (a3 q), ?_, ?_, ?_, ?_, ?_, ?_⟩ <;> simp (disch := omega) only [wI_ne, wI_at, upd_at, upd_ne] <;> first | assumption | rfl | exact add_in a6
      · have e9 : bLn A = 96 := by omega
        have n2 : h.1 36 1 = 96 := by rw [n1, e9]; rfl
        have lt9 : ¬ (96 : Int32) < 96 := by decide
        have n3 : ∀ h1, IM h1 A → h1.1 47 14 = 96 := fun h1 m => by rw [m.2.2.2.2.1, e9]; rfl
        exact OP_no (x := -6) 6 (by omega) oa ic im (rI_of ((e_X7_letter_0 _ h).trans (by simp only [isWall_ is1 ic.1.1, isHouse_, outs_, bnd, no1, no2, no3, no4, no6, lo1, lo2, lo4, lo6, if_true, if_false, ax_10, ax_n4, ax_n6, and_self, ha, hb', n2, lt9]))) (fun h1 m => rI_of ((e_X8_letter_0 _ h1).trans (by simp only [isWallM_ m.1, isHouseM_, outsM_, isIn_, notH_, bnd, mo1, mo2, mo3, mo4, mo6, ml1, ml2, ml4, ml6, if_true, if_false, ax_10, ax_n4, ax_n6, and_self, ha, hb, n3 h1 m])))
    · exact OP_no (x := -6) 6 (by omega) oa ic im (rI_of ((e_X7_letter_0 _ h).trans (by simp only [isWall_ is1 ic.1.1, isHouse_, outs_, bnd, no1, no2, no3, no4, no6, lo1, lo2, lo4, lo6, if_true, if_false, ax_10, ax_n4, ax_n6, and_self, ha, nle_lt hb]))) (fun h1 m => rI_of ((e_X8_letter_0 _ h1).trans (by simp only [isWallM_ m.1, isHouseM_, outsM_, isIn_, notH_, bnd, mo1, mo2, mo3, mo4, mo6, ml1, ml2, ml4, ml6, if_true, if_false, ax_10, ax_n4, ax_n6, and_self, ha, hb])))
  · exact OP_no (x := -4) 4 (by omega) oa ic im (rI_of ((e_X7_letter_0 _ h).trans (by simp only [isWall_ is1 ic.1.1, isHouse_, outs_, bnd, no1, no2, no3, no4, no6, lo1, lo2, lo4, lo6, if_true, if_false, ax_10, ax_n4, ax_n6, and_self, ha]))) (fun h1 m => rI_of ((e_X8_letter_0 _ h1).trans (by simp only [isWallM_ m.1, isHouseM_, outsM_, isIn_, notH_, bnd, mo1, mo2, mo3, mo4, mo6, ml1, ml2, ml4, ml6, if_true, if_false, ax_10, ax_n4, ax_n6, and_self, ha])))
theorem op_row {h : ax_Hp} {A : Ab} (oa : okA A) (ic : IC h A) (im : IM h A) (x1 : Int32) : OP m_X7_row m_X8_row [.int x1] h := by
  have hW := ic.1.1.1.1
  have hN := oa.2.2.2.2.2.1
  have l96 : (16 : Int32) = nI 16 := rfl
  by_cases ha : 0 ≤ x1
  · by_cases hb : x1 ≤ 99
    · obtain ⟨c, _, hc, rfl⟩ := in_n (m := 0) (n := 99) rfl rfl ha hb (by omega) (by omega)
      have n1 : h.1 38 1 = nI (bRn A) := ic.2.2.2.2.2.2.1
      have hb' : ¬ 99 < nI c := le_nlt hb
      by_cases hd : bRn A < 16
      · refine OP_of (A := A) (B := bRow A c) (v := nI (bRn A + 1)) ?_ im ⟨wI (wI h 39 (bRn A) (nI c)) 38 1 (nI (bRn A + 1)), rI_of ((e_X7_row_0 _ h).trans ?_), ?_, rfl, fun k hk => by simp (disch := omega) only [wI_ne]⟩ (fun h1 m => ⟨wI (wI h1 65 (bRn A) (nI c)) 47 34 (nI (bRn A + 1)), rI_of ((e_X8_row_0 _ h1).trans ?_), ?_, rfl, fun k hk => by simp (disch := omega) only [wI_ne]⟩)
        · obtain ⟨b1, b2, b3, b4, b5, b6, b7⟩ := oa
          exact ⟨b1, b2, b3, b4, b5, by show bRn A + 1 ≤ 16; omega, fun i hi => by
            show updN (bR A) (bRn A) c i ≤ 99
            by_cases e : i = bRn A
            · rw [e, updN_at]; exact hc
            · rw [updN_ne e]; exact b7 i (by have : i < bRn A + 1 := hi; omega)⟩
        · have e : rI m_X4_add [.ref 38, .int (nI c)] h = some (nI (bRn A + 1), wI (wI h 39 (bRn A) (nI c)) 38 1 (nI (bRn A + 1))) := by
            refine rI_of ((e_X4_add_0 _ h).trans ?_)
            simp (disch := omega) only [n1, l96, le_]
            rw [if_neg (by omega)]
            simp (disch := omega) only [g_in, cl_, wI_ne, wI_at, upd_at, n1, l1, add_]
          simp (disch := omega) only [ha, hb', if_true, if_false, n1, l96, lt_, hd, e, bnd]
        · obtain ⟨a1, a2, a3, a4, a5, a6, a7, a8, a9⟩ := ic
          refine ⟨RC_of (fun c _ _ => by simp (disch := omega) only [wI_ne]) a1, ?_, fun q => RC_of (fun c _ _ => by simp (disch := omega) only [wI_ne]) (a3 q), ?_, ?_, ?_, ?_, ?_, ?_⟩ <;> simp (disch := omega) only [wI_ne, wI_at, upd_at] <;> first | assumption | rfl | exact add_in a8
        · have n2 := m.2.2.2.2.2.2.1
          simp (disch := omega) only [outsM_, ha, hb, if_true, bnd, n2, l96, eq_]
          rw [if_neg (by omega)]
          simp (disch := omega) only [g_in, cl_, wI_ne, wI_at, upd_at, n2, l1, add_]
        · obtain ⟨a1, a2, a3, a4, a5, a6, a7, a8, a9⟩ := m
          refine ⟨RM_of (fun c _ _ => by simp (disch := omega) only [wI_ne]) (by simp (disch := omega) only [wI_ne, wI_at, upd_ne]) (by simp (disch := omega) only [wI_ne, wI_at, upd_ne]) (by simp (disch := omega) only [wI_ne, wI_at, upd_ne]) a1, ?_, fun q => KP_of (fun p _ _ => by simp (disch := omega) only [wI_ne]) (a3 q), ?_, ?_, ?_, ?_, ?_, ?_⟩ <;> simp (disch := omega) only [wI_ne, wI_at, upd_at, upd_ne] <;> first | assumption | rfl | exact add_in a8
      · have e9 : bRn A = 16 := by omega
        have n2 : h.1 38 1 = 16 := by rw [n1, e9]; rfl
        have lt9 : ¬ (16 : Int32) < 16 := by decide
        have n3 : ∀ h1, IM h1 A → h1.1 47 34 = 16 := fun h1 m => by rw [m.2.2.2.2.2.2.1, e9]; rfl
        exact OP_no (x := -6) 6 (by omega) oa ic im (rI_of ((e_X7_row_0 _ h).trans (by simp only [isWall_ is1 ic.1.1, isHouse_, outs_, bnd, no1, no2, no3, no4, no6, lo1, lo2, lo4, lo6, if_true, if_false, ax_10, ax_n4, ax_n6, and_self, ha, hb', n2, lt9]))) (fun h1 m => rI_of ((e_X8_row_0 _ h1).trans (by simp only [isWallM_ m.1, isHouseM_, outsM_, isIn_, notH_, bnd, mo1, mo2, mo3, mo4, mo6, ml1, ml2, ml4, ml6, if_true, if_false, ax_10, ax_n4, ax_n6, and_self, ha, hb, n3 h1 m])))
    · exact OP_no (x := -6) 6 (by omega) oa ic im (rI_of ((e_X7_row_0 _ h).trans (by simp only [isWall_ is1 ic.1.1, isHouse_, outs_, bnd, no1, no2, no3, no4, no6, lo1, lo2, lo4, lo6, if_true, if_false, ax_10, ax_n4, ax_n6, and_self, ha, nle_lt hb]))) (fun h1 m => rI_of ((e_X8_row_0 _ h1).trans (by simp only [isWallM_ m.1, isHouseM_, outsM_, isIn_, notH_, bnd, mo1, mo2, mo3, mo4, mo6, ml1, ml2, ml4, ml6, if_true, if_false, ax_10, ax_n4, ax_n6, and_self, ha, hb])))
  · exact OP_no (x := -4) 4 (by omega) oa ic im (rI_of ((e_X7_row_0 _ h).trans (by simp only [isWall_ is1 ic.1.1, isHouse_, outs_, bnd, no1, no2, no3, no4, no6, lo1, lo2, lo4, lo6, if_true, if_false, ax_10, ax_n4, ax_n6, and_self, ha]))) (fun h1 m => rI_of ((e_X8_row_0 _ h1).trans (by simp only [isWallM_ m.1, isHouseM_, outsM_, isIn_, notH_, bnd, mo1, mo2, mo3, mo4, mo6, ml1, ml2, ml4, ml6, if_true, if_false, ax_10, ax_n4, ax_n6, and_self, ha])))
theorem IC_clr {h : ax_Hp} {A : Ab} (ic : IC h A) : IC (wI h 38 1 0) (bClr A) := by
  obtain ⟨a1, a2, a3, a4, a5, a6, a7, a8, a9⟩ := ic
  refine ⟨RC_of (fun c _ _ => by simp (disch := omega) only [wI_ne]) a1, ?_, fun q => RC_of (fun c _ _ => by simp (disch := omega) only [wI_ne]) (a3 q), ?_, ?_, ?_, ?_, ?_, ?_⟩ <;> simp (disch := omega) only [wI_ne, wI_at, upd_at] <;> first | assumption | rfl | exact fun i hi => absurd hi (Nat.not_lt_zero i)
theorem IM_clr {h : ax_Hp} {A : Ab} (im : IM h A) : IM (wI h 47 34 0) (bClr A) := by
  obtain ⟨a1, a2, a3, a4, a5, a6, a7, a8, a9⟩ := im
  refine ⟨RM_of (fun c _ _ => by simp (disch := omega) only [wI_ne]) (by simp (disch := omega) only [wI_ne, wI_at, upd_ne]) (by simp (disch := omega) only [wI_ne, wI_at, upd_ne]) (by simp (disch := omega) only [wI_ne, wI_at, upd_ne]) a1, ?_, fun q => KP_of (fun p _ _ => by simp (disch := omega) only [wI_ne]) (a3 q), ?_, ?_, ?_, ?_, ?_, ?_⟩ <;> simp (disch := omega) only [wI_ne, wI_at, upd_at, upd_ne] <;> first | assumption | rfl | exact fun i hi => absurd hi (Nat.not_lt_zero i)
theorem okA_clr {A : Ab} (oa : okA A) : okA (bClr A) := ⟨oa.1, oa.2.1, oa.2.2.1, oa.2.2.2.1, oa.2.2.2.2.1, by show 0 ≤ 16; omega, fun i hi => absurd hi (Nat.not_lt_zero i)⟩
theorem op_clear {h : ax_Hp} {A : Ab} (oa : okA A) (ic : IC h A) (im : IM h A) : OP m_X7_clear m_X8_clear [] h := by
  have hW := ic.1.1.1.1
  have n1 : h.1 38 1 = nI (bRn A) := ic.2.2.2.2.2.2.1
  refine OP_of (A := A) (B := bClr A) (v := nI (bRn A)) (okA_clr oa) im ⟨_, rI_of ((e_X7_clear_0 h).trans (by rw [n1])), IC_clr ic, rfl, fun k hk => wI_ne (by omega)⟩ (fun h1 m => ⟨_, rI_of ((e_X8_clear_0 h1).trans (by rw [m.2.2.2.2.2.2.1])), IM_clr m, rfl, fun k hk => wI_ne (by omega)⟩)
def vcount (A : Ab) (k : Nat) : Int32 := if k = 0 then nI (zW (bS A)) else if k = 1 then nI (zT (bS A)) else if k = 2 then nI (zall (bS A) 0) else if k = 3 then zseen (bS A) 0 else if k = 4 then zlent (bS A) else if k = 5 then zholes (bS A) else if k = 6 then nI (bRn A) else nI (bLn A)
theorem op_count {h : ax_Hp} {A : Ab} (oa : okA A) (ic : IC h A) (im : IM h A) (x1 : Int32) : OP m_X7_count m_X8_count [.int x1] h := by
  have hW := ic.1.1.1.1
  obtain ⟨n0, n1, nr, nb, nc, nh⟩ := now_ ic.1
  have l11 : (11 : Int32) = nI 11 := rfl
  have l16 : (16 : Int32) = nI 16 := rfl
  by_cases hy : 11 ≤ x1 ∧ x1 ≤ 16
  · obtain ⟨k, hk1, hk2, rfl⟩ := in_n (m := 11) (n := 16) rfl rfl hy.1 hy.2 (by omega) (by omega)
    refine OP_q (v := bF A (k - 10)) oa ic im ⟨h, rI_of ((e_X7_count_0 _ h).trans ?_), QC.refl h⟩ (fun h1 m => ⟨h1, rI_of ((e_X8_count_0 _ h1).trans ?_), QM.refl m.1⟩)
    · simp (disch := omega) only [l0, l1, l2, l3, l4, l5, l6, l7, l10, l11, l16, eq_, lt_, sub_, g_in, cl_]
      rw [if_neg (by omega), if_neg (by omega), if_neg (by omega), if_neg (by omega), if_neg (by omega), if_neg (by omega), if_neg (by omega), if_neg (by omega), if_neg (by omega), if_neg (by omega)]
      rw [← ic.2.2.2.2.2.2.2.2 (k - 10) (by omega)]
    · simp (disch := omega) only [isIn_, hy, and_self, if_true, bnd, ax_10, if_false]
      simp (disch := omega) only [l10, sub_, g_in, cl_]
      rw [← m.2.2.2.2.2.2.2.2 (k - 10) (by omega)]
  · by_cases hx : 0 ≤ x1 ∧ x1 ≤ 7
    · obtain ⟨k, _, hk, rfl⟩ := in_n (m := 0) (n := 7) rfl rfl hx.1 hx.2 (by omega) (by omega)
      have n5 : h.1 36 1 = nI (bLn A) := ic.2.2.2.2.1
      have n7 : h.1 38 1 = nI (bRn A) := ic.2.2.2.2.2.2.1
      refine OP_q (v := vcount A k) oa ic im ⟨h, rI_of ((e_X7_count_0 _ h).trans ?_), QC.refl h⟩ (fun h1 m => ⟨h1, rI_of ((e_X8_count_0 _ h1).trans ?_), QM.refl m.1⟩)
      · simp (disch := omega) only [l0, l1, l2, l3, l4, l5, l6, l7, l11, eq_, lt_, vcount]
        repeat' split
        all_goals first | omega | rw [n0] | rw [n1] | rw [allLacking_ is1 ic.1, bnd] | rw [seenBits_ is1 ic.1, bnd] | rw [lentBits_ is1 ic.1.1, bnd] | rw [allHoles_ is1 ic.1.1, bnd] | rw [n7] | rw [n5]
      · simp (disch := omega) only [isIn_, hy, if_false, if_true, bnd, m.1.2.2.1, m.1.2.2.2.1, m.2.2.2.2.1, m.2.2.2.2.2.2.1, allM_ m.1, seenNow_ m.1, lentNow_ m.1, allHolesM_ m.1]
        simp (disch := omega) only [l0, l1, l2, l3, l4, l5, l6, l7, eq_, vcount]
        repeat' split
        all_goals first | rfl | omega
    · have e0 : ¬ x1 = 0 := fun e => hx (by rw [e]; decide)
      have e1 : ¬ x1 = 1 := fun e => hx (by rw [e]; decide)
      have e2 : ¬ x1 = 2 := fun e => hx (by rw [e]; decide)
      have e3 : ¬ x1 = 3 := fun e => hx (by rw [e]; decide)
      have e4 : ¬ x1 = 4 := fun e => hx (by rw [e]; decide)
      have e5 : ¬ x1 = 5 := fun e => hx (by rw [e]; decide)
      have e6 : ¬ x1 = 6 := fun e => hx (by rw [e]; decide)
      have e7 : ¬ x1 = 7 := fun e => hx (by rw [e]; decide)
      refine OP_q (v := -9) oa ic im ⟨h, rI_of ((e_X7_count_0 _ h).trans ?_), QC.refl h⟩ (fun h1 m => ⟨h1, rI_of ((e_X8_count_0 _ h1).trans ?_), QM.refl m.1⟩)
      · simp only [e0, e1, e2, e3, e4, e5, e6, e7, if_false]
        by_cases a : x1 < 11
        · rw [if_pos a]
        · by_cases b : 16 < x1
          · rw [if_neg a, if_pos b]
          · exact absurd ⟨nlt_le a, nlt_le b⟩ hy
      · simp only [isIn_, hy, e0, e1, e2, e3, e4, e5, e6, e7, if_false, if_true, bnd]
def bImg (A : Ab) : Ab := (A.1, (1, A.1), A.2.2)
def bOn (A : Ab) : Ab := (bK A, A.2)
theorem op_image {h : ax_Hp} {A : Ab} (oa : okA A) (ic : IC h A) (im : IM h A) : OP m_X7_image m_X8_image [] h := by
  have hW := ic.1.1.1.1
  refine OP_of (A := A) (B := bImg A) (v := nI (zT (bS A))) ⟨oa.1, by show 1 ≤ 1; omega, fun _ => ⟨by show zT (bS A) ≤ zT (bS A); omega, ic.1.1.1⟩, oa.2.2.2⟩ im ?_ (fun h1 m => ?_)
  · obtain ⟨h1, e1, r1, f1⟩ := copy_12_1 h ic.1
    have r2 : RC (wI h1 0 3 1) 1 (bS A) 0 := RC_of (fun c _ _ => (wI_ne (by omega)).trans (f1.2 c (by omega))) ic.1
    obtain ⟨a1, a2, a3, a4, a5, a6, a7, a8, a9⟩ := ic
    refine ⟨wI h1 0 3 1, rI_of ((e_X7_image_0 h).trans ?_), ⟨r2, ?_, fun _ => RC_of (fun c _ _ => wI_ne (by omega)) r1, ?_, ?_, ?_, ?_, ?_, ?_⟩, by show h1.2.2 = h.2.2; rw [f1.1], fun k hk => (wI_ne (by omega)).trans (f1.2 k (by omega))⟩
    · rw [e1, bnd, r2.1.2.2.2.1]
    · simp (disch := omega) only [wI_at, upd_at]; rfl
    · rw [wI_ne (by omega), f1.2 35 (by omega)]; exact a4
    · rw [wI_ne (by omega), f1.2 36 (by omega)]; exact a5
    · rw [wI_ne (by omega), f1.2 37 (by omega)]; exact a6
    · rw [wI_ne (by omega), f1.2 38 (by omega)]; exact a7
    · rw [wI_ne (by omega), f1.2 39 (by omega)]; exact a8
    · rw [wI_ne (by omega), f1.2 46 (by omega)]; exact a9
  · obtain ⟨a1, a2, a3, a4, a5, a6, a7, a8, a9⟩ := m
    have r0 : RM (wI h1 47 19 1) (bS A) 0 := RM_of (fun c _ _ => wI_ne (by omega)) (by simp (disch := omega) only [wI_at, upd_ne]) (by simp (disch := omega) only [wI_at, upd_ne]) (by simp (disch := omega) only [wI_at, upd_ne]) a1
    obtain ⟨h2, e2, k2, p2, c2, s2, t2⟩ := keeps_ (k := 0) r0 (by omega)
    refine ⟨h2, rI_of ((e_X8_image_0 h1).trans ?_), ⟨RM_of (fun c _ _ => c2 c (by omega) (by omega)) (s2 22 (by omega) (by omega)) (s2 8 (by omega) (by omega)) (s2 9 (by omega) (by omega)) r0, ?_, fun _ => k2, ?_, ?_, ?_, ?_, ?_, ?_⟩, by rw [p2]; rfl, fun k hk => (c2 k (by omega) (by omega)).trans (wI_ne (by omega))⟩
    · rw [show (0 : Int32) = nI 0 from rfl, e2, bnd, s2 9 (by omega) (by omega), r0.2.2.2.1]
    · rw [s2 19 (by omega) (by omega)]; simp (disch := omega) only [wI_at, upd_at]; rfl
    · rw [c2 61 (by omega) (by omega), wI_ne (by omega)]; exact a4
    · rw [s2 14 (by omega) (by omega)]; simp (disch := omega) only [wI_at, upd_ne]; exact a5
    · rw [c2 56 (by omega) (by omega), wI_ne (by omega)]; exact a6
    · rw [s2 34 (by omega) (by omega)]; simp (disch := omega) only [wI_at, upd_ne]; exact a7
    · rw [c2 65 (by omega) (by omega), wI_ne (by omega)]; exact a8
    · rw [c2 48 (by omega) (by omega), wI_ne (by omega)]; exact a9
theorem op_on {h : ax_Hp} {A : Ab} (oa : okA A) (ic : IC h A) (im : IM h A) : OP m_X7_on m_X8_on [] h := by
  have hW := ic.1.1.1.1
  have hI := oa.2.1
  have n1 := ic.2.1
  by_cases q : bI A = 1
  · have tk := (oa.2.2.1 q).1
    have n2 : h.1 0 3 = 1 := by rw [n1, q]; rfl
    refine OP_of (A := A) (B := bOn A) (v := nI (zT (bK A))) ⟨by show zT (bK A) ≤ 999; have := oa.1; omega, oa.2.1, fun q => ⟨Nat.le_refl _, (oa.2.2.1 q).2⟩, oa.2.2.2⟩ im ?_ (fun h1 m => ?_)
    · obtain ⟨h1, e1, r1, f1⟩ := copy_1_12 h (ic.2.2.1 q)
      obtain ⟨a1, a2, a3, a4, a5, a6, a7, a8, a9⟩ := ic
      refine ⟨h1, rI_of ((e_X7_on_0 h).trans ?_), ⟨r1, ?_, fun q => RC_of (fun c _ _ => f1.2 c (by omega)) (a3 q), ?_, ?_, ?_, ?_, ?_, ?_⟩, by rw [f1.1], fun k hk => f1.2 k (by omega)⟩
      · rw [n2, if_neg (by decide), e1, bnd, r1.1.2.2.2.1]
      · rw [f1.2 0 (by omega)]; exact a2
      · rw [f1.2 35 (by omega)]; exact fun i i1 i2 => a4 i i1 (by have : i ≤ zT (bK A) := i2; omega)
      · rw [f1.2 36 (by omega)]; exact a5
      · rw [f1.2 37 (by omega)]; exact a6
      · rw [f1.2 38 (by omega)]; exact a7
      · rw [f1.2 39 (by omega)]; exact a8
      · rw [f1.2 46 (by omega)]; exact a9
    · obtain ⟨a1, a2, a3, a4, a5, a6, a7, a8, a9⟩ := m
      obtain ⟨h2, e2, r2, p2, c2, s2⟩ := takes_ (k := 0) (w := 0) (a3 q) (oa.2.2.1 q).2 (Or.inl ⟨rfl, by rcases a1.2.1 with t | t; exact t.2; omega⟩) (by omega)
      refine ⟨h2, rI_of ((e_X8_on_0 h1).trans ?_), ⟨r2, ?_, fun q => KP_of (fun p _ _ => by rw [c2 60 (by omega) (by omega)]) (a3 q), ?_, ?_, ?_, ?_, ?_, ?_⟩, by rw [p2], fun k hk => c2 k (by omega) (by omega)⟩
      · rw [a2, show nI (bI A) = 1 by rw [q]; rfl, if_neg (by decide), show rV m_X8_passesAll [.ref 47, .int 0, .int 0] h1 = some h2 from e2, bnd, r2.2.2.2.1]
      · rw [s2 19 (by omega) (by omega) (by omega) (by omega)]; exact a2
      · rw [c2 61 (by omega) (by omega)]; exact fun i i1 i2 => a4 i i1 (by have : i ≤ zT (bK A) := i2; omega)
      · rw [s2 14 (by omega) (by omega) (by omega) (by omega)]; exact a5
      · rw [c2 56 (by omega) (by omega)]; exact a6
      · rw [s2 34 (by omega) (by omega) (by omega) (by omega)]; exact a7
      · rw [c2 65 (by omega) (by omega)]; exact a8
      · rw [c2 48 (by omega) (by omega)]; exact a9
  · have q0 : bI A = 0 := by omega
    have n2 : h.1 0 3 = 0 := by rw [n1, q0]; rfl
    have n3 : ∀ h1, IM h1 A → h1.1 47 19 = 0 := fun h1 m => by rw [m.2.1, q0]; rfl
    exact OP_no (x := -3) 3 (by omega) oa ic im (rI_of ((e_X7_on_0  h).trans (by simp only [isWall_ is1 ic.1.1, isHouse_, outs_, bnd, no1, no2, no3, no4, no6, lo1, lo2, lo4, lo6, if_true, if_false, ax_10, ax_n4, ax_n6, and_self, n2]))) (fun h1 m => rI_of ((e_X8_on_0  h1).trans (by simp only [isWallM_ m.1, isHouseM_, outsM_, isIn_, notH_, bnd, mo1, mo2, mo3, mo4, mo6, ml1, ml2, ml4, ml6, if_true, if_false, ax_10, ax_n4, ax_n6, and_self, n3 h1 m])))
theorem op_coldest {h : ax_Hp} {A : Ab} (oa : okA A) (ic : IC h A) (im : IM h A) (x1 : Int32) : OP m_X7_coldest m_X8_coldest [.int x1] h := by
  have hW := ic.1.1.1.1
  by_cases ha : x1 < 0
  · exact OP_no (x := -2) 2 (by omega) oa ic im (rI_of ((e_X7_coldest_0 _ h).trans (by simp only [isWall_ is1 ic.1.1, isHouse_, outs_, bnd, no1, no2, no3, no4, no6, lo1, lo2, lo4, lo6, if_true, if_false, ax_10, ax_n4, ax_n6, and_self, ha]))) (fun h1 m => rI_of ((e_X8_coldest_0 _ h1).trans (by simp only [isWallM_ m.1, isHouseM_, outsM_, isIn_, notH_, bnd, mo1, mo2, mo3, mo4, mo6, ml1, ml2, ml4, ml6, if_true, if_false, ax_10, ax_n4, ax_n6, and_self, lt0_of ha 1])))
  · by_cases hb : x1 ≤ 1
    · obtain ⟨k, _, hk, rfl⟩ := in_n (m := 0) (n := 1) rfl rfl (n0l ha) hb (by omega) (by omega)
      have hx : 0 ≤ nI k ∧ nI k ≤ 1 := ⟨n0l ha, hb⟩
      have hl := zcold_lt (bS A) (n := 6) (by omega)
      refine OP_q (v := if k = 0 then nI (zcold (bS A) 6) else nI (znp (bS A) (zcold (bS A) 6))) oa ic im ⟨h, rI_of ((e_X7_coldest_0 _ h).trans ?_), QC.refl h⟩ (fun h1 m => ⟨h1, rI_of ((e_X8_coldest_0 _ h1).trans ?_), QM.refl m.1⟩)
      · simp (disch := omega) only [ha, hb, if_true, if_false, bnd, coldest_ is1 ic.1.1, needsAt_ is1 ic.1.1 hl, eq0]
        split <;> rfl
      · simp (disch := omega) only [isIn_, hx, and_self, if_true, bnd, ax_10, if_false]
        have e1 : zcold (bS A) 1 = 0 := by simp [zcold]
        have st : ∀ n, n ≤ 5 → ax_run m_X8_coldest 20 [(0, .ref 47), (1, .int (nI k)), (2, .int 0), (3, .int 1)] [] h1 = ax_run m_X8_coldest 20 [(0, .ref 47), (1, .int (nI k)), (2, .int (nI (zcold (bS A) (n + 1)))), (3, .int (nI (n + 1)))] [] h1 := by
          intro n
          induction n with
          | zero => intro _; rw [e1]; rfl
          | succ n ih =>
            intro hn
            refine (ih (by omega)).trans ?_
            have hl := zcold_lt (bS A) (n := n + 1) (by omega)
            have a1 := znp_le m.1.1 hl
            have a2 := znp_le m.1.1 (p := n + 1) (by omega)
            rw [e_X8_coldest_20]
            simp (disch := omega) only [l6, le_]
            rw [if_neg (by omega), needAtM_ m.1 (by omega), bnd, needAtM_ m.1 hl, bnd]
            simp (disch := omega) only [l1, add_, le_]
            rw [show zcold (bS A) (n + 1 + 1) = if znp (bS A) (zcold (bS A) (n + 1)) < znp (bS A) (n + 1) then n + 1 else zcold (bS A) (n + 1) from rfl]
            by_cases q : znp (bS A) (n + 1) ≤ znp (bS A) (zcold (bS A) (n + 1))
            · rw [if_pos q, if_neg (by omega)]
            · rw [if_neg q, if_pos (by omega)]
        refine (st 5 (by omega)).trans ?_
        rw [e_X8_coldest_20, if_pos (by decide), needAtM_ m.1 hl]
        simp (disch := omega) only [bnd, eq0]
        split <;> rfl
    · have hx : ¬ (0 ≤ x1 ∧ x1 ≤ 1) := fun q => hb q.2
      exact OP_no (x := -2) 2 (by omega) oa ic im (rI_of ((e_X7_coldest_0 _ h).trans (by simp only [isWall_ is1 ic.1.1, isHouse_, outs_, bnd, no1, no2, no3, no4, no6, lo1, lo2, lo4, lo6, if_true, if_false, ax_10, ax_n4, ax_n6, and_self, ha, hb]))) (fun h1 m => rI_of ((e_X8_coldest_0 _ h1).trans (by simp only [isWallM_ m.1, isHouseM_, outsM_, isIn_, notH_, bnd, mo1, mo2, mo3, mo4, mo6, ml1, ml2, ml4, ml6, if_true, if_false, ax_10, ax_n4, ax_n6, and_self, hx])))
def vat (s : Sp) (x : Int32) : Int32 := if 0 ≤ x then nI (zP s x.toNatClampNeg) else -9
def vbest (s : Sp) (k : Nat) : Int32 := if k = 0 then (zbest s (zW s)).1 else if k = 1 then vat s (zbest s (zW s)).1 else if k = 2 then zlent s else if k = 3 then zseen s 0 else zwarm s
theorem op_best {h : ax_Hp} {A : Ab} (oa : okA A) (ic : IC h A) (im : IM h A) (x1 : Int32) : OP m_X7_best m_X8_best [.int x1] h := by
  have hW := ic.1.1.1.1
  obtain ⟨n0, n1, nr, nb, nc, nh⟩ := now_ ic.1
  have zb : (zbest (bS A) (zW (bS A))).1 = -9 ∨ ∃ j, j < zW (bS A) ∧ (zbest (bS A) (zW (bS A))).1 = nI j := by
    rcases zbest_is (bS A) ic.1.1.1 (zW (bS A)) (Nat.le_refl _) with ⟨_, e⟩ | ⟨_, j, hj, e⟩
    · left; rw [e]
    · right; exact ⟨j, hj, by rw [e]⟩
  by_cases hx : 0 ≤ x1 ∧ x1 ≤ 4
  · obtain ⟨k, _, hk, rfl⟩ := in_n (m := 0) (n := 4) rfl rfl hx.1 hx.2 (by omega) (by omega)
    refine OP_q (v := vbest (bS A) k) oa ic im ⟨h, rI_of ((e_X7_best_0 _ h).trans ?_), QC.refl h⟩ (fun h1 m => ⟨h1, rI_of ((e_X8_best_0 _ h1).trans ?_), QM.refl m.1⟩)
    · simp (disch := omega) only [bestWall_ is1 ic.1, bnd, lentBits_ is1 ic.1.1, seenBits_ is1 ic.1, warmer_ is1 ic.1, isWall_ is1 ic.1.1]
      rcases zb with e | ⟨j, hj, e⟩
      · have t : ¬ (0 ≤ (-9 : Int32) ∧ -9 < nI (zW (bS A))) := fun q => absurd q.1 (by decide)
        simp (disch := omega) only [vbest, e, if_false, if_true, vat, ax_g9, false_and]
        simp (disch := omega) only [l0, l1, l2, l3, l4, eq_]
        repeat' split
        all_goals first | rfl | omega
      · have t : 0 ≤ nI j ∧ nI j < nI (zW (bS A)) := ⟨nI_pos' (by omega), (lt_ (by omega) (by omega)).mpr hj⟩
        simp (disch := omega) only [vbest, e, t, and_self, if_true, vat, cl_, ax_10, if_false, g_in, (nr j (by omega)).2.2.2.1]
        simp (disch := omega) only [l0, l1, l2, l3, l4, eq_]
        repeat' split
        all_goals first | rfl | omega
    · simp (disch := omega) only [bestWallM_ m.1, bnd, lentNow_ m.1, seenNow_ m.1, warmerM_ m.1]
      rcases zb with e | ⟨j, hj, e⟩
      · simp (disch := omega) only [vbest, e, vat, ax_g9, if_false]
        simp (disch := omega) only [l0, l1, l2, l3, l4, eq_]
        repeat' split
        all_goals first | rfl | omega
      · have t : 0 ≤ nI j := nI_pos' (by omega)
        simp (disch := omega) only [vbest, e, t, if_true, vat, cl_, g_in, (m.1.2.2.2.2.1 j (by omega)).2.2.2.1]
        simp (disch := omega) only [l0, l1, l2, l3, l4, eq_]
        repeat' split
        all_goals first | rfl | omega
  · have e0 : ¬ x1 = 0 := fun e => hx (by rw [e]; decide)
    have e1 : ¬ x1 = 1 := fun e => hx (by rw [e]; decide)
    have e2 : ¬ x1 = 2 := fun e => hx (by rw [e]; decide)
    have e3 : ¬ x1 = 3 := fun e => hx (by rw [e]; decide)
    have e4 : ¬ x1 = 4 := fun e => hx (by rw [e]; decide)
    exact OP_no (x := -2) 2 (by omega) oa ic im (rI_of ((e_X7_best_0 _ h).trans (by simp only [isWall_ is1 ic.1.1, isHouse_, outs_, bnd, no1, no2, no3, no4, no6, lo1, lo2, lo4, lo6, if_true, if_false, ax_10, ax_n4, ax_n6, and_self, e0, e1, e2, e3, e4, bestWall_ is1 ic.1]))) (fun h1 m => rI_of ((e_X8_best_0 _ h1).trans (by simp only [isWallM_ m.1, isHouseM_, outsM_, isIn_, notH_, bnd, mo1, mo2, mo3, mo4, mo6, ml1, ml2, ml4, ml6, if_true, if_false, ax_10, ax_n4, ax_n6, and_self, e0, e1, e2, e3, e4, bestWallM_ m.1])))
theorem op_each {h : ax_Hp} {A : Ab} (oa : okA A) (ic : IC h A) (im : IM h A) (x1 : Int32) : OP m_X7_each m_X8_each [.int x1] h := by
  have hW := ic.1.1.1.1
  by_cases hw : 0 ≤ x1 ∧ x1 < 8
  · obtain ⟨j, hj, rfl⟩ := of_in hw.1 hw.2 (n := 8) (by omega)
    obtain ⟨n0, n1, nr, nb, nc, nh⟩ := now_ ic.1
    have c1 : ∀ h : ax_Hp, rI m_X7_bitsIn [.int (zat (bS A) j)] h = some (nI (cntB (fun i => decide (zP (bS A) i = j)) (zW (bS A))), h) := fun h => bitsIn_bm _ (by omega) h
    have c2 : ∀ h : ax_Hp, rI m_X8_bits [.int (zat (bS A) j)] h = some (nI (cntB (fun i => decide (zP (bS A) i = j)) (zW (bS A))), h) := fun h => bits_bm _ (by omega) h
    have hl := cntB_le (fun i => decide (zP (bS A) i = j)) (zW (bS A))
    generalize cntB (fun i => decide (zP (bS A) i = j)) (zW (bS A)) = c at c1 c2 hl
    by_cases q : c = 0
    · subst q
      have c1' : ∀ h : ax_Hp, rI m_X7_bitsIn [.int (zat (bS A) j)] h = some (0, h) := c1
      have c2' : ∀ h : ax_Hp, rI m_X8_bits [.int (zat (bS A) j)] h = some (0, h) := c2
      exact OP_no (x := -3) 3 (by omega) oa ic im (rI_of ((e_X7_each_0 _ h).trans (by simp only [isWall_ is1 ic.1.1, isHouse_, outs_, bnd, no1, no2, no3, no4, no6, lo1, lo2, lo4, lo6, if_true, if_false, ax_10, ax_n4, ax_n6, and_self, hw, wallsAt_ is1 ic.1.1 (j := j) (by omega), c1']))) (fun h1 m => rI_of ((e_X8_each_0 _ h1).trans (by simp only [isWallM_ m.1, isHouseM_, outsM_, isIn_, notH_, bnd, mo1, mo2, mo3, mo4, mo6, ml1, ml2, ml4, ml6, if_true, if_false, ax_10, ax_n4, ax_n6, and_self, hw, wallsOfAt_ m.1 (j := j) (by omega), c2'])))
    · have q' : ¬ nI c = 0 := fun e => q ((eq0 (by omega)).mp e)
      have q2 : (!decide (nI c = 0)) = true := by rw [decide_eq_false q']; rfl
      refine OP_q (v := nI (zhas (bS A) j) / nI c) oa ic im ⟨h, rI_of ((e_X7_each_0 _ h).trans ?_), QC.refl h⟩ (fun h1 m => ⟨h1, rI_of ((e_X8_each_0 _ h1).trans ?_), QM.refl m.1⟩)
      · simp (disch := omega) only [isHouse_, hw, and_self, if_true, bnd, ax_10, if_false, wallsAt_ is1 ic.1.1 (j := j) (by omega), c1, q', g_in, cl_, nh j hj]
        rfl
      · simp (disch := omega) only [isHouseM_, hw, and_self, if_true, bnd, ax_10, if_false, wallsOfAt_ m.1 (j := j) (by omega), c2, q', hasAt_ m.1 hj]
        rfl
  · exact OP_no (x := -1) 1 (by omega) oa ic im (rI_of ((e_X7_each_0 _ h).trans (by simp only [isWall_ is1 ic.1.1, isHouse_, outs_, bnd, no1, no2, no3, no4, no6, lo1, lo2, lo4, lo6, if_true, if_false, ax_10, ax_n4, ax_n6, and_self, hw]))) (fun h1 m => rI_of ((e_X8_each_0 _ h1).trans (by simp only [isWallM_ m.1, isHouseM_, outsM_, isIn_, notH_, bnd, mo1, mo2, mo3, mo4, mo6, ml1, ml2, ml4, ml6, if_true, if_false, ax_10, ax_n4, ax_n6, and_self, hw])))
theorem op_panes {h : ax_Hp} {A : Ab} (oa : okA A) (ic : IC h A) (im : IM h A) (x1 : Int32) : OP m_X7_panes m_X8_panes [.int x1] h := by
  have hW := ic.1.1.1.1
  by_cases hw : 0 ≤ x1 ∧ x1 < nI (zW (bS A))
  · obtain ⟨i, hi, rfl⟩ := of_in hw.1 hw.2 (by omega)
    obtain ⟨n0, n1, nr, nb, nc, nh⟩ := now_ ic.1
    obtain ⟨r1, r2, r3, r4, r5⟩ := nr i (by omega)
    have okk := ic.1.1.1.2.2.1 i (by omega)
    have pn : ∀ h : ax_Hp, rI m_X2_panesOf [.int (nI (zK (bS A) i)), .int (nI (zF (bS A) i))] h = some (nI (if zK (bS A) i = 3 then 1 + zF (bS A) i / 2 else if zK (bS A) i = 5 then 1 + zF (bS A) i / 2 + 3 else 0), h) := by
      intro h
      refine rI_of ((e_X2_panesOf_0 _ _ h).trans ?_)
      simp (disch := omega) only [l0, l1, l2, l3, l5, eq_, div_, add_]
      repeat' split
      all_goals first | rfl | omega
    by_cases q : zK (bS A) i = 3 ∨ zK (bS A) i = 5
    · obtain ⟨v, hv⟩ : ∃ v, v = (if zK (bS A) i = 3 then 1 + zF (bS A) i / 2 else if zK (bS A) i = 5 then 1 + zF (bS A) i / 2 + 3 else 0) := ⟨_, rfl⟩
      rw [← hv] at pn
      have hv2 : 0 < v ∧ v < 100 := by
        rw [hv]
        rcases q with e | e <;> simp only [e, if_true] <;> (try split) <;> omega
      refine OP_q (v := nI v) oa ic im ⟨h, rI_of ((e_X7_panes_0 _ h).trans ?_), QC.refl h⟩ (fun h1 m => ⟨h1, rI_of ((e_X8_panes_0 _ h1).trans ?_), QM.refl m.1⟩)
      · simp (disch := omega) only [isWall_ is1 ic.1.1, hw, and_self, if_true, bnd, ax_10, if_false, g_in, cl_, r1, r2, pn, eq0]
        rw [if_neg (by omega)]
      · obtain ⟨p1, p2, p3, p4, p5⟩ := m.1.2.2.2.2.1 i (by omega)
        simp (disch := omega) only [isWallM_ m.1, hw, and_self, if_true, bnd, ax_10, if_false, g_in, cl_, p1, p2]
        simp (disch := omega) only [l0, l1, l2, l3, l5, eq_, div_, add_]
        rcases q with e | e
        · rw [hv, if_pos e, if_pos e, if_neg (by omega)]; rfl
        · have n3 : ¬ zK (bS A) i = 3 := by omega
          simp only [hv, if_neg n3, if_pos e]
    · have k3 : ¬ nI (zK (bS A) i) = 3 := fun e => q (Or.inl ((eq_ (b := 3) (by omega) (by omega)).mp e))
      have k5 : ¬ nI (zK (bS A) i) = 5 := fun e => q (Or.inr ((eq_ (b := 5) (by omega) (by omega)).mp e))
      have pn0 : ∀ h : ax_Hp, rI m_X2_panesOf [.int (nI (zK (bS A) i)), .int (nI (zF (bS A) i))] h = some (0, h) := fun h => by
        rw [pn, if_neg (by omega), if_neg (by omega)]; rfl
      exact OP_no (x := -3) 3 (by omega) oa ic im (rI_of ((e_X7_panes_0 _ h).trans (by simp (disch := omega) only [isWall_ is1 ic.1.1, hw, and_self, if_true, bnd, ax_10, if_false, g_in, cl_, r1, r2, pn0, no3]))) (fun h1 m => rI_of ((e_X8_panes_0 _ h1).trans (by
        obtain ⟨p1, p2, p3, p4, p5⟩ := m.1.2.2.2.2.1 i (by omega)
        simp (disch := omega) only [isWallM_ m.1, hw, and_self, if_true, bnd, ax_10, if_false, g_in, cl_, p1, p2, k3, k5, mo3])))
  · exact OP_no (x := -1) 1 (by omega) oa ic im (rI_of ((e_X7_panes_0 _ h).trans (by simp only [isWall_ is1 ic.1.1, isHouse_, outs_, bnd, no1, no2, no3, no4, no6, lo1, lo2, lo4, lo6, if_true, if_false, ax_10, ax_n4, ax_n6, and_self, hw]))) (fun h1 m => rI_of ((e_X8_panes_0 _ h1).trans (by simp only [isWallM_ m.1, isHouseM_, outsM_, isIn_, notH_, bnd, mo1, mo2, mo3, mo4, mo6, ml1, ml2, ml4, ml6, if_true, if_false, ax_10, ax_n4, ax_n6, and_self, hw])))
def zspare (s : Sp) : Int32 := bm (fun i => decide (zlwo s 0 i ≤ zlack s 0 (zP s i))) (zW s)
theorem op_spare {h : ax_Hp} {A : Ab} (oa : okA A) (ic : IC h A) (im : IM h A) : OP m_X7_spare m_X8_spare [] h := by
  have hW := ic.1.1.1.1
  have ok := ic.1.1.1
  refine OP_q (v := zspare (bS A)) oa ic im ⟨h, rI_of ((e_X7_spare_0 h).trans ?_), QC.refl h⟩ (fun h1 m => ⟨h1, rI_of ((e_X8_spare_0 h1).trans ?_), QM.refl m.1⟩)
  · obtain ⟨n0, n1, nr, nb, nc, nh⟩ := now_ ic.1
    have e : rI m_X0_spareBits [.ref 40, .ref 1] h = some (zspare (bS A), h) := by
      refine rI_of ((e_X0_spareBits_0 h).trans ?_)
      refine (lp (fun k x => ax_run m_X0_spareBits 4 [(1, .ref 1), (2, .int x), (3, .int k)] [] h) (bm (fun i => decide (zlwo (bS A) 0 i ≤ zlack (bS A) 0 (zP (bS A) i)))) (zW (bS A)) (fun k hk => ?_)).trans ?_
      · show ax_run m_X0_spareBits 4 _ [] h = _
        have hP := (ok.2.2.1 k (by omega)).2.2.2
        have b1 := zlwo_le ok (w := 0) (by omega) (i := k) (by omega)
        have b2 := zlack_le ok (w := 0) (by omega) hP
        rw [e_X0_spareBits_4, n0]
        simp (disch := omega) only [le_]
        rw [if_neg (by omega), lwo_ is1 ic.1 hk, bnd]
        simp (disch := omega) only [g_in, cl_, (nr k (by omega)).2.2.2.1, lackOf_ is1 ic.1 hP, bnd, lt_, l1, add_, bm, decide_eq_true_eq]
        by_cases q : zlack (bS A) 0 (zP (bS A) k) < zlwo (bS A) 0 k
        · rw [if_pos q, if_neg (by omega)]
        · rw [if_neg q, if_pos (by omega)]
      · show ax_run m_X0_spareBits 4 _ [] h = _
        rw [e_X0_spareBits_4, n0]
        exact if_pos ((le_ (a := zW (bS A)) (b := zW (bS A)) (by omega) (by omega)).mpr (Nat.le_refl _))
    rw [e, bnd]
  · refine (lp (fun k x => ax_run m_X8_spare 4 [(0, .ref 47), (1, .int x), (2, .int k)] [] h1) (bm (fun i => decide (zlwo (bS A) 0 i ≤ zlack (bS A) 0 (zP (bS A) i)))) (zW (bS A)) (fun k hk => ?_)).trans ?_
    · show ax_run m_X8_spare 4 _ [] h1 = _
      have hP := (ok.2.2.1 k (by omega)).2.2.2
      have b1 := zlwo_le ok (w := 0) (by omega) (i := k) (by omega)
      have b2 := zlack_le ok (w := 0) (by omega) hP
      rw [e_X8_spare_4, m.1.2.2.1]
      simp (disch := omega) only [le_]
      rw [if_neg (by omega), lacksWithout_ m.1 hk, bnd]
      simp (disch := omega) only [g_in, cl_, (m.1.2.2.2.2.1 k (by omega)).2.2.2.1, lacks_ m.1 hP, bnd, lt_, l1, add_, bm, decide_eq_true_eq, Int32.or_zero]
      by_cases q : zlack (bS A) 0 (zP (bS A) k) < zlwo (bS A) 0 k
      · rw [if_pos q, if_neg (by omega)]
      · rw [if_neg q, if_pos (by omega)]
    · show ax_run m_X8_spare 4 _ [] h1 = _
      rw [e_X8_spare_4, m.1.2.2.1]
      exact if_pos ((le_ (a := zW (bS A)) (b := zW (bS A)) (by omega) (by omega)).mpr (Nat.le_refl _))
