/-! operations in mind: lots, lend, two (by wip/whole/gen43.py) -/
def nz (z : Int32) : Int32 := z * 1664525 + 1013904223
def dN (z : Int32) : Nat := z.toBitVec.toNat % 2 ^ 31 / 256 % 8
theorem draw_eq (z : Int32) : (z &&& 2147483647) / 256 - (z &&& 2147483647) / 256 / 8 * 8 = nI (dN z) := by
  have h1 : z.toBitVec.toNat % 2 ^ 31 < 2147483648 := Nat.mod_lt _ (by omega)
  rw [pk_and z 31 rfl, show (256 : Int32) = nI 256 from rfl, l8, div_ (a := z.toBitVec.toNat % 2 ^ 31) (d := 256) (by omega) (by omega) (by omega), rem_ (by omega) (by omega) (by omega)]
  rfl
theorem dN_lt (z : Int32) : dN z < 8 := Nat.mod_lt _ (by omega)
/-- the walls are taken by draws -/
def drw (s : Sp) (z : Int32) : Nat → Sp × Int32
  | 0 => (s, z)
  | k + 1 => (zput (drw s z k).1 k (dN (nz (drw s z k).2)), nz (drw s z k).2)
theorem drw_W (s : Sp) (z : Int32) (k : Nat) : zW (drw s z k).1 = zW s := by
  induction k with
  | zero => rfl
  | succ k ih => exact ih
theorem drw_T (s : Sp) (z : Int32) (k : Nat) : zT (drw s z k).1 = zT s := by
  induction k with
  | zero => rfl
  | succ k ih => exact ih
def lz (s : Sp) (z : Int32) : Nat → Int32
  | 0 => z
  | i + 1 => (drw s (lz s z i) (zW s)).2
def lval (t : Sp) (q : Nat) : Nat := if q = 0 then zall t 0 else cntB (fun j => decide (0 < zlack t 0 j)) 8
def lsum (s : Sp) (z : Int32) (q : Nat) : Nat → Int32
  | 0 => 0
  | i + 1 => lsum s z q i + nI (lval (zit (drw s (lz s z i) (zW s)).1 0 6) q)
theorem lots_ {h : ax_Hp} {s : Sp} {z : Int32} {n q : Nat} (r : RC h 1 s 0) (hT : zT s ≤ 999) (hn : n ≤ 20) (hq : q ≤ 1) :
    ∃ h', rI m_X6_overLots [.ref 43, .ref 1, .int (nI n), .int z, .int (nI q)] h = some (lsum s z q n, h') ∧ Fr 23 h h' := by
  have hW := r.1.1.1
  obtain ⟨h2, e2, f2, z2, c2⟩ := ex_loop (fun (k : Int32) (h : Int32 × Int32 × ax_Hp) => ax_run m_X6_overLots 9 [(0, .ref 43), (1, .ref 1), (2, .int (nI n)), (4, .int (nI q)), (5, .int h.1), (6, .int h.2.1), (7, .int k)] [] h.2.2) (fun k h' => Fr 23 h h'.2.2 ∧ h'.1 = lz s z k ∧ h'.2.1 = lsum s z q k) n (by
    intro k a hk ⟨fa, za, ca⟩
    have ra : RC a.2.2 1 s 0 := RC_of (fun k _ _ => fa.2 k (by omega)) r
    obtain ⟨h1, e1, r1, f1⟩ := begin_ ra
    obtain ⟨h3, e3, ⟨r3, f3⟩, z3⟩ := ex_loop (fun (i : Int32) (h : Int32 × ax_Hp) => ax_run m_X6_overLots 23 [(0, .ref 43), (1, .ref 1), (2, .int (nI n)), (4, .int (nI q)), (5, .int h.1), (6, .int a.2.1), (7, .int (nI k)), (8, .int i)] [] h.2) (fun i h' => (RC h'.2 23 (drw s a.1 i).1 0 ∧ Fr 23 h h'.2) ∧ h'.1 = (drw s a.1 i).2) (zW s) (by
      intro i b hi ⟨⟨rb, fb⟩, zb⟩
      obtain ⟨h4, e4, r4, f4⟩ := takeTo_ is23 rb.1 (i := i) (j := dN (nz b.1)) (by rw [drw_W]; exact hi) (dN_lt _)
      have w1 : b.2.1 23 0 = nI (zW s) := by rw [rb.1.2.2.1, drw_W]
      refine ⟨(nz b.1, h4), ?_, ⟨by rw [zb] at r4; exact r4, fb.trans f4⟩, by rw [zb]; rfl⟩
      show ax_run m_X6_overLots 23 [(0, .ref 43), (1, .ref 1), (2, .int (nI n)), (4, .int (nI q)), (5, .int b.1), (6, .int a.2.1), (7, .int (nI k)), (8, .int (nI i))] [] b.2 = ax_run m_X6_overLots 23 [(0, .ref 43), (1, .ref 1), (2, .int (nI n)), (4, .int (nI q)), (5, .int (nz b.1)), (6, .int a.2.1), (7, .int (nI k)), (8, .int (nI (i + 1)))] [] h4
      rw [e_X6_overLots_23, w1, if_neg (fun x => by
        have := (le_ (a := zW s) (b := i) (by omega) (by omega)).mp x
        omega), draw_eq, nI_1]
      show (rV m_X5_takeTo [.ref 23, .int (nI i), .int (nI (dN (nz b.1)))] b.2).bind _ = _
      rw [e4, bnd]
      rfl) (a.1, h1) (k0 := 0) ⟨⟨r1, fa.trans f1⟩, rfl⟩ (by omega)
    obtain ⟨h5, e5, r5, f5⟩ := goOn_ (n := 6) r3 (by rw [drw_T]; omega)
    have e5' : rV m_X6_goOn [.ref 43, .int 6] h3.2 = some h5 := e5
    have w3 : h3.2.1 23 0 = nI (zW s) := by rw [r3.1.2.2.1, drw_W]
    refine ⟨(lz s z (k + 1), lsum s z q (k + 1), h5), ?_, f3.trans f5, rfl, rfl⟩
    show ax_run m_X6_overLots 9 [(0, .ref 43), (1, .ref 1), (2, .int (nI n)), (4, .int (nI q)), (5, .int a.1), (6, .int a.2.1), (7, .int (nI k))] [] a.2.2 = ax_run m_X6_overLots 9 [(0, .ref 43), (1, .ref 1), (2, .int (nI n)), (4, .int (nI q)), (5, .int (lz s z (k + 1))), (6, .int (lsum s z q (k + 1))), (7, .int (nI (k + 1)))] [] h5
    rw [e_X6_overLots_9, if_neg (fun x => by
        have := (le_ (a := n) (b := k) (by omega) (by omega)).mp x
        omega), e1, bnd]
    refine e3.trans ?_
    show ax_run m_X6_overLots 23 [(0, .ref 43), (1, .ref 1), (2, .int (nI n)), (4, .int (nI q)), (5, .int h3.1), (6, .int a.2.1), (7, .int (nI k)), (8, .int (nI (zW s)))] [] h3.2 = _
    rw [e_X6_overLots_23, w3, if_pos ((le_ (a := zW s) (b := zW s) (by omega) (by omega)).mpr (Nat.le_refl _)), e5', bnd, z3]
    simp (disch := omega) only [eq0]
    by_cases hq0 : q = 0
    · rw [if_pos hq0, allLacking_ is23 r5, bnd, ca, za, nI_1]
      simp only [lsum, lz, lval, hq0, if_true]
    · rw [if_neg hq0, seenBits_ is23 r5, bnd]
      simp only []
      rw [show zseen (zit (drw s a.1 (zW s)).1 0 6) 0 = bm (fun j => decide (0 < zlack (zit (drw s a.1 (zW s)).1 0 6) 0 j)) 8 from rfl, bitsIn_bm _ (by omega), bnd, ca, za, nI_1]
      simp only [lsum, lz, lval, hq0, if_false]) (z, 0, h) (k0 := 0) ⟨Fr.refl 23 h, rfl, rfl⟩ (by omega)
  refine ⟨h2.2.2, rI_of ((e_X6_overLots_0 _ _ _ h).trans (e2.trans ?_)), f2⟩
  show ax_run m_X6_overLots 9 [(0, .ref 43), (1, .ref 1), (2, .int (nI n)), (4, .int (nI q)), (5, .int h2.1), (6, .int h2.2.1), (7, .int (nI n))] [] h2.2.2 = _
  rw [e_X6_overLots_9, if_pos ((le_ (a := n) (b := n) (by omega) (by omega)).mpr (Nat.le_refl _)), c2]
theorem drawM_ {h : ax_Hp} {z : Int32} (hz : h.1 47 35 = z) : rI m_X8_draw [.ref 47, .int 8] h = some (nI (dN (nz z)), wI h 47 35 (nz z)) := by
  refine rI_of ((e_X8_draw_0 _ h).trans ?_)
  rw [g_nz (by decide)]
  simp (disch := omega) only [wI_at, upd_at, hz]
  rw [draw_eq]
  rfl
theorem QM_slot {h h1 : ax_Hp} {s : Sp} {i : Nat} {x : Int32} (q : QM h h1 s) (hi : i ≠ 8 ∧ i ≠ 9 ∧ i ≠ 14 ∧ i ≠ 19 ∧ i ≠ 22 ∧ i ≠ 34) : QM h (wI h1 47 i x) s := by
  obtain ⟨a1, a2, a3, a5, a6, a7, a8, a9, a10⟩ := q
  refine ⟨a1, fun k hk => (wI_ne (by omega)).trans (a2 k hk), RM_of (fun c _ _ => wI_ne (by omega)) (by simp (disch := omega) only [wI_at, upd_ne]) (by simp (disch := omega) only [wI_at, upd_ne]) (by simp (disch := omega) only [wI_at, upd_ne]) a3, ?_, ?_, ?_, fun j hj => ?_, ?_, ?_⟩
  · rw [wI_ne (by omega)]; exact a5
  · rw [wI_ne (by omega)]; exact a6
  · rw [wI_ne (by omega)]; exact a7
  · simp (disch := omega) only [wI_at, upd_ne]; exact a8 j hj
  · rw [wI_ne (by omega)]; exact a9
  · rw [wI_ne (by omega)]; exact a10
theorem lotsM_ {h : ax_Hp} {s : Sp} {z : Int32} {n q : Nat} (r : RM h s 0) (hT : zT s ≤ 999) (hn : n ≤ 20) (hq : q ≤ 1) (hz : h.1 47 35 = z) :
    ∃ h', ax_run m_X8_lots 50 [(0, .ref 47), (1, .int (nI n)), (3, .int (nI q)), (5, .int 0), (6, .int 0)] [] h = some (some (.int (lsum s z q n)), h') ∧ QM h h' s := by
  have hW := r.1.1
  obtain ⟨h2, e2, q2, z2, c2⟩ := ex_loop (fun (k : Int32) (h : Int32 × ax_Hp) => ax_run m_X8_lots 50 [(0, .ref 47), (1, .int (nI n)), (3, .int (nI q)), (5, .int h.1), (6, .int k)] [] h.2) (fun k h' => QM h h'.2 s ∧ h'.2.1 47 35 = lz s z k ∧ h'.1 = lsum s z q k) n (by
    intro k a hk ⟨qa, za, ca⟩
    obtain ⟨h1, e1, q1, s1, _⟩ := QI_minds qa.2.2.1
    obtain ⟨h3, e3, q3, z3⟩ := ex_loop (fun (i : Int32) (h : ax_Hp) => ax_run m_X8_lots 63 [(0, .ref 47), (1, .int (nI n)), (3, .int (nI q)), (5, .int a.1), (6, .int (nI k)), (7, .int i)] [] h) (fun i h' => QI a.2 h' s (drw s (lz s z k) i).1 0 ∧ h'.1 47 35 = (drw s (lz s z k) i).2) (zW s) (by
      intro i b hi ⟨qb, zb⟩
      have q4 := QI_put (i := i) (QI_slot (i := 35) (x := nz (drw s (lz s z k) i).2) qb (by omega)) (dN_lt (nz (drw s (lz s z k) i).2))
      refine ⟨_, ?_, q4, by simp (disch := omega) only [wI_ne, wI_at, upd_at]; rfl⟩
      show ax_run m_X8_lots 63 _ [] b = ax_run m_X8_lots 63 _ [] _
      rw [e_X8_lots_63, qb.2.2.1.2.2.1, drw_W, if_neg (fun x => by
        have := (le_ (a := zW s) (b := i) (by omega) (by omega)).mp x
        omega), drawM_ zb, bnd]
      simp (disch := omega) only [g_in, cl_, nI_1]) h1 (k0 := 0) ⟨q1, (s1 35 (by omega) (by omega)).trans za⟩ (by omega)
    obtain ⟨h5, e5, q5, s5, _⟩ := QI_hours (n := 6) q3 (by rw [drw_T]; omega)
    have e5' : rV m_X8_goes_ [.ref 47, .int 6] h3 = some h5 := e5
    obtain ⟨h6, e6, q6, s6, _⟩ := QI_forgets q5
    refine ⟨(lsum s z q (k + 1), h6), ?_, qa.trans q6, ?_, rfl⟩
    · show ax_run m_X8_lots 50 [(0, .ref 47), (1, .int (nI n)), (3, .int (nI q)), (5, .int a.1), (6, .int (nI k))] [] a.2 = ax_run m_X8_lots 50 [(0, .ref 47), (1, .int (nI n)), (3, .int (nI q)), (5, .int (lsum s z q (k + 1))), (6, .int (nI (k + 1)))] [] h6
      rw [e_X8_lots_50, if_neg (fun x => by
        have := (le_ (a := n) (b := k) (by omega) (by omega)).mp x
        omega), e1, bnd]
      refine e3.trans ?_
      show ax_run m_X8_lots 63 [(0, .ref 47), (1, .int (nI n)), (3, .int (nI q)), (5, .int a.1), (6, .int (nI k)), (7, .int (nI (zW s)))] [] h3 = _
      rw [e_X8_lots_63, q3.2.2.1.2.2.1, drw_W, if_pos ((le_ (a := zW s) (b := zW s) (by omega) (by omega)).mpr (Nat.le_refl _)), e5', bnd]
      simp (disch := omega) only [eq0]
      by_cases hq0 : q = 0
      · rw [if_pos hq0, allM_ q5.2.2.1, bnd]
        simp only []
        rw [e6, bnd, ca, nI_1]
        simp only [lsum, lval, hq0, if_true]
      · rw [if_neg hq0, seenNow_ q5.2.2.1, bnd]
        simp only []
        rw [show zseen (zit (drw s (lz s z k) (zW s)).1 0 6) 0 = bm (fun j => decide (0 < zlack (zit (drw s (lz s z k) (zW s)).1 0 6) 0 j)) 8 from rfl, bits_bm _ (by omega), bnd]
        simp only []
        rw [e6, bnd, ca, nI_1]
        simp only [lsum, lval, hq0, if_false]
    · exact (s6 35 (by omega) (by omega) (by omega) (by omega)).trans ((s5 35 (by omega) (by omega)).trans z3)) (0, h) (k0 := 0) ⟨QM.refl r, hz, rfl⟩ (by omega)
  refine ⟨h2.2, e2.trans ?_, q2⟩
  show ax_run m_X8_lots 50 [(0, .ref 47), (1, .int (nI n)), (3, .int (nI q)), (5, .int h2.1), (6, .int (nI n))] [] h2.2 = _
  rw [e_X8_lots_50, if_pos ((le_ (a := n) (b := n) (by omega) (by omega)).mpr (Nat.le_refl _)), c2]
theorem op_lots {h : ax_Hp} {A : Ab} (oa : okA A) (ic : IC h A) (im : IM h A) (x1 x2 x3 : Int32) : OP m_X7_lots m_X8_lots [.int x1, .int x2, .int x3] h := by
  have hW := ic.1.1.1.1
  by_cases ha : 1 ≤ x1
  · by_cases hb : x1 ≤ 20
    · by_cases hc : x3 < 0
      · exact OP_no (x := -2) 2 (by omega) oa ic im (rI_of ((e_X7_lots_0 _ _ _ h).trans (by simp only [isWall_ is1 ic.1.1, isHouse_, outs_, bnd, no1, no2, no3, no4, no6, lo1, lo2, lo4, lo6, if_true, if_false, ax_10, ax_n4, ax_n6, and_self, ha, hb, hc]))) (fun h1 m => rI_of ((e_X8_lots_0 _ _ _ h1).trans (by simp only [isWallM_ m.1, isHouseM_, outsM_, isIn_, notH_, bnd, mo1, mo2, mo3, mo4, mo6, ml1, ml2, ml4, ml6, if_true, if_false, ax_10, ax_n4, ax_n6, and_self, ha, hb, lt0_of hc 1])))
      · by_cases hd : x3 ≤ 1
        · obtain ⟨n, hn1, hn, rfl⟩ := in_n (m := 1) (n := 20) rfl rfl ha hb (by omega) (by omega)
          obtain ⟨q, _, hq, rfl⟩ := in_n (m := 0) (n := 1) rfl rfl (n0l hc) hd (by omega) (by omega)
          have hx : 0 ≤ nI q ∧ nI q ≤ 1 := ⟨n0l hc, hd⟩
          refine OP_q (v := lsum (bS A) x2 q n) oa ic im ?_ (fun h1 m => ?_)
          · obtain ⟨h1, e1, f1⟩ := lots_ (z := x2) (n := n) (q := q) ic.1 oa.1 hn hq
            refine ⟨h1, rI_of ((e_X7_lots_0 _ _ _ h).trans ?_), QC.fr f1⟩
            simp only [outs_, ha, hb, hc, hd, if_true, if_false, bnd]
            have hq2 : q = 0 ∨ q = 1 := by omega
            rcases hq2 with rfl | rfl
            · rw [if_neg (by decide)]
              show (rI m_X6_overLots [.ref 43, .ref 1, .int (nI n), .int x2, .int (nI 0)] h).bind _ = _
              rw [e1, bnd]
            · rw [if_pos (by decide)]
              show (rI m_X6_overLots [.ref 43, .ref 1, .int (nI n), .int x2, .int (nI 1)] h).bind _ = _
              rw [e1, bnd]
          · obtain ⟨h2, e2, q2⟩ := lotsM_ (z := x2) (n := n) (q := q) (QM_slot (i := 35) (x := x2) (QM.refl m.1) (by omega)).2.2.1 oa.1 hn hq (by simp (disch := omega) only [wI_at, upd_at])
            refine ⟨h2, rI_of ((e_X8_lots_0 _ _ _ h1).trans ?_), (QM_slot (i := 35) (x := x2) (QM.refl m.1) (by omega)).trans q2⟩
            simp only [outsM_, isIn_, ha, hb, hx, and_self, ax_10, if_true, if_false, bnd]
            exact e2
        · have hx : ¬ (0 ≤ x3 ∧ x3 ≤ 1) := fun q => hd q.2
          exact OP_no (x := -2) 2 (by omega) oa ic im (rI_of ((e_X7_lots_0 _ _ _ h).trans (by simp only [isWall_ is1 ic.1.1, isHouse_, outs_, bnd, no1, no2, no3, no4, no6, lo1, lo2, lo4, lo6, if_true, if_false, ax_10, ax_n4, ax_n6, and_self, ha, hb, hc, hd]))) (fun h1 m => rI_of ((e_X8_lots_0 _ _ _ h1).trans (by simp only [isWallM_ m.1, isHouseM_, outsM_, isIn_, notH_, bnd, mo1, mo2, mo3, mo4, mo6, ml1, ml2, ml4, ml6, if_true, if_false, ax_10, ax_n4, ax_n6, and_self, ha, hb, hx])))
    · exact OP_no (x := -6) 6 (by omega) oa ic im (rI_of ((e_X7_lots_0 _ _ _ h).trans (by simp only [isWall_ is1 ic.1.1, isHouse_, outs_, bnd, no1, no2, no3, no4, no6, lo1, lo2, lo4, lo6, if_true, if_false, ax_10, ax_n4, ax_n6, and_self, ha, hb]))) (fun h1 m => rI_of ((e_X8_lots_0 _ _ _ h1).trans (by simp only [isWallM_ m.1, isHouseM_, outsM_, isIn_, notH_, bnd, mo1, mo2, mo3, mo4, mo6, ml1, ml2, ml4, ml6, if_true, if_false, ax_10, ax_n4, ax_n6, and_self, ha, hb])))
  · exact OP_no (x := -4) 4 (by omega) oa ic im (rI_of ((e_X7_lots_0 _ _ _ h).trans (by simp only [isWall_ is1 ic.1.1, isHouse_, outs_, bnd, no1, no2, no3, no4, no6, lo1, lo2, lo4, lo6, if_true, if_false, ax_10, ax_n4, ax_n6, and_self, ha]))) (fun h1 m => rI_of ((e_X8_lots_0 _ _ _ h1).trans (by simp only [isWallM_ m.1, isHouseM_, outsM_, isIn_, notH_, bnd, mo1, mo2, mo3, mo4, mo6, ml1, ml2, ml4, ml6, if_true, if_false, ax_10, ax_n4, ax_n6, and_self, ha])))
def ldF (s : Sp) (n : Nat) : Nat → Int32 × Nat
  | 0 => (-9, zall (zit s 0 n) 0)
  | k + 1 => if zall (zit (zput s (k / 8) (k % 8)) 0 n) 0 < (ldF s n k).2 then (nI (10 * (k / 8) + k % 8), zall (zit (zput s (k / 8) (k % 8)) 0 n) 0) else ldF s n k
theorem okS_it {s : Sp} (ok : okS s) {w n : Nat} (hT : zT s + n < 1000000) : okS (zit s w n) := by
  induction n with
  | zero => exact ok
  | succ n ih => exact okS_hour (ih (by omega)) (by rw [zit_T]; omega)
theorem ldF_le {s : Sp} (ok : okS s) {n : Nat} (hT : zT s + n < 1000000) (k : Nat) : (ldF s n k).2 ≤ 88 := by
  induction k with
  | zero => exact zall_le (okS_it ok hT) (by omega)
  | succ k ih =>
    simp only [ldF]
    split
    · exact zall_le (okS_it (okS_put ok (Nat.mod_lt _ (by omega))) hT) (by omega)
    · exact ih
theorem lend_ {h : ax_Hp} {s : Sp} {n : Nat} (r : RC h 1 s 0) (hT : zT s + n < 1000000) : ∃ h', rI m_X6_bestLoan [.ref 43, .ref 1, .int (nI n)] h = some ((ldF s n (8 * zW s)).1, h') ∧ Fr 23 h h' := by
  have hW := r.1.1.1
  have ok := r.1.1
  obtain ⟨h1, e1, r1, f1⟩ := begin_ r
  obtain ⟨h2, e2, r2, f2⟩ := goOn_ r1 hT
  obtain ⟨h3, e3, f3, b3, l3⟩ := ex_loop (fun (i : Int32) (h : Int32 × Int32 × ax_Hp) => ax_run m_X6_bestLoan 25 [(0, .ref 43), (1, .ref 1), (2, .int (nI n)), (3, .int h.1), (4, .int h.2.1), (5, .int i)] [] h.2.2) (fun i h' => Fr 23 h h'.2.2 ∧ h'.1 = (ldF s n (8 * i)).1 ∧ h'.2.1 = nI (ldF s n (8 * i)).2) (zW s) (by
    intro i a hi ⟨fa, ba, la⟩
    obtain ⟨h4, e4, f4, b4, l4⟩ := ex_loop (fun (j : Int32) (h : Int32 × Int32 × ax_Hp) => ax_run m_X6_bestLoan 37 [(0, .ref 43), (1, .ref 1), (2, .int (nI n)), (3, .int h.1), (4, .int h.2.1), (5, .int (nI i)), (6, .int j)] [] h.2.2) (fun j h' => Fr 23 h h'.2.2 ∧ h'.1 = (ldF s n (8 * i + j)).1 ∧ h'.2.1 = nI (ldF s n (8 * i + j)).2) 8 (by
      intro j b hj ⟨fb, bb, lb⟩
      have rb : RC b.2.2 1 s 0 := RC_of (fun k _ _ => fb.2 k (by omega)) r
      obtain ⟨h5, e5, r5, f5⟩ := begin_ rb
      obtain ⟨h6, e6, r6, f6⟩ := takeTo_ is23 r5.1 hi hj
      obtain ⟨h7, e7, r7, f7⟩ := goOn_ (n := n) r6 hT
      have d1 : (8 * i + j) / 8 = i := by omega
      have d2 : (8 * i + j) % 8 = j := by omega
      have z1 := zall_le r7.1.1 (w := 0) (by omega)
      have z2 := ldF_le ok hT (8 * i + j)
      refine ⟨((ldF s n (8 * i + j + 1)).1, nI (ldF s n (8 * i + j + 1)).2, h7), ?_, ((fb.trans f5).trans f6).trans f7, rfl, rfl⟩
      show ax_run m_X6_bestLoan 37 [(0, .ref 43), (1, .ref 1), (2, .int (nI n)), (3, .int b.1), (4, .int b.2.1), (5, .int (nI i)), (6, .int (nI j))] [] b.2.2 = ax_run m_X6_bestLoan 37 [(0, .ref 43), (1, .ref 1), (2, .int (nI n)), (3, .int (ldF s n (8 * i + j + 1)).1), (4, .int (nI (ldF s n (8 * i + j + 1)).2)), (5, .int (nI i)), (6, .int (nI (j + 1)))] [] h7
      rw [e_X6_bestLoan_37, if_neg (fun x => by
        have := (le_ (a := 8) (b := j) (by omega) (by omega)).mp x
        omega), e5, bnd, e6, bnd, e7, bnd, allLacking_ is23 r7, bnd, bb, lb]
      simp (disch := omega) only [le_, nI_1, ldF, d1, d2]
      by_cases q : zall (zit (zput s i j) 0 n) 0 < (ldF s n (8 * i + j)).2
      · rw [if_neg (by omega), if_pos q, allLacking_ is23 r7, bnd]
        simp only [l10, mul_, add_]
      · rw [if_pos (by omega), if_neg q]) a (k0 := 0) ⟨fa, ba, la⟩ (by omega)
    refine ⟨h4, ?_, f4, by rw [b4]; rfl, by rw [l4]; rfl⟩
    show ax_run m_X6_bestLoan 25 [(0, .ref 43), (1, .ref 1), (2, .int (nI n)), (3, .int a.1), (4, .int a.2.1), (5, .int (nI i))] [] a.2.2 = ax_run m_X6_bestLoan 25 [(0, .ref 43), (1, .ref 1), (2, .int (nI n)), (3, .int h4.1), (4, .int h4.2.1), (5, .int (nI (i + 1)))] [] h4.2.2
    rw [e_X6_bestLoan_25, fa.2 1 (by omega), r.1.2.2.1, if_neg (fun x => by
        have := (le_ (a := zW s) (b := i) (by omega) (by omega)).mp x
        omega)]
    refine e4.trans ?_
    show ax_run m_X6_bestLoan 37 [(0, .ref 43), (1, .ref 1), (2, .int (nI n)), (3, .int h4.1), (4, .int h4.2.1), (5, .int (nI i)), (6, .int (nI 8))] [] h4.2.2 = _
    rw [e_X6_bestLoan_37, if_pos (by decide), nI_1]) (-9, nI (zall (zit s 0 n) 0), h2) (k0 := 0) ⟨f1.trans f2, rfl, rfl⟩ (by omega)
  refine ⟨h3.2.2, rI_of ((e_X6_bestLoan_0 _ h).trans ?_), f3⟩
  rw [e1, bnd, e2, bnd, allLacking_ is23 r2, bnd]
  refine e3.trans ?_
  show ax_run m_X6_bestLoan 25 [(0, .ref 43), (1, .ref 1), (2, .int (nI n)), (3, .int h3.1), (4, .int h3.2.1), (5, .int (nI (zW s)))] [] h3.2.2 = _
  rw [e_X6_bestLoan_25, f3.2 1 (by omega), r.1.2.2.1, if_pos ((le_ (a := zW s) (b := zW s) (by omega) (by omega)).mpr (Nat.le_refl _)), b3]
theorem zput_self (s : Sp) (i : Nat) : zput s i (zP s i) = s := by
  unfold zput
  rw [updN_self]
theorem zput_zput (s : Sp) (i a b : Nat) : zput (zput s i a) i b = zput s i b := by
  show (zW s, zT s, zK s, zF s, zO s, updN (updN (zP s) i a) i b, _) = _
  rw [updN_updN]
  rfl
theorem lendM_ {h : ax_Hp} {s : Sp} {n : Nat} (r : RM h s 0) (hT : zT s + n < 1000000) : ∃ h', ax_run m_X8_lend 31 [(0, .ref 47), (1, .int (nI n)), (3, .int (-9)), (4, .int (nI (zall (zit s 0 n) 0))), (5, .int 0)] [] h = some (some (.int (ldF s n (8 * zW s)).1), h') ∧ QM h h' s := by
  have hW := r.1.1
  have ok := r.1
  obtain ⟨h3, e3, q3, b3, l3⟩ := ex_loop (fun (k : Int32) (h : Int32 × Int32 × ax_Hp) => ax_run m_X8_lend 31 [(0, .ref 47), (1, .int (nI n)), (3, .int h.1), (4, .int h.2.1), (5, .int k)] [] h.2.2) (fun k h' => QM h h'.2.2 s ∧ h'.1 = (ldF s n k).1 ∧ h'.2.1 = nI (ldF s n k).2) (8 * zW s) (by
    intro k a hk ⟨qa, ba, la⟩
    have m8 : k % 8 < 8 := Nat.mod_lt _ (by omega)
    have r1 := RM_put (i := k / 8) qa.2.2.1 m8
    have p1 := (qa.2.2.1.2.2.2.2.1 (k / 8) (by omega)).2.2.2.1
    obtain ⟨h4, e4, q4⟩ := allIn_ (n := n) r1 hT
    have z1 := zall_le (okS_it r1.1 (w := 0) (n := n) hT) (w := 0) (by omega)
    have z2 := ldF_le ok hT k
    have okP := (ok.2.2.1 (k / 8) (by omega)).2.2.2
    have r2 : RM (wI h4 52 (k / 8) (nI (zP s (k / 8)))) s 0 := by
      have r2 := RM_put (i := k / 8) q4.2.2.1 okP
      rw [zput_zput, zput_self] at r2
      exact r2
    have q5 : QN h (wI h4 52 (k / 8) (nI (zP s (k / 8)))) (zT s) s := QN.wr (QN.step (QN.wr (T := zT s) (t := s) qa (c := 52) (by omega) r1) q4 rfl) (c := 52) (by omega) r2
    refine ⟨((ldF s n (k + 1)).1, nI (ldF s n (k + 1)).2, wI h4 52 (k / 8) (nI (zP s (k / 8)))), ?_, q5, rfl, rfl⟩
    show ax_run m_X8_lend 31 [(0, .ref 47), (1, .int (nI n)), (3, .int a.1), (4, .int a.2.1), (5, .int (nI k))] [] a.2.2 = ax_run m_X8_lend 31 [(0, .ref 47), (1, .int (nI n)), (3, .int (ldF s n (k + 1)).1), (4, .int (nI (ldF s n (k + 1)).2)), (5, .int (nI (k + 1)))] [] (wI h4 52 (k / 8) (nI (zP s (k / 8))))
    rw [e_X8_lend_31, qa.2.2.1.2.2.1, ba, la, l8]
    simp (disch := omega) only [rem_]
    simp (disch := omega) only [mul_, le_, div_, g_in, cl_, p1]
    rw [if_neg (by omega), e4, bnd]
    simp (disch := omega) only [lt_, nI_1, l10, mul_, add_, ldF]
    by_cases q : zall (zit (zput s (k / 8) (k % 8)) 0 n) 0 < (ldF s n k).2
    · rw [if_pos q, if_pos q]
    · rw [if_neg q, if_neg q]) (-9, nI (zall (zit s 0 n) 0), h) (k0 := 0) ⟨QM.refl r, rfl, rfl⟩ (by omega)
  refine ⟨h3.2.2, e3.trans ?_, q3⟩
  show ax_run m_X8_lend 31 [(0, .ref 47), (1, .int (nI n)), (3, .int h3.1), (4, .int h3.2.1), (5, .int (nI (8 * zW s)))] [] h3.2.2 = _
  rw [e_X8_lend_31, q3.2.2.1.2.2.1, l8, mul_, if_pos ((le_ (a := 8 * zW s) (b := 8 * zW s) (by omega) (by omega)).mpr (Nat.le_refl _)), b3]
theorem op_lend {h : ax_Hp} {A : Ab} (oa : okA A) (ic : IC h A) (im : IM h A) (x1 : Int32) : OP m_X7_lend m_X8_lend [.int x1] h := by
  have hW := ic.1.1.1.1
  by_cases ha : 0 ≤ x1
  · by_cases hb : x1 ≤ 12
    · obtain ⟨n, _, hn, rfl⟩ := in_n (m := 0) (n := 12) rfl rfl ha hb (by omega) (by omega)
      refine OP_q (v := (ldF (bS A) n (8 * zW (bS A))).1) oa ic im ?_ (fun h1 m => ?_)
      · obtain ⟨h1, e1, f1⟩ := lend_ (n := n) ic.1 (tbig oa.1 (by omega))
        refine ⟨h1, rI_of ((e_X7_lend_0 _ h).trans ?_), QC.fr f1⟩
        simp only [outs_, ha, hb, if_true, bnd, e1]
      · obtain ⟨h2, e2, q2⟩ := allIn_ (n := n) m.1 (tbig oa.1 (by omega))
        obtain ⟨h3, e3, q3⟩ := lendM_ (n := n) q2.2.2.1 (tbig oa.1 (by omega))
        refine ⟨h3, rI_of ((e_X8_lend_0 _ h1).trans ?_), q2.trans q3⟩
        simp only [outsM_, ha, hb, if_true, bnd, e2]
        exact e3
    · exact OP_no (x := -6) 6 (by omega) oa ic im (rI_of ((e_X7_lend_0 _ h).trans (by simp only [isWall_ is1 ic.1.1, isHouse_, outs_, bnd, no1, no2, no3, no4, no6, lo1, lo2, lo4, lo6, if_true, if_false, ax_10, ax_n4, ax_n6, and_self, ha, hb]))) (fun h1 m => rI_of ((e_X8_lend_0 _ h1).trans (by simp only [isWallM_ m.1, isHouseM_, outsM_, isIn_, notH_, bnd, mo1, mo2, mo3, mo4, mo6, ml1, ml2, ml4, ml6, if_true, if_false, ax_10, ax_n4, ax_n6, and_self, ha, hb])))
  · exact OP_no (x := -4) 4 (by omega) oa ic im (rI_of ((e_X7_lend_0 _ h).trans (by simp only [isWall_ is1 ic.1.1, isHouse_, outs_, bnd, no1, no2, no3, no4, no6, lo1, lo2, lo4, lo6, if_true, if_false, ax_10, ax_n4, ax_n6, and_self, ha]))) (fun h1 m => rI_of ((e_X8_lend_0 _ h1).trans (by simp only [isWallM_ m.1, isHouseM_, outsM_, isIn_, notH_, bnd, mo1, mo2, mo3, mo4, mo6, ml1, ml2, ml4, ml6, if_true, if_false, ax_10, ax_n4, ax_n6, and_self, ha])))
