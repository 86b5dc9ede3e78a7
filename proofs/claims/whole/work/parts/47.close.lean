/-! operations: shares, close, split (by wip/whole/gen47.py) -/
theorem and_nI (a b : Nat) : nI a &&& nI b = nI (a &&& b) := by
  apply Int32.toBitVec_inj.1
  show BitVec.ofNat 32 a &&& BitVec.ofNat 32 b = BitVec.ofNat 32 (a &&& b)
  apply BitVec.eq_of_getLsbD_eq
  intro i hi
  simp [hi]
theorem or_nI (a b : Nat) : nI a ||| nI b = nI (a ||| b) := by
  apply Int32.toBitVec_inj.1
  show BitVec.ofNat 32 a ||| BitVec.ofNat 32 b = BitVec.ofNat 32 (a ||| b)
  apply BitVec.eq_of_getLsbD_eq
  intro i hi
  simp [hi]
theorem bit_nI {n i : Nat} (hn : n < 2147483648) (hi : i < 31) : bitB (nI n) i = n.testBit i := by
  have hq : n / 2 ^ i ≤ n := Nat.div_le_self _ _
  unfold bitB
  rw [shr_ hn (by omega), and1_ (by omega), Nat.testBit_eq_decide_div_mod_eq]
  congr 1
  exact propext (eq_ (b := 1) (by omega) (by omega))
theorem bmN_bit (p : Nat → Bool) {n i : Nat} (hi : i < n) : (bmN p n).testBit i = p i := by
  induction n with
  | zero => omega
  | succ n ih =>
    have hl := bmN_lt p n
    simp only [bmN]
    by_cases e : i = n
    · subst e
      cases q : p i with
      | true => rw [if_pos rfl, Nat.add_comm, Nat.testBit_two_pow_add_eq, Nat.testBit_lt_two_pow hl]; rfl
      | false => rw [if_neg (by decide), Nat.testBit_lt_two_pow hl]
    · cases q : p n with
      | true => rw [if_pos rfl, Nat.add_comm, Nat.testBit_two_pow_add_gt (by omega)]; exact ih (by omega)
      | false => rw [if_neg (by decide)]; exact ih (by omega)
theorem shl_W : ∀ n, n < 8 → (1 : Int32) <<< (nI n &&& 31) = nI (2 ^ n) := by decide
theorem pow_W {n : Nat} (h : n ≤ 7) : 2 ^ n ≤ 128 := show 2 ^ n ≤ 2 ^ 7 from Nat.pow_le_pow_right (by omega) h
theorem n9_ {j : Nat} (hj : j < 2147483648) : ¬ nI j = -9 := fun e => by
  have := nI_pos' (n := j) (by omega)
  rw [e] at this
  exact absurd this (by decide)
/-- the fewest, or none yet -/
def few (x : Int32 × Nat) : Int32 := if x.1 = -9 then -9 else nI x.2
def wth (s : Sp) (x : Int32) (j : Nat) : Nat := smN (zW s) (fun i => if bitB x i = true then zcov s i + 8 - dst (zO s i) j else 0)
theorem wth_le {s : Sp} (ok : okS s) (x : Int32) (j : Nat) : wth s x j ≤ 196 := by
  have hW := ok.1
  have h1 : wth s x j ≤ zW s * 28 := smN_le (fun k hk => by
    have := zcov_le ok (i := k) (by omega)
    show (if bitB x k = true then zcov s k + 8 - dst (zO s k) j else 0) ≤ 28
    split <;> omega)
  omega
theorem worth_ {h : ax_Hp} {s : Sp} {x : Int32} {j : Nat} (r : RC h 1 s 0) (hj : j < 8) : rI m_X0_worthOf [.ref 40, .ref 1, .int x, .int (nI j)] h = some (nI (wth s x j), h) := by
  have hW := r.1.1.1
  obtain ⟨n0, n1, nr, nb, nc, nh⟩ := now_ r
  refine rI_of ((e_X0_worthOf_0 _ _ h).trans ?_)
  refine (lp (fun k v => ax_run m_X0_worthOf 6 [(1, .ref 1), (2, .int x), (3, .int (nI j)), (4, .int v), (5, .int k)] [] h) (fun n => nI (smN n (fun i => if bitB x i = true then zcov s i + 8 - dst (zO s i) j else 0))) (zW s) (fun k hk => ?_)).trans ?_
  · show ax_run m_X0_worthOf 6 _ [] h = ax_run m_X0_worthOf 6 _ [] h
    have okO := (r.1.1.2.2.1 k (by omega)).2.2.1
    have hd := dst_lt okO hj
    have st := steps_ okO hj h
    rw [show (if zO s k ≤ j then j - zO s k else zO s k - j) = dst (zO s k) j from rfl] at st
    rw [e_X0_worthOf_6, n0, if_neg (fun y => by
      have := (le_ (a := zW s) (b := k) (by omega) (by omega)).mp y
      omega), hasBit_, bnd, nI_1]
    simp only [smN]
    by_cases q : bitB x k = true
    · simp only [q, if_true, ax_10, if_false]
      simp (disch := omega) only [g_in, cl_, (nr k (by omega)).2.2.1, nc k hk]
      rw [st, bnd]
      simp (disch := omega) only [l8, add_, sub_]
    · simp only [q, if_true, if_false, Bool.false_eq_true, Nat.add_zero]
  · show ax_run m_X0_worthOf 6 _ [] h = _
    rw [e_X0_worthOf_6, n0, if_pos ((le_ (a := zW s) (b := zW s) (by omega) (by omega)).mpr (Nat.le_refl _))]
    rfl
theorem worthM_ {h : ax_Hp} {s : Sp} {x : Int32} {j : Nat} (r : RM h s 0) (hj : j < 8) : rI m_X8_worth [.ref 47, .int x, .int (nI j)] h = some (nI (wth s x j), h) := by
  have hW := r.1.1
  refine rI_of ((e_X8_worth_0 _ _ h).trans ?_)
  refine (lp (fun k v => ax_run m_X8_worth 5 [(0, .ref 47), (1, .int x), (2, .int (nI j)), (3, .int v), (4, .int k)] [] h) (fun n => nI (smN n (fun i => if bitB x i = true then zcov s i + 8 - dst (zO s i) j else 0))) (zW s) (fun k hk => ?_)).trans ?_
  · show ax_run m_X8_worth 5 _ [] h = ax_run m_X8_worth 5 _ [] h
    have okO := (r.1.2.2.1 k (by omega)).2.2.1
    have hd := dst_lt okO hj
    rw [e_X8_worth_5, r.2.2.1, if_neg (fun y => by
      have := (le_ (a := zW s) (b := k) (by omega) (by omega)).mp y
      omega), has_, bnd, nI_1]
    simp only [smN]
    by_cases q : bitB x k = true
    · simp only [q, if_true, ax_10, if_false]
      rw [covers_ r (by omega), bnd]
      simp (disch := omega) only [g_in, cl_, (r.2.2.2.2.1 k (by omega)).2.2.1]
      rw [apart_ okO hj, bnd]
      simp (disch := omega) only [l8, add_, sub_]
    · simp only [q, if_true, if_false, Bool.false_eq_true, Nat.add_zero, Int32.add_zero]
  · show ax_run m_X8_worth 5 _ [] h = _
    rw [e_X8_worth_5, r.2.2.1, if_pos ((le_ (a := zW s) (b := zW s) (by omega) (by omega)).mpr (Nat.le_refl _))]
    rfl
def comp (s : Sp) (k : Nat) : Int32 := nI (2 ^ zW s - 1) &&& (nI k ^^^ (-1))
def shF (s : Sp) (a b : Nat) : Nat → Int32 × Nat
  | 0 => (-9, 0)
  | k + 1 => if wth s (comp s k) a ≤ wth s (nI k) a ∧ wth s (nI k) b ≤ wth s (comp s k) b ∧ ((shF s a b k).1 = -9 ∨ (shF s a b k).2 < wth s (nI k) a + wth s (comp s k) b) then (nI k, wth s (nI k) a + wth s (comp s k) b) else shF s a b k
theorem shF_is {s : Sp} (ok : okS s) (a b k : Nat) : ((shF s a b k).1 = -9 ∨ ∃ j, j < k ∧ (shF s a b k).1 = nI j) ∧ (shF s a b k).2 ≤ 392 := by
  induction k with
  | zero => exact ⟨Or.inl rfl, by show 0 ≤ 392; omega⟩
  | succ k ih =>
    have w1 := wth_le ok (nI k) a
    have w2 := wth_le ok (comp s k) b
    simp only [shF]
    split
    · exact ⟨Or.inr ⟨k, by omega, rfl⟩, by show _ + _ ≤ 392; omega⟩
    · exact ⟨ih.1.elim Or.inl (fun ⟨j, hj, e⟩ => Or.inr ⟨j, by omega, e⟩), ih.2⟩
theorem shares_ {h : ax_Hp} {s : Sp} {a b : Nat} (r : RC h 1 s 0) (ha : a < 8) (hb : b < 8) : rI m_X0_fairShares [.ref 40, .ref 1, .int (nI a), .int (nI b)] h = some ((shF s a b (2 ^ zW s)).1, h) := by
  have hW := r.1.1.1
  have hp := pow_W hW
  have hp0 : 0 < 2 ^ zW s := Nat.two_pow_pos _
  refine rI_of ((e_X0_fairShares_0 _ _ h).trans ?_)
  rw [r.1.2.2.1, shl_W _ (by omega), l1, sub_ (by omega)]
  refine (lp (fun k (v : Int32 × Nat) => ax_run m_X0_fairShares 21 [(0, .ref 40), (1, .ref 1), (2, .int (nI a)), (3, .int (nI b)), (4, .int v.1), (5, .int (few v)), (6, .int (nI (2 ^ zW s - 1))), (7, .int k)] [] h) (shF s a b) (2 ^ zW s) (fun k hk => ?_)).trans ?_
  · show ax_run m_X0_fairShares 21 [(0, .ref 40), (1, .ref 1), (2, .int (nI a)), (3, .int (nI b)), (4, .int (shF s a b k).1), (5, .int (few (shF s a b k))), (6, .int (nI (2 ^ zW s - 1))), (7, .int (nI k))] [] h = ax_run m_X0_fairShares 21 [(0, .ref 40), (1, .ref 1), (2, .int (nI a)), (3, .int (nI b)), (4, .int (shF s a b (k + 1)).1), (5, .int (few (shF s a b (k + 1)))), (6, .int (nI (2 ^ zW s - 1))), (7, .int (nI (k + 1)))] [] h
    have w1 := wth_le r.1.1 (nI k) a
    have w2 := wth_le r.1.1 (comp s k) b
    have w3 := wth_le r.1.1 (nI k) b
    have w4 := wth_le r.1.1 (comp s k) a
    have ws := (shF_is r.1.1 a b k).2
    rw [e_X0_fairShares_21, if_neg (fun y => by
      have := (lt_ (a := 2 ^ zW s - 1) (b := k) (by omega) (by omega)).mp y
      omega), worth_ r ha, bnd]
    show ((rI m_X0_worthOf [.ref 40, .ref 1, .int (comp s k), .int (nI b)] h).bind _) = _
    rw [worth_ r hb, bnd]
    show ((rI m_X0_worthOf [.ref 40, .ref 1, .int (comp s k), .int (nI a)] h).bind _) = _
    rw [worth_ r ha, bnd, worth_ r hb, nI_1]
    simp (disch := omega) only [lt_, bnd, add_]
    simp only [shF]
    by_cases q1 : wth s (nI k) a < wth s (comp s k) a
    · rw [if_pos q1, if_neg (fun y => by omega)]
    · rw [if_neg q1]
      by_cases q2 : wth s (comp s k) b < wth s (nI k) b
      · rw [if_pos q2, if_neg (fun y => by omega)]
      · rw [if_neg q2]
        by_cases q3 : (shF s a b k).1 = -9
        · rw [if_pos q3, if_pos ⟨by omega, by omega, Or.inl q3⟩]
          unfold few
          rw [if_neg (n9_ (by omega))]
        · have ef : few (shF s a b k) = nI (shF s a b k).2 := if_neg q3
          rw [if_neg q3, ef]
          simp (disch := omega) only [le_]
          by_cases q4 : (shF s a b k).2 < wth s (nI k) a + wth s (comp s k) b
          · rw [if_neg (by omega), if_pos ⟨by omega, by omega, Or.inr q4⟩]
            unfold few
            rw [if_neg (n9_ (by omega))]
          · rw [if_pos (by omega), if_neg (fun y => y.2.2.elim q3 q4), ef]
  · show ax_run m_X0_fairShares 21 _ [] h = _
    rw [e_X0_fairShares_21, if_pos ((lt_ (a := 2 ^ zW s - 1) (b := 2 ^ zW s) (by omega) (by omega)).mpr (by omega))]
theorem sharesM_ {h : ax_Hp} {s : Sp} {a b : Nat} (r : RM h s 0) (ha : a < 8) (hb : b < 8) : ax_run m_X8_shares 33 [(0, .ref 47), (1, .int (nI a)), (2, .int (nI b)), (3, .int (nI (2 ^ zW s - 1))), (4, .int (-9)), (5, .int 0), (6, .int 0)] [] h = some (some (.int (shF s a b (2 ^ zW s)).1), h) := by
  have hW := r.1.1
  have hp := pow_W hW
  have hp0 : 0 < 2 ^ zW s := Nat.two_pow_pos _
  refine (lp (fun k (v : Int32 × Nat) => ax_run m_X8_shares 33 [(0, .ref 47), (1, .int (nI a)), (2, .int (nI b)), (3, .int (nI (2 ^ zW s - 1))), (4, .int v.1), (5, .int (nI v.2)), (6, .int k)] [] h) (shF s a b) (2 ^ zW s) (fun k hk => ?_)).trans ?_
  · show ax_run m_X8_shares 33 [(0, .ref 47), (1, .int (nI a)), (2, .int (nI b)), (3, .int (nI (2 ^ zW s - 1))), (4, .int (shF s a b k).1), (5, .int (nI (shF s a b k).2)), (6, .int (nI k))] [] h = ax_run m_X8_shares 33 [(0, .ref 47), (1, .int (nI a)), (2, .int (nI b)), (3, .int (nI (2 ^ zW s - 1))), (4, .int (shF s a b (k + 1)).1), (5, .int (nI (shF s a b (k + 1)).2)), (6, .int (nI (k + 1)))] [] h
    have w1 := wth_le r.1 (nI k) a
    have w2 := wth_le r.1 (comp s k) b
    have w3 := wth_le r.1 (nI k) b
    have w4 := wth_le r.1 (comp s k) a
    obtain ⟨wi, ws⟩ := shF_is r.1 a b k
    have c1 : ∀ j, j < 8 → rI m_X8_worth [.ref 47, .int (nI (2 ^ zW s - 1) &&& (nI k ^^^ (-1))), .int (nI j)] h = some (nI (wth s (comp s k) j), h) := fun j hj => worthM_ r hj
    rw [e_X8_shares_33, if_neg (fun y => by
      have := (lt_ (a := 2 ^ zW s - 1) (b := k) (by omega) (by omega)).mp y
      omega), nI_1]
    have ec : nI (2 ^ zW s - 1) &&& (nI k ^^^ (-1)) = comp s k := rfl
    simp (disch := omega) only [ec, worthM_ r ha, worthM_ r hb, lt_, le_, bnd, add_]
    simp only [shF]
    by_cases q1 : wth s (nI k) a < wth s (comp s k) a
    · rw [if_pos q1, if_neg (fun y => by omega)]
    · rw [if_neg q1]
      by_cases q2 : wth s (comp s k) b < wth s (nI k) b
      · rw [if_neg (by omega), if_neg (fun y => by omega)]
      · rw [if_pos (by omega)]
        rcases wi with e | ⟨j, hj, e⟩
        · have q3 : (shF s a b k).1 < 0 := by rw [e]; decide
          rw [if_pos q3, if_pos ⟨by omega, by omega, Or.inl e⟩]
        · have q3 : ¬ (shF s a b k).1 < 0 := by rw [e]; exact nI_pos (by omega)
          have q5 : ¬ (shF s a b k).1 = -9 := by rw [e]; exact n9_ (by omega)
          rw [if_neg q3]
          by_cases q4 : (shF s a b k).2 < wth s (nI k) a + wth s (comp s k) b
          · rw [if_pos q4, if_pos ⟨by omega, by omega, Or.inr q4⟩]
          · rw [if_neg q4, if_neg (fun y => y.2.2.elim q5 q4)]
  · show ax_run m_X8_shares 33 _ [] h = _
    rw [e_X8_shares_33, if_pos ((lt_ (a := 2 ^ zW s - 1) (b := 2 ^ zW s) (by omega) (by omega)).mpr (by omega))]
theorem op_shares {h : ax_Hp} {A : Ab} (oa : okA A) (ic : IC h A) (im : IM h A) (x1 x2 : Int32) : OP m_X7_shares m_X8_shares [.int x1, .int x2] h := by
  have hW := ic.1.1.1.1
  by_cases ht : twoP x1 x2
  · obtain ⟨a, b, ha, hb, hab, rfl, rfl⟩ := two_n ht
    have hp0 : 0 < 2 ^ zW (bS A) := Nat.two_pow_pos _
    refine OP_q (v := (shF (bS A) a b (2 ^ zW (bS A))).1) oa ic im ⟨h, rI_of ((e_X7_shares_0 _ _ h).trans ?_), QC.refl h⟩ (fun h1 m => ⟨h1, rI_of ((e_X8_shares_0 _ _ h1).trans ?_), QM.refl m.1⟩)
    · simp only [areTwo_pos ht, bnd, ax_10, if_false, shares_ ic.1 ha hb]
    · simp only [areTwoM_pos ht, bnd, ax_10, if_false]
      rw [m.1.2.2.1, shl_W _ (by omega), l1, sub_ (by omega)]
      exact sharesM_ m.1 ha hb
  · exact OP_no (x := -1) 1 (by omega) oa ic im (rI_of ((e_X7_shares_0 _ _ h).trans (by simp only [isWall_ is1 ic.1.1, isHouse_, outs_, bnd, no1, no2, no3, no4, no6, lo1, lo2, lo4, lo6, if_true, if_false, ax_10, ax_n4, ax_n6, and_self, areTwo_neg ht]))) (fun h1 m => rI_of ((e_X8_shares_0 _ _ h1).trans (by simp only [isWallM_ m.1, isHouseM_, outsM_, isIn_, notH_, bnd, mo1, mo2, mo3, mo4, mo6, ml1, ml2, ml4, ml6, if_true, if_false, ax_10, ax_n4, ax_n6, and_self, areTwoM_neg ht])))
def cva (s : Sp) (x : Int32) : Nat := smN (zW s) (fun i => if bitB x i = true then zcov s i else 0)
def stp (s : Sp) (x : Int32) (j : Nat) : Nat := smN (zW s) (fun i => if bitB x i = true then dst (zP s i) j else 0)
theorem cva_le {s : Sp} (ok : okS s) (x : Int32) : cva s x ≤ 140 := by
  have hW := ok.1
  have h1 : cva s x ≤ zW s * 20 := smN_le (fun k hk => by
    have := zcov_le ok (i := k) (by omega)
    show (if _ then _ else _) ≤ 20
    split <;> omega)
  omega
theorem stp_le {s : Sp} (ok : okS s) (x : Int32) {j : Nat} (hj : j < 8) : stp s x j ≤ 56 := by
  have hW := ok.1
  have h1 : stp s x j ≤ zW s * 8 := smN_le (fun k hk => by
    have := dst_lt (ok.2.2.1 k (by omega)).2.2.2 hj
    show (if _ then _ else _) ≤ 8
    split <;> omega)
  omega
theorem cva_ {h : ax_Hp} {s : Sp} {x : Int32} (r : RC h 1 s 0) : rI m_X0_coverOfAll [.ref 40, .ref 1, .int x] h = some (nI (cva s x), h) := by
  have hW := r.1.1.1
  obtain ⟨n0, n1, nr, nb, nc, nh⟩ := now_ r
  refine rI_of ((e_X0_coverOfAll_0 _ h).trans ?_)
  refine (lp (fun k v => ax_run m_X0_coverOfAll 5 [(1, .ref 1), (2, .int x), (3, .int v), (4, .int k)] [] h) (fun n => nI (smN n (fun i => if bitB x i = true then zcov s i else 0))) (zW s) (fun k hk => ?_)).trans ?_
  · show ax_run m_X0_coverOfAll 5 _ [] h = ax_run m_X0_coverOfAll 5 _ [] h
    rw [e_X0_coverOfAll_5, n0, if_neg (fun y => by
      have := (le_ (a := zW s) (b := k) (by omega) (by omega)).mp y
      omega), hasBit_, bnd, nI_1]
    simp only [smN]
    by_cases q : bitB x k = true
    · simp only [q, if_true, ax_10, if_false]
      simp (disch := omega) only [g_in, cl_, nc k hk, add_]
    · simp only [q, if_true, if_false, Bool.false_eq_true, Nat.add_zero]
  · show ax_run m_X0_coverOfAll 5 _ [] h = _
    rw [e_X0_coverOfAll_5, n0, if_pos ((le_ (a := zW s) (b := zW s) (by omega) (by omega)).mpr (Nat.le_refl _))]
    rfl
theorem cvaM_ {h : ax_Hp} {s : Sp} {x : Int32} (r : RM h s 0) : rI m_X8_coversAll [.ref 47, .int x] h = some (nI (cva s x), h) := by
  have hW := r.1.1
  refine rI_of ((e_X8_coversAll_0 _ h).trans ?_)
  refine (lp (fun k v => ax_run m_X8_coversAll 4 [(0, .ref 47), (1, .int x), (2, .int v), (3, .int k)] [] h) (fun n => nI (smN n (fun i => if bitB x i = true then zcov s i else 0))) (zW s) (fun k hk => ?_)).trans ?_
  · show ax_run m_X8_coversAll 4 _ [] h = ax_run m_X8_coversAll 4 _ [] h
    rw [e_X8_coversAll_4, r.2.2.1, if_neg (fun y => by
      have := (le_ (a := zW s) (b := k) (by omega) (by omega)).mp y
      omega), has_, bnd, nI_1]
    simp only [smN]
    by_cases q : bitB x k = true
    · simp only [q, if_true, ax_10, if_false]
      rw [covers_ r (by omega), bnd, add_]
    · simp only [q, if_true, if_false, Bool.false_eq_true, Nat.add_zero, Int32.add_zero]
  · show ax_run m_X8_coversAll 4 _ [] h = _
    rw [e_X8_coversAll_4, r.2.2.1, if_pos ((le_ (a := zW s) (b := zW s) (by omega) (by omega)).mpr (Nat.le_refl _))]
    rfl
theorem stp_ {h : ax_Hp} {s : Sp} {x : Int32} {j : Nat} (r : RC h 1 s 0) (hj : j < 8) : rI m_X0_stepsTo [.ref 40, .ref 1, .int (nI j), .int x] h = some (nI (stp s x j), h) := by
  have hW := r.1.1.1
  obtain ⟨n0, n1, nr, nb, nc, nh⟩ := now_ r
  refine rI_of ((e_X0_stepsTo_0 _ _ h).trans ?_)
  refine (lp (fun k v => ax_run m_X0_stepsTo 6 [(1, .ref 1), (2, .int (nI j)), (3, .int x), (4, .int v), (5, .int k)] [] h) (fun n => nI (smN n (fun i => if bitB x i = true then dst (zP s i) j else 0))) (zW s) (fun k hk => ?_)).trans ?_
  · show ax_run m_X0_stepsTo 6 _ [] h = ax_run m_X0_stepsTo 6 _ [] h
    have okP := (r.1.1.2.2.1 k (by omega)).2.2.2
    have st := steps_ okP hj h
    rw [show (if zP s k ≤ j then j - zP s k else zP s k - j) = dst (zP s k) j from rfl] at st
    rw [e_X0_stepsTo_6, n0, if_neg (fun y => by
      have := (le_ (a := zW s) (b := k) (by omega) (by omega)).mp y
      omega), hasBit_, bnd, nI_1]
    simp only [smN]
    by_cases q : bitB x k = true
    · simp only [q, if_true, ax_10, if_false]
      simp (disch := omega) only [g_in, cl_, (nr k (by omega)).2.2.2.1]
      rw [st, bnd, add_]
    · simp only [q, if_true, if_false, Bool.false_eq_true, Nat.add_zero]
  · show ax_run m_X0_stepsTo 6 _ [] h = _
    rw [e_X0_stepsTo_6, n0, if_pos ((le_ (a := zW s) (b := zW s) (by omega) (by omega)).mpr (Nat.le_refl _))]
    rfl
theorem stpM_ {h : ax_Hp} {s : Sp} {x : Int32} {j : Nat} (r : RM h s 0) (hj : j < 8) : rI m_X8_stepsTo [.ref 47, .int x, .int (nI j)] h = some (nI (stp s x j), h) := by
  have hW := r.1.1
  refine rI_of ((e_X8_stepsTo_0 _ _ h).trans ?_)
  refine (lp (fun k v => ax_run m_X8_stepsTo 5 [(0, .ref 47), (1, .int x), (2, .int (nI j)), (3, .int v), (4, .int k)] [] h) (fun n => nI (smN n (fun i => if bitB x i = true then dst (zP s i) j else 0))) (zW s) (fun k hk => ?_)).trans ?_
  · show ax_run m_X8_stepsTo 5 _ [] h = ax_run m_X8_stepsTo 5 _ [] h
    have okP := (r.1.2.2.1 k (by omega)).2.2.2
    rw [e_X8_stepsTo_5, r.2.2.1, if_neg (fun y => by
      have := (le_ (a := zW s) (b := k) (by omega) (by omega)).mp y
      omega), has_, bnd, nI_1]
    simp only [smN]
    by_cases q : bitB x k = true
    · simp only [q, if_true, ax_10, if_false]
      simp (disch := omega) only [g_in, cl_, (r.2.2.2.2.1 k (by omega)).2.2.2.1]
      rw [apart_ okP hj, bnd, add_]
    · simp only [q, if_true, if_false, Bool.false_eq_true, Nat.add_zero, Int32.add_zero]
  · show ax_run m_X8_stepsTo 5 _ [] h = _
    rw [e_X8_stepsTo_5, r.2.2.1, if_pos ((le_ (a := zW s) (b := zW s) (by omega) (by omega)).mpr (Nat.le_refl _))]
    rfl
theorem smN_add (n : Nat) (f g : Nat → Nat) : smN n f + smN n g = smN n (fun i => f i + g i) := by
  induction n with
  | zero => rfl
  | succ n ih => simp only [smN]; omega
/-- with those that are there they cover what they do and what the house has -/
theorem cva_or {s : Sp} (ok : okS s) {k j : Nat} (hk : k < 128) (h0 : nI k &&& zat s j = 0) : cva s (nI k ||| zat s j) = cva s (nI k) + zhas s j := by
  have hW := ok.1
  have hm := bm_lt (fun i => decide (zP s i = j)) (n := zW s) (by omega)
  have hz : zat s j = nI (bmN (fun i => decide (zP s i = j)) (zW s)) := bm_nI _ (by omega)
  have hb : ∀ i, i < zW s → (bmN (fun i => decide (zP s i = j)) (zW s)).testBit i = decide (zP s i = j) := fun i hi => bmN_bit _ hi
  rw [hz] at h0 ⊢
  generalize bmN (fun i => decide (zP s i = j)) (zW s) = m at h0 hm hb ⊢
  rw [and_nI] at h0
  have hand : k &&& m < 256 := Nat.lt_of_le_of_lt Nat.and_le_right hm
  have h0' : k &&& m = 0 := (eq0 (by omega)).mp h0
  have hor : k ||| m < 256 := Nat.or_lt_two_pow (n := 8) (by omega) hm
  rw [or_nI]
  unfold cva zhas
  rw [smN_add]
  refine smN_congr (fun i hi => ?_)
  rw [bit_nI (by omega) (by omega), bit_nI (by omega) (by omega), Nat.testBit_or, hb i hi]
  have hn : (k.testBit i && decide (zP s i = j)) = false := by
    rw [← hb i hi, ← Nat.testBit_and, h0']
    exact Nat.zero_testBit i
  by_cases q : zP s i = j <;> cases q2 : k.testBit i <;> simp [q, q2] at hn ⊢
/-- with which walls a house is closed in, of the first n sets -/
def clF (s : Sp) (j : Nat) : Nat → Int32 × Nat
  | 0 => (-9, 0)
  | k + 1 => if nI k &&& zat s j = 0 ∧ zlack s 0 j ≤ cva s (nI k) ∧ ((clF s j k).1 = -9 ∨ stp s (nI k) j < (clF s j k).2) then (nI k, stp s (nI k) j) else clF s j k
theorem clF_is {s : Sp} (ok : okS s) {j : Nat} (hj : j < 8) (k : Nat) : ((clF s j k).1 = -9 ∨ ∃ i, i < k ∧ (clF s j k).1 = nI i) ∧ (clF s j k).2 ≤ 56 := by
  induction k with
  | zero => exact ⟨Or.inl rfl, by show 0 ≤ 56; omega⟩
  | succ k ih =>
    have w1 := stp_le ok (nI k) hj
    simp only [clF]
    split
    · exact ⟨Or.inr ⟨k, by omega, rfl⟩, w1⟩
    · exact ⟨ih.1.elim Or.inl (fun ⟨j, hj, e⟩ => Or.inr ⟨j, by omega, e⟩), ih.2⟩
theorem close_ {h : ax_Hp} {s : Sp} {j q : Nat} (r : RC h 1 s 0) (hj : j < 8) (hq : q ≤ 1) : rI m_X0_closeIn [.ref 40, .ref 1, .int (nI j), .int (nI q)] h = some (if q = 0 then (clF s j (2 ^ zW s)).1 else few (clF s j (2 ^ zW s)), h) := by
  have hW := r.1.1.1
  have hp := pow_W hW
  have n0 := r.1.2.2.1
  refine rI_of ((e_X0_closeIn_0 _ _ h).trans ?_)
  rw [wallsAt_ is1 r.1 (by omega), bnd]
  refine (lp (fun k (v : Int32 × Nat) => ax_run m_X0_closeIn 18 [(0, .ref 40), (1, .ref 1), (2, .int (nI j)), (3, .int (nI q)), (4, .int (zat s j)), (5, .int v.1), (6, .int (few v)), (7, .int k)] [] h) (clF s j) (2 ^ zW s) (fun k hk => ?_)).trans ?_
  · show ax_run m_X0_closeIn 18 [(0, .ref 40), (1, .ref 1), (2, .int (nI j)), (3, .int (nI q)), (4, .int (zat s j)), (5, .int (clF s j k).1), (6, .int (few (clF s j k))), (7, .int (nI k))] [] h = ax_run m_X0_closeIn 18 [(0, .ref 40), (1, .ref 1), (2, .int (nI j)), (3, .int (nI q)), (4, .int (zat s j)), (5, .int (clF s j (k + 1)).1), (6, .int (few (clF s j (k + 1)))), (7, .int (nI (k + 1)))] [] h
    have w1 := stp_le r.1.1 (nI k) hj
    have w2 := cva_le r.1.1 (nI k)
    have w3 := zlack_le r.1.1 r.1.2.1 hj
    have w4 := (clF_is r.1.1 hj k).2
    rw [e_X0_closeIn_18, n0, shl_W _ (by omega), if_neg (fun y => by
      have := (le_ (a := 2 ^ zW s) (b := k) (by omega) (by omega)).mp y
      omega), nI_1]
    simp (disch := omega) only [stp_ r hj, cva_ r, lackOf_ is1 r hj, bnd, lt_]
    simp only [clF]
    by_cases q1 : (clF s j k).1 = -9
    · rw [if_pos q1]
      by_cases q2 : nI k &&& zat s j = 0
      · rw [if_pos q2]
        by_cases q3 : cva s (nI k) < zlack s 0 j
        · rw [if_pos q3, if_neg (fun y => by omega)]
        · rw [if_neg q3, if_pos ⟨q2, by omega, Or.inl q1⟩]
          unfold few
          rw [if_neg (n9_ (by omega))]
      · rw [if_neg q2, if_neg (fun y => q2 y.1)]
    · have ef : few (clF s j k) = nI (clF s j k).2 := if_neg q1
      rw [if_neg q1, ef]
      simp (disch := omega) only [le_]
      by_cases q4 : stp s (nI k) j < (clF s j k).2
      · rw [if_neg (by omega)]
        by_cases q2 : nI k &&& zat s j = 0
        · rw [if_pos q2]
          by_cases q3 : cva s (nI k) < zlack s 0 j
          · rw [if_pos q3, if_neg (fun y => by omega), ef]
          · rw [if_neg q3, if_pos ⟨q2, by omega, Or.inr q4⟩]
            unfold few
            rw [if_neg (n9_ (by omega))]
        · rw [if_neg q2, if_neg (fun y => q2 y.1), ef]
      · rw [if_pos (by omega), if_neg (c := nI k &&& zat s j = 0 ∧ zlack s 0 j ≤ cva s (nI k) ∧ ((clF s j k).1 = -9 ∨ stp s (nI k) j < (clF s j k).2)) (fun y => y.2.2.elim q1 q4), ef]
        split <;> rfl
  · show ax_run m_X0_closeIn 18 [(0, .ref 40), (1, .ref 1), (2, .int (nI j)), (3, .int (nI q)), (4, .int (zat s j)), (5, .int (clF s j (2 ^ zW s)).1), (6, .int (few (clF s j (2 ^ zW s)))), (7, .int (nI (2 ^ zW s)))] [] h = _
    rw [e_X0_closeIn_18, n0, shl_W _ (by omega), if_pos ((le_ (a := 2 ^ zW s) (b := 2 ^ zW s) (by omega) (by omega)).mpr (Nat.le_refl _))]
    simp (disch := omega) only [eq0]
    split <;> rfl
theorem closeM_ {h : ax_Hp} {s : Sp} {j q : Nat} (r : RM h s 0) (hj : j < 8) (hq : q ≤ 1) : ax_run m_X8_close 59 [(0, .ref 47), (1, .int (nI j)), (2, .int (nI q)), (4, .int (zat s j)), (5, .int (-9)), (6, .int (-9)), (7, .int 0)] [] h = some (some (.int (if q = 0 then (clF s j (2 ^ zW s)).1 else few (clF s j (2 ^ zW s)))), h) := by
  have hW := r.1.1
  have hp := pow_W hW
  refine (lp (fun k (v : Int32 × Nat) => ax_run m_X8_close 59 [(0, .ref 47), (1, .int (nI j)), (2, .int (nI q)), (4, .int (zat s j)), (5, .int v.1), (6, .int (few v)), (7, .int k)] [] h) (clF s j) (2 ^ zW s) (fun k hk => ?_)).trans ?_
  · show ax_run m_X8_close 59 [(0, .ref 47), (1, .int (nI j)), (2, .int (nI q)), (4, .int (zat s j)), (5, .int (clF s j k).1), (6, .int (few (clF s j k))), (7, .int (nI k))] [] h = ax_run m_X8_close 59 [(0, .ref 47), (1, .int (nI j)), (2, .int (nI q)), (4, .int (zat s j)), (5, .int (clF s j (k + 1)).1), (6, .int (few (clF s j (k + 1)))), (7, .int (nI (k + 1)))] [] h
    have w1 := stp_le r.1 (nI k) hj
    have w2 := cva_le r.1 (nI k ||| zat s j)
    have w3 := zneed_le r.1 (w := 0) (by omega) hj
    obtain ⟨wi, w4⟩ := clF_is r.1 hj k
    rw [e_X8_close_59, r.2.2.1, shl_W _ (by omega), if_neg (fun y => by
      have := (le_ (a := 2 ^ zW s) (b := k) (by omega) (by omega)).mp y
      omega), nI_1]
    simp only [clF]
    by_cases q2 : nI k &&& zat s j = 0
    · have co := cva_or r.1 (by omega) q2
      have wl : zlack s 0 j = zneed s 0 j - zhas s j := rfl
      rw [if_pos q2, cvaM_ r, bnd]
      simp only []
      rw [lacksWith_ r hj (by omega), bnd]
      simp (disch := omega) only [le0]
      by_cases q3 : zlack s 0 j ≤ cva s (nI k)
      · rw [if_pos (by omega), stpM_ r hj, bnd]
        rcases wi with e | ⟨i, hi, e⟩
        · have q5 : (clF s j k).1 < 0 := by rw [e]; decide
          rw [if_pos q5, if_pos ⟨q2, q3, Or.inl e⟩]
          unfold few
          rw [if_neg (n9_ (by omega))]
        · have q5 : ¬ (clF s j k).1 < 0 := by rw [e]; exact nI_pos (by omega)
          have q6 : ¬ (clF s j k).1 = -9 := by rw [e]; exact n9_ (by omega)
          have ef : few (clF s j k) = nI (clF s j k).2 := if_neg q6
          rw [if_neg q5, ef]
          simp (disch := omega) only [lt_]
          by_cases q4 : stp s (nI k) j < (clF s j k).2
          · rw [if_pos q4, if_pos ⟨q2, q3, Or.inr q4⟩]
            unfold few
            rw [if_neg (n9_ (by omega))]
          · rw [if_neg q4, if_neg (fun y => y.2.2.elim q6 q4), ef]
      · rw [if_neg (by omega), if_neg (fun y => q3 y.2.1)]
    · rw [if_neg q2, if_neg (fun y => q2 y.1)]
  · show ax_run m_X8_close 59 [(0, .ref 47), (1, .int (nI j)), (2, .int (nI q)), (4, .int (zat s j)), (5, .int (clF s j (2 ^ zW s)).1), (6, .int (few (clF s j (2 ^ zW s)))), (7, .int (nI (2 ^ zW s)))] [] h = _
    rw [e_X8_close_59, r.2.2.1, shl_W _ (by omega), if_pos ((le_ (a := 2 ^ zW s) (b := 2 ^ zW s) (by omega) (by omega)).mpr (Nat.le_refl _))]
    simp (disch := omega) only [eq0]
    split <;> rfl
theorem op_close {h : ax_Hp} {A : Ab} (oa : okA A) (ic : IC h A) (im : IM h A) (x1 x2 : Int32) : OP m_X7_close m_X8_close [.int x1, .int x2] h := by
  have hW := ic.1.1.1.1
  by_cases hw : 0 ≤ x1 ∧ x1 < 8
  · by_cases ha : x2 < 0
    · exact OP_no (x := -2) 2 (by omega) oa ic im (rI_of ((e_X7_close_0 _ _ h).trans (by simp only [isWall_ is1 ic.1.1, isHouse_, outs_, bnd, no1, no2, no3, no4, no6, lo1, lo2, lo4, lo6, if_true, if_false, ax_10, ax_n4, ax_n6, and_self, hw, ha]))) (fun h1 m => rI_of ((e_X8_close_0 _ _ h1).trans (by simp only [isWallM_ m.1, isHouseM_, outsM_, isIn_, notH_, bnd, mo1, mo2, mo3, mo4, mo6, ml1, ml2, ml4, ml6, if_true, if_false, ax_10, ax_n4, ax_n6, and_self, hw, lt0_of ha 1])))
    · by_cases hb : x2 ≤ 1
      · obtain ⟨j, hj, rfl⟩ := of_in hw.1 hw.2 (n := 8) (by omega)
        obtain ⟨k, _, hk, rfl⟩ := in_n (m := 0) (n := 1) rfl rfl (n0l ha) hb (by omega) (by omega)
        have hx : 0 ≤ nI k ∧ nI k ≤ 1 := ⟨n0l ha, hb⟩
        refine OP_q (v := if k = 0 then (clF (bS A) j (2 ^ zW (bS A))).1 else few (clF (bS A) j (2 ^ zW (bS A)))) oa ic im ⟨h, rI_of ((e_X7_close_0 _ _ h).trans ?_), QC.refl h⟩ (fun h1 m => ⟨h1, rI_of ((e_X8_close_0 _ _ h1).trans ?_), QM.refl m.1⟩)
        · simp only [isHouse_, hw, and_self, if_true, ax_10, if_false, bnd, ha, hb]
          have hk2 : k = 0 ∨ k = 1 := by omega
          rcases hk2 with rfl | rfl
          · rw [if_neg (by decide)]
            show (rI m_X0_closeIn [.ref 40, .ref 1, .int (nI j), .int (nI 0)] h).bind _ = _
            rw [close_ ic.1 hj (by omega), bnd]
          · rw [if_pos (by decide)]
            show (rI m_X0_closeIn [.ref 40, .ref 1, .int (nI j), .int (nI 1)] h).bind _ = _
            rw [close_ ic.1 hj (by omega), bnd]
        · simp only [isHouseM_, isIn_, hw, hx, and_self, if_true, ax_10, if_false, bnd]
          rw [wallsOfAt_ m.1 (by omega), bnd]
          exact closeM_ m.1 hj hk
      · have hx : ¬ (0 ≤ x2 ∧ x2 ≤ 1) := fun q => hb q.2
        exact OP_no (x := -2) 2 (by omega) oa ic im (rI_of ((e_X7_close_0 _ _ h).trans (by simp only [isWall_ is1 ic.1.1, isHouse_, outs_, bnd, no1, no2, no3, no4, no6, lo1, lo2, lo4, lo6, if_true, if_false, ax_10, ax_n4, ax_n6, and_self, hw, ha, hb]))) (fun h1 m => rI_of ((e_X8_close_0 _ _ h1).trans (by simp only [isWallM_ m.1, isHouseM_, outsM_, isIn_, notH_, bnd, mo1, mo2, mo3, mo4, mo6, ml1, ml2, ml4, ml6, if_true, if_false, ax_10, ax_n4, ax_n6, and_self, hw, hx])))
  · exact OP_no (x := -1) 1 (by omega) oa ic im (rI_of ((e_X7_close_0 _ _ h).trans (by simp only [isWall_ is1 ic.1.1, isHouse_, outs_, bnd, no1, no2, no3, no4, no6, lo1, lo2, lo4, lo6, if_true, if_false, ax_10, ax_n4, ax_n6, and_self, hw]))) (fun h1 m => rI_of ((e_X8_close_0 _ _ h1).trans (by simp only [isWallM_ m.1, isHouseM_, outsM_, isIn_, notH_, bnd, mo1, mo2, mo3, mo4, mo6, ml1, ml2, ml4, ml6, if_true, if_false, ax_10, ax_n4, ax_n6, and_self, hw])))
