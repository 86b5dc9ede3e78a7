/-! operations: split, ways (by wip/whole/gen48.py) -/
theorem power_ {b e : Nat} (hb : b < 2147483648) (he : e < 2147483648) (h : ax_Hp) : rL m_X7_power [.int (nI b), .int (nI e)] h = some (lN (b ^ e), h) := by
  refine rL_of ((e_X7_power_0 _ _ h).trans ?_)
  refine (lp (fun k v => ax_run m_X7_power 5 [(0, .int (nI b)), (1, .int (nI e)), (2, .long v), (4, .int k)] [] h) (fun n => lN (b ^ n)) e (fun k hk => ?_)).trans ?_
  · show ax_run m_X7_power 5 _ [] h = _
    rw [e_X7_power_5, if_neg (fun y => by
      have := (le_ (a := e) (b := k) (by omega) (by omega)).mp y
      omega), nI_l (by omega), lN_mul, nI_1]
    rfl
  · show ax_run m_X7_power 5 _ [] h = _
    rw [e_X7_power_5, if_pos ((le_ (a := e) (b := e) (by omega) (by omega)).mpr (Nat.le_refl _))]
theorem threes_ {e : Nat} (he : e < 2147483648) (h : ax_Hp) : rI m_X8_threes [.int (nI e)] h = some (nI (3 ^ e), h) := by
  refine rI_of ((e_X8_threes_0 _ h).trans ?_)
  refine (lp (fun k v => ax_run m_X8_threes 4 [(0, .int (nI e)), (1, .int v), (2, .int k)] [] h) (fun n => nI (3 ^ n)) e (fun k hk => ?_)).trans ?_
  · show ax_run m_X8_threes 4 _ [] h = _
    rw [e_X8_threes_4, if_neg (fun y => by
      have := (le_ (a := e) (b := k) (by omega) (by omega)).mp y
      omega), l3, mul_, nI_1]
    rfl
  · show ax_run m_X8_threes 4 _ [] h = _
    rw [e_X8_threes_4, if_pos ((le_ (a := e) (b := e) (by omega) (by omega)).mpr (Nat.le_refl _))]
theorem pow3 {n : Nat} (h : n ≤ 7) : 3 ^ n ≤ 2187 := show 3 ^ n ≤ 3 ^ 7 from Nat.pow_le_pow_right (by omega) h
/-- the walls of a code's digit -/
def chs (s : Sp) (c d : Nat) : Int32 := bm (fun i => decide (c / 3 ^ i % 3 = d)) (zW s)
theorem div3 (c k : Nat) : c / 3 ^ k / 3 = c / 3 ^ (k + 1) := by rw [Nat.div_div_eq_div_mul, Nat.pow_succ]
theorem chosen_ {h : ax_Hp} {s : Sp} {c d : Nat} (r : RC h 1 s 0) (hc : c < 3000) (hd : d ≤ 2) : rI m_X0_chosen [.ref 40, .ref 1, .int (nI c), .int (nI d)] h = some (chs s c d, h) := by
  have hW := r.1.1.1
  have n0 := r.1.2.2.1
  refine rI_of ((e_X0_chosen_0 _ _ h).trans ?_)
  have e0 : nI c = nI (c / 3 ^ 0) := by rw [Nat.pow_zero, Nat.div_one]
  rw [e0]
  refine (lp (fun k (v : Int32 × Int32) => ax_run m_X0_chosen 9 [(1, .ref 1), (3, .int (nI d)), (4, .int v.1), (5, .int v.2), (6, .int k)] [] h) (fun k => (bm (fun i => decide (c / 3 ^ i % 3 = d)) k, nI (c / 3 ^ k))) (zW s) (fun k hk => ?_)).trans ?_
  · show ax_run m_X0_chosen 9 [(1, .ref 1), (3, .int (nI d)), (4, .int (bm (fun i => decide (c / 3 ^ i % 3 = d)) k)), (5, .int (nI (c / 3 ^ k))), (6, .int (nI k))] [] h = ax_run m_X0_chosen 9 [(1, .ref 1), (3, .int (nI d)), (4, .int (bm (fun i => decide (c / 3 ^ i % 3 = d)) (k + 1))), (5, .int (nI (c / 3 ^ (k + 1)))), (6, .int (nI (k + 1)))] [] h
    have hq : c / 3 ^ k ≤ c := Nat.div_le_self _ _
    have hm : c / 3 ^ k % 3 < 3 := Nat.mod_lt _ (by omega)
    rw [e_X0_chosen_9, n0, if_neg (fun y => by
      have := (le_ (a := zW s) (b := k) (by omega) (by omega)).mp y
      omega), l3, rem_ (a := c / 3 ^ k) (d := 3) (by omega) (by omega) (by omega), div_ (a := c / 3 ^ k) (d := 3) (by omega) (by omega) (by omega), div3, nI_1]
    simp (disch := omega) only [eq_, bm, decide_eq_true_eq]
    split <;> rfl
  · show ax_run m_X0_chosen 9 _ [] h = _
    rw [e_X0_chosen_9, n0, if_pos ((le_ (a := zW s) (b := zW s) (by omega) (by omega)).mpr (Nat.le_refl _))]
    rfl
def thr (s : Sp) (a : Nat) (x y : Int32) : Int32 := (zat s a &&& (y ^^^ (-1))) ||| x
theorem closed_ {h : ax_Hp} {s : Sp} {a : Nat} {x y : Int32} (r : RC h 1 s 0) (ha : a < 8) : rI m_X0_isClosed [.ref 40, .ref 1, .int (nI a), .int x, .int y] h = some (if zneed s 0 a ≤ cva s (thr s a x y) then 1 else 0, h) := by
  have b1 := cva_le r.1.1 (thr s a x y)
  have b2 := zneed_le r.1.1 r.1.2.1 ha
  refine rI_of ((e_X0_isClosed_0 _ _ _ h).trans ?_)
  rw [wallsAt_ is1 r.1 (by omega), bnd]
  show (rI m_X0_coverOfAll [.ref 40, .ref 1, .int (thr s a x y)] h).bind _ = _
  rw [cva_ r, bnd, needOf_ is1 r ha, bnd]
  simp (disch := omega) only [lt_]
  by_cases q : cva s (thr s a x y) < zneed s 0 a
  · rw [if_pos q, if_neg (by omega)]
  · rw [if_neg q, if_pos (by omega)]
def spOk (s : Sp) (a b k : Nat) : Bool := decide (zneed s 0 a ≤ cva s (thr s a (chs s k 1) (chs s k 2)) ∧ zneed s 0 b ≤ cva s (thr s b (chs s k 2) (chs s k 1)))
def sps (s : Sp) (a b k : Nat) : Nat := stp s (chs s k 1) a + stp s (chs s k 2) b
def spF (s : Sp) (a b : Nat) : Nat → Int32 × Nat
  | 0 => (-9, 0)
  | k + 1 => if spOk s a b k = true ∧ ((spF s a b k).1 = -9 ∨ sps s a b k < (spF s a b k).2) then (nI k, sps s a b k) else spF s a b k
theorem spF_is {s : Sp} (ok : okS s) {a b : Nat} (ha : a < 8) (hb : b < 8) (k : Nat) : ((spF s a b k).1 = -9 ∨ ∃ i, i < k ∧ (spF s a b k).1 = nI i) ∧ (spF s a b k).2 ≤ 112 := by
  induction k with
  | zero => exact ⟨Or.inl rfl, by show 0 ≤ 112; omega⟩
  | succ k ih =>
    have w1 := stp_le ok (chs s k 1) ha
    have w2 := stp_le ok (chs s k 2) hb
    simp only [spF]
    split
    · exact ⟨Or.inr ⟨k, by omega, rfl⟩, by show _ + _ ≤ 112; omega⟩
    · exact ⟨ih.1.elim Or.inl (fun ⟨j, hj, e⟩ => Or.inr ⟨j, by omega, e⟩), ih.2⟩
def pick (s : Sp) (x : Int32 × Nat) (d : Nat) : Int32 := if x.1 = -9 then -9 else chs s x.1.toNatClampNeg d
def vsplit (s : Sp) (a b q : Nat) : Int32 := if q = 0 then few (spF s a b (3 ^ zW s)) else pick s (spF s a b (3 ^ zW s)) q
theorem split_ {h : ax_Hp} {s : Sp} {a b q : Nat} (r : RC h 1 s 0) (ha : a < 8) (hb : b < 8) (hq : q ≤ 2) : rI m_X0_closeBoth [.ref 40, .ref 1, .int (nI a), .int (nI b), .int (nI q)] h = some (vsplit s a b q, h) := by
  have hW := r.1.1.1
  have hp := pow3 hW
  have hp0 : 3 ^ 0 ≤ 3 ^ zW s := Nat.pow_le_pow_right (by omega) (Nat.zero_le _)
  have n0 := r.1.2.2.1
  refine rI_of ((e_X0_closeBoth_0 _ _ _ h).trans ?_)
  rw [n0, l3, power_ (by omega) (by omega), bnd]
  simp only []
  rw [lN_i]
  refine (lp (fun k (v : Int32 × Nat) => ax_run m_X0_closeBoth 22 [(0, .ref 40), (1, .ref 1), (2, .int (nI a)), (3, .int (nI b)), (4, .int (nI q)), (5, .int v.1), (6, .int (few v)), (7, .int (nI (3 ^ zW s))), (8, .int k)] [] h) (spF s a b) (3 ^ zW s) (fun k hk => ?_)).trans ?_
  · show ax_run m_X0_closeBoth 22 [(0, .ref 40), (1, .ref 1), (2, .int (nI a)), (3, .int (nI b)), (4, .int (nI q)), (5, .int (spF s a b k).1), (6, .int (few (spF s a b k))), (7, .int (nI (3 ^ zW s))), (8, .int (nI k))] [] h = ax_run m_X0_closeBoth 22 [(0, .ref 40), (1, .ref 1), (2, .int (nI a)), (3, .int (nI b)), (4, .int (nI q)), (5, .int (spF s a b (k + 1)).1), (6, .int (few (spF s a b (k + 1)))), (7, .int (nI (3 ^ zW s))), (8, .int (nI (k + 1)))] [] h
    have w1 := stp_le r.1.1 (chs s k 1) ha
    have w2 := stp_le r.1.1 (chs s k 2) hb
    have w4 := (spF_is r.1.1 ha hb k).2
    have h1 : rI m_X0_chosen [.ref 40, .ref 1, .int (nI k), .int 1] h = some (chs s k 1, h) := chosen_ (d := 1) r (by omega) (by omega)
    have h2 : rI m_X0_chosen [.ref 40, .ref 1, .int (nI k), .int 2] h = some (chs s k 2, h) := chosen_ (d := 2) r (by omega) (by omega)
    rw [e_X0_closeBoth_22, if_neg (fun y => by
      have := (le_ (a := 3 ^ zW s) (b := k) (by omega) (by omega)).mp y
      omega), nI_1]
    simp (disch := omega) only [h1, h2, stp_ r ha, stp_ r hb, closed_ r ha, closed_ r hb, bnd, add_]
    have es : stp s (chs s k 1) a + stp s (chs s k 2) b = sps s a b k := rfl
    rw [es]
    simp only [spF]
    have ws : sps s a b k ≤ 112 := by unfold sps; omega
    by_cases q1 : (spF s a b k).1 = -9
    · rw [if_pos q1]
      by_cases q2 : zneed s 0 a ≤ cva s (thr s a (chs s k 1) (chs s k 2))
      · by_cases q3 : zneed s 0 b ≤ cva s (thr s b (chs s k 2) (chs s k 1))
        · have q4 : spOk s a b k = true := decide_eq_true ⟨q2, q3⟩
          simp only [q2, q3, if_true, ax_10, if_false]
          rw [if_pos ⟨q4, Or.inl q1⟩]
          unfold few
          rw [if_neg (n9_ (by omega))]
        · have q4 : spOk s a b k = false := decide_eq_false (fun y => q3 y.2)
          simp only [q2, q3, if_true, ax_10, if_false]
          rw [if_neg (fun y => by rw [q4] at y; exact absurd y.1 (by decide))]
      · have q4 : spOk s a b k = false := decide_eq_false (fun y => q2 y.1)
        simp only [q2, if_true, if_false]
        rw [if_neg (fun y => by rw [q4] at y; exact absurd y.1 (by decide))]
    · have ef : few (spF s a b k) = nI (spF s a b k).2 := if_neg q1
      rw [if_neg q1, ef]
      simp (disch := omega) only [le_]
      by_cases q5 : sps s a b k < (spF s a b k).2
      · rw [if_neg (by omega)]
        by_cases q2 : zneed s 0 a ≤ cva s (thr s a (chs s k 1) (chs s k 2))
        · by_cases q3 : zneed s 0 b ≤ cva s (thr s b (chs s k 2) (chs s k 1))
          · have q4 : spOk s a b k = true := decide_eq_true ⟨q2, q3⟩
            simp only [q2, q3, if_true, ax_10, if_false]
            rw [if_pos ⟨q4, Or.inr q5⟩]
            unfold few
            rw [if_neg (n9_ (by omega))]
          · have q4 : spOk s a b k = false := decide_eq_false (fun y => q3 y.2)
            simp only [q2, q3, if_true, ax_10, if_false]
            rw [if_neg (fun y => by rw [q4] at y; exact absurd y.1 (by decide)), ef]
        · have q4 : spOk s a b k = false := decide_eq_false (fun y => q2 y.1)
          simp only [q2, if_true, if_false]
          rw [if_neg (fun y => by rw [q4] at y; exact absurd y.1 (by decide)), ef]
      · rw [if_pos (by omega), if_neg (fun y => y.2.elim q1 q5), ef]
  · show ax_run m_X0_closeBoth 22 [(0, .ref 40), (1, .ref 1), (2, .int (nI a)), (3, .int (nI b)), (4, .int (nI q)), (5, .int (spF s a b (3 ^ zW s)).1), (6, .int (few (spF s a b (3 ^ zW s)))), (7, .int (nI (3 ^ zW s))), (8, .int (nI (3 ^ zW s)))] [] h = _
    rw [e_X0_closeBoth_22, if_pos ((le_ (a := 3 ^ zW s) (b := 3 ^ zW s) (by omega) (by omega)).mpr (Nat.le_refl _))]
    simp (disch := omega) only [eq0]
    unfold vsplit
    by_cases q0 : q = 0
    · rw [if_pos q0, if_pos q0]
    · rw [if_neg q0, if_neg q0]
      unfold pick
      rcases (spF_is r.1.1 ha hb (3 ^ zW s)).1 with e | ⟨i, hi, e⟩
      · rw [if_pos e, if_pos e]
        unfold few
        rw [if_pos e]
      · have q6 : ¬ (spF s a b (3 ^ zW s)).1 = -9 := by rw [e]; exact n9_ (by omega)
        rw [if_neg q6, if_neg q6, e, chosen_ r (by omega) hq, bnd, cl_ (by omega)]
theorem isSplit_ {h : ax_Hp} {s : Sp} {a b c : Nat} (r : RM h s 0) (ha : a < 8) (hb : b < 8) (hc : c < 3000) :
    ∃ h', rI m_X8_isSplit [.ref 47, .int (nI a), .int (nI b), .int (nI c)] h = some (if spOk s a b c = true then 1 else 0, h') ∧ QM h h' s ∧ h'.1 47 28 = chs s c 1 ∧ h'.1 47 29 = chs s c 2 := by
  have hW := r.1.1
  have q0 := QM_slot (i := 29) (x := 0) (QM_slot (i := 28) (x := 0) (QM.refl r) (by omega)) (by omega)
  obtain ⟨h2, e2, q2, u2, v2⟩ := ex_loop (fun (k : Int32) (g : Int32 × ax_Hp) => ax_run m_X8_isSplit 16 [(0, .ref 47), (1, .int (nI a)), (2, .int (nI b)), (4, .int g.1), (5, .int k)] [] g.2) (fun k g => QM h g.2 s ∧ (g.2.1 47 28 = bm (fun i => decide (c / 3 ^ i % 3 = 1)) k ∧ g.2.1 47 29 = bm (fun i => decide (c / 3 ^ i % 3 = 2)) k) ∧ g.1 = nI (c / 3 ^ k)) (zW s) (by
    intro k g hk ⟨qg, ⟨ug, vg⟩, cg⟩
    have hq : c / 3 ^ k ≤ c := Nat.div_le_self _ _
    have hm : c / 3 ^ k % 3 < 3 := Nat.mod_lt _ (by omega)
    have q1 := QM_slot (i := 29) (x := bm (fun i => decide (c / 3 ^ i % 3 = 2)) (k + 1)) (QM_slot (i := 28) (x := bm (fun i => decide (c / 3 ^ i % 3 = 1)) (k + 1)) qg (by omega)) (by omega)
    refine ⟨(nI (c / 3 ^ (k + 1)), wI (wI g.2 47 28 (bm (fun i => decide (c / 3 ^ i % 3 = 1)) (k + 1))) 47 29 (bm (fun i => decide (c / 3 ^ i % 3 = 2)) (k + 1))), ?_, q1, ⟨by simp (disch := omega) only [wI_at, upd_at, upd_ne], by simp (disch := omega) only [wI_at, upd_at]⟩, rfl⟩
    show ax_run m_X8_isSplit 16 [(0, .ref 47), (1, .int (nI a)), (2, .int (nI b)), (4, .int g.1), (5, .int (nI k))] [] g.2 = ax_run m_X8_isSplit 16 [(0, .ref 47), (1, .int (nI a)), (2, .int (nI b)), (4, .int (nI (c / 3 ^ (k + 1)))), (5, .int (nI (k + 1)))] [] (wI (wI g.2 47 28 (bm (fun i => decide (c / 3 ^ i % 3 = 1)) (k + 1))) 47 29 (bm (fun i => decide (c / 3 ^ i % 3 = 2)) (k + 1)))
    have c1 : (nI (c / 3 ^ k % 3) = 1) = (c / 3 ^ k % 3 = 1) := propext (eq_ (b := 1) (by omega) (by omega))
    have c2 : (nI (c / 3 ^ k % 3) = 2) = (c / 3 ^ k % 3 = 2) := propext (eq_ (b := 2) (by omega) (by omega))
    rw [e_X8_isSplit_16, qg.2.2.1.2.2.1, if_neg (fun y => by
      have := (le_ (a := zW s) (b := k) (by omega) (by omega)).mp y
      omega), cg, l3, rem_ (a := c / 3 ^ k) (d := 3) (by omega) (by omega) (by omega), div_ (a := c / 3 ^ k) (d := 3) (by omega) (by omega) (by omega), div3, nI_1]
    simp (disch := omega) only [c1, c2, wI_at, upd_ne, ug, vg, Int32.or_zero, bm, decide_eq_true_eq]
    by_cases p1 : c / 3 ^ k % 3 = 1
    · have p2 : ¬ c / 3 ^ k % 3 = 2 := by omega
      simp only [if_pos p1, if_neg p2]
    · by_cases p2 : c / 3 ^ k % 3 = 2
      · simp only [if_neg p1, if_pos p2]
      · simp only [if_neg p1, if_neg p2]) (nI c, wI (wI h 47 28 0) 47 29 0) (k0 := 0) ⟨q0, ⟨by simp (disch := omega) only [wI_at, upd_at, upd_ne]; rfl, by simp (disch := omega) only [wI_at, upd_at]; rfl⟩, by rw [Nat.pow_zero, Nat.div_one]⟩ (by omega)
  have r2 := q2.2.2.1
  have b1 := cva_le r2.1 (thr s a (chs s c 1) (chs s c 2))
  have b2 := cva_le r2.1 (thr s b (chs s c 2) (chs s c 1))
  have b3 := zneed_le r2.1 (w := 0) (by omega) ha
  have b4 := zneed_le r2.1 (w := 0) (by omega) hb
  refine ⟨h2.2, rI_of ((e_X8_isSplit_0 _ _ _ h).trans (e2.trans ?_)), q2, u2.1, u2.2⟩
  show ax_run m_X8_isSplit 16 [(0, .ref 47), (1, .int (nI a)), (2, .int (nI b)), (4, .int h2.1), (5, .int (nI (zW s)))] [] h2.2 = _
  have et1 : (zat s a &&& (chs s c 2 ^^^ (-1))) ||| chs s c 1 = thr s a (chs s c 1) (chs s c 2) := rfl
  have et2 : (zat s b &&& (chs s c 1 ^^^ (-1))) ||| chs s c 2 = thr s b (chs s c 2) (chs s c 1) := rfl
  rw [e_X8_isSplit_16, r2.2.2.1, if_pos ((le_ (a := zW s) (b := zW s) (by omega) (by omega)).mpr (Nat.le_refl _))]
  have u1 : h2.2.1 47 28 = chs s c 1 := u2.1
  have u3 : h2.2.1 47 29 = chs s c 2 := u2.2
  simp (disch := omega) only [wallsOfAt_ r2, bnd, u1, u3, et1, et2, cvaM_ r2, lacksWith_ r2 ha, lacksWith_ r2 hb, eq0]
  unfold spOk
  simp only [decide_eq_true_eq]
  by_cases p1 : zneed s 0 a ≤ cva s (thr s a (chs s c 1) (chs s c 2))
  · rw [if_pos (by omega)]
    by_cases p2 : zneed s 0 b ≤ cva s (thr s b (chs s c 2) (chs s c 1))
    · rw [if_pos (by omega), if_pos ⟨p1, p2⟩]
    · rw [if_neg (by omega), if_neg (fun y => p2 y.2)]
  · rw [if_neg (by omega), if_neg (fun y => p1 y.1)]
theorem splitM_ {h : ax_Hp} {s : Sp} {a b q : Nat} (r : RM h s 0) (ha : a < 8) (hb : b < 8) (hq : q ≤ 2) : ∃ h', ax_run m_X8_split 56 [(0, .ref 47), (1, .int (nI a)), (2, .int (nI b)), (3, .int (nI q)), (5, .int (-9)), (6, .int (-9)), (7, .int (-9)), (8, .int 0)] [] h = some (some (.int (vsplit s a b q)), h') ∧ QM h h' s := by
  have hW := r.1.1
  have hp := pow3 hW
  have hp0 : 3 ^ 0 ≤ 3 ^ zW s := Nat.pow_le_pow_right (by omega) (Nat.zero_le _)
  obtain ⟨h2, e2, q2, f2⟩ := ex_loop (fun (k : Int32) (g : (Int32 × Nat) × ax_Hp) => ax_run m_X8_split 56 [(0, .ref 47), (1, .int (nI a)), (2, .int (nI b)), (3, .int (nI q)), (5, .int (few g.1)), (6, .int (pick s g.1 1)), (7, .int (pick s g.1 2)), (8, .int k)] [] g.2) (fun k g => QM h g.2 s ∧ g.1 = spF s a b k) (3 ^ zW s) (by
    intro k g hk ⟨qg, fg⟩
    obtain ⟨g1, e1, q1, u1, v1⟩ := isSplit_ (c := k) qg.2.2.1 ha hb (by omega)
    have r1 := q1.2.2.1
    have w1 := stp_le r1.1 (chs s k 1) ha
    have w2 := stp_le r1.1 (chs s k 2) hb
    obtain ⟨wi, w4⟩ := spF_is r1.1 ha hb k
    refine ⟨(spF s a b (k + 1), g1), ?_, qg.trans q1, rfl⟩
    show ax_run m_X8_split 56 [(0, .ref 47), (1, .int (nI a)), (2, .int (nI b)), (3, .int (nI q)), (5, .int (few g.1)), (6, .int (pick s g.1 1)), (7, .int (pick s g.1 2)), (8, .int (nI k))] [] g.2 = ax_run m_X8_split 56 [(0, .ref 47), (1, .int (nI a)), (2, .int (nI b)), (3, .int (nI q)), (5, .int (few (spF s a b (k + 1)))), (6, .int (pick s (spF s a b (k + 1)) 1)), (7, .int (pick s (spF s a b (k + 1)) 2)), (8, .int (nI (k + 1)))] [] g1
    rw [e_X8_split_56, qg.2.2.1.2.2.1, threes_ (by omega), bnd, if_neg (fun y => by
      have := (le_ (a := 3 ^ zW s) (b := k) (by omega) (by omega)).mp y
      omega), e1, bnd, fg, nI_1]
    simp only [spF]
    have es : stp s (chs s k 1) a + stp s (chs s k 2) b = sps s a b k := rfl
    have ws : sps s a b k ≤ 112 := by unfold sps; omega
    by_cases q4 : spOk s a b k = true
    · simp (disch := omega) only [q4, if_true, ax_10, if_false, u1, v1, stpM_ r1 ha, stpM_ r1 hb, bnd, add_, es, true_and]
      have pk : ∀ d, pick s (nI k, sps s a b k) d = chs s k d := fun d => by
        unfold pick
        rw [if_neg (n9_ (by omega)), cl_ (by omega)]
      have fw : few (nI k, sps s a b k) = nI (sps s a b k) := if_neg (n9_ (by omega))
      rcases wi with e | ⟨i, hi, e⟩
      · have q5 : few (spF s a b k) < 0 := by unfold few; rw [if_pos e]; decide
        rw [if_pos q5, if_pos (Or.inl e), pk, pk, fw]
      · have q6 : ¬ (spF s a b k).1 = -9 := by rw [e]; exact n9_ (by omega)
        have ef : few (spF s a b k) = nI (spF s a b k).2 := if_neg q6
        rw [ef, if_neg (nI_pos (by omega))]
        simp (disch := omega) only [lt_]
        by_cases q7 : sps s a b k < (spF s a b k).2
        · rw [if_pos q7, if_pos (Or.inr q7), pk, pk, fw]
        · rw [if_neg q7, if_neg (fun y => y.elim q6 q7), ef]
    · simp only [q4, if_true, if_false, false_and, Bool.false_eq_true]) ((-9, 0), h) (k0 := 0) ⟨QM.refl r, rfl⟩ (by omega)
  refine ⟨h2.2, e2.trans ?_, q2⟩
  show ax_run m_X8_split 56 [(0, .ref 47), (1, .int (nI a)), (2, .int (nI b)), (3, .int (nI q)), (5, .int (few h2.1)), (6, .int (pick s h2.1 1)), (7, .int (pick s h2.1 2)), (8, .int (nI (3 ^ zW s)))] [] h2.2 = _
  rw [e_X8_split_56, q2.2.2.1.2.2.1, threes_ (by omega), bnd, if_pos ((le_ (a := 3 ^ zW s) (b := 3 ^ zW s) (by omega) (by omega)).mpr (Nat.le_refl _)), f2]
  unfold vsplit
  have k3 : q = 0 ∨ q = 1 ∨ q = 2 := by omega
  rcases k3 with rfl | rfl | rfl
  · rfl
  · rfl
  · rfl
theorem op_split {h : ax_Hp} {A : Ab} (oa : okA A) (ic : IC h A) (im : IM h A) (x1 x2 x3 : Int32) : OP m_X7_split m_X8_split [.int x1, .int x2, .int x3] h := by
  have hW := ic.1.1.1.1
  by_cases ht : twoP x1 x2
  · by_cases ha : x3 < 0
    · exact OP_no (x := -2) 2 (by omega) oa ic im (rI_of ((e_X7_split_0 _ _ _ h).trans (by simp only [isWall_ is1 ic.1.1, isHouse_, outs_, bnd, no1, no2, no3, no4, no6, lo1, lo2, lo4, lo6, if_true, if_false, ax_10, ax_n4, ax_n6, and_self, areTwo_pos ht, ha]))) (fun h1 m => rI_of ((e_X8_split_0 _ _ _ h1).trans (by simp only [isWallM_ m.1, isHouseM_, outsM_, isIn_, notH_, bnd, mo1, mo2, mo3, mo4, mo6, ml1, ml2, ml4, ml6, if_true, if_false, ax_10, ax_n4, ax_n6, and_self, areTwoM_pos ht, lt0_of ha 2])))
    · by_cases hb : x3 ≤ 2
      · obtain ⟨a, b, ha1, hb1, hab, rfl, rfl⟩ := two_n ht
        obtain ⟨k, _, hk, rfl⟩ := in_n (m := 0) (n := 2) rfl rfl (n0l ha) hb (by omega) (by omega)
        have hx : 0 ≤ nI k ∧ nI k ≤ 2 := ⟨n0l ha, hb⟩
        refine OP_q (v := vsplit (bS A) a b k) oa ic im ⟨h, rI_of ((e_X7_split_0 _ _ _ h).trans ?_), QC.refl h⟩ (fun h1 m => ?_)
        · simp only [areTwo_pos ht, ha, hb, if_true, ax_10, if_false, bnd, split_ ic.1 ha1 hb1 hk]
        · obtain ⟨h2, e2, q2⟩ := splitM_ m.1 ha1 hb1 hk
          refine ⟨h2, rI_of ((e_X8_split_0 _ _ _ h1).trans ?_), q2⟩
          simp only [areTwoM_pos ht, isIn_, hx, and_self, if_true, ax_10, if_false, bnd]
          exact e2
      · have hx : ¬ (0 ≤ x3 ∧ x3 ≤ 2) := fun q => hb q.2
        exact OP_no (x := -2) 2 (by omega) oa ic im (rI_of ((e_X7_split_0 _ _ _ h).trans (by simp only [isWall_ is1 ic.1.1, isHouse_, outs_, bnd, no1, no2, no3, no4, no6, lo1, lo2, lo4, lo6, if_true, if_false, ax_10, ax_n4, ax_n6, and_self, areTwo_pos ht, ha, hb]))) (fun h1 m => rI_of ((e_X8_split_0 _ _ _ h1).trans (by simp only [isWallM_ m.1, isHouseM_, outsM_, isIn_, notH_, bnd, mo1, mo2, mo3, mo4, mo6, ml1, ml2, ml4, ml6, if_true, if_false, ax_10, ax_n4, ax_n6, and_self, areTwoM_pos ht, hx])))
  · exact OP_no (x := -1) 1 (by omega) oa ic im (rI_of ((e_X7_split_0 _ _ _ h).trans (by simp only [isWall_ is1 ic.1.1, isHouse_, outs_, bnd, no1, no2, no3, no4, no6, lo1, lo2, lo4, lo6, if_true, if_false, ax_10, ax_n4, ax_n6, and_self, areTwo_neg ht]))) (fun h1 m => rI_of ((e_X8_split_0 _ _ _ h1).trans (by simp only [isWallM_ m.1, isHouseM_, outsM_, isIn_, notH_, bnd, mo1, mo2, mo3, mo4, mo6, ml1, ml2, ml4, ml6, if_true, if_false, ax_10, ax_n4, ax_n6, and_self, areTwoM_neg ht])))
theorem wL_at (h : ax_Hp) (k i : Nat) (x : Int64) : (wL h k i x).2.1 k = vp_updL (h.2.1 k) i x := by simp [wL, sL]
theorem wL_ne {h : ax_Hp} {k i j : Nat} {x : Int64} (hj : j ≠ k) : (wL h k i x).2.1 j = h.2.1 j := by simp [wL, sL, hj]
theorem updL_at (f : Nat → Int64) (i : Nat) (x : Int64) : vp_updL f i x i = x := pk_uLs
theorem updL_ne {f : Nat → Int64} {i j : Nat} {x : Int64} (h : j ≠ i) : vp_updL f i x j = f j := pk_uLn h
def sL8 (f : Nat → Int64) : Nat → Int64
  | 0 => 0
  | n + 1 => sL8 f n + f n
def zwy (s : Sp) (i : Nat) : Nat → Nat → Int64
  | 0 => fun j => if j = zP s i then 1 else 0
  | n + 1 => fun j => sL8 (fun k => if zcgo s i k j = true then zwy s i n k else 0) 8
theorem waysOn_ {h : ax_Hp} {s : Sp} {i n : Nat} (r : RC h 1 s 0) (hi : i < zW s) (H : ∀ j, j < 8 → h.2.1 41 j = zwy s i n j) :
    ∃ h', rV m_X0_goOn [.ref 40, .ref 1, .int (nI i)] h = some h' ∧ h'.1 = h.1 ∧ h'.2.2 = h.2.2 ∧ ∀ j, j < 8 → h'.2.1 41 j = zwy s i (n + 1) j := by
  have hW := r.1.1.1
  obtain ⟨h2, e2, a2, b2, c2, d2⟩ := ex_loop (fun (t : Int32) (g : ax_Hp) => ax_run m_X0_goOn 2 [(0, .ref 40), (1, .ref 1), (2, .int (nI i)), (3, .int t)] [] g) (fun t g => g.1 = h.1 ∧ g.2.2 = h.2.2 ∧ g.2.1 41 = h.2.1 41 ∧ ∀ j, j < t → g.2.1 42 j = zwy s i (n + 1) j) 8 (by
    intro t g ht ⟨ag, bg, cg, dg⟩
    obtain ⟨h3, e3, a3, b3, c3, d3, f3⟩ := ex_loop (fun (k : Int32) (g : ax_Hp) => ax_run m_X0_goOn 18 [(0, .ref 40), (1, .ref 1), (2, .int (nI i)), (3, .int (nI t)), (4, .int k)] [] g) (fun k g => g.1 = h.1 ∧ g.2.2 = h.2.2 ∧ g.2.1 41 = h.2.1 41 ∧ (∀ j, j < t → g.2.1 42 j = zwy s i (n + 1) j) ∧ g.2.1 42 t = sL8 (fun k => if zcgo s i k t = true then zwy s i n k else 0) k) 8 (by
      intro k b hk ⟨ab, bb, cb, db, fb⟩
      have rb : RC b 1 s 0 := RC_of (fun c _ _ => by rw [ab]) r
      have st := e_X0_goOn_18 (nI i) (nI t) (nI k) b
      rw [if_neg (fun y => by
        have := (le_ (a := 8) (b := k) (by omega) (by omega)).mp y
        omega), canGo_ is1 rb.1 hi hk ht, bnd, nI_1] at st
      by_cases q : zcgo s i k t = true
      · simp only [q, if_true, ax_10, if_false] at st
        simp (disch := omega) only [g_in, cl_] at st
        refine ⟨_, st, ab, bb, (wL_ne (by omega)).trans cb, fun j hj => ?_, ?_⟩
        · rw [wL_at, updL_ne (by omega)]; exact db j hj
        · rw [wL_at, updL_at, fb, cb, H k hk]
          simp only [sL8, q, if_true]
      · simp only [q, if_true, if_false, Bool.false_eq_true] at st
        refine ⟨b, st, ab, bb, cb, db, ?_⟩
        rw [fb]
        simp only [sL8, q, if_false, Int64.add_zero, Bool.false_eq_true]) (wL g 42 t 0) (k0 := 0) ⟨ag, bg, (wL_ne (by omega)).trans cg, fun j hj => by rw [wL_at, updL_ne (by omega)]; exact dg j hj, by rw [wL_at, updL_at]; rfl⟩ (by omega)
    refine ⟨h3, ?_, a3, b3, c3, fun j hj => ?_⟩
    · show ax_run m_X0_goOn 2 _ [] g = ax_run m_X0_goOn 2 _ [] h3
      rw [e_X0_goOn_2, if_neg (fun y => by
        have := (le_ (a := 8) (b := t) (by omega) (by omega)).mp y
        omega)]
      simp (disch := omega) only [g_in, cl_]
      refine e3.trans ?_
      show ax_run m_X0_goOn 18 [(0, .ref 40), (1, .ref 1), (2, .int (nI i)), (3, .int (nI t)), (4, .int (nI 8))] [] h3 = _
      rw [e_X0_goOn_18, if_pos (by decide), nI_1]
    · by_cases e : j = t
      · rw [e, f3]; rfl
      · exact d3 j (by omega)) h (k0 := 0) ⟨rfl, rfl, rfl, fun j hj => by omega⟩ (by omega)
  refine ⟨cpL h2 41 42, rV_of ((e_X0_goOn_0 _ h).trans (e2.trans ?_)), a2, b2, fun j hj => ?_⟩
  · show ax_run m_X0_goOn 2 [(0, .ref 40), (1, .ref 1), (2, .int (nI i)), (3, .int (nI 8))] [] h2 = _
    rw [e_X0_goOn_2, if_pos (by decide)]
  · have : (cpL h2 41 42).2.1 41 = h2.2.1 42 := by simp [cpL, sL]
    rw [this]
    exact d2 j hj
theorem ways_ {h : ax_Hp} {s : Sp} {i j n : Nat} (r : RC h 1 s 0) (hi : i < zW s) (hj : j < 8) (hn : n ≤ 20) : ∃ h', rL m_X0_waysTo [.ref 40, .ref 1, .int (nI i), .int (nI j), .int (nI n)] h = some (zwy s i n j, h') ∧ QC h h' := by
  have hW := r.1.1.1
  have okP := (r.1.1.2.2.1 i (by omega)).2.2.2
  have p5 : h.1 5 i = nI (zP s i) := (r.1.2.2.2.2.2.1 i (by omega)).2.2.2.1
  obtain ⟨h2, e2, a2, b2, d2⟩ := ex_loop (fun (t : Int32) (g : ax_Hp) => ax_run m_X0_waysTo 3 [(0, .ref 40), (1, .ref 1), (2, .int (nI i)), (3, .int (nI j)), (4, .int (nI n)), (5, .int t)] [] g) (fun t g => g.1 = h.1 ∧ g.2.2 = h.2.2 ∧ ∀ j, j < t → g.2.1 41 j = zwy s i 0 j) 8 (by
    intro t g ht ⟨ag, bg, dg⟩
    have st := e_X0_waysTo_3 (nI i) (nI j) (nI n) (nI t) g
    rw [if_neg (fun y => by
      have := (le_ (a := 8) (b := t) (by omega) (by omega)).mp y
      omega), ag] at st
    simp (disch := omega) only [g_in, cl_, p5, eq_, nI_1] at st
    by_cases q : t = zP s i
    · rw [if_pos q] at st
      refine ⟨_, st, ag, bg, fun k hk => ?_⟩
      by_cases e : k = t
      · rw [e, wL_at, updL_at]; exact (if_pos q).symm
      · rw [wL_at, updL_ne e]; exact dg k (by omega)
    · rw [if_neg q] at st
      refine ⟨_, st, ag, bg, fun k hk => ?_⟩
      by_cases e : k = t
      · rw [e, wL_at, updL_at]; exact (if_neg q).symm
      · rw [wL_at, updL_ne e]; exact dg k (by omega)) h (k0 := 0) ⟨rfl, rfl, fun j hj => by omega⟩ (by omega)
  obtain ⟨h3, e3, a3, b3, d3⟩ := ex_loop (fun (t : Int32) (g : ax_Hp) => ax_run m_X0_waysTo 42 [(0, .ref 40), (1, .ref 1), (2, .int (nI i)), (3, .int (nI j)), (4, .int (nI n)), (5, .int t)] [] g) (fun t g => g.1 = h.1 ∧ g.2.2 = h.2.2 ∧ ∀ j, j < 8 → g.2.1 41 j = zwy s i t j) n (by
    intro t g ht ⟨ag, bg, dg⟩
    have rg : RC g 1 s 0 := RC_of (fun c _ _ => by rw [ag]) r
    obtain ⟨g1, e1, a1, b1, d1⟩ := waysOn_ rg hi dg
    refine ⟨g1, ?_, a1.trans ag, b1.trans bg, d1⟩
    show ax_run m_X0_waysTo 42 _ [] g = _
    rw [e_X0_waysTo_42, if_neg (fun y => by
      have := (le_ (a := n) (b := t) (by omega) (by omega)).mp y
      omega), e1, bnd, nI_1]) h2 (k0 := 0) ⟨a2, b2, d2⟩ (by omega)
  refine ⟨h3, rL_of ((e_X0_waysTo_0 _ _ _ h).trans (e2.trans ?_)), b3, fun k _ => by rw [a3]⟩
  show ax_run m_X0_waysTo 3 [(0, .ref 40), (1, .ref 1), (2, .int (nI i)), (3, .int (nI j)), (4, .int (nI n)), (5, .int (nI 8))] [] h2 = _
  rw [e_X0_waysTo_3, if_pos (by decide)]
  refine e3.trans ?_
  show ax_run m_X0_waysTo 42 [(0, .ref 40), (1, .ref 1), (2, .int (nI i)), (3, .int (nI j)), (4, .int (nI n)), (5, .int (nI n))] [] h3 = _
  rw [e_X0_waysTo_42, if_pos ((le_ (a := n) (b := n) (by omega) (by omega)).mpr (Nat.le_refl _))]
  simp (disch := omega) only [g_in, cl_]
  rw [d3 j hj]
theorem RM_1 {h h' : ax_Hp} {s : Sp} {w : Nat} (e : h'.1 = h.1) (r : RM h s w) : RM h' s w := by
  unfold RM at r ⊢
  rw [e]
  exact r
theorem waysOnM_ {h : ax_Hp} {s : Sp} {i n : Nat} (r : RM h s 0) (hi : i < zW s) (H : ∀ j, j < 8 → h.2.1 63 j = zwy s i n j) :
    ∃ h', rV m_X8_waysOn [.ref 47, .int (nI i)] h = some h' ∧ h'.1 = h.1 ∧ h'.2.2 = h.2.2 ∧ ∀ j, j < 8 → h'.2.1 63 j = zwy s i (n + 1) j := by
  have hW := r.1.1
  obtain ⟨h2, e2, a2, b2, c2, d2⟩ := ex_loop (fun (t : Int32) (g : ax_Hp) => ax_run m_X8_waysOn 2 [(0, .ref 47), (1, .int (nI i)), (2, .int t)] [] g) (fun t g => g.1 = h.1 ∧ g.2.2 = h.2.2 ∧ g.2.1 63 = h.2.1 63 ∧ ∀ j, j < t → g.2.1 64 j = zwy s i (n + 1) j) 8 (by
    intro t g ht ⟨ag, bg, cg, dg⟩
    obtain ⟨h3, e3, a3, b3, c3, d3, f3⟩ := ex_loop (fun (k : Int32) (g : ax_Hp) => ax_run m_X8_waysOn 17 [(0, .ref 47), (1, .int (nI i)), (2, .int (nI t)), (3, .int k)] [] g) (fun k g => g.1 = h.1 ∧ g.2.2 = h.2.2 ∧ g.2.1 63 = h.2.1 63 ∧ (∀ j, j < t → g.2.1 64 j = zwy s i (n + 1) j) ∧ g.2.1 64 t = sL8 (fun k => if zcgo s i k t = true then zwy s i n k else 0) k) 8 (by
      intro k b hk ⟨ab, bb, cb, db, fb⟩
      have rb : RM b s 0 := RM_1 ab r
      have st := e_X8_waysOn_17 (nI i) (nI t) (nI k) b
      rw [if_neg (fun y => by
        have := (le_ (a := 8) (b := k) (by omega) (by omega)).mp y
        omega), canGoM_ (i := i) rb (by omega) hk ht, bnd, nI_1] at st
      simp (disch := omega) only [g_in, cl_] at st
      by_cases q : zcgo s i k t = true
      · simp only [q, if_true, ax_10, if_false] at st
        refine ⟨_, st, ab, bb, (wL_ne (by omega)).trans cb, fun j hj => ?_, ?_⟩
        · rw [wL_at, updL_ne (by omega)]; exact db j hj
        · rw [wL_at, updL_at, fb, cb, H k hk]
          simp only [sL8, q, if_true]
      · simp only [q, if_true, if_false, Bool.false_eq_true] at st
        refine ⟨_, st, ab, bb, (wL_ne (by omega)).trans cb, fun j hj => ?_, ?_⟩
        · rw [wL_at, updL_ne (by omega)]; exact db j hj
        · rw [wL_at, updL_at, fb]
          simp only [sL8, q, if_false, Bool.false_eq_true]) (wL g 64 t 0) (k0 := 0) ⟨ag, bg, (wL_ne (by omega)).trans cg, fun j hj => by rw [wL_at, updL_ne (by omega)]; exact dg j hj, by rw [wL_at, updL_at]; rfl⟩ (by omega)
    refine ⟨h3, ?_, a3, b3, c3, fun j hj => ?_⟩
    · show ax_run m_X8_waysOn 2 _ [] g = ax_run m_X8_waysOn 2 _ [] h3
      rw [e_X8_waysOn_2, if_neg (fun y => by
        have := (le_ (a := 8) (b := t) (by omega) (by omega)).mp y
        omega)]
      simp (disch := omega) only [g_in, cl_]
      refine e3.trans ?_
      show ax_run m_X8_waysOn 17 [(0, .ref 47), (1, .int (nI i)), (2, .int (nI t)), (3, .int (nI 8))] [] h3 = _
      rw [e_X8_waysOn_17, if_pos (by decide), nI_1]
    · by_cases e : j = t
      · rw [e, f3]; rfl
      · exact d3 j (by omega)) h (k0 := 0) ⟨rfl, rfl, rfl, fun j hj => by omega⟩ (by omega)
  obtain ⟨h4, e4, a4, b4, c4, d4⟩ := ex_loop (fun (t : Int32) (g : ax_Hp) => ax_run m_X8_waysOn 66 [(0, .ref 47), (2, .int t)] [] g) (fun t g => g.1 = h.1 ∧ g.2.2 = h.2.2 ∧ g.2.1 64 = h2.2.1 64 ∧ ∀ j, j < t → g.2.1 63 j = zwy s i (n + 1) j) 8 (by
    intro t g ht ⟨ag, bg, cg, dg⟩
    have st := e_X8_waysOn_66 (nI t) g
    rw [if_neg (fun y => by
      have := (le_ (a := 8) (b := t) (by omega) (by omega)).mp y
      omega), nI_1] at st
    simp (disch := omega) only [g_in, cl_] at st
    refine ⟨_, st, ag, bg, (wL_ne (by omega)).trans cg, fun j hj => ?_⟩
    by_cases e : j = t
    · rw [e, wL_at, updL_at, cg]; exact d2 t ht
    · rw [wL_at, updL_ne e]; exact dg j (by omega)) h2 (k0 := 0) ⟨a2, b2, rfl, fun j hj => by omega⟩ (by omega)
  refine ⟨h4, rV_of ((e_X8_waysOn_0 _ h).trans (e2.trans ?_)), a4, b4, d4⟩
  show ax_run m_X8_waysOn 2 [(0, .ref 47), (1, .int (nI i)), (2, .int (nI 8))] [] h2 = _
  rw [e_X8_waysOn_2, if_pos (by decide)]
  refine e4.trans ?_
  show ax_run m_X8_waysOn 66 [(0, .ref 47), (2, .int (nI 8))] [] h4 = _
  rw [e_X8_waysOn_66, if_pos (by decide)]
theorem QM_1 {h h' : ax_Hp} {s : Sp} (r : RM h s 0) (e : h'.1 = h.1) (e2 : h'.2.2 = h.2.2) : QM h h' s := by
  refine ⟨e2, ?_, RM_1 e r, ?_, ?_, ?_, ?_, ?_, ?_⟩ <;> (try rw [e]) <;> intros <;> rfl
theorem waysM_ {h : ax_Hp} {s : Sp} {i j n : Nat} (r : RM h s 0) (hi : i < zW s) (hj : j < 8) (hn : n ≤ 20) : ∃ h', ax_run m_X8_ways 43 [(0, .ref 47), (1, .int (nI i)), (2, .int (nI j)), (3, .int (nI n)), (5, .int 0)] [] h = some (some (.long (zwy s i n j)), h') ∧ QM h h' s := by
  have hW := r.1.1
  have okP := (r.1.2.2.1 i (by omega)).2.2.2
  have p5 := (r.2.2.2.2.1 i (by omega)).2.2.2.1
  obtain ⟨h2, e2, a2, b2, d2⟩ := ex_loop (fun (t : Int32) (g : ax_Hp) => ax_run m_X8_ways 43 [(0, .ref 47), (1, .int (nI i)), (2, .int (nI j)), (3, .int (nI n)), (5, .int t)] [] g) (fun t g => g.1 = h.1 ∧ g.2.2 = h.2.2 ∧ ∀ j, j < t → g.2.1 63 j = zwy s i 0 j) 8 (by
    intro t g ht ⟨ag, bg, dg⟩
    have st := e_X8_ways_43 (nI i) (nI j) (nI n) (nI t) g
    rw [if_neg (fun y => by
      have := (le_ (a := 8) (b := t) (by omega) (by omega)).mp y
      omega), ag] at st
    simp (disch := omega) only [g_in, cl_, p5, eq_, nI_1] at st
    by_cases q : t = zP s i
    · rw [if_pos q] at st
      refine ⟨_, st, ag, bg, fun k hk => ?_⟩
      by_cases e : k = t
      · rw [e, wL_at, updL_at]; exact (if_pos q).symm
      · rw [wL_at, updL_ne e]; exact dg k (by omega)
    · rw [if_neg q] at st
      refine ⟨_, st, ag, bg, fun k hk => ?_⟩
      by_cases e : k = t
      · rw [e, wL_at, updL_at]; exact (if_neg q).symm
      · rw [wL_at, updL_ne e]; exact dg k (by omega)) h (k0 := 0) ⟨rfl, rfl, fun j hj => by omega⟩ (by omega)
  obtain ⟨h3, e3, a3, b3, d3⟩ := ex_loop (fun (t : Int32) (g : ax_Hp) => ax_run m_X8_ways 82 [(0, .ref 47), (1, .int (nI i)), (2, .int (nI j)), (3, .int (nI n)), (5, .int t)] [] g) (fun t g => g.1 = h.1 ∧ g.2.2 = h.2.2 ∧ ∀ j, j < 8 → g.2.1 63 j = zwy s i t j) n (by
    intro t g ht ⟨ag, bg, dg⟩
    obtain ⟨g1, e1, a1, b1, d1⟩ := waysOnM_ (RM_1 ag r) hi dg
    refine ⟨g1, ?_, a1.trans ag, b1.trans bg, d1⟩
    show ax_run m_X8_ways 82 _ [] g = _
    rw [e_X8_ways_82, if_neg (fun y => by
      have := (le_ (a := n) (b := t) (by omega) (by omega)).mp y
      omega), e1, bnd, nI_1]) h2 (k0 := 0) ⟨a2, b2, d2⟩ (by omega)
  refine ⟨h3, e2.trans ?_, QM_1 r a3 b3⟩
  show ax_run m_X8_ways 43 [(0, .ref 47), (1, .int (nI i)), (2, .int (nI j)), (3, .int (nI n)), (5, .int (nI 8))] [] h2 = _
  rw [e_X8_ways_43, if_pos (by decide)]
  refine e3.trans ?_
  show ax_run m_X8_ways 82 [(0, .ref 47), (1, .int (nI i)), (2, .int (nI j)), (3, .int (nI n)), (5, .int (nI n))] [] h3 = _
  rw [e_X8_ways_82, if_pos ((le_ (a := n) (b := n) (by omega) (by omega)).mpr (Nat.le_refl _))]
  simp (disch := omega) only [g_in, cl_]
  rw [d3 j hj]
theorem op_ways {h : ax_Hp} {A : Ab} (oa : okA A) (ic : IC h A) (im : IM h A) (x1 x2 x3 : Int32) : OPL m_X7_ways m_X8_ways [.int x1, .int x2, .int x3] h := by
  have hW := ic.1.1.1.1
  by_cases hw : 0 ≤ x1 ∧ x1 < nI (zW (bS A))
  · by_cases hx : 0 ≤ x2 ∧ x2 < 8
    · by_cases ha : 0 ≤ x3
      · by_cases hb : x3 ≤ 20
        · obtain ⟨i, hi, rfl⟩ := of_in hw.1 hw.2 (by omega)
          obtain ⟨j, hj, rfl⟩ := of_in hx.1 hx.2 (n := 8) (by omega)
          obtain ⟨n, _, hn, rfl⟩ := in_n (m := 0) (n := 20) rfl rfl ha hb (by omega) (by omega)
          refine OPL_q (v := zwy (bS A) i n j) oa ic im ?_ (fun h1 m => ?_)
          · obtain ⟨h1, e1, q1⟩ := ways_ ic.1 hi hj hn
            refine ⟨h1, rL_of ((e_X7_ways_0 _ _ _ h).trans ?_), q1⟩
            simp only [isWall_ is1 ic.1.1, isHouse_, hw, hx, and_self, outs_, ha, hb, if_true, ax_10, if_false, bnd, e1]
          · obtain ⟨h2, e2, q2⟩ := waysM_ m.1 hi hj hn
            refine ⟨h2, rL_of ((e_X8_ways_0 _ _ _ h1).trans ?_), q2⟩
            simp only [isWallM_ m.1, isHouseM_, hw, hx, and_self, outsM_, ha, hb, if_true, ax_10, if_false, bnd]
            exact e2
        · exact OPL_no (x := 4000000000000000000 - (-6 : Int32).toInt64) 6 (by omega) oa ic im (rL_of ((e_X7_ways_0 _ _ _ h).trans (by simp only [isWall_ is1 ic.1.1, isHouse_, outs_, bnd, no1, no2, no3, no4, no6, lo1, lo2, lo4, lo6, if_true, if_false, ax_10, ax_n4, ax_n6, and_self, hw, hx, ha, hb]))) (fun h1 m => rL_of ((e_X8_ways_0 _ _ _ h1).trans (by simp only [isWallM_ m.1, isHouseM_, outsM_, isIn_, notH_, bnd, mo1, mo2, mo3, mo4, mo6, ml1, ml2, ml4, ml6, if_true, if_false, ax_10, ax_n4, ax_n6, and_self, hw, hx, ha, hb])))
      · exact OPL_no (x := 4000000000000000000 - (-4 : Int32).toInt64) 4 (by omega) oa ic im (rL_of ((e_X7_ways_0 _ _ _ h).trans (by simp only [isWall_ is1 ic.1.1, isHouse_, outs_, bnd, no1, no2, no3, no4, no6, lo1, lo2, lo4, lo6, if_true, if_false, ax_10, ax_n4, ax_n6, and_self, hw, hx, ha]))) (fun h1 m => rL_of ((e_X8_ways_0 _ _ _ h1).trans (by simp only [isWallM_ m.1, isHouseM_, outsM_, isIn_, notH_, bnd, mo1, mo2, mo3, mo4, mo6, ml1, ml2, ml4, ml6, if_true, if_false, ax_10, ax_n4, ax_n6, and_self, hw, hx, ha])))
    · exact OPL_no (x := 4000000000000000000 - (-1 : Int32).toInt64) 1 (by omega) oa ic im (rL_of ((e_X7_ways_0 _ _ _ h).trans (by simp only [isWall_ is1 ic.1.1, isHouse_, outs_, bnd, no1, no2, no3, no4, no6, lo1, lo2, lo4, lo6, if_true, if_false, ax_10, ax_n4, ax_n6, and_self, hw, hx]))) (fun h1 m => rL_of ((e_X8_ways_0 _ _ _ h1).trans (by simp only [isWallM_ m.1, isHouseM_, outsM_, isIn_, notH_, bnd, mo1, mo2, mo3, mo4, mo6, ml1, ml2, ml4, ml6, if_true, if_false, ax_10, ax_n4, ax_n6, and_self, hw, hx])))
  · exact OPL_no (x := 4000000000000000000 - (-1 : Int32).toInt64) 1 (by omega) oa ic im (rL_of ((e_X7_ways_0 _ _ _ h).trans (by simp only [isWall_ is1 ic.1.1, isHouse_, outs_, bnd, no1, no2, no3, no4, no6, lo1, lo2, lo4, lo6, if_true, if_false, ax_10, ax_n4, ax_n6, and_self, hw]))) (fun h1 m => rL_of ((e_X8_ways_0 _ _ _ h1).trans (by simp only [isWallM_ m.1, isHouseM_, outsM_, isIn_, notH_, bnd, mo1, mo2, mo3, mo4, mo6, ml1, ml2, ml4, ml6, if_true, if_false, ax_10, ax_n4, ax_n6, and_self, hw])))
