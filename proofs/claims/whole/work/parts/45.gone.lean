/-! operations: hours gone by; who sees, hide (by wip/whole/gen45.py) -/
theorem l999 : (999 : Int32) = nI 999 := rfl
/-- was seen at an hour -/
def sn (A : Ab) (j t : Nat) : Bool := decide (1 ≤ t ∧ t ≤ zT (bS A)) && bitB (bH A t) j
theorem had_ {h : ax_Hp} {A : Ab} (ic : IC h A) {j t : Nat} (hT : zT (bS A) ≤ 999) (ht : t ≤ zT (bS A)) : rI m_X1_had [.ref 34, .int (nI t), .int (nI j)] h = some (if sn A j t = true then 1 else 0, h) := by
  refine rI_of ((e_X1_had_0 _ _ h).trans ?_)
  rw [l999]
  simp (disch := omega) only [le0, lt_]
  by_cases q : t ≤ 0
  · rw [if_pos q]
    have : sn A j t = false := by unfold sn; rw [decide_eq_false (by omega)]; rfl
    rw [this]; rfl
  · rw [if_neg q, if_neg (by omega), in_nI (by omega) (by omega), g_true, cl_ (by omega), ic.2.2.2.1 t (by omega) ht, hasBit_, bnd]
    have : sn A j t = bitB (bH A t) j := by unfold sn; rw [decide_eq_true (by omega)]; rfl
    rw [this]
    cases bitB (bH A t) j <;> simp [ax_10]
theorem wasM_ {h : ax_Hp} {A : Ab} (im : IM h A) {j t : Nat} (hT : zT (bS A) ≤ 999) (ht : t ≤ 1000000) : rI m_X8_wasSeenAt [.ref 47, .int (nI j), .int (nI t)] h = some (if sn A j t = true then 1 else 0, h) := by
  refine rI_of ((e_X8_wasSeenAt_0 _ _ h).trans ?_)
  rw [im.1.2.2.2.1]
  simp (disch := omega) only [le0, lt_]
  by_cases q : t ≤ 0
  · rw [if_pos q]
    have : sn A j t = false := by unfold sn; rw [decide_eq_false (by omega)]; rfl
    rw [this]; rfl
  · by_cases q2 : zT (bS A) < t
    · rw [if_neg q, if_pos q2]
      have : sn A j t = false := by unfold sn; rw [decide_eq_false (by omega)]; rfl
      rw [this]; rfl
    · rw [if_neg q, if_neg q2, in_nI (by omega) (by omega), g_true, cl_ (by omega), im.2.2.2.1 t (by omega) (by omega), has_, bnd]
      have : sn A j t = bitB (bH A t) j := by unfold sn; rw [decide_eq_true (by omega)]; rfl
      rw [this]
      cases bitB (bH A t) j <;> simp [ax_10]
/-- how many from a on, so many, have p -/
def cN (p : Nat → Bool) (a n : Nat) : Nat := smN n (fun k => if p (a + k) = true then 1 else 0)
theorem cN_le (p : Nat → Bool) (a n : Nat) : cN p a n ≤ n := by
  have := smN_le (n := n) (b := 1) (f := fun k => if p (a + k) = true then 1 else 0) (fun k _ => by show (if _ then 1 else 0) ≤ 1; split <;> omega)
  unfold cN; omega
theorem cN_zero {p : Nat → Bool} {a n m : Nat} (h : ∀ k, n ≤ k → k < n + m → p (a + k) = false) : cN p a (n + m) = cN p a n := by
  induction m with
  | zero => rfl
  | succ m ih =>
    have : cN p a (n + (m + 1)) = cN p a (n + m) + (if p (a + (n + m)) = true then 1 else 0) := rfl
    rw [this, ih (fun k h1 h2 => h k h1 (by omega)), h (n + m) (by omega) (by omega)]
    rfl
theorem cN_shift (p : Nat → Bool) (n : Nat) : cN p 0 (n + 1) = (if p 0 = true then 1 else 0) + cN p 1 n := by
  induction n with
  | zero => unfold cN smN smN; simp only [Nat.zero_add, Nat.add_zero]
  | succ n ih =>
    have h1 : cN p 0 (n + 1 + 1) = cN p 0 (n + 1) + (if p (0 + (n + 1)) = true then 1 else 0) := rfl
    have h2 : cN p 1 (n + 1) = cN p 1 n + (if p (1 + n) = true then 1 else 0) := rfl
    rw [h1, h2, ih, show 0 + (n + 1) = 1 + n by omega]
    omega
theorem cN_or (p q : Nat → Bool) (a n : Nat) : cN (fun t => p t || q t) a n + cN (fun t => p t && q t) a n = cN p a n + cN q a n := by
  induction n with
  | zero => rfl
  | succ n ih =>
    have h1 : ∀ p : Nat → Bool, cN p a (n + 1) = cN p a n + (if p (a + n) = true then 1 else 0) := fun _ => rfl
    rw [h1, h1, h1, h1]
    have : (if (p (a + n) || q (a + n)) = true then 1 else 0) + (if (p (a + n) && q (a + n)) = true then 1 else 0) = (if p (a + n) = true then 1 else 0) + (if q (a + n) = true then 1 else 0) := by
      cases p (a + n) <;> cases q (a + n) <;> rfl
    omega
theorem cN_xor (p q : Nat → Bool) (a n : Nat) : cN (fun t => p t ^^ q t) a n + 2 * cN (fun t => p t && q t) a n = cN p a n + cN q a n := by
  induction n with
  | zero => rfl
  | succ n ih =>
    have h1 : ∀ p : Nat → Bool, cN p a (n + 1) = cN p a n + (if p (a + n) = true then 1 else 0) := fun _ => rfl
    rw [h1, h1, h1, h1]
    have : (if (p (a + n) ^^ q (a + n)) = true then 1 else 0) + 2 * (if (p (a + n) && q (a + n)) = true then 1 else 0) = (if p (a + n) = true then 1 else 0) + (if q (a + n) = true then 1 else 0) := by
      cases p (a + n) <;> cases q (a + n) <;> rfl
    omega
/-- from a to b; the class, b no later than now -/
theorem hoursOf_ {h : ax_Hp} {A : Ab} (ic : IC h A) (hT : zT (bS A) ≤ 999) {j a b : Nat} (hb : b ≤ zT (bS A)) (ha : a ≤ 999) : rI m_X1_hoursOf [.ref 34, .int (nI j), .int (nI a), .int (nI b)] h = some (nI (cN (sn A j) a (b + 1 - a)), h) := by
  have key : ∀ n, a + n ≤ b + 1 → ax_run m_X1_hoursOf 6 [(0, .ref 34), (1, .int (nI j)), (3, .int (nI b)), (4, .int 0), (5, .int (nI a))] [] h = ax_run m_X1_hoursOf 6 [(0, .ref 34), (1, .int (nI j)), (3, .int (nI b)), (4, .int (nI (cN (sn A j) a n))), (5, .int (nI (a + n)))] [] h := by
    intro n
    induction n with
    | zero => intro _; rfl
    | succ n ih =>
      intro hn
      rw [ih (by omega), e_X1_hoursOf_6]
      simp (disch := omega) only [lt_]
      rw [if_neg (by omega), had_ ic hT (by omega), bnd, nI_1, nI_1]
      have : cN (sn A j) a (n + 1) = cN (sn A j) a n + (if sn A j (a + n) = true then 1 else 0) := rfl
      rw [this]
      cases sn A j (a + n)
      · simp only [Bool.false_eq_true, if_false, if_true]; rfl
      · simp only [if_true, ax_10, if_false]; rfl
  refine rI_of ((e_X1_hoursOf_0 _ _ _ h).trans ?_)
  by_cases q : a ≤ b + 1
  · rw [key (b + 1 - a) (by omega), e_X1_hoursOf_6]
    simp (disch := omega) only [lt_]
    rw [if_pos (by omega)]
  · rw [show b + 1 - a = 0 by omega, e_X1_hoursOf_6]
    simp (disch := omega) only [lt_]
    rw [if_pos (by omega)]
    rfl
theorem hoursBoth_ {h : ax_Hp} {A : Ab} (ic : IC h A) (hT : zT (bS A) ≤ 999) {i j b : Nat} (hb : b ≤ zT (bS A)) : rI m_X1_hoursOfBoth [.ref 34, .int (nI i), .int (nI j), .int (nI b)] h = some (nI (cN (fun t => sn A i t && sn A j t) 0 (b + 1)), h) := by
  refine rI_of ((e_X1_hoursOfBoth_0 _ _ _ h).trans ?_)
  refine (lp (fun k x => ax_run m_X1_hoursOfBoth 6 [(0, .ref 34), (1, .int (nI i)), (2, .int (nI j)), (3, .int (nI b)), (4, .int x), (5, .int k)] [] h) (fun n => nI (cN (fun t => sn A i t && sn A j t) 0 n)) (b + 1) (fun k hk => ?_)).trans ?_
  · show ax_run m_X1_hoursOfBoth 6 _ [] h = _
    rw [e_X1_hoursOfBoth_6]
    simp (disch := omega) only [lt_]
    rw [if_neg (by omega), had_ ic hT (by omega), bnd, had_ ic hT (by omega), bnd, nI_1, nI_1]
    have : cN (fun t => sn A i t && sn A j t) 0 (k + 1) = cN (fun t => sn A i t && sn A j t) 0 k + (if (sn A i (0 + k) && sn A j (0 + k)) = true then 1 else 0) := rfl
    rw [this, Nat.zero_add]
    cases sn A i k <;> cases sn A j k <;> simp only [Bool.false_eq_true, if_false, if_true, ax_10, Bool.and_true, Bool.and_false, Bool.false_and, Nat.add_zero]
  · show ax_run m_X1_hoursOfBoth 6 _ [] h = _
    rw [e_X1_hoursOfBoth_6, if_pos ((lt_ (by omega) (by omega)).mpr (by omega))]
theorem op_wasSeen {h : ax_Hp} {A : Ab} (oa : okA A) (ic : IC h A) (im : IM h A) (x1 x2 x3 : Int32) : OP m_X7_wasSeen m_X8_wasSeen [.int x1, .int x2, .int x3] h := by
  have hW := ic.1.1.1.1
  have hT := oa.1
  by_cases hw : 0 ≤ x1 ∧ x1 < 8
  · by_cases ha : x2 < 0
    · exact OP_no (x := -4) 4 (by omega) oa ic im (rI_of ((e_X7_wasSeen_0 _ _ _ h).trans (by simp only [isWall_ is1 ic.1.1, isHouse_, outs_, bnd, no1, no2, no3, no4, no6, lo1, lo2, lo4, lo6, if_true, if_false, ax_10, ax_n4, ax_n6, and_self, hw, ha]))) (fun h1 m => rI_of ((e_X8_wasSeen_0 _ _ _ h1).trans (by simp only [isWallM_ m.1, isHouseM_, outsM_, isIn_, notH_, bnd, mo1, mo2, mo3, mo4, mo6, ml1, ml2, ml4, ml6, if_true, if_false, ax_10, ax_n4, ax_n6, and_self, hw, ha])))
    · by_cases hb : 0 ≤ x3
      · by_cases hc : 999 < x2
        · exact OP_no (x := -6) 6 (by omega) oa ic im (rI_of ((e_X7_wasSeen_0 _ _ _ h).trans (by simp only [isWall_ is1 ic.1.1, isHouse_, outs_, bnd, no1, no2, no3, no4, no6, lo1, lo2, lo4, lo6, if_true, if_false, ax_10, ax_n4, ax_n6, and_self, hw, ha, hb, hc]))) (fun h1 m => rI_of ((e_X8_wasSeen_0 _ _ _ h1).trans (by simp only [isWallM_ m.1, isHouseM_, outsM_, isIn_, notH_, bnd, mo1, mo2, mo3, mo4, mo6, ml1, ml2, ml4, ml6, if_true, if_false, ax_10, ax_n4, ax_n6, and_self, hw, ha, hb, hc])))
        · by_cases hd : x3 ≤ 999
          · by_cases he : x2 ≤ x3
            · obtain ⟨j, hj, rfl⟩ := of_in hw.1 hw.2 (n := 8) (by omega)
              obtain ⟨a, _, ha9, rfl⟩ := in_n (m := 0) (n := 999) rfl rfl (n0l ha) (nlt_le hc) (by omega) (by omega)
              obtain ⟨b, _, hb9, rfl⟩ := in_n (m := 0) (n := 999) rfl rfl hb hd (by omega) (by omega)
              have hab : a ≤ b := (le_ (by omega) (by omega)).mp he
              refine OP_q (v := nI (cN (sn A j) a (b + 1 - a))) oa ic im ⟨h, rI_of ((e_X7_wasSeen_0 _ _ _ h).trans ?_), QC.refl h⟩ (fun h1 m => ⟨h1, rI_of ((e_X8_wasSeen_0 _ _ _ h1).trans ?_), QM.refl m.1⟩)
              · have n1 : h.1 1 1 = nI (zT (bS A)) := ic.1.1.2.2.2.1
                simp only [isHouse_, hw, and_self, ha, hb, hc, hd, he, if_true, ax_10, if_false, bnd, n1]
                simp (disch := omega) only [lt_]
                by_cases q : zT (bS A) < b
                · rw [if_pos q, hoursOf_ ic hT (Nat.le_refl _) (by omega), bnd]
                  simp only []
                  congr 5
                  by_cases q2 : a ≤ zT (bS A) + 1
                  · have := cN_zero (p := sn A j) (a := a) (n := zT (bS A) + 1 - a) (m := b - zT (bS A)) (fun k h1 h2 => by unfold sn; rw [decide_eq_false (by omega)]; rfl)
                    rw [show zT (bS A) + 1 - a + (b - zT (bS A)) = b + 1 - a by omega] at this
                    exact this.symm
                  · have := cN_zero (p := sn A j) (a := a) (n := 0) (m := b + 1 - a) (fun k h1 h2 => by unfold sn; rw [decide_eq_false (by omega)]; rfl)
                    rw [show zT (bS A) + 1 - a = 0 by omega, ← this, show 0 + (b + 1 - a) = b + 1 - a by omega]
                · rw [if_neg q, hoursOf_ ic hT (by omega) (by omega), bnd]
              · simp only [isHouseM_, hw, and_self, ha, hb, hc, hd, he, if_true, ax_10, if_false, bnd]
                have key : ∀ n, a + n ≤ b + 1 → ax_run m_X8_wasSeen 74 [(0, .ref 47), (1, .int (nI j)), (3, .int (nI b)), (5, .int 0), (6, .int (nI a))] [] h1 = ax_run m_X8_wasSeen 74 [(0, .ref 47), (1, .int (nI j)), (3, .int (nI b)), (5, .int (nI (cN (sn A j) a n))), (6, .int (nI (a + n)))] [] h1 := by
                  intro n
                  induction n with
                  | zero => intro _; rfl
                  | succ n ih =>
                    intro hn
                    rw [ih (by omega), e_X8_wasSeen_74]
                    simp (disch := omega) only [lt_]
                    rw [if_neg (by omega), wasM_ m hT (by omega), bnd, nI_1, nI_1]
                    have : cN (sn A j) a (n + 1) = cN (sn A j) a n + (if sn A j (a + n) = true then 1 else 0) := rfl
                    rw [this]
                    cases sn A j (a + n)
                    · simp only [Bool.false_eq_true, if_false, if_true, Int32.add_zero]; rfl
                    · simp only [if_true, ax_10, if_false]; rfl
                rw [key (b + 1 - a) (by omega), e_X8_wasSeen_74]
                simp (disch := omega) only [lt_]
                rw [if_pos (by omega)]
            · exact OP_no (x := -3) 3 (by omega) oa ic im (rI_of ((e_X7_wasSeen_0 _ _ _ h).trans (by simp only [isWall_ is1 ic.1.1, isHouse_, outs_, bnd, no1, no2, no3, no4, no6, lo1, lo2, lo4, lo6, if_true, if_false, ax_10, ax_n4, ax_n6, and_self, hw, ha, hb, hc, hd, he]))) (fun h1 m => rI_of ((e_X8_wasSeen_0 _ _ _ h1).trans (by simp only [isWallM_ m.1, isHouseM_, outsM_, isIn_, notH_, bnd, mo1, mo2, mo3, mo4, mo6, ml1, ml2, ml4, ml6, if_true, if_false, ax_10, ax_n4, ax_n6, and_self, hw, ha, hb, hc, hd, he])))
          · exact OP_no (x := -6) 6 (by omega) oa ic im (rI_of ((e_X7_wasSeen_0 _ _ _ h).trans (by simp only [isWall_ is1 ic.1.1, isHouse_, outs_, bnd, no1, no2, no3, no4, no6, lo1, lo2, lo4, lo6, if_true, if_false, ax_10, ax_n4, ax_n6, and_self, hw, ha, hb, hc, hd]))) (fun h1 m => rI_of ((e_X8_wasSeen_0 _ _ _ h1).trans (by simp only [isWallM_ m.1, isHouseM_, outsM_, isIn_, notH_, bnd, mo1, mo2, mo3, mo4, mo6, ml1, ml2, ml4, ml6, if_true, if_false, ax_10, ax_n4, ax_n6, and_self, hw, ha, hb, hc, hd])))
      · exact OP_no (x := -4) 4 (by omega) oa ic im (rI_of ((e_X7_wasSeen_0 _ _ _ h).trans (by simp only [isWall_ is1 ic.1.1, isHouse_, outs_, bnd, no1, no2, no3, no4, no6, lo1, lo2, lo4, lo6, if_true, if_false, ax_10, ax_n4, ax_n6, and_self, hw, ha, hb]))) (fun h1 m => rI_of ((e_X8_wasSeen_0 _ _ _ h1).trans (by simp only [isWallM_ m.1, isHouseM_, outsM_, isIn_, notH_, bnd, mo1, mo2, mo3, mo4, mo6, ml1, ml2, ml4, ml6, if_true, if_false, ax_10, ax_n4, ax_n6, and_self, hw, ha, hb])))
  · exact OP_no (x := -1) 1 (by omega) oa ic im (rI_of ((e_X7_wasSeen_0 _ _ _ h).trans (by simp only [isWall_ is1 ic.1.1, isHouse_, outs_, bnd, no1, no2, no3, no4, no6, lo1, lo2, lo4, lo6, if_true, if_false, ax_10, ax_n4, ax_n6, and_self, hw]))) (fun h1 m => rI_of ((e_X8_wasSeen_0 _ _ _ h1).trans (by simp only [isWallM_ m.1, isHouseM_, outsM_, isIn_, notH_, bnd, mo1, mo2, mo3, mo4, mo6, ml1, ml2, ml4, ml6, if_true, if_false, ax_10, ax_n4, ax_n6, and_self, hw])))
/-- most on end and on end now, behind t hours -/
def lgF (p : Nat → Bool) : Nat → Nat × Nat
  | 0 => (0, 0)
  | t + 1 => if p (t + 1) = true then (if (lgF p t).1 < (lgF p t).2 + 1 then (lgF p t).2 + 1 else (lgF p t).1, (lgF p t).2 + 1) else ((lgF p t).1, 0)
theorem lgF_le (p : Nat → Bool) (t : Nat) : (lgF p t).1 ≤ t ∧ (lgF p t).2 ≤ t := by
  induction t with
  | zero => exact ⟨Nat.le_refl _, Nat.le_refl _⟩
  | succ t ih =>
    simp only [lgF]
    split
    · simp only []
      split <;> omega
    · simp only []; omega
theorem longest_ {h : ax_Hp} {A : Ab} (ic : IC h A) (hT : zT (bS A) ≤ 999) {j : Nat} : rI m_X1_longestOf [.ref 34, .int (nI j), .int (nI (zT (bS A)))] h = some (nI (lgF (sn A j) (zT (bS A))).1, h) := by
  refine rI_of ((e_X1_longestOf_0 _ _ h).trans ?_)
  have key : ∀ t, t ≤ zT (bS A) → ax_run m_X1_longestOf 8 [(0, .ref 34), (1, .int (nI j)), (2, .int (nI (zT (bS A)))), (3, .int 0), (4, .int 0), (5, .int 0)] [] h = ax_run m_X1_longestOf 8 [(0, .ref 34), (1, .int (nI j)), (2, .int (nI (zT (bS A)))), (3, .int (nI (lgF (sn A j) t).1)), (4, .int (nI (lgF (sn A j) t).2)), (5, .int (nI (t + 1)))] [] h := by
    intro t
    induction t with
    | zero =>
      intro _
      have h0 : sn A j 0 = false := by unfold sn; rw [decide_eq_false (by omega)]; rfl
      have st := e_X1_longestOf_8 (nI j) (nI (zT (bS A))) 0 0 0 h
      have hd : rI m_X1_had [.ref 34, .int 0, .int (nI j)] h = some (if sn A j 0 = true then 1 else 0, h) := had_ ic hT (Nat.zero_le _)
      rw [if_neg (fun x => by
        have := (lt_ (a := zT (bS A)) (b := 0) (by omega) (by omega)).mp x
        omega), hd, bnd, h0] at st
      exact st
    | succ t ih =>
      intro ht
      have := lgF_le (sn A j) t
      rw [ih (by omega), e_X1_longestOf_8]
      simp (disch := omega) only [lt_]
      rw [if_neg (by omega), had_ ic hT (by omega), bnd, nI_1, nI_1]
      simp only [lgF]
      cases sn A j (t + 1)
      · simp only [Bool.false_eq_true, if_false, if_true]
        rw [if_neg (nI_pos (by omega))]
        rfl
      · simp (disch := omega) only [if_true, ax_10, if_false, lt_]
        split <;> rfl
  rw [key _ (Nat.le_refl _), e_X1_longestOf_8, if_pos ((lt_ (by omega) (by omega)).mpr (by omega))]
theorem longestM_ {h : ax_Hp} {A : Ab} (im : IM h A) (hT : zT (bS A) ≤ 999) {j : Nat} : ax_run m_X8_longest 20 [(0, .ref 47), (1, .int (nI j)), (2, .int 0), (3, .int 0), (4, .int 1)] [] h = some (some (.int (nI (lgF (sn A j) (zT (bS A))).1)), h) := by
  have key : ∀ t, t ≤ zT (bS A) → ax_run m_X8_longest 20 [(0, .ref 47), (1, .int (nI j)), (2, .int 0), (3, .int 0), (4, .int 1)] [] h = ax_run m_X8_longest 20 [(0, .ref 47), (1, .int (nI j)), (2, .int (nI (lgF (sn A j) t).1)), (3, .int (nI (lgF (sn A j) t).2)), (4, .int (nI (t + 1)))] [] h := by
    intro t
    induction t with
    | zero => intro _; rfl
    | succ t ih =>
      intro ht
      have := lgF_le (sn A j) t
      rw [ih (by omega), e_X8_longest_20, im.1.2.2.2.1]
      simp (disch := omega) only [lt_]
      rw [if_neg (by omega), wasM_ im hT (by omega), bnd, nI_1, nI_1]
      simp only [lgF]
      cases sn A j (t + 1)
      · simp only [Bool.false_eq_true, if_false, if_true]
        rw [if_pos (nI_pos' (by omega))]
        rfl
      · simp (disch := omega) only [if_true, ax_10, if_false, le_]
        by_cases q : (lgF (sn A j) t).1 < (lgF (sn A j) t).2 + 1
        · rw [if_neg (by omega), if_pos q]
        · rw [if_pos (by omega), if_neg q]
  rw [key _ (Nat.le_refl _), e_X8_longest_20, im.1.2.2.2.1, if_pos ((lt_ (by omega) (by omega)).mpr (by omega))]
theorem op_longest {h : ax_Hp} {A : Ab} (oa : okA A) (ic : IC h A) (im : IM h A) (x1 : Int32) : OP m_X7_longest m_X8_longest [.int x1] h := by
  have hW := ic.1.1.1.1
  have hT := oa.1
  by_cases hw : 0 ≤ x1 ∧ x1 < 8
  · obtain ⟨j, hj, rfl⟩ := of_in hw.1 hw.2 (n := 8) (by omega)
    have n1 : h.1 1 1 = nI (zT (bS A)) := ic.1.1.2.2.2.1
    refine OP_q (v := nI (lgF (sn A j) (zT (bS A))).1) oa ic im ⟨h, rI_of ((e_X7_longest_0 _ h).trans ?_), QC.refl h⟩ (fun h1 m => ⟨h1, rI_of ((e_X8_longest_0 _ h1).trans ?_), QM.refl m.1⟩)
    · simp only [isHouse_, hw, and_self, if_true, ax_10, if_false, bnd, n1, longest_ ic hT]
    · simp only [isHouseM_, hw, and_self, if_true, ax_10, if_false, bnd, longestM_ m hT]
  · exact OP_no (x := -1) 1 (by omega) oa ic im (rI_of ((e_X7_longest_0 _ h).trans (by simp only [isWall_ is1 ic.1.1, isHouse_, outs_, bnd, no1, no2, no3, no4, no6, lo1, lo2, lo4, lo6, if_true, if_false, ax_10, ax_n4, ax_n6, and_self, hw]))) (fun h1 m => rI_of ((e_X8_longest_0 _ h1).trans (by simp only [isWallM_ m.1, isHouseM_, outsM_, isIn_, notH_, bnd, mo1, mo2, mo3, mo4, mo6, ml1, ml2, ml4, ml6, if_true, if_false, ax_10, ax_n4, ax_n6, and_self, hw])))
def tgP (A : Ab) (i j k t : Nat) : Bool := if k = 0 then sn A i t && sn A j t else if k = 1 then sn A i t || sn A j t else sn A i t ^^ sn A j t
theorem sn0 (A : Ab) (j : Nat) : sn A j 0 = false := by unfold sn; rw [decide_eq_false (by omega)]; rfl
theorem op_together {h : ax_Hp} {A : Ab} (oa : okA A) (ic : IC h A) (im : IM h A) (x1 x2 x3 : Int32) : OP m_X7_together m_X8_together [.int x1, .int x2, .int x3] h := by
  have hW := ic.1.1.1.1
  have hT := oa.1
  by_cases ht : twoP x1 x2
  · by_cases ha : x3 < 0
    · exact OP_no (x := -2) 2 (by omega) oa ic im (rI_of ((e_X7_together_0 _ _ _ h).trans (by simp only [isWall_ is1 ic.1.1, isHouse_, outs_, bnd, no1, no2, no3, no4, no6, lo1, lo2, lo4, lo6, if_true, if_false, ax_10, ax_n4, ax_n6, and_self, areTwo_pos ht, ha]))) (fun h1 m => rI_of ((e_X8_together_0 _ _ _ h1).trans (by simp only [isWallM_ m.1, isHouseM_, outsM_, isIn_, notH_, bnd, mo1, mo2, mo3, mo4, mo6, ml1, ml2, ml4, ml6, if_true, if_false, ax_10, ax_n4, ax_n6, and_self, areTwoM_pos ht, lt0_of ha 2])))
    · by_cases hb : x3 ≤ 2
      · obtain ⟨i, j, hi, hj, hij, rfl, rfl⟩ := two_n ht
        obtain ⟨k, _, hk, rfl⟩ := in_n (m := 0) (n := 2) rfl rfl (n0l ha) hb (by omega) (by omega)
        have hx : 0 ≤ nI k ∧ nI k ≤ 2 := ⟨n0l ha, hb⟩
        have n1 : h.1 1 1 = nI (zT (bS A)) := ic.1.1.2.2.2.1
        refine OP_q (v := nI (cN (tgP A i j k) 1 (zT (bS A)))) oa ic im ⟨h, rI_of ((e_X7_together_0 _ _ _ h).trans ?_), QC.refl h⟩ (fun h1 m => ⟨h1, rI_of ((e_X8_together_0 _ _ _ h1).trans ?_), QM.refl m.1⟩)
        · have ho : ∀ a, rI m_X1_hoursOf [.ref 34, .int (nI a), .int 0, .int (nI (zT (bS A)))] h = some (nI (cN (sn A a) 1 (zT (bS A))), h) := fun a => by
            have e := hoursOf_ ic hT (j := a) (a := 0) (b := zT (bS A)) (Nat.le_refl _) (by omega)
            rw [Nat.sub_zero, cN_shift, sn0, if_neg (by decide), Nat.zero_add] at e
            exact e
          have hbo : rI m_X1_hoursOfBoth [.ref 34, .int (nI i), .int (nI j), .int (nI (zT (bS A)))] h = some (nI (cN (fun t => sn A i t && sn A j t) 1 (zT (bS A))), h) := by
            have e := hoursBoth_ ic hT (i := i) (j := j) (b := zT (bS A)) (Nat.le_refl _)
            rw [cN_shift] at e
            simp only [sn0, Bool.false_and, Bool.false_eq_true, if_false, Nat.zero_add] at e
            exact e
          have c1 := cN_or (sn A i) (sn A j) 1 (zT (bS A))
          have c2 := cN_xor (sn A i) (sn A j) 1 (zT (bS A))
          simp only [areTwo_pos ht, ha, hb, if_true, ax_10, if_false, bnd, n1, ho, hbo]
          have k3 : k = 0 ∨ k = 1 ∨ k = 2 := by omega
          rcases k3 with rfl | rfl | rfl
          · rw [if_pos (by decide)]; rfl
          · rw [if_neg (by decide), if_pos (by decide), add_, sub_ (by omega)]
            congr 5
            show _ = cN (fun t => sn A i t || sn A j t) 1 (zT (bS A))
            omega
          · rw [if_neg (by decide), if_neg (by decide), l2, mul_, add_, sub_ (by omega)]
            congr 5
            show _ = cN (fun t => sn A i t ^^ sn A j t) 1 (zT (bS A))
            omega
        · simp only [areTwoM_pos ht, isIn_, hx, and_self, if_true, ax_10, if_false, bnd]
          have key : ∀ t, t ≤ zT (bS A) → ax_run m_X8_together 47 [(0, .ref 47), (1, .int (nI i)), (2, .int (nI j)), (3, .int (nI k)), (5, .int 0), (6, .int 1)] [] h1 = ax_run m_X8_together 47 [(0, .ref 47), (1, .int (nI i)), (2, .int (nI j)), (3, .int (nI k)), (5, .int (nI (cN (tgP A i j k) 1 t))), (6, .int (nI (1 + t)))] [] h1 := by
            intro t
            induction t with
            | zero => intro _; rfl
            | succ t ih =>
              intro ht
              rw [ih (by omega), e_X8_together_47, m.1.2.2.2.1]
              simp (disch := omega) only [lt_]
              rw [if_neg (by omega), wasM_ m hT (by omega), bnd, wasM_ m hT (by omega), bnd, nI_1, nI_1]
              have : cN (tgP A i j k) 1 (t + 1) = cN (tgP A i j k) 1 t + (if tgP A i j k (1 + t) = true then 1 else 0) := rfl
              rw [this]
              have k3 : k = 0 ∨ k = 1 ∨ k = 2 := by omega
              have e01 : ((0 : Int32) = 1) = False := eq_false (by decide)
              rcases k3 with rfl | rfl | rfl
              · rw [if_pos (show nI 0 = 0 from rfl)]
                rw [show tgP A i j 0 (1 + t) = (sn A i (1 + t) && sn A j (1 + t)) from rfl]
                cases sn A i (1 + t) <;> cases sn A j (1 + t) <;> simp only [Bool.false_eq_true, if_false, if_true, ax_10, Bool.and_true, Bool.and_false, Bool.false_and, Nat.add_zero, Int32.add_zero] <;> rfl
              · rw [if_neg (show ¬ nI 1 = 0 by decide), if_pos (show nI 1 = 1 from rfl)]
                rw [show tgP A i j 1 (1 + t) = (sn A i (1 + t) || sn A j (1 + t)) from rfl]
                cases sn A i (1 + t) <;> cases sn A j (1 + t) <;> simp only [Bool.false_eq_true, if_false, if_true, ax_10, Bool.or_true, Bool.or_false, Bool.true_or, Nat.add_zero, Int32.add_zero] <;> rfl
              · rw [if_neg (show ¬ nI 2 = 0 by decide), if_neg (show ¬ nI 2 = 1 by decide)]
                rw [show tgP A i j 2 (1 + t) = (sn A i (1 + t) ^^ sn A j (1 + t)) from rfl]
                cases sn A i (1 + t) <;> cases sn A j (1 + t) <;> simp only [Bool.false_eq_true, if_false, if_true, ax_10, e01, Bool.xor_true, Bool.xor_false, Bool.not_true, Bool.not_false, Nat.add_zero, Int32.add_zero] <;> rfl
          rw [key _ (Nat.le_refl _), e_X8_together_47, m.1.2.2.2.1, if_pos ((lt_ (by omega) (by omega)).mpr (by omega))]
      · have hx : ¬ (0 ≤ x3 ∧ x3 ≤ 2) := fun q => hb q.2
        exact OP_no (x := -2) 2 (by omega) oa ic im (rI_of ((e_X7_together_0 _ _ _ h).trans (by simp only [isWall_ is1 ic.1.1, isHouse_, outs_, bnd, no1, no2, no3, no4, no6, lo1, lo2, lo4, lo6, if_true, if_false, ax_10, ax_n4, ax_n6, and_self, areTwo_pos ht, ha, hb]))) (fun h1 m => rI_of ((e_X8_together_0 _ _ _ h1).trans (by simp only [isWallM_ m.1, isHouseM_, outsM_, isIn_, notH_, bnd, mo1, mo2, mo3, mo4, mo6, ml1, ml2, ml4, ml6, if_true, if_false, ax_10, ax_n4, ax_n6, and_self, areTwoM_pos ht, hx])))
  · exact OP_no (x := -1) 1 (by omega) oa ic im (rI_of ((e_X7_together_0 _ _ _ h).trans (by simp only [isWall_ is1 ic.1.1, isHouse_, outs_, bnd, no1, no2, no3, no4, no6, lo1, lo2, lo4, lo6, if_true, if_false, ax_10, ax_n4, ax_n6, and_self, areTwo_neg ht]))) (fun h1 m => rI_of ((e_X8_together_0 _ _ _ h1).trans (by simp only [isWallM_ m.1, isHouseM_, outsM_, isIn_, notH_, bnd, mo1, mo2, mo3, mo4, mo6, ml1, ml2, ml4, ml6, if_true, if_false, ax_10, ax_n4, ax_n6, and_self, areTwoM_neg ht])))
