/-! the reference's walls go -/
theorem isLentM_ {h : ax_Hp} {s : Sp} {w i : Nat} (r : RM h s w) (hi : i < 7) : rI m_X8_isLent [.ref 47, .int (nI i)] h = some (if zP s i = zO s i then 0 else 1, h) := by
  have okk := r.1.2.2.1 i hi
  have rr := r.2.2.2.2.1 i hi
  refine rI_of ((e_X8_isLent_0 _ h).trans ?_)
  simp (disch := omega) only [g_in, cl_]
  rw [rr.2.2.1, rr.2.2.2.1]
  simp (disch := omega) only [eq_]
  split <;> rfl
theorem apart_ {a b : Nat} (ha : a < 8) (hb : b < 8) (h : ax_Hp) : rI m_X8_apart [.int (nI a), .int (nI b)] h = some (nI (dst a b), h) := by
  refine rI_of ((e_X8_apart_0 _ _ h).trans ?_)
  simp (disch := omega) only [le_]
  unfold dst
  by_cases q : b ≤ a
  · rw [if_pos q, sub_ q]
    by_cases e : a ≤ b
    · rw [if_pos e, show a - b = b - a by omega]
    · rw [if_neg e]
  · rw [if_neg q, if_pos (by omega), sub_ (by omega)]
theorem goesSteps_ {h : ax_Hp} {s : Sp} {w i d : Nat} (r : RM h s w) (hi : i < 7) (hd : d < 8) : rI m_X8_goesSteps [.ref 47, .int (nI i), .int (nI d)] h = some (if strN (zK s i) d = true then 1 else 0, h) := by
  have okk := r.1.2.2.1 i hi
  have hk := okk.1
  refine rI_of ((e_X8_goesSteps_0 _ _ h).trans ?_)
  simp (disch := omega) only [g_in, cl_]
  rw [(r.2.2.2.2.1 i hi).1]
  simp (disch := omega) only [l2, rem_]
  simp (disch := omega) only [l0, l1, l2, l3, l4, l5, eq_, lt_]
  generalize zK s i = k at *
  by_cases k2 : k = 2
  · subst k2; simp [strN]; try rfl
  by_cases k3 : k = 3
  · subst k3; simp [strN]; try (split <;> rfl)
  by_cases k4 : k = 4
  · subst k4; simp [strN]; repeat' split
    all_goals rfl
  by_cases k5 : k = 5
  · subst k5; simp [strN]; repeat' split
    all_goals first | rfl | omega
  simp [strN, k2, k3, k4, k5]
  repeat' split
  all_goals first | rfl | omega
theorem has_ (x : Int32) (j : Nat) (h : ax_Hp) : rI m_X8_has [.int x, .int (nI j)] h = some (if bitB x j = true then 1 else 0, h) := by
  refine rI_of ((e_X8_has_0 _ _ h).trans ?_)
  unfold bitB
  simp only [decide_eq_true_eq]
  split <;> rfl
theorem canGoM_ {h : ax_Hp} {s : Sp} {w i a b : Nat} (r : RM h s w) (hi : i < 7) (ha : a < 8) (hb : b < 8) : rI m_X8_canGo [.ref 47, .int (nI i), .int (nI a), .int (nI b)] h = some (if zcgo s i a b = true then 1 else 0, h) := by
  refine rI_of ((e_X8_canGo_0 _ _ _ h).trans ?_)
  simp (disch := omega) only [eq_, g_in, cl_]
  unfold zcgo
  by_cases e : a = b
  · rw [if_pos e]; simp [e]
  · rw [if_neg e, apart_ ha hb, bnd, goesSteps_ r hi (by unfold dst; split <;> omega), bnd]
    simp only []
    rw [r.2.2.2.2.2.2 a ha, has_]
    cases strN (zK s i) (dst a b) <;> cases bitB (zB s a) b <;> simp [e, ax_10, bnd]
theorem nxt_loopM {h : ax_Hp} {s : Sp} {w i : Nat} (r : RM h s w) (hi : i < zW s) : ∀ n, n ≤ 8 →
    ax_run m_X8_whereTo 64 [(0, .ref 47), (1, .int (nI i)), (2, .int (nI (zP s i))), (3, .int (nI (zlwo s w i))), (4, .int 0)] [] h =
    ax_run m_X8_whereTo 64 [(0, .ref 47), (1, .int (nI i)), (2, .int (nI (nxt s w i (zP s i) n).1)), (3, .int (nI (nxt s w i (zP s i) n).2)), (4, .int (nI n))] [] h := by
  have ok := r.1
  have hw := r.w
  have hW := ok.1
  have hP := (ok.2.2.1 i (by omega)).2.2.2
  intro n
  induction n with
  | zero => intro _; rfl
  | succ n ih =>
    intro hn
    refine (ih (by omega)).trans ?_
    have h1 := nxt_le (a := zP s i) ok hw (i := i) (by omega) (n := n) (by omega)
    have h2 := zlack_le ok hw (j := n) (by omega)
    rw [e_X8_whereTo_64]
    simp (disch := omega) only [l8, le_, g_in, cl_]
    rw [if_neg (by omega), (r.2.2.2.2.1 i (by omega)).2.2.2.1, canGoM_ r (by omega) hP (by omega), bnd]
    simp only []
    cases g : zcgo s i (zP s i) n
    · simp only [Bool.false_eq_true, if_false, if_true, l1, add_, nxt, g, and_false]
    · simp only [if_true, ax_10, if_false]
      rw [lacks_ r (by omega), bnd]
      simp (disch := omega) only [lt_]
      rw [lacks_ r (by omega), bnd]
      simp only [l1, add_, nxt, g, and_true]
      split <;> rfl
theorem whereTo_ {h : ax_Hp} {s : Sp} {w i : Nat} (r : RM h s w) (hi : i < zW s) : rI m_X8_whereTo [.ref 47, .int (nI i)] h = some (nI (zto s w i), h) := by
  refine rI_of ((e_X8_whereTo_0 _ h).trans ?_)
  have ok := r.1
  have hw := r.w
  have hW := ok.1
  have hO := (ok.2.2.1 i (by omega)).2.2.1
  have hP := (ok.2.2.1 i (by omega)).2.2.2
  have rr := r.2.2.2.2.1 i (by omega)
  have hl := zlack_le ok hw hO
  have last : ax_run m_X8_whereTo 64 [(0, .ref 47), (1, .int (nI i)), (2, .int (nI (zP s i))), (3, .int (nI (zlwo s w i))), (4, .int 0)] [] h = some (some (.int (nI (nxt s w i (zP s i) 8).1)), h) := by
    refine (nxt_loopM r hi 8 (by omega)).trans ?_
    rw [e_X8_whereTo_64, if_pos (by rw [l8]; exact (le_ (by omega) (by omega)).mpr (by omega))]
  rw [isLentM_ r (by omega), bnd]
  unfold zto
  by_cases q : zP s i = zO s i
  · simp (disch := omega) only [q, if_true, g_in, cl_]
    rw [lacksWithout_ r hi, bnd, rr.2.2.2.1]
    simp only [q, ne_eq, not_true_eq_false, false_and, if_false]
    rw [q] at last
    exact last
  · have q' : ¬ zO s i = zP s i := fun x => q x.symm
    simp (disch := omega) only [q, if_false, ax_10, g_in, cl_]
    rw [rr.2.2.1, lacks_ r hO, bnd]
    simp (disch := omega) only [le0]
    by_cases q2 : zlack s w (zO s i) ≤ 0
    · rw [if_pos q2, lacksWithout_ r hi, bnd, rr.2.2.2.1, if_neg (by omega)]
      exact last
    · rw [if_neg q2, rr.2.2.2.1, rr.2.2.1, canGoM_ (i := i) r (by omega) hP hO, bnd]
      have q3 : 0 < zlack s w (zO s i) := by omega
      cases g : zcgo s i (zP s i) (zO s i)
      · simp only [Bool.false_eq_true, and_false, if_false, if_true]
        rw [lacksWithout_ r hi, bnd, rr.2.2.2.1]
        exact last
      · simp only [ne_eq, q', q3, not_false_eq_true, and_true, if_true, ax_10, if_false, rr.2.2.1]
