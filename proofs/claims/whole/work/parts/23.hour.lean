/-! where a wall goes; an hour -/
theorem le0 {a : Nat} (ha : a < 2147483648) : nI a ≤ 0 ↔ a ≤ 0 := le_ (b := 0) ha (by omega)
theorem lt0 {a : Nat} (ha : a < 2147483648) : 0 < nI a ↔ 0 < a := lt_ (a := 0) (by omega) ha
theorem eq0 {a : Nat} (ha : a < 2147483648) : nI a = 0 ↔ a = 0 := eq_ (b := 0) ha (by omega)
theorem canGo_ {h : ax_Hp} {c : Nat} {s : Sp} {w i a b : Nat} (hc : isS c) (r : RB h c s w) (hi : i < zW s) (ha : a < 8) (hb : b < 8) : rI m_X5_canGo [.ref c, .int (nI i), .int (nI a), .int (nI b)] h = some (if zcgo s i a b = true then 1 else 0, h) := by
  refine rI_of ((e_X5_canGo_0 hc _ _ _ h).trans ?_)
  obtain ⟨ok, hw, r0, r1, r2, rr, rn, rb⟩ := r
  have hW := ok.1
  have hK := (ok.2.2.1 i (by omega)).1
  simp (disch := omega) only [eq_, g_in, cl_]
  unfold zcgo
  by_cases e : a = b
  · rw [if_pos e]; simp [e]
  · rw [if_neg e, rb a ha, hasBit_]
    simp only [bnd]
    cases hbit : bitB (zB s a) b
    · simp only [Bool.false_eq_true, if_false, if_true]
      rw [steps_ ha hb]
      simp only [bnd]
      rw [(rr i (by omega)).1]
      have hd : (if a ≤ b then b - a else a - b) = dst a b := rfl
      rw [hd, strides_ hK (by unfold dst; split <;> omega)]
      simp only [bnd]
      cases hs : strN (zK s i) (dst a b) <;> simp [e, ax_10]
    · simp [ax_10]
/-- the best house to go to out of the first n, from a (a is where the wall is) -/
def nxt (s : Sp) (w i a : Nat) : Nat → Nat × Nat
  | 0 => (a, zlwo s w i)
  | n + 1 => if (nxt s w i a n).2 < zlack s w n ∧ zcgo s i a n = true then (n, zlack s w n) else nxt s w i a n
theorem nxt_lt {s : Sp} {w i a : Nat} (ha : a < 8) {n : Nat} (hn : n ≤ 8) : (nxt s w i a n).1 < 8 := by
  induction n with
  | zero => exact ha
  | succ n ih =>
    simp only [nxt]
    split
    · show n < 8; omega
    · exact ih (by omega)
theorem zlack_le {s : Sp} (ok : okS s) {w j : Nat} (hw : w ≤ 2) (hj : j < 8) : zlack s w j ≤ 11 := by
  have := zneed_le ok hw hj
  unfold zlack; omega
theorem zlwo_le {s : Sp} (ok : okS s) {w i : Nat} (hw : w ≤ 2) (hi : i < 7) : zlwo s w i ≤ 11 := by
  have := zneed_le ok hw (ok.2.2.1 i hi).2.2.2
  unfold zlwo; omega
theorem nxt_le {s : Sp} (ok : okS s) {w i a : Nat} (hw : w ≤ 2) (hi : i < 7) {n : Nat} (hn : n ≤ 8) : (nxt s w i a n).2 ≤ 11 := by
  induction n with
  | zero => exact zlwo_le ok hw hi
  | succ n ih =>
    simp only [nxt]
    split
    · exact zlack_le ok hw (by omega)
    · exact ih (by omega)
theorem nxt_loop {h : ax_Hp} {c : Nat} {s : Sp} {w i a : Nat} (hc : isS c) (r : RC h c s w) (hi : i < zW s) (ha : a < 8) : ∀ n, n ≤ 8 →
    ax_run m_X5_nextHouse 52 [(0, .ref c), (1, .int (nI i)), (2, .int (nI a)), (4, .int (nI a)), (5, .int (nI (zlwo s w i))), (6, .int 0)] [] h =
    ax_run m_X5_nextHouse 52 [(0, .ref c), (1, .int (nI i)), (2, .int (nI a)), (4, .int (nI (nxt s w i a n).1)), (5, .int (nI (nxt s w i a n).2)), (6, .int (nI n))] [] h := by
  intro n
  induction n with
  | zero => intro _; rfl
  | succ n ih =>
    intro hn
    refine (ih (by omega)).trans ?_
    have ok := r.1.1
    have hw := r.1.2.1
    have hW := ok.1
    have h1 := nxt_le (a := a) ok hw (i := i) (by omega) (n := n) (by omega)
    have h2 := zlack_le ok hw (j := n) (by omega)
    rw [e_X5_nextHouse_52 hc]
    simp (disch := omega) only [l8, le_]
    rw [if_neg (by omega), lackOf_ hc r (by omega)]
    simp (disch := omega) only [bnd, le_, add_, l1]
    by_cases q : zlack s w n ≤ (nxt s w i a n).2
    · rw [if_pos q]
      simp only [nxt]
      rw [if_neg (by omega)]
    · rw [if_neg q, canGo_ hc r.1 hi ha (by omega)]
      simp only [bnd]
      rw [lackOf_ hc r (by omega)]
      simp only [nxt, bnd]
      have q' : (nxt s w i a n).2 < zlack s w n := by omega
      cases g : zcgo s i a n
      · simp only [Bool.false_eq_true, and_false, if_false, if_true]
      · simp only [q', and_true, if_true, ax_10, if_false]
/-- where a wall is as the hour ends -/
def zto (s : Sp) (w i : Nat) : Nat := if zO s i ≠ zP s i ∧ 0 < zlack s w (zO s i) ∧ zcgo s i (zP s i) (zO s i) = true then zO s i else (nxt s w i (zP s i) 8).1
theorem zto_lt {s : Sp} (ok : okS s) {w i : Nat} (hi : i < 7) : zto s w i < 8 := by
  have := ok.2.2.1 i hi
  unfold zto
  split
  · exact this.2.2.1
  · exact nxt_lt this.2.2.2 (by omega)
theorem nextHouse_ {h : ax_Hp} {c : Nat} {s : Sp} {w i : Nat} (hc : isS c) (r : RC h c s w) (hi : i < zW s) : rI m_X5_nextHouse [.ref c, .int (nI i)] h = some (nI (zto s w i), h) := by
  refine rI_of ((e_X5_nextHouse_0 hc _ h).trans ?_)
  have ok := r.1.1
  have hw := r.1.2.1
  have hW := ok.1
  have hO := (ok.2.2.1 i (by omega)).2.2.1
  have hP := (ok.2.2.1 i (by omega)).2.2.2
  have rr := r.1.2.2.2.2.2.1 i (by omega)
  have hl := zlack_le ok hw hO
  have last : ax_run m_X5_nextHouse 52 [(0, .ref c), (1, .int (nI i)), (2, .int (nI (zP s i))), (4, .int (nI (zP s i))), (5, .int (nI (zlwo s w i))), (6, .int 0)] [] h = some (some (.int (nI (nxt s w i (zP s i) 8).1)), h) := by
    refine (nxt_loop hc r hi hP 8 (by omega)).trans ?_
    rw [e_X5_nextHouse_52 hc, if_pos (by rw [l8]; exact (le_ (by omega) (by omega)).mpr (by omega))]
  simp (disch := omega) only [g_in, cl_]
  rw [rr.2.2.1, rr.2.2.2.1]
  simp (disch := omega) only [eq_]
  unfold zto
  by_cases q : zO s i = zP s i
  · rw [if_pos q, lwo_ hc r hi, if_neg (by omega)]
    exact last
  · rw [if_neg q, lackOf_ hc r hO]
    simp (disch := omega) only [bnd, le0]
    by_cases q2 : zlack s w (zO s i) ≤ 0
    · rw [if_pos q2, lwo_ hc r hi, if_neg (by omega)]
      exact last
    · rw [if_neg q2, canGo_ hc r.1 hi hP hO]
      simp only [bnd]
      have q' : 0 < zlack s w (zO s i) := by omega
      cases g : zcgo s i (zP s i) (zO s i)
      · simp only [Bool.false_eq_true, and_false, if_false, if_true]
        rw [lwo_ hc r hi]
        exact last
      · simp only [ne_eq, q, q', not_false_eq_true, and_true, if_true, ax_10, if_false]
theorem nI_mod {T : Nat} (hT : T < 2147483648) : nI T - nI T / 6 * 6 = nI (T % 6) := by
  rw [l6]; exact rem_ hT (by omega) (by omega)
/-- weighing anew -/
theorem weigh_ {h : ax_Hp} {c : Nat} {s : Sp} {w : Nat} (hc : isS c) (r : RB h c s w) : ∃ h', rV m_X5_weigh [.ref c] h = some h' ∧ RC h' c s w ∧ Fr c h h' ∧ h'.1 (c + 6) = h.1 (c + 6) := by
  have ok := r.1
  have hW := ok.1
  have hT := ok.2.1
  obtain ⟨h1, e1, f1, g1, k1⟩ := ex_loop (fun x h => ax_run m_X5_weigh 2 [(0, .ref c), (1, .int x)] [] h) (fun k h' => Fr c h h' ∧ (∀ m, m ≠ c + 10 → h'.1 m = h.1 m) ∧ ∀ j, j < k → h'.1 (c + 10) j = 0) 8 (by
    intro k a hk ⟨f, g, i⟩
    refine ⟨wI a (c + 10) k 0, ?_, f.wI (by omega), fun m hm => (wI_ne hm).trans (g m hm), fun j hj => ?_⟩
    · show ax_run m_X5_weigh 2 [(0, .ref c), (1, .int (nI k))] [] a = _
      rw [e_X5_weigh_2 hc]
      simp (disch := omega) only [l8, le_, g_in, cl_]
      rw [if_neg (by omega)]
      simp only [l1, add_]
    · rw [wI_at]
      by_cases q : j = k
      · rw [q, upd_at]
      · rw [upd_ne q]; exact i j (by omega)) h (k0 := 0) ⟨Fr.refl c h, fun _ _ => rfl, fun j hj => by omega⟩ (by omega)
  have r1 : RB h1 c s w := RB_of (fun k _ _ _ => g1 k (by omega)) r
  obtain ⟨h2, e2, f2, g2, c2, p2⟩ := ex_loop (fun x h => ax_run m_X5_weigh 23 [(0, .ref c), (1, .int x)] [] h) (fun k h' => Fr c h1 h' ∧ (∀ m, m ≠ c + 10 → m ≠ c + 9 → h'.1 m = h1.1 m) ∧ (∀ i, i < k → h'.1 (c + 9) i = nI (zcov s i)) ∧ ∀ j, j < 8 → h'.1 (c + 10) j = nI (smN k (fun i => if zP s i = j then zcov s i else 0))) (zW s) (by
    intro k a hk ⟨f, g, cc, pp⟩
    have ra : RB a c s w := RB_of (fun k _ _ _ => g k (by omega) (by omega)) r1
    obtain ⟨_, hw, r0, rT, r2, rr, rn, rb⟩ := ra
    have rk := rr k (by omega)
    have okk := ok.2.2.1 k (by omega)
    refine ⟨wI (wI a (c + 9) k (nI (zcov s k))) (c + 10) (zP s k) (a.1 (c + 10) (zP s k) + nI (zcov s k)), ?_, (f.wI (by omega)).wI (by omega), fun m h1 h2 => ?_, fun i hi => ?_, fun j hj => ?_⟩
    · show ax_run m_X5_weigh 23 [(0, .ref c), (1, .int (nI k))] [] a = _
      rw [e_X5_weigh_23 hc, r0]
      simp (disch := omega) only [le_, g_in, cl_]
      rw [if_neg (by omega), rk.1, rk.2.1, rT, nI_mod (by omega), coverOf_ okk.1 okk.2.1 (by omega)]
      simp (disch := omega) only [bnd, wI_ne, wI_at, upd_at, rk.2.2.2.1, g_in, cl_, l1, add_]
      rfl
    · rw [wI_ne h1, wI_ne h2]; exact g m h1 h2
    · rw [wI_ne (by omega), wI_at]
      by_cases q : i = k
      · rw [q, upd_at]
      · rw [upd_ne q]; exact cc i (by omega)
    · rw [wI_at, wI_ne (by omega)]
      simp only [smN]
      by_cases q : j = zP s k
      · rw [q, upd_at, if_pos rfl, pp _ okk.2.2.2, add_]
      · rw [upd_ne q, if_neg (fun x => q x.symm)]; exact pp j hj) h1 (k0 := 0) ⟨Fr.refl c h1, fun _ _ _ => rfl, fun j hj => by omega, fun j hj => k1 j hj⟩ (by omega)
  have r2 : RB h2 c s w := RB_of (fun k _ _ _ => g2 k (by omega) (by omega)) r1
  refine ⟨h2, rV_of (((e_X5_weigh_0 hc h).trans e1).trans ?_), ⟨r2, c2, p2⟩, f1.trans f2, (g2 _ (by omega) (by omega)).trans (g1 _ (by omega))⟩
  show ax_run m_X5_weigh 2 [(0, .ref c), (1, .int (nI 8))] [] h1 = _
  rw [e_X5_weigh_2 hc, if_pos (by rw [l8]; exact (le_ (by omega) (by omega)).mpr (by omega))]
  refine e2.trans ?_
  show ax_run m_X5_weigh 23 [(0, .ref c), (1, .int (nI (zW s)))] [] h2 = _
  rw [e_X5_weigh_23 hc, r2.2.2.1, if_pos ((le_ (by omega) (by omega)).mpr (by omega))]
