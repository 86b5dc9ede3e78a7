/-! what one sees of the class's street -/
theorem lp {α ρ : Type} (P : Int32 → α → ρ) (g : Nat → α) (n : Nat) (hs : ∀ k, k < n → P (nI k) (g k) = P (nI (k + 1)) (g (k + 1))) : P 0 (g 0) = P (nI n) (g n) := by
  have : ∀ m, m ≤ n → P 0 (g 0) = P (nI m) (g m) := by
    intro m
    induction m with
    | zero => intro _; rfl
    | succ m ih => intro hm; exact (ih (by omega)).trans (hs m (by omega))
  exact this n (Nat.le_refl _)
/-- the places below n where p holds, as bits -/
def bm (p : Nat → Bool) : Nat → Int32
  | 0 => 0
  | n + 1 => if p n = true then bm p n ||| (1 <<< (nI n &&& 31)) else bm p n
theorem bm_congr {p q : Nat → Bool} {n : Nat} (h : ∀ i, i < n → p i = q i) : bm p n = bm q n := by
  induction n with
  | zero => rfl
  | succ n ih => simp only [bm]; rw [ih (fun i hi => h i (by omega)), h n (by omega)]
def sI (f : Nat → Int32) : Nat → Int32
  | 0 => 0
  | n + 1 => sI f n + f n
theorem of_in {x : Int32} {n : Nat} (h0 : 0 ≤ x) (h1 : x < nI n) (hn : n < 2147483648) : ∃ j, j < n ∧ x = nI j := by
  have a := Int32.le_iff_toInt_le.mp h0
  have b := (fa_lt' _ _).mp h1
  rw [nI_toInt hn] at b
  have a' : 0 ≤ x.toInt := a
  refine ⟨x.toInt.toNat, by omega, ?_⟩
  apply Int32.toInt_inj.mp
  rw [nI_toInt (by omega)]
  omega
theorem isWall_ {h : ax_Hp} {c : Nat} {s : Sp} {w : Nat} (hc : isS c) (r : RB h c s w) (x : Int32) : rI m_X5_isWall [.ref c, .int x] h = some (if 0 ≤ x ∧ x < nI (zW s) then 1 else 0, h) := by
  refine rI_of ((e_X5_isWall_0 hc _ h).trans ?_)
  rw [r.2.2.1]
  simp only [fa_lt', Int32.le_iff_toInt_le]
  repeat' split
  all_goals first | rfl | omega
theorem isWall_n {h : ax_Hp} {c : Nat} {s : Sp} {w i : Nat} (hc : isS c) (r : RB h c s w) (hi : i < zW s) : rI m_X5_isWall [.ref c, .int (nI i)] h = some (1, h) := by
  have := r.1.1
  rw [isWall_ hc r, if_pos ⟨(le_ (a := 0) (by omega) (by omega)).mpr (by omega), (lt_ (by omega) (by omega)).mpr hi⟩]
theorem isLent_ {h : ax_Hp} {c : Nat} {s : Sp} {w i : Nat} (hc : isS c) (r : RB h c s w) (hi : i < zW s) : rI m_X5_isLent [.ref c, .int (nI i)] h = some (if zP s i = zO s i then 0 else 1, h) := by
  have ok := r.1
  have hW := ok.1
  have okk := ok.2.2.1 i (by omega)
  have rr := r.2.2.2.2.2.1 i (by omega)
  refine rI_of ((e_X5_isLent_0 hc _ h).trans ?_)
  simp (disch := omega) only [g_in, cl_]
  rw [rr.2.2.1, rr.2.2.2.1]
  simp (disch := omega) only [eq_]
  split <;> rfl
def zall (s : Sp) (w : Nat) : Nat := smN 8 (zlack s w)
theorem zall_le {s : Sp} (ok : okS s) {w : Nat} (hw : w ≤ 2) : zall s w ≤ 88 := smN_le (b := 11) (fun k hk => zlack_le ok hw hk)
theorem smN_part_le {f : Nat → Nat} {n m : Nat} (h : n ≤ m) : smN n f ≤ smN m f := by
  induction m with
  | zero => have : n = 0 := by omega
            rw [this]; exact Nat.le_refl _
  | succ m ih =>
    by_cases q : n = m + 1
    · rw [q]; exact Nat.le_refl _
    · simp only [smN]; have := ih (by omega); omega
theorem allLacking_ {h : ax_Hp} {c : Nat} {s : Sp} {w : Nat} (hc : isS c) (r : RC h c s w) : rI m_X5_allLacking [.ref c] h = some (nI (zall s w), h) := by
  refine rI_of ((e_X5_allLacking_0 hc h).trans ?_)
  refine (lp (fun k x => ax_run m_X5_allLacking 4 [(0, .ref c), (1, .int x), (2, .int k)] [] h) (fun k => nI (smN k (zlack s w))) 8 (fun k hk => ?_)).trans ?_
  · show ax_run m_X5_allLacking 4 _ [] h = _
    rw [e_X5_allLacking_4 hc]
    simp (disch := omega) only [l8, le_]
    rw [if_neg (by omega), lackOf_ hc r (by omega), bnd, l1, add_, add_]
    rfl
  · show ax_run m_X5_allLacking 4 _ [] h = _
    rw [e_X5_allLacking_4 hc]
    exact if_pos (by decide)
def zseen (s : Sp) (w : Nat) : Int32 := bm (fun j => decide (0 < zlack s w j)) 8
theorem seenBits_ {h : ax_Hp} {c : Nat} {s : Sp} {w : Nat} (hc : isS c) (r : RC h c s w) : rI m_X5_seenBits [.ref c] h = some (zseen s w, h) := by
  refine rI_of ((e_X5_seenBits_0 hc h).trans ?_)
  refine (lp (fun k x => ax_run m_X5_seenBits 4 [(0, .ref c), (1, .int x), (2, .int k)] [] h) (bm (fun j => decide (0 < zlack s w j))) 8 (fun k hk => ?_)).trans ?_
  · show ax_run m_X5_seenBits 4 _ [] h = _
    have hl := zlack_le r.1.1 r.1.2.1 hk
    rw [e_X5_seenBits_4 hc]
    simp (disch := omega) only [l8, le_]
    rw [if_neg (by omega), lackOf_ hc r (by omega), bnd]
    simp (disch := omega) only [le0, bm, decide_eq_true_eq, l1, add_]
    by_cases q : 0 < zlack s w k
    · rw [if_neg (by omega), if_pos q]
    · rw [if_pos (by omega), if_neg q]
  · show ax_run m_X5_seenBits 4 _ [] h = _
    rw [e_X5_seenBits_4 hc]
    exact if_pos (by decide)
def zlent (s : Sp) : Int32 := bm (fun i => decide (zP s i ≠ zO s i)) (zW s)
theorem lentBits_ {h : ax_Hp} {c : Nat} {s : Sp} {w : Nat} (hc : isS c) (r : RB h c s w) : rI m_X5_lentBits [.ref c] h = some (zlent s, h) := by
  have hW := r.1.1
  refine rI_of ((e_X5_lentBits_0 hc h).trans ?_)
  refine (lp (fun k x => ax_run m_X5_lentBits 4 [(0, .ref c), (1, .int x), (2, .int k)] [] h) (bm (fun i => decide (zP s i ≠ zO s i))) (zW s) (fun k hk => ?_)).trans ?_
  · show ax_run m_X5_lentBits 4 _ [] h = _
    rw [e_X5_lentBits_4 hc, r.2.2.1]
    simp (disch := omega) only [le_]
    rw [if_neg (by omega), isLent_ hc r hk, bnd]
    simp (disch := omega) only [bm, decide_eq_true_eq, l1, add_]
    by_cases q : zP s k = zO s k
    · simp only [q, if_true, ne_eq, not_true_eq_false, if_false]
    · simp only [q, if_false, ne_eq, not_false_eq_true, if_true, ← l1, ax_10]
  · show ax_run m_X5_lentBits 4 _ [] h = _
    rw [e_X5_lentBits_4 hc, r.2.2.1]
    exact if_pos ((le_ (a := zW s) (b := zW s) (by omega) (by omega)).mpr (Nat.le_refl _))
def zat (s : Sp) (j : Nat) : Int32 := bm (fun i => decide (zP s i = j)) (zW s)
def zown (s : Sp) (j : Nat) : Int32 := bm (fun i => decide (zO s i = j)) (zW s)
theorem wallsAt_ {h : ax_Hp} {c : Nat} {s : Sp} {w j : Nat} (hc : isS c) (r : RB h c s w) (hj : j < 2147483648) : rI m_X5_wallsAt [.ref c, .int (nI j)] h = some (zat s j, h) := by
  have hW := r.1.1
  refine rI_of ((e_X5_wallsAt_0 hc _ h).trans ?_)
  refine (lp (fun k x => ax_run m_X5_wallsAt 4 [(0, .ref c), (1, .int (nI j)), (2, .int x), (3, .int k)] [] h) (bm (fun i => decide (zP s i = j))) (zW s) (fun k hk => ?_)).trans ?_
  · show ax_run m_X5_wallsAt 4 _ [] h = _
    have okk := (r.1.2.2.1 k (by omega)).2.2.2
    rw [e_X5_wallsAt_4 hc, r.2.2.1]
    simp (disch := omega) only [le_, g_in, cl_]
    rw [if_neg (by omega), (r.2.2.2.2.2.1 k (by omega)).2.2.2.1]
    simp (disch := omega) only [bm, decide_eq_true_eq, l1, add_, eq_]
    split <;> rfl
  · show ax_run m_X5_wallsAt 4 _ [] h = _
    rw [e_X5_wallsAt_4 hc, r.2.2.1]
    exact if_pos ((le_ (a := zW s) (b := zW s) (by omega) (by omega)).mpr (Nat.le_refl _))
theorem wallsOwned_ {h : ax_Hp} {c : Nat} {s : Sp} {w j : Nat} (hc : isS c) (r : RB h c s w) (hj : j < 2147483648) : rI m_X5_wallsOwnedBy [.ref c, .int (nI j)] h = some (zown s j, h) := by
  have hW := r.1.1
  refine rI_of ((e_X5_wallsOwnedBy_0 hc _ h).trans ?_)
  refine (lp (fun k x => ax_run m_X5_wallsOwnedBy 4 [(0, .ref c), (1, .int (nI j)), (2, .int x), (3, .int k)] [] h) (bm (fun i => decide (zO s i = j))) (zW s) (fun k hk => ?_)).trans ?_
  · show ax_run m_X5_wallsOwnedBy 4 _ [] h = _
    have okk := (r.1.2.2.1 k (by omega)).2.2.1
    rw [e_X5_wallsOwnedBy_4 hc, r.2.2.1]
    simp (disch := omega) only [le_, g_in, cl_]
    rw [if_neg (by omega), (r.2.2.2.2.2.1 k (by omega)).2.2.1]
    simp (disch := omega) only [bm, decide_eq_true_eq, l1, add_, eq_]
    split <;> rfl
  · show ax_run m_X5_wallsOwnedBy 4 _ [] h = _
    rw [e_X5_wallsOwnedBy_4 hc, r.2.2.1]
    exact if_pos ((le_ (a := zW s) (b := zW s) (by omega) (by omega)).mpr (Nat.le_refl _))
def zholes (s : Sp) : Int32 := sI (zL s) (zW s)
theorem allHoles_ {h : ax_Hp} {c : Nat} {s : Sp} {w : Nat} (hc : isS c) (r : RB h c s w) : rI m_X5_allHoles [.ref c] h = some (zholes s, h) := by
  have hW := r.1.1
  refine rI_of ((e_X5_allHoles_0 hc h).trans ?_)
  refine (lp (fun k x => ax_run m_X5_allHoles 4 [(0, .ref c), (1, .int x), (2, .int k)] [] h) (sI (zL s)) (zW s) (fun k hk => ?_)).trans ?_
  · show ax_run m_X5_allHoles 4 _ [] h = _
    rw [e_X5_allHoles_4 hc, r.2.2.1]
    simp (disch := omega) only [le_, g_in, cl_]
    rw [if_neg (by omega), (r.2.2.2.2.2.1 k (by omega)).2.2.2.2, l1, add_]
    rfl
  · show ax_run m_X5_allHoles 4 _ [] h = _
    rw [e_X5_allHoles_4 hc, r.2.2.1]
    exact if_pos ((le_ (a := zW s) (b := zW s) (by omega) (by omega)).mpr (Nat.le_refl _))
