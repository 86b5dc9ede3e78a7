/-! operations: who sees, hide, price, shares (by wip/whole/gen46.py) -/
def lo_2 (a b : Nat) : Nat := if b < a then b else a
def hi_2 (a b : Nat) : Nat := if a < b then b else a
def btwN (k a b : Nat) : Bool := decide ((a < k ∧ k < b) ∨ (b < k ∧ k < a))
theorem btwN_iff (k a b : Nat) : btwN k a b = true ↔ lo_2 a b < k ∧ k < hi_2 a b := by
  unfold btwN lo_2 hi_2
  rw [decide_eq_true_eq]
  split <;> split <;> omega
theorem btwN_no {k a b : Nat} (h : k ≤ lo_2 a b ∨ hi_2 a b ≤ k) : btwN k a b = false := by
  cases q : btwN k a b with
  | false => rfl
  | true =>
    have := (btwN_iff k a b).mp q
    omega
theorem tld_iff {p : Nat → Bool} : ∀ f a, tld p f a = true ↔ ∀ j, a ≤ j → j < a + f → p j = true := by
  intro f
  induction f with
  | zero => intro a; exact ⟨fun _ j h1 h2 => by omega, fun _ => rfl⟩
  | succ f ih =>
    intro a
    simp only [tld]
    constructor
    · intro h j h1 h2
      cases q : p a with
      | true =>
        rw [q, if_pos rfl] at h
        by_cases e : j = a
        · rw [e]; exact q
        · exact (ih (a + 1)).mp h j (by omega) (by omega)
      | false => rw [q] at h; simp at h
    · intro h
      rw [if_pos (h a (Nat.le_refl _) (by omega))]
      exact (ih (a + 1)).mpr (fun j h1 h2 => h j (by omega) (by omega))
theorem bmN_0 {p : Nat → Bool} {n : Nat} : bmN p n = 0 ↔ ∀ i, i < n → p i = false := by
  induction n with
  | zero => exact ⟨fun _ i h => by omega, fun _ => rfl⟩
  | succ n ih =>
    simp only [bmN]
    have := Nat.two_pow_pos n
    constructor
    · intro h i hi
      cases q : p n with
      | true => rw [q, if_pos rfl] at h; omega
      | false =>
        rw [q, if_neg (by decide)] at h
        by_cases e : i = n
        · rw [e]; exact q
        · exact ih.mp h i (by omega)
    · intro h
      rw [h n (by omega), if_neg (by decide)]
      exact ih.mpr (fun i hi => h i (by omega))
theorem zat_0 {s : Sp} (ok : okS s) {j : Nat} : zat s j = 0 ↔ ∀ i, i < zW s → zP s i ≠ j := by
  have hW := ok.1
  unfold zat
  rw [bm_nI _ (by omega)]
  have hl := bm_lt (fun i => decide (zP s i = j)) (n := zW s) (by omega)
  rw [eq0 (by omega), bmN_0]
  exact ⟨fun h i hi e => absurd (h i hi) (by simp [e]), fun h i hi => decide_eq_false (h i hi)⟩
def zlook (s : Sp) (a b : Nat) : Bool := if a = b then false else if zlack s 0 b = 0 then false else tld (fun i => !btwN (zP s i) a b) (zW s) 0
theorem emp_eq {s : Sp} (ok : okS s) {a b : Nat} (hab : a ≠ b) : tld (fun j => decide (zat s j = 0)) (hi_2 a b - (lo_2 a b + 1)) (lo_2 a b + 1) = tld (fun i => !btwN (zP s i) a b) (zW s) 0 := by
  have hlh : lo_2 a b < hi_2 a b := by unfold lo_2 hi_2; split <;> split <;> omega
  apply Bool.eq_iff_iff.mpr
  rw [tld_iff, tld_iff]
  constructor
  · intro h i _ hi
    show (!btwN (zP s i) a b) = true
    cases q : btwN (zP s i) a b with
    | false => rfl
    | true =>
      have q2 := (btwN_iff _ _ _).mp q
      have q3 := of_decide_eq_true (h (zP s i) (by omega) (by omega))
      exact absurd rfl ((zat_0 ok).mp q3 i (by omega))
  · intro h j h1 h2
    refine decide_eq_true ((zat_0 ok).mpr (fun i hi e => ?_))
    have q1 := h i (by omega) (by omega)
    have q2 : btwN (zP s i) a b = true := (btwN_iff _ _ _).mpr (by omega)
    rw [q2] at q1
    exact absurd q1 (by decide)
theorem lo_nI {a b : Nat} (ha : a < 8) (hb : b < 8) : (if nI b < nI a then nI b else nI a) = nI (lo_2 a b) := by
  simp (disch := omega) only [lt_]
  unfold lo_2; split <;> rfl
theorem hi_nI {a b : Nat} (ha : a < 8) (hb : b < 8) : (if nI a < nI b then nI b else nI a) = nI (hi_2 a b) := by
  simp (disch := omega) only [lt_]
  unfold hi_2; split <;> rfl
theorem lohi {a b : Nat} (ha : a < 8) (hb : b < 8) : lo_2 a b < 8 ∧ hi_2 a b < 8 := by
  unfold lo_2 hi_2; split <;> split <;> omega
theorem looks_ {h : ax_Hp} {s : Sp} {a b : Nat} (r : RC h 1 s 0) (ha : a < 8) (hb : b < 8) : rI m_X5_looksAt [.ref 1, .int (nI a), .int (nI b)] h = some (if zlook s a b = true then 1 else 0, h) := by
  refine rI_of ((e_X5_looksAt_0 is1 _ _ h).trans ?_)
  have bl := lohi ha hb
  have bz := zlack_le r.1.1 r.1.2.1 hb
  simp (disch := omega) only [eq_]
  unfold zlook
  by_cases q : a = b
  · rw [if_pos q, if_pos q]; rfl
  · have hlh : lo_2 a b < hi_2 a b := by unfold lo_2 hi_2; split <;> split <;> omega
    rw [if_neg q, if_neg q, lackOf_ is1 r hb, bnd]
    simp (disch := omega) only [eq0]
    by_cases q2 : zlack s 0 b = 0
    · rw [if_pos q2, if_pos q2]; rfl
    · rw [if_neg q2, if_neg q2, lo_nI ha hb, nI_1, ← emp_eq r.1.1 q]
      have key : ∀ f x, x + f = hi_2 a b → ax_run m_X5_looksAt 23 [(0, .ref 1), (1, .int (nI a)), (2, .int (nI b)), (3, .int (nI x))] [] h = some (some (.int (if tld (fun j => decide (zat s j = 0)) f x = true then 1 else 0)), h) := by
        intro f
        induction f with
        | zero =>
          intro x hx
          rw [e_X5_looksAt_23 is1, hi_nI ha hb, if_pos ((le_ (by omega) (by omega)).mpr (by omega))]
          simp only [tld, if_true]
        | succ f ih =>
          intro x hx
          rw [e_X5_looksAt_23 is1, hi_nI ha hb, if_neg (fun y => by
            have := (le_ (a := hi_2 a b) (b := x) (by omega) (by omega)).mp y
            omega), wallsAt_ is1 r.1 (by omega), bnd]
          simp only [tld]
          by_cases q3 : zat s x = 0
          · rw [if_pos q3, nI_1, ih (x + 1) (by omega)]
            simp only [q3, decide_true, if_true]
          · rw [if_neg q3]
            simp only [q3, decide_false, Bool.false_eq_true, if_false]
      exact key _ _ (by omega)
theorem isBtw_ {k a b : Nat} (hk : k < 8) (ha : a < 8) (hb : b < 8) (h : ax_Hp) : rI m_X8_isBetween [.ref 47, .int (nI k), .int (nI a), .int (nI b)] h = some (if btwN k a b = true then 1 else 0, h) := by
  refine rI_of ((e_X8_isBetween_0 _ _ _ h).trans ?_)
  unfold btwN
  simp (disch := omega) only [le_, lt_, decide_eq_true_eq]
  repeat' split
  all_goals first | rfl | omega
theorem looksM_ {h : ax_Hp} {s : Sp} {a b : Nat} (r : RM h s 0) (ha : a < 8) (hb : b < 8) : rI m_X8_sees_ [.ref 47, .int (nI a), .int (nI b)] h = some (if zlook s a b = true then 1 else 0, h) := by
  have hW := r.1.1
  refine rI_of ((e_X8_sees__0 _ _ h).trans ?_)
  have bz := zlack_le r.1 r.w hb
  simp (disch := omega) only [eq_]
  unfold zlook
  by_cases q : a = b
  · rw [if_pos q, if_pos q]; rfl
  · rw [if_neg q, if_neg q, lacks_ r hb, bnd]
    simp (disch := omega) only [eq0]
    by_cases q2 : zlack s 0 b = 0
    · rw [if_pos q2, if_pos q2]; rfl
    · rw [if_neg q2, if_neg q2]
      have key : ∀ f x, x + f = zW s → ax_run m_X8_sees_ 17 [(0, .ref 47), (1, .int (nI a)), (2, .int (nI b)), (3, .int (nI x))] [] h = some (some (.int (if tld (fun i => !btwN (zP s i) a b) f x = true then 1 else 0)), h) := by
        intro f
        induction f with
        | zero =>
          intro x hx
          rw [e_X8_sees__17, r.2.2.1, if_pos ((le_ (by omega) (by omega)).mpr (by omega))]
          simp only [tld, if_true]
        | succ f ih =>
          intro x hx
          have okP := (r.1.2.2.1 x (by omega)).2.2.2
          rw [e_X8_sees__17, r.2.2.1, if_neg (fun y => by
            have := (le_ (a := zW s) (b := x) (by omega) (by omega)).mp y
            omega)]
          simp (disch := omega) only [g_in, cl_, (r.2.2.2.2.1 x (by omega)).2.2.2.1]
          rw [isBtw_ okP ha hb, bnd]
          simp only [tld]
          by_cases q3 : btwN (zP s x) a b = true
          · simp only [q3, if_true, ax_10, if_false, Bool.not_true, Bool.false_eq_true]
          · have q4 : btwN (zP s x) a b = false := by simpa using q3
            simp only [q4, Bool.false_eq_true, if_false, if_true, Bool.not_false]
            rw [nI_1, ih (x + 1) (by omega)]
      exact key _ 0 (by omega)
def zsees (s : Sp) (j : Nat) : Int32 := bm (fun i => zlook s i j) 8
theorem op_sees {h : ax_Hp} {A : Ab} (oa : okA A) (ic : IC h A) (im : IM h A) (x1 : Int32) : OP m_X7_sees m_X8_sees [.int x1] h := by
  have hW := ic.1.1.1.1
  by_cases hw : 0 ≤ x1 ∧ x1 < 8
  · obtain ⟨j, hj, rfl⟩ := of_in hw.1 hw.2 (n := 8) (by omega)
    refine OP_q (v := zsees (bS A) j) oa ic im ⟨h, rI_of ((e_X7_sees_0 _ h).trans ?_), QC.refl h⟩ (fun h1 m => ⟨h1, rI_of ((e_X8_sees_0 _ h1).trans ?_), QM.refl m.1⟩)
    · simp only [isHouse_, hw, and_self, if_true, ax_10, if_false, bnd]
      refine (lp (fun k x => ax_run m_X7_sees 17 [(0, .ref 0), (1, .int (nI j)), (2, .int x), (3, .int k)] [] h) (bm (fun i => zlook (bS A) i j)) 8 (fun k hk => ?_)).trans ?_
      · show ax_run m_X7_sees 17 _ [] h = _
        rw [e_X7_sees_17]
        simp (disch := omega) only [l8, le_]
        rw [if_neg (by omega), looks_ ic.1 hk hj, bnd, nI_1]
        simp only [bm]
        by_cases q : zlook (bS A) k j = true <;> simp only [q, Bool.false_eq_true, if_false, if_true, ax_10]
      · show ax_run m_X7_sees 17 _ [] h = _
        rw [e_X7_sees_17]
        exact if_pos (by decide)
    · simp only [isHouseM_, hw, and_self, if_true, ax_10, if_false, bnd]
      refine (lp (fun k x => ax_run m_X8_sees 17 [(0, .ref 47), (1, .int (nI j)), (2, .int x), (3, .int k)] [] h1) (bm (fun i => zlook (bS A) i j)) 8 (fun k hk => ?_)).trans ?_
      · show ax_run m_X8_sees 17 _ [] h1 = _
        rw [e_X8_sees_17]
        simp (disch := omega) only [l8, le_]
        rw [if_neg (by omega), looksM_ m.1 hk hj, bnd, nI_1]
        simp only [bm]
        by_cases q : zlook (bS A) k j = true <;> simp only [q, Bool.false_eq_true, if_false, if_true, ax_10, Int32.or_zero]
      · show ax_run m_X8_sees 17 _ [] h1 = _
        rw [e_X8_sees_17]
        exact if_pos (by decide)
  · exact OP_no (x := -1) 1 (by omega) oa ic im (rI_of ((e_X7_sees_0 _ h).trans (by simp only [isWall_ is1 ic.1.1, isHouse_, outs_, bnd, no1, no2, no3, no4, no6, lo1, lo2, lo4, lo6, if_true, if_false, ax_10, ax_n4, ax_n6, and_self, hw]))) (fun h1 m => rI_of ((e_X8_sees_0 _ h1).trans (by simp only [isWallM_ m.1, isHouseM_, outsM_, isIn_, notH_, bnd, mo1, mo2, mo3, mo4, mo6, ml1, ml2, ml4, ml6, if_true, if_false, ax_10, ax_n4, ax_n6, and_self, hw])))
/-- the wall and the house with fewest steps, of the first k pairs -/
def hdF (s : Sp) (a b : Nat) : Nat → Int32 × Nat
  | 0 => (-9, 8)
  | k + 1 => if btwN (k % 8) a b = true ∧ dst (zP s (k / 8)) (k % 8) < (hdF s a b k).2 then (nI (10 * (k / 8) + k % 8), dst (zP s (k / 8)) (k % 8)) else hdF s a b k
theorem dst_lt {a b : Nat} (ha : a < 8) (hb : b < 8) : dst a b < 8 := by unfold dst; split <;> omega
theorem hdF_le (s : Sp) (a b k : Nat) : (hdF s a b k).2 ≤ 8 := by
  induction k with
  | zero => exact Nat.le_refl _
  | succ k ih =>
    simp only [hdF]
    split
    · simp only []; omega
    · exact ih
theorem hdF_skip {s : Sp} {a b i x y : Nat} (hxy : x ≤ y) (hy : y ≤ 8) (h : ∀ j, x ≤ j → j < y → btwN j a b = false) : hdF s a b (8 * i + y) = hdF s a b (8 * i + x) := by
  induction y with
  | zero => have : x = 0 := by omega
            rw [this]
  | succ y ih =>
    by_cases e : x = y + 1
    · rw [e]
    · have st : hdF s a b (8 * i + (y + 1)) = if btwN ((8 * i + y) % 8) a b = true ∧ dst (zP s ((8 * i + y) / 8)) ((8 * i + y) % 8) < (hdF s a b (8 * i + y)).2 then (nI (10 * ((8 * i + y) / 8) + (8 * i + y) % 8), dst (zP s ((8 * i + y) / 8)) ((8 * i + y) % 8)) else hdF s a b (8 * i + y) := rfl
      rw [st, show (8 * i + y) % 8 = y by omega, h y (by omega) (by omega), if_neg (fun q => absurd q.1 (by decide))]
      exact ih (by omega) (by omega) (fun j h1 h2 => h j h1 (by omega))
theorem screen_ {h : ax_Hp} {s : Sp} {a b : Nat} (r : RC h 1 s 0) (ha : a < 8) (hb : b < 8) (hab : a ≠ b) : rI m_X0_screen [.ref 40, .ref 1, .int (nI a), .int (nI b)] h = some ((hdF s a b (8 * zW s)).1, h) := by
  have hW := r.1.1.1
  have bl := lohi ha hb
  have hlh : lo_2 a b < hi_2 a b := by unfold lo_2 hi_2; split <;> split <;> omega
  refine rI_of ((e_X0_screen_0 _ _ h).trans ?_)
  refine (lp (fun k (x : Int32 × Nat) => ax_run m_X0_screen 11 [(1, .ref 1), (2, .int (nI a)), (3, .int (nI b)), (4, .int x.1), (5, .int (nI x.2)), (6, .int k)] [] h) (fun i => hdF s a b (8 * i)) (zW s) (fun i hi => ?_)).trans ?_
  · show ax_run m_X0_screen 11 _ [] h = ax_run m_X0_screen 11 _ [] h
    have okP := (r.1.1.2.2.1 i (by omega)).2.2.2
    have p1 : h.1 5 i = nI (zP s i) := (r.1.2.2.2.2.2.1 i (by omega)).2.2.2.1
    rw [e_X0_screen_11, r.1.2.2.1, if_neg (fun y => by
      have := (le_ (a := zW s) (b := i) (by omega) (by omega)).mp y
      omega), lo_nI ha hb, nI_1]
    have key : ∀ f x, lo_2 a b + 1 ≤ x → x + f = hi_2 a b → ax_run m_X0_screen 29 [(1, .ref 1), (2, .int (nI a)), (3, .int (nI b)), (4, .int (hdF s a b (8 * i + x)).1), (5, .int (nI (hdF s a b (8 * i + x)).2)), (6, .int (nI i)), (7, .int (nI x))] [] h = ax_run m_X0_screen 11 [(1, .ref 1), (2, .int (nI a)), (3, .int (nI b)), (4, .int (hdF s a b (8 * i + hi_2 a b)).1), (5, .int (nI (hdF s a b (8 * i + hi_2 a b)).2)), (6, .int (nI (i + 1)))] [] h := by
      intro f
      induction f with
      | zero =>
        intro x h1 hx
        rw [e_X0_screen_29, hi_nI ha hb, if_pos ((le_ (by omega) (by omega)).mpr (by omega)), show x = hi_2 a b by omega, nI_1]
      | succ f ih =>
        intro x h1 hx
        have hl := hdF_le s a b (8 * i + x)
        have hd := dst_lt okP (b := x) (by omega)
        have hbt : btwN x a b = true := (btwN_iff _ _ _).mpr (by omega)
        rw [e_X0_screen_29, hi_nI ha hb, if_neg (fun y => by
          have := (le_ (a := hi_2 a b) (b := x) (by omega) (by omega)).mp y
          omega)]
        simp (disch := omega) only [g_in, cl_, p1]
        have st := steps_ okP (b := x) (by omega) h
        rw [show (if zP s i ≤ x then x - zP s i else zP s i - x) = dst (zP s i) x from rfl] at st
        rw [st, bnd, nI_1]
        simp (disch := omega) only [le_]
        have e1 : hdF s a b (8 * i + (x + 1)) = if btwN ((8 * i + x) % 8) a b = true ∧ dst (zP s ((8 * i + x) / 8)) ((8 * i + x) % 8) < (hdF s a b (8 * i + x)).2 then (nI (10 * ((8 * i + x) / 8) + (8 * i + x) % 8), dst (zP s ((8 * i + x) / 8)) ((8 * i + x) % 8)) else hdF s a b (8 * i + x) := rfl
        rw [show (8 * i + x) % 8 = x by omega, show (8 * i + x) / 8 = i by omega, hbt] at e1
        have nx := ih (x + 1) (by omega) (by omega)
        rw [e1] at nx
        by_cases q : dst (zP s i) x < (hdF s a b (8 * i + x)).2
        · rw [if_pos ⟨rfl, q⟩] at nx
          rw [if_neg (by omega), l10, mul_, add_]
          exact nx
        · rw [if_neg (fun y => q y.2)] at nx
          rw [if_pos (by omega)]
          exact nx
    have s1 := hdF_skip (s := s) (a := a) (b := b) (i := i) (x := 0) (y := lo_2 a b + 1) (by omega) (by omega) (fun j _ h2 => btwN_no (by omega))
    have s2 := hdF_skip (s := s) (a := a) (b := b) (i := i) (x := hi_2 a b) (y := 8) (by omega) (by omega) (fun j h1 h2 => btwN_no (by omega))
    have kk := key (hi_2 a b - (lo_2 a b + 1)) (lo_2 a b + 1) (Nat.le_refl _) (by omega)
    rw [s1, ← s2] at kk
    exact kk
  · show ax_run m_X0_screen 11 _ [] h = _
    rw [e_X0_screen_11, r.1.2.2.1, if_pos ((le_ (a := zW s) (b := zW s) (by omega) (by omega)).mpr (Nat.le_refl _))]
theorem op_hide {h : ax_Hp} {A : Ab} (oa : okA A) (ic : IC h A) (im : IM h A) (x1 x2 : Int32) : OP m_X7_hide m_X8_hide [.int x1, .int x2] h := by
  have hW := ic.1.1.1.1
  by_cases ht : twoP x1 x2
  · obtain ⟨a, b, ha, hb, hab, rfl, rfl⟩ := two_n ht
    cases q : zlook (bS A) a b with
    | false =>
      have q1 : ∀ h, RC h 1 (bS A) 0 → rI m_X5_looksAt [.ref 1, .int (nI a), .int (nI b)] h = some (0, h) := fun h r => by rw [looks_ r ha hb, q]; rfl
      have q2 : ∀ h, RM h (bS A) 0 → rI m_X8_sees_ [.ref 47, .int (nI a), .int (nI b)] h = some (0, h) := fun h r => by rw [looksM_ r ha hb, q]; rfl
      exact OP_no (x := -3) 3 (by omega) oa ic im (rI_of ((e_X7_hide_0 _ _ h).trans (by simp only [isWall_ is1 ic.1.1, isHouse_, outs_, bnd, no1, no2, no3, no4, no6, lo1, lo2, lo4, lo6, if_true, if_false, ax_10, ax_n4, ax_n6, and_self, areTwo_pos ht, q1 h ic.1]))) (fun h1 m => rI_of ((e_X8_hide_0 _ _ h1).trans (by simp only [isWallM_ m.1, isHouseM_, outsM_, isIn_, notH_, bnd, mo1, mo2, mo3, mo4, mo6, ml1, ml2, ml4, ml6, if_true, if_false, ax_10, ax_n4, ax_n6, and_self, areTwoM_pos ht, q2 h1 m.1])))
    | true =>
      refine OP_q (v := (hdF (bS A) a b (8 * zW (bS A))).1) oa ic im ⟨h, rI_of ((e_X7_hide_0 _ _ h).trans ?_), QC.refl h⟩ (fun h1 m => ⟨h1, rI_of ((e_X8_hide_0 _ _ h1).trans ?_), QM.refl m.1⟩)
      · simp only [areTwo_pos ht, bnd, ax_10, if_false, looks_ ic.1 ha hb, q, if_true, screen_ ic.1 ha hb hab]
      · simp only [areTwoM_pos ht, bnd, ax_10, if_false, looksM_ m.1 ha hb, q, if_true]
        refine (lp (fun k (x : Int32 × Nat) => ax_run m_X8_hide 40 [(0, .ref 47), (1, .int (nI a)), (2, .int (nI b)), (3, .int x.1), (4, .int (nI x.2)), (5, .int k)] [] h1) (hdF (bS A) a b) (8 * zW (bS A)) (fun k hk => ?_)).trans ?_
        · show ax_run m_X8_hide 40 _ [] h1 = ax_run m_X8_hide 40 _ [] h1
          have okP := (m.1.1.2.2.1 (k / 8) (by omega)).2.2.2
          have m8 : k % 8 < 8 := Nat.mod_lt _ (by omega)
          have hl := hdF_le (bS A) a b k
          have hd := dst_lt okP m8
          rw [e_X8_hide_40, m.1.2.2.1, l8]
          simp (disch := omega) only [rem_]
          simp (disch := omega) only [mul_, le_, div_, g_in, cl_, (m.1.2.2.2.2.1 (k / 8) (by omega)).2.2.2.1]
          rw [if_neg (by omega), apart_ okP m8, bnd, isBtw_ m8 ha hb, bnd]
          simp (disch := omega) only [lt_, nI_1, l10, mul_, add_, hdF]
          by_cases q1 : btwN (k % 8) a b = true
          · simp only [q1, if_true, true_and]
            rw [if_neg (by decide)]
            by_cases q2 : dst (zP (bS A) (k / 8)) (k % 8) < (hdF (bS A) a b k).2
            · rw [if_pos q2, if_pos q2]
            · rw [if_neg q2, if_neg q2]
          · simp only [q1, if_false, if_true, false_and, Bool.false_eq_true]
        · show ax_run m_X8_hide 40 _ [] h1 = _
          rw [e_X8_hide_40, m.1.2.2.1, l8, mul_, if_pos ((le_ (a := 8 * zW (bS A)) (b := 8 * zW (bS A)) (by omega) (by omega)).mpr (Nat.le_refl _))]
  · exact OP_no (x := -1) 1 (by omega) oa ic im (rI_of ((e_X7_hide_0 _ _ h).trans (by simp only [isWall_ is1 ic.1.1, isHouse_, outs_, bnd, no1, no2, no3, no4, no6, lo1, lo2, lo4, lo6, if_true, if_false, ax_10, ax_n4, ax_n6, and_self, areTwo_neg ht]))) (fun h1 m => rI_of ((e_X8_hide_0 _ _ h1).trans (by simp only [isWallM_ m.1, isHouseM_, outsM_, isIn_, notH_, bnd, mo1, mo2, mo3, mo4, mo6, ml1, ml2, ml4, ml6, if_true, if_false, ax_10, ax_n4, ax_n6, and_self, areTwoM_neg ht])))
/-- what a house gives for a wall -/
def gvN (s : Sp) (j i : Nat) : Nat := (if zcov s i < zlack s 0 j then zcov s i else zlack s 0 j) - dst j (zP s i)
theorem gvN_le {s : Sp} (ok : okS s) {j i : Nat} (hj : j < 8) (hi : i < 7) : gvN s j i ≤ 20 := by
  have := zcov_le ok hi
  have := zlack_le ok (w := 0) (by omega) hj
  unfold gvN; split <;> omega
theorem gift_ {h : ax_Hp} {s : Sp} {j i : Nat} (r : RC h 1 s 0) (hj : j < 8) (hi : i < zW s) : rI m_X0_gift [.ref 40, .ref 1, .int (nI j), .int (nI i)] h = some (nI (gvN s j i), h) := by
  have hW := r.1.1.1
  obtain ⟨n0, n1, nr, nb, nc, nh⟩ := now_ r
  have okP := (r.1.1.2.2.1 i (by omega)).2.2.2
  have b1 := zcov_le r.1.1 (i := i) (by omega)
  have b2 := zlack_le r.1.1 (w := 0) (by omega) hj
  have hd := dst_lt hj okP
  have st := steps_ hj okP h
  rw [show (if j ≤ zP s i then zP s i - j else j - zP s i) = dst j (zP s i) from rfl] at st
  refine rI_of ((e_X0_gift_0 _ _ h).trans ?_)
  rw [lackOf_ is1 r hj, bnd]
  simp (disch := omega) only [g_in, cl_, (nr i (by omega)).2.2.2.1, nc i hi]
  rw [st, bnd]
  simp (disch := omega) only [lt_]
  have e : (if zcov s i < zlack s 0 j then nI (zcov s i) else nI (zlack s 0 j)) = nI (if zcov s i < zlack s 0 j then zcov s i else zlack s 0 j) := by split <;> rfl
  rw [e, max0 (by split <;> omega) (by omega)]
  rfl
theorem givesM_ {h : ax_Hp} {s : Sp} {j i : Nat} (r : RM h s 0) (hj : j < 8) (hi : i < zW s) : rI m_X8_gives [.ref 47, .int (nI j), .int (nI i)] h = some (nI (gvN s j i), h) := by
  have hW := r.1.1
  have okP := (r.1.2.2.1 i (by omega)).2.2.2
  have b1 := zcov_le r.1 (i := i) (by omega)
  have b2 := zlack_le r.1 (w := 0) (by omega) hj
  have hd := dst_lt hj okP
  refine rI_of ((e_X8_gives_0 _ _ h).trans ?_)
  rw [lacks_ r hj, bnd, covers_ r (by omega), bnd]
  simp (disch := omega) only [le_]
  have fin : ∀ v, v < 100 → (if 0 ≤ nI v - nI (dst j (zP s i)) then some (some (Value.int (nI v - nI (dst j (zP s i)))), h) else some (some (.int 0), h)) = some (some (.int (nI (v - dst j (zP s i)))), h) := by
    intro v hv
    rw [← max0' (a := v) (b := dst j (zP s i)) (by omega) (by omega)]
    split <;> rfl
  unfold gvN
  by_cases q : zcov s i ≤ zlack s 0 j
  · rw [if_pos q, covers_ r (by omega), bnd]
    simp (disch := omega) only [g_in, cl_, (r.2.2.2.2.1 i (by omega)).2.2.2.1]
    rw [apart_ hj okP, bnd]
    simp only []
    rw [fin _ (by omega)]
    by_cases q2 : zcov s i < zlack s 0 j
    · rw [if_pos q2]
    · rw [if_neg q2, show zcov s i = zlack s 0 j by omega]
  · rw [if_neg q, if_neg (by omega), lacks_ r hj, bnd]
    simp (disch := omega) only [g_in, cl_, (r.2.2.2.2.1 i (by omega)).2.2.2.1]
    rw [apart_ hj okP, bnd]
    simp only []
    rw [fin _ (by omega)]
/-- who gives most of the first n houses, but one -/
def mgF (s : Sp) (i : Nat) (but : Int32) : Nat → Int32 × Nat
  | 0 => (-9, 0)
  | n + 1 => if nI n ≠ but ∧ (mgF s i but n).2 < gvN s n i then (nI n, gvN s n i) else mgF s i but n
theorem mgF_is (s : Sp) (i : Nat) (but : Int32) (n : Nat) : mgF s i but n = (-9, 0) ∨ ∃ j, j < n ∧ mgF s i but n = (nI j, gvN s j i) := by
  induction n with
  | zero => exact Or.inl rfl
  | succ n ih =>
    simp only [mgF]
    split
    · exact Or.inr ⟨n, by omega, rfl⟩
    · rcases ih with h | ⟨j, hj, h⟩
      · exact Or.inl h
      · exact Or.inr ⟨j, by omega, h⟩
theorem most_ {h : ax_Hp} {s : Sp} {i : Nat} (but : Int32) (r : RC h 1 s 0) (hi : i < zW s) : rI m_X0_mostGiving [.ref 40, .ref 1, .int (nI i), .int but] h = some ((mgF s i but 8).1, h) := by
  have hW := r.1.1.1
  refine rI_of ((e_X0_mostGiving_0 _ _ h).trans ?_)
  refine (lp (fun k (x : Int32 × Nat) => ax_run m_X0_mostGiving 10 [(0, .ref 40), (1, .ref 1), (2, .int (nI i)), (3, .int but), (4, .int x.1), (5, .int (nI x.2)), (6, .int k)] [] h) (mgF s i but) 8 (fun k hk => ?_)).trans ?_
  · show ax_run m_X0_mostGiving 10 _ [] h = ax_run m_X0_mostGiving 10 _ [] h
    have g1 := gvN_le r.1.1 hk (i := i) (by omega)
    have g2 : (mgF s i but k).2 ≤ 20 := by
      rcases mgF_is s i but k with e | ⟨j, hj, e⟩
      · rw [e]; exact Nat.zero_le _
      · rw [e]; exact gvN_le r.1.1 (by omega) (by omega)
    rw [e_X0_mostGiving_10]
    simp (disch := omega) only [l8, le_, nI_1]
    rw [if_neg (by omega)]
    simp only [mgF]
    by_cases q : nI k = but
    · rw [if_pos q, if_neg (fun x => x.1 q)]
    · rw [if_neg q, gift_ r hk hi, bnd]
      simp (disch := omega) only [le_]
      by_cases q2 : (mgF s i but k).2 < gvN s k i
      · rw [if_neg (by omega), if_pos ⟨q, q2⟩, gift_ r hk hi, bnd]
      · rw [if_pos (by omega), if_neg (fun x => q2 x.2)]
  · show ax_run m_X0_mostGiving 10 _ [] h = _
    rw [e_X0_mostGiving_10]
    exact if_pos (by decide)
theorem buyer_ {h : ax_Hp} {s : Sp} {i : Nat} (but : Int32) (r : RM h s 0) (hi : i < zW s) : rI m_X8_buyerBut [.ref 47, .int (nI i), .int but] h = some ((mgF s i but 8).1, h) := by
  have hW := r.1.1
  refine rI_of ((e_X8_buyerBut_0 _ _ h).trans ?_)
  refine (lp (fun k (x : Int32) => ax_run m_X8_buyerBut 6 [(0, .ref 47), (1, .int (nI i)), (2, .int but), (3, .int x), (4, .int k)] [] h) (fun n => (mgF s i but n).1) 8 (fun k hk => ?_)).trans ?_
  · show ax_run m_X8_buyerBut 6 _ [] h = ax_run m_X8_buyerBut 6 _ [] h
    have g1 := gvN_le r.1 hk (i := i) (by omega)
    rw [e_X8_buyerBut_6]
    simp (disch := omega) only [l8, le_, nI_1]
    rw [if_neg (by omega)]
    simp only [mgF]
    by_cases q : nI k = but
    · rw [if_pos q, if_neg (fun x => x.1 q)]
    · rw [if_neg q, givesM_ r hk hi, bnd]
      rcases mgF_is s i but k with e | ⟨j, hj, e⟩
      · rw [e]
        simp (disch := omega) only [ax_g9, if_false, le0]
        by_cases q2 : 0 < gvN s k i
        · rw [if_neg (by omega), if_pos ⟨q, q2⟩]
        · rw [if_pos (by omega), if_neg (fun x => q2 x.2)]
      · have g3 := gvN_le r.1 (j := j) (by omega) (i := i) (by omega)
        rw [e]
        simp only []
        rw [if_pos (nI_pos' (by omega)), givesM_ r (by omega) hi, bnd]
        simp (disch := omega) only [le_]
        by_cases q2 : gvN s j i < gvN s k i
        · rw [if_neg (by omega), if_pos ⟨q, q2⟩]
        · rw [if_pos (by omega), if_neg (fun x => q2 x.2)]
  · show ax_run m_X8_buyerBut 6 _ [] h = _
    rw [e_X8_buyerBut_6]
    exact if_pos (by decide)
def vprice (s : Sp) (i k : Nat) : Int32 := if k = 0 then (mgF s i (-9) 8).1 else if (mgF s i (-9) 8).1 = -9 then 0 else if (mgF s i (mgF s i (-9) 8).1 8).1 = -9 then 0 else nI (mgF s i (mgF s i (-9) 8).1 8).2
theorem op_price {h : ax_Hp} {A : Ab} (oa : okA A) (ic : IC h A) (im : IM h A) (x1 x2 : Int32) : OP m_X7_price m_X8_price [.int x1, .int x2] h := by
  have hW := ic.1.1.1.1
  by_cases hw : 0 ≤ x1 ∧ x1 < nI (zW (bS A))
  · by_cases ha : x2 < 0
    · exact OP_no (x := -2) 2 (by omega) oa ic im (rI_of ((e_X7_price_0 _ _ h).trans (by simp only [isWall_ is1 ic.1.1, isHouse_, outs_, bnd, no1, no2, no3, no4, no6, lo1, lo2, lo4, lo6, if_true, if_false, ax_10, ax_n4, ax_n6, and_self, hw, ha]))) (fun h1 m => rI_of ((e_X8_price_0 _ _ h1).trans (by simp only [isWallM_ m.1, isHouseM_, outsM_, isIn_, notH_, bnd, mo1, mo2, mo3, mo4, mo6, ml1, ml2, ml4, ml6, if_true, if_false, ax_10, ax_n4, ax_n6, and_self, hw, lt0_of ha 1])))
    · by_cases hb : x2 ≤ 1
      · obtain ⟨i, hi, rfl⟩ := of_in hw.1 hw.2 (by omega)
        obtain ⟨k, _, hk, rfl⟩ := in_n (m := 0) (n := 1) rfl rfl (n0l ha) hb (by omega) (by omega)
        have hx : 0 ≤ nI k ∧ nI k ≤ 1 := ⟨n0l ha, hb⟩
        have n9 : ∀ j, j < 8 → ¬ nI j = -9 := fun j hj e => by
          have := nI_pos' (n := j) (by omega)
          rw [e] at this
          exact absurd this (by decide)
        refine OP_q (v := vprice (bS A) i k) oa ic im ⟨h, rI_of ((e_X7_price_0 _ _ h).trans ?_), QC.refl h⟩ (fun h1 m => ⟨h1, rI_of ((e_X8_price_0 _ _ h1).trans ?_), QM.refl m.1⟩)
        · simp only [isWall_ is1 ic.1.1, hw, and_self, if_true, ax_10, if_false, bnd, ha, hb, most_ _ ic.1 hi]
          simp (disch := omega) only [eq0]
          unfold vprice
          by_cases q : k = 0
          · rw [if_pos q, if_pos q, if_pos q]
          · rw [if_neg q, if_neg q, if_neg q]
            by_cases q1 : (mgF (bS A) i (-9) 8).1 = -9
            · rw [if_pos q1, if_pos q1]
            · rw [if_neg q1, if_neg q1]
              by_cases q2 : (mgF (bS A) i (mgF (bS A) i (-9) 8).1 8).1 = -9
              · rw [if_pos q2, if_pos q2]
              · rw [if_neg q2, if_neg q2]
                rcases mgF_is (bS A) i (mgF (bS A) i (-9) 8).1 8 with e | ⟨j, hj, e⟩
                · rw [e] at q2; exact absurd rfl q2
                · rw [e]
                  simp only []
                  rw [gift_ ic.1 hj hi, bnd]
        · simp only [isWallM_ m.1, isIn_, hw, hx, and_self, if_true, ax_10, if_false, bnd, buyer_ _ m.1 hi]
          simp (disch := omega) only [eq0]
          unfold vprice
          by_cases q : k = 0
          · rw [if_pos q, if_pos q]
          · rw [if_neg q, if_neg q]
            rcases mgF_is (bS A) i (-9) 8 with e | ⟨j, hj, e⟩
            · rw [e]
              simp only [ax_g9, if_false, if_true]
            · rw [e]
              simp only []
              rw [if_pos (nI_pos' (by omega)), if_neg (n9 j hj)]
              rcases mgF_is (bS A) i (nI j) 8 with e2 | ⟨j2, hj2, e2⟩
              · rw [e2]
                simp only [ax_g9, if_false, if_true]
              · rw [e2]
                simp only []
                rw [if_pos (nI_pos' (by omega)), if_neg (n9 j2 hj2), givesM_ m.1 hj2 hi, bnd]
      · have hx : ¬ (0 ≤ x2 ∧ x2 ≤ 1) := fun q => hb q.2
        exact OP_no (x := -2) 2 (by omega) oa ic im (rI_of ((e_X7_price_0 _ _ h).trans (by simp only [isWall_ is1 ic.1.1, isHouse_, outs_, bnd, no1, no2, no3, no4, no6, lo1, lo2, lo4, lo6, if_true, if_false, ax_10, ax_n4, ax_n6, and_self, hw, ha, hb]))) (fun h1 m => rI_of ((e_X8_price_0 _ _ h1).trans (by simp only [isWallM_ m.1, isHouseM_, outsM_, isIn_, notH_, bnd, mo1, mo2, mo3, mo4, mo6, ml1, ml2, ml4, ml6, if_true, if_false, ax_10, ax_n4, ax_n6, and_self, hw, hx])))
  · exact OP_no (x := -1) 1 (by omega) oa ic im (rI_of ((e_X7_price_0 _ _ h).trans (by simp only [isWall_ is1 ic.1.1, isHouse_, outs_, bnd, no1, no2, no3, no4, no6, lo1, lo2, lo4, lo6, if_true, if_false, ax_10, ax_n4, ax_n6, and_self, hw]))) (fun h1 m => rI_of ((e_X8_price_0 _ _ h1).trans (by simp only [isWallM_ m.1, isHouseM_, outsM_, isIn_, notH_, bnd, mo1, mo2, mo3, mo4, mo6, ml1, ml2, ml4, ml6, if_true, if_false, ax_10, ax_n4, ax_n6, and_self, hw])))
