/-! operations in mind: coughs, what it is, lots, lend (by wip/whole/gen42.py) -/
/-- how many of the first n walls go between x and y while s becomes t -/
def zcg (s t : Sp) (x y : Int32) : Nat → Int32
  | 0 => 0
  | n + 1 => zcg s t x y n + (if (nI (zP s n) = x ∧ nI (zP t n) = y) ∨ (nI (zP s n) = y ∧ nI (zP t n) = x) then 1 else 0)
def zct (s : Sp) (x y : Int32) : Nat → Int32
  | 0 => 0
  | k + 1 => zct s x y k + zcg (zit s 0 k) (zit s 0 (k + 1)) x y (zW s)
theorem zgos_P2 {s : Sp} {w n k m : Nat} (h : n < k) (hk : k ≤ m) : zP (zgos s w m) n = zP (zgos s w k) n := by
  induction m with
  | zero => have : k = 0 := by omega
            rw [this]
  | succ m ih =>
    by_cases q : k = m + 1
    · rw [q]
    · rw [show zgos s w (m + 1) = zgo (zgos s w m) w m from rfl, zgo_P (by omega)]
      exact ih (by omega)
theorem zbtws_is {s : Sp} {w : Nat} {x y : Int32} (hxy : x ≠ y) : ∀ n, n ≤ zW s → zbtws (zT1 s) w x y n = zcg s (zhour s w) x y n := by
  intro n
  induction n with
  | zero => intro _; rfl
  | succ n ih =>
    intro hn
    simp only [zbtws, zcg]
    rw [ih (by omega)]
    have e1 : zP (zgos (zT1 s) w n) n = zP s n := zgos_P (Nat.le_refl n)
    have e2 : zto (zgos (zT1 s) w n) w n = zP (zhour s w) n := by
      rw [← zgo_Pi]
      exact (zgos_P2 (s := zT1 s) (w := w) (n := n) (k := n + 1) (m := zW s) (by omega) (by omega)).symm
    congr 1
    unfold zbtw
    simp only [decide_eq_true_eq, e1, e2]
    by_cases q : (nI (zP s n) = x ∧ nI (zP (zhour s w) n) = y) ∨ (nI (zP s n) = y ∧ nI (zP (zhour s w) n) = x)
    · have hne : zP (zhour s w) n ≠ zP s n := fun e => by
        rw [e] at q
        rcases q with q | q
        · exact hxy (q.1.symm.trans q.2)
        · exact hxy (q.2.symm.trans q.1)
      rw [if_pos q, if_pos ⟨hne, q⟩]
    · rw [if_neg q, if_neg (fun e => q e.2)]
theorem QI_slot {h h1 : ax_Hp} {s t : Sp} {w i : Nat} {x : Int32} (q : QI h h1 s t w) (hi : i ≠ 8 ∧ i ≠ 9 ∧ i ≠ 14 ∧ i ≠ 19 ∧ i ≠ 22 ∧ i ≠ 34) : QI h (wI h1 47 i x) s t w := by
  obtain ⟨a1, a2, a3, a4, a5, a6, a7, a8, a9, a10, a11, a12⟩ := q
  refine ⟨a1, fun k hk => (wI_ne (by omega)).trans (a2 k hk), RM_of (fun c _ _ => wI_ne (by omega)) (by simp (disch := omega) only [wI_at, upd_ne]) (by simp (disch := omega) only [wI_at, upd_ne]) (by simp (disch := omega) only [wI_at, upd_ne]) a3, KP_of (fun p _ _ => by rw [wI_ne (by omega)]) a4, ?_, ?_, ?_, fun j hj => ?_, ?_, ?_, a11, a12⟩
  · rw [wI_ne (by omega)]; exact a5
  · rw [wI_ne (by omega)]; exact a6
  · rw [wI_ne (by omega)]; exact a7
  · simp (disch := omega) only [wI_at, upd_ne]; exact a8 j hj
  · rw [wI_ne (by omega)]; exact a9
  · rw [wI_ne (by omega)]; exact a10
theorem QI_coughs {h h1 : ax_Hp} {s : Sp} {x y : Int32} {n : Nat} (q : QI h h1 s s 0) (hT : zT s + n < 1000000) (hx : h1.1 47 24 = x) (hy : h1.1 47 25 = y) (h0 : h1.1 47 26 = 0) (hxy : x ≠ y) :
    ∃ h2, rV m_X8_goes_ [.ref 47, .int (nI n)] h1 = some h2 ∧ QI h h2 s (zit s 0 n) 0 ∧ h2.1 47 26 = zct s x y n := by
  obtain ⟨h2, e2, q2, x2, y2, c2⟩ := ex_loop (fun x h => ax_run m_X8_goes_ 2 [(0, .ref 47), (1, .int (nI n)), (2, .int x)] [] h) (fun k h' => QI h h' s (zit s 0 k) 0 ∧ h'.1 47 24 = x ∧ h'.1 47 25 = y ∧ h'.1 47 26 = zct s x y k) n (by
    intro k a hk ⟨qa, xa, ya, ca⟩
    obtain ⟨b, e, qb, cb, sb, _⟩ := QI_hour qa (by rw [zit_T]; omega)
    refine ⟨b, ?_, qb, (sb 24 (by omega) (by omega)).trans xa, (sb 25 (by omega) (by omega)).trans ya, ?_⟩
    · show ax_run m_X8_goes_ 2 _ [] a = _
      rw [e_X8_goes__2, if_neg (fun x => by
        have := (le_ (a := n) (b := k) (by omega) (by omega)).mp x
        omega), e, bnd, l1, add_]
    · rw [cb, ca, xa, ya]
      unfold zcou
      rw [zbtws_is hxy _ (Nat.le_refl _), zit_W]
      rfl) h1 (k0 := 0) ⟨q, hx, hy, h0⟩ (by omega)
  refine ⟨h2, rV_of ((e_X8_goes__0 _ h1).trans (e2.trans ?_)), q2, c2⟩
  show ax_run m_X8_goes_ 2 _ [] h2 = _
  rw [e_X8_goes__2]
  exact if_pos ((le_ (a := n) (b := n) (by omega) (by omega)).mpr (Nat.le_refl _))
theorem btw3 {α : Type} {A B C D : Prop} [Decidable A] [Decidable B] [Decidable C] [Decidable D] (x y : α) : (if A then if B then x else if C then if D then x else y else y else if C then if D then x else y else y) = if (A ∧ B) ∨ (C ∧ D) then x else y := btw_ite x y
theorem coughs_ {h : ax_Hp} {s : Sp} {x y : Int32} {n : Nat} (r : RC h 1 s 0) (hT : zT s + n < 1000000) : ∃ h', rI m_X6_goingsBetween [.ref 43, .ref 1, .int x, .int y, .int (nI n)] h = some (zct s x y n, h') ∧ Fr 23 h h' := by
  have hW := r.1.1.1
  obtain ⟨h1, e1, r1, f1⟩ := begin_ r
  obtain ⟨h2, e2, r2, f2⟩ := ex_loop (fun (k : Int32) (h : Int32 × ax_Hp) => ax_run m_X6_goingsBetween 11 [(0, .ref 43), (2, .int x), (3, .int y), (4, .int (nI n)), (5, .int h.1), (6, .int k)] [] h.2) (fun k h' => (RC h'.2 23 (zit s 0 k) 0 ∧ Fr 23 h h'.2) ∧ h'.1 = zct s x y k) n (by
    intro k a hk ⟨⟨ra, fa⟩, ca⟩
    obtain ⟨b, e, rb, fb, cb⟩ := passHour_ is23 ra (by rw [zit_T]; omega)
    refine ⟨(zct s x y (k + 1), b), ?_, ⟨rb, fa.trans fb⟩, rfl⟩
    show ax_run m_X6_goingsBetween 11 [(0, .ref 43), (2, .int x), (3, .int y), (4, .int (nI n)), (5, .int a.1), (6, .int (nI k))] [] a.2 = ax_run m_X6_goingsBetween 11 [(0, .ref 43), (2, .int x), (3, .int y), (4, .int (nI n)), (5, .int (zct s x y (k + 1))), (6, .int (nI (k + 1)))] [] b
    rw [e_X6_goingsBetween_11, if_neg (fun x => by
        have := (le_ (a := n) (b := k) (by omega) (by omega)).mp x
        omega), e, bnd]
    have e0 : a.1 + zcg (zit s 0 k) (zit s 0 (k + 1)) x y 0 = a.1 := Int32.add_zero _
    have L : ax_run m_X6_goingsBetween 28 [(0, .ref 43), (2, .int x), (3, .int y), (4, .int (nI n)), (5, .int (a.1 + zcg (zit s 0 k) (zit s 0 (k + 1)) x y 0)), (6, .int (nI k)), (7, .int 0)] [] b = ax_run m_X6_goingsBetween 28 [(0, .ref 43), (2, .int x), (3, .int y), (4, .int (nI n)), (5, .int (a.1 + zcg (zit s 0 k) (zit s 0 (k + 1)) x y (zW s))), (6, .int (nI k)), (7, .int (nI (zW s)))] [] b := lp (fun i c => ax_run m_X6_goingsBetween 28 [(0, .ref 43), (2, .int x), (3, .int y), (4, .int (nI n)), (5, .int c), (6, .int (nI k)), (7, .int i)] [] b) (fun i => a.1 + zcg (zit s 0 k) (zit s 0 (k + 1)) x y i) (zW s) (fun i hi => ?_)
    · rw [e0] at L
      refine L.trans ?_
      have w1 : b.1 23 0 = nI (zW s) := by rw [rb.1.2.2.1, zhour_W, zit_W]
      rw [e_X6_goingsBetween_28, w1, if_pos ((le_ (a := zW s) (b := zW s) (by omega) (by omega)).mpr (Nat.le_refl _)), ca, nI_1]
      rfl
    · show ax_run m_X6_goingsBetween 28 [(0, .ref 43), (2, .int x), (3, .int y), (4, .int (nI n)), (5, .int (a.1 + zcg (zit s 0 k) (zit s 0 (k + 1)) x y i)), (6, .int (nI k)), (7, .int (nI i))] [] b = _
      have w1 : b.1 23 0 = nI (zW s) := by rw [rb.1.2.2.1, zhour_W, zit_W]
      have c1 : b.1 29 i = nI (zP (zit s 0 k) i) := cb i (by rw [zit_W]; exact hi)
      have p1 : b.1 27 i = nI (zP (zit s 0 (k + 1)) i) := (rb.1.2.2.2.2.2.1 i (by omega)).2.2.2.1
      rw [e_X6_goingsBetween_28, w1]
      simp (disch := omega) only [le_, g_in, cl_, c1, p1]
      rw [if_neg (by omega), btw3]
      simp only [zcg, nI_1]
      split
      · rw [Int32.add_assoc]
      · rw [Int32.add_zero]) (0, h1) (k0 := 0) ⟨⟨r1, f1⟩, rfl⟩ (by omega)
  refine ⟨h2.2, rI_of ((e_X6_goingsBetween_0 _ _ _ h).trans ?_), r2.2⟩
  rw [e1, bnd]
  refine e2.trans ?_
  show ax_run m_X6_goingsBetween 11 [(0, .ref 43), (2, .int x), (3, .int y), (4, .int (nI n)), (5, .int h2.1), (6, .int (nI n))] [] h2.2 = _
  rw [e_X6_goingsBetween_11, if_pos ((le_ (a := n) (b := n) (by omega) (by omega)).mpr (Nat.le_refl _)), f2]
theorem op_coughs {h : ax_Hp} {A : Ab} (oa : okA A) (ic : IC h A) (im : IM h A) (x1 x2 x3 : Int32) : OP m_X7_coughs m_X8_coughs [.int x1, .int x2, .int x3] h := by
  have hW := ic.1.1.1.1
  by_cases ht : twoP x1 x2
  · by_cases ha : 0 ≤ x3
    · by_cases hb : x3 ≤ 60
      · obtain ⟨n, _, hn, rfl⟩ := in_n (m := 0) (n := 60) rfl rfl ha hb (by omega) (by omega)
        refine OP_q (v := zct (bS A) x1 x2 n) oa ic im ?_ (fun h1 m => ?_)
        · obtain ⟨h1, e1, f1⟩ := coughs_ (x := x1) (y := x2) (n := n) ic.1 (tbig oa.1 (by omega))
          refine ⟨h1, rI_of ((e_X7_coughs_0 _ _ _ h).trans ?_), QC.fr f1⟩
          simp only [areTwo_pos ht, outs_, ha, hb, if_true, ax_10, if_false, bnd, e1]
        · obtain ⟨h2, e2, q2, _⟩ := QI_minds m.1
          have q3 := QI_slot (i := 26) (x := 0) (QI_slot (i := 25) (x := x2) (QI_slot (i := 24) (x := x1) q2 (by omega)) (by omega)) (by omega)
          obtain ⟨h3, e3, q4, c3⟩ := QI_coughs (x := x1) (y := x2) (n := n) q3 (tbig oa.1 (by omega)) (by simp (disch := omega) only [wI_at, upd_at, upd_ne]) (by simp (disch := omega) only [wI_at, upd_at, upd_ne]) (by simp (disch := omega) only [wI_at, upd_at, upd_ne]) ht.2.2
          obtain ⟨h4, e4, q5, s4, _⟩ := QI_forgets q4
          refine ⟨h4, rI_of ((e_X8_coughs_0 _ _ _ h1).trans ?_), q5⟩
          simp only [areTwoM_pos ht, notH_, ha, hb, if_true, ax_10, if_false, bnd, e2, e3, e4]
          rw [s4 26 (by omega) (by omega) (by omega) (by omega), c3]
      · exact OP_no (x := -6) 6 (by omega) oa ic im (rI_of ((e_X7_coughs_0 _ _ _ h).trans (by simp only [isWall_ is1 ic.1.1, isHouse_, outs_, bnd, no1, no2, no3, no4, no6, lo1, lo2, lo4, lo6, if_true, if_false, ax_10, ax_n4, ax_n6, and_self, areTwo_pos ht, ha, hb]))) (fun h1 m => rI_of ((e_X8_coughs_0 _ _ _ h1).trans (by simp only [isWallM_ m.1, isHouseM_, outsM_, isIn_, notH_, bnd, mo1, mo2, mo3, mo4, mo6, ml1, ml2, ml4, ml6, if_true, if_false, ax_10, ax_n4, ax_n6, and_self, areTwoM_pos ht, ha, hb])))
    · exact OP_no (x := -4) 4 (by omega) oa ic im (rI_of ((e_X7_coughs_0 _ _ _ h).trans (by simp only [isWall_ is1 ic.1.1, isHouse_, outs_, bnd, no1, no2, no3, no4, no6, lo1, lo2, lo4, lo6, if_true, if_false, ax_10, ax_n4, ax_n6, and_self, areTwo_pos ht, ha]))) (fun h1 m => rI_of ((e_X8_coughs_0 _ _ _ h1).trans (by simp only [isWallM_ m.1, isHouseM_, outsM_, isIn_, notH_, bnd, mo1, mo2, mo3, mo4, mo6, ml1, ml2, ml4, ml6, if_true, if_false, ax_10, ax_n4, ax_n6, and_self, areTwoM_pos ht, ha])))
  · exact OP_no (x := -1) 1 (by omega) oa ic im (rI_of ((e_X7_coughs_0 _ _ _ h).trans (by simp only [isWall_ is1 ic.1.1, isHouse_, outs_, bnd, no1, no2, no3, no4, no6, lo1, lo2, lo4, lo6, if_true, if_false, ax_10, ax_n4, ax_n6, and_self, areTwo_neg ht]))) (fun h1 m => rI_of ((e_X8_coughs_0 _ _ _ h1).trans (by simp only [isWallM_ m.1, isHouseM_, outsM_, isIn_, notH_, bnd, mo1, mo2, mo3, mo4, mo6, ml1, ml2, ml4, ml6, if_true, if_false, ax_10, ax_n4, ax_n6, and_self, areTwoM_neg ht])))
/-- is all of the row so, from a on, so many -/
def tld (p : Nat → Bool) : Nat → Nat → Bool
  | 0, _ => true
  | f + 1, a => if p a = true then tld p f (a + 1) else false
def pTold (s : Sp) (i : Nat) (f : Nat → Nat) (a : Nat) : Bool := decide (zP (zit s 0 a) i = f a)
theorem where_ {h : ax_Hp} {s : Sp} {i n : Nat} {f : Nat → Nat} (r : RC h 23 s 0) (hi : i < zW s) (hT : zT s ≤ 999) (hn : h.1 38 1 = nI n) (n16 : n ≤ 16) (hf : ∀ i, i < n → h.1 39 i = nI (f i)) (f99 : ∀ i, i < n → f i ≤ 99) :
    ∃ h', rI m_X6_isWhereTold [.ref 43, .int (nI i), .ref 38] h = some (if tld (pTold s i f) n 0 = true then 1 else 0, h') ∧ Fr 23 h h' := by
  have hW := r.1.1.1
  have key : ∀ m a h1, a + m = n → RC h1 23 (zit s 0 a) 0 → Fr 23 h h1 → ∃ h', ax_run m_X6_isWhereTold 2 [(0, .ref 43), (1, .int (nI i)), (2, .ref 38), (3, .int (nI a))] [] h1 = some (some (.int (if tld (pTold s i f) m a = true then 1 else 0)), h') ∧ Fr 23 h h' := by
    intro m
    induction m with
    | zero =>
      intro a h1 ha r1 f1
      refine ⟨h1, ?_, f1⟩
      rw [e_X6_isWhereTold_2, f1.2 38 (by omega), hn, if_pos ((le_ (by omega) (by omega)).mpr (by omega))]
      simp only [tld, if_true]
    | succ m ih =>
      intro a h1 ha r1 f1
      have p1 : h1.1 27 i = nI (zP (zit s 0 a) i) := (r1.1.2.2.2.2.2.1 i (by omega)).2.2.2.1
      have b := (r1.1.1.2.2.1 i (by omega)).2.2.2
      have b2 := f99 a (by omega)
      have st := e_X6_isWhereTold_2 (nI i) (nI a) h1
      rw [f1.2 38 (by omega), hn] at st
      simp (disch := omega) only [le_, g_in, cl_] at st
      rw [if_neg (by omega), numAt_ (n := n) (f := f) (by rw [f1.2 38 (by omega), hn]) n16 (by rw [f1.2 39 (by omega)]; exact hf) (by omega), bnd, p1] at st
      simp (disch := omega) only [eq_] at st
      by_cases q : zP (zit s 0 a) i = f a
      · obtain ⟨h2, e2, r2, f2, _⟩ := passHour_ is23 r1 (by rw [zit_T]; omega)
        obtain ⟨h3, e3, f3⟩ := ih (a + 1) h2 (by omega) r2 (f1.trans f2)
        refine ⟨h3, ?_, f3⟩
        rw [st, if_pos q, e2, bnd, nI_1, e3]
        simp only [tld, pTold, q, decide_true, if_true]
      · refine ⟨h1, ?_, f1⟩
        rw [st, if_neg q]
        simp only [tld, pTold, q, decide_false, Bool.false_eq_true, if_false]
  obtain ⟨h', e, f'⟩ := key n 0 h (by omega) r (Fr.refl 23 h)
  exact ⟨h', rI_of ((e_X6_isWhereTold_0 _ h).trans e), f'⟩
theorem updN_self (f : Nat → Nat) (i : Nat) : updN f i (f i) = f := by
  funext j
  unfold updN
  split
  · next e => rw [e]
  · rfl
theorem updN_updN (f : Nat → Nat) (i a b : Nat) : updN (updN f i a) i b = updN f i b := by
  funext j
  by_cases e : j = i <;> simp [updN, e]
theorem zkf_self (s : Sp) (i : Nat) : zkf s i (zK s i) (zF s i) = s := by
  unfold zkf
  rw [updN_self, updN_self]
theorem zkf_zkf (s : Sp) (i a b c d : Nat) : zkf (zkf s i a b) i c d = zkf s i c d := by
  show (zW s, zT s, updN (updN (zK s) i a) i c, updN (updN (zF s) i b) i d, _) = _
  rw [updN_updN, updN_updN]
  rfl
theorem kinds_ {h : ax_Hp} {s : Sp} {i n : Nat} {f : Nat → Nat} (r : RC h 1 s 0) (hi : i < zW s) (hT : zT s ≤ 999) (hn : h.1 38 1 = nI n) (n16 : n ≤ 16) (hf : ∀ i, i < n → h.1 39 i = nI (f i)) (f99 : ∀ i, i < n → f i ≤ 99) :
    ∃ h', rI m_X6_fittingKinds [.ref 43, .ref 1, .int (nI i), .ref 38] h = some (bm (fun k => tld (pTold (zkf s i k (zF s i)) i f) n 0) 6, h') ∧ Fr 23 h h' := by
  have hW := r.1.1.1
  have okk := r.1.1.2.2.1 i (by omega)
  obtain ⟨h2, e2, f2, c2⟩ := ex_loop (fun (k : Int32) (h : Int32 × ax_Hp) => ax_run m_X6_fittingKinds 6 [(0, .ref 43), (1, .ref 1), (2, .int (nI i)), (3, .ref 38), (4, .int h.1), (5, .int k)] [] h.2) (fun k h' => Fr 23 h h'.2 ∧ h'.1 = bm (fun k => tld (pTold (zkf s i k (zF s i)) i f) n 0) k) 6 (by
    intro k a hk ⟨fa, ca⟩
    have ra : RC a.2 1 s 0 := RC_of (fun k _ _ => fa.2 k (by omega)) r
    obtain ⟨h1, e1, r1, f1⟩ := begin_ ra
    have p3 : h1.1 3 i = nI (zF s i) := by
      rw [f1.2 3 (by omega)]
      exact (ra.1.2.2.2.2.2.1 i (by omega)).2.1
    obtain ⟨h2, e2, r2, f2⟩ := turnInto_ is23 r1.1 hi (k := k) (f := zF s i) (by omega) okk.2.1
    have f3 := (fa.trans f1).trans f2
    obtain ⟨h4, e4, f4⟩ := where_ (n := n) (f := f) r2 hi hT (by rw [f3.2 38 (by omega)]; exact hn) n16 (by rw [f3.2 39 (by omega)]; exact hf) f99
    refine ⟨(bm (fun k => tld (pTold (zkf s i k (zF s i)) i f) n 0) (k + 1), h4), ?_, f3.trans f4, rfl⟩
    show ax_run m_X6_fittingKinds 6 [(0, .ref 43), (1, .ref 1), (2, .int (nI i)), (3, .ref 38), (4, .int a.1), (5, .int (nI k))] [] a.2 = ax_run m_X6_fittingKinds 6 [(0, .ref 43), (1, .ref 1), (2, .int (nI i)), (3, .ref 38), (4, .int (bm (fun k => tld (pTold (zkf s i k (zF s i)) i f) n 0) (k + 1))), (5, .int (nI (k + 1)))] [] h4
    rw [e_X6_fittingKinds_6, if_neg (fun x => by
        have := (le_ (a := 6) (b := k) (by omega) (by omega)).mp x
        omega), e1, bnd]
    simp (disch := omega) only [g_in, cl_, p3]
    rw [e2, bnd, e4, bnd, nI_1, ca]
    simp only [bm]
    by_cases q : tld (pTold (zkf s i k (zF s i)) i f) n 0 = true <;> simp only [q, Bool.false_eq_true, if_false, if_true, ax_10]) (0, h) (k0 := 0) ⟨Fr.refl 23 h, rfl⟩ (by omega)
  refine ⟨h2.2, rI_of ((e_X6_fittingKinds_0 _ h).trans (e2.trans ?_)), f2⟩
  show ax_run m_X6_fittingKinds 6 [(0, .ref 43), (1, .ref 1), (2, .int (nI i)), (3, .ref 38), (4, .int h2.1), (5, .int (nI 6))] [] h2.2 = _
  rw [e_X6_fittingKinds_6, if_pos (by decide), c2]
theorem figures_ {h : ax_Hp} {s : Sp} {i n : Nat} {f : Nat → Nat} (r : RC h 1 s 0) (hi : i < zW s) (hT : zT s ≤ 999) (hn : h.1 38 1 = nI n) (n16 : n ≤ 16) (hf : ∀ i, i < n → h.1 39 i = nI (f i)) (f99 : ∀ i, i < n → f i ≤ 99) :
    ∃ h', rI m_X6_fittingFigures [.ref 43, .ref 1, .int (nI i), .ref 38] h = some (bm (fun k => tld (pTold (zkf s i (zK s i) k) i f) n 0) 10, h') ∧ Fr 23 h h' := by
  have hW := r.1.1.1
  have okk := r.1.1.2.2.1 i (by omega)
  have l9' : (9 : Int32) = nI 9 := rfl
  obtain ⟨h2, e2, f2, c2⟩ := ex_loop (fun (k : Int32) (h : Int32 × ax_Hp) => ax_run m_X6_fittingFigures 6 [(0, .ref 43), (1, .ref 1), (2, .int (nI i)), (3, .ref 38), (4, .int h.1), (5, .int k)] [] h.2) (fun k h' => Fr 23 h h'.2 ∧ h'.1 = bm (fun k => tld (pTold (zkf s i (zK s i) k) i f) n 0) k) 10 (by
    intro k a hk ⟨fa, ca⟩
    have ra : RC a.2 1 s 0 := RC_of (fun k _ _ => fa.2 k (by omega)) r
    obtain ⟨h1, e1, r1, f1⟩ := begin_ ra
    have p3 : h1.1 2 i = nI (zK s i) := by
      rw [f1.2 2 (by omega)]
      exact (ra.1.2.2.2.2.2.1 i (by omega)).1
    obtain ⟨h2, e2, r2, f2⟩ := turnInto_ is23 r1.1 hi (k := zK s i) (f := k) okk.1 (by omega)
    have f3 := (fa.trans f1).trans f2
    obtain ⟨h4, e4, f4⟩ := where_ (n := n) (f := f) r2 hi hT (by rw [f3.2 38 (by omega)]; exact hn) n16 (by rw [f3.2 39 (by omega)]; exact hf) f99
    refine ⟨(bm (fun k => tld (pTold (zkf s i (zK s i) k) i f) n 0) (k + 1), h4), ?_, f3.trans f4, rfl⟩
    show ax_run m_X6_fittingFigures 6 [(0, .ref 43), (1, .ref 1), (2, .int (nI i)), (3, .ref 38), (4, .int a.1), (5, .int (nI k))] [] a.2 = ax_run m_X6_fittingFigures 6 [(0, .ref 43), (1, .ref 1), (2, .int (nI i)), (3, .ref 38), (4, .int (bm (fun k => tld (pTold (zkf s i (zK s i) k) i f) n 0) (k + 1))), (5, .int (nI (k + 1)))] [] h4
    rw [e_X6_fittingFigures_6, l9', if_neg (fun x => by
        have := (lt_ (a := 9) (b := k) (by omega) (by omega)).mp x
        omega), e1, bnd]
    simp (disch := omega) only [g_in, cl_, p3]
    rw [e2, bnd, e4, bnd, nI_1, ca]
    simp only [bm]
    by_cases q : tld (pTold (zkf s i (zK s i) k) i f) n 0 = true <;> simp only [q, Bool.false_eq_true, if_false, if_true, ax_10]) (0, h) (k0 := 0) ⟨Fr.refl 23 h, rfl⟩ (by omega)
  refine ⟨h2.2, rI_of ((e_X6_fittingFigures_0 _ h).trans (e2.trans ?_)), f2⟩
  show ax_run m_X6_fittingFigures 6 [(0, .ref 43), (1, .ref 1), (2, .int (nI i)), (3, .ref 38), (4, .int h2.1), (5, .int (nI 10))] [] h2.2 = _
  rw [e_X6_fittingFigures_6, if_pos (by decide), c2]
theorem isSo_ {h : ax_Hp} {s : Sp} {i n : Nat} {f : Nat → Nat} (r : RM h s 0) (hi : i < zW s) (hT : zT s ≤ 999) (hn : h.1 47 34 = nI n) (n16 : n ≤ 16) (hf : ∀ i, i < n → h.1 65 i = nI (f i)) (f99 : ∀ i, i < n → f i ≤ 99) :
    ∃ h', rI m_X8_isSo [.ref 47, .int (nI i)] h = some (if tld (pTold s i f) n 0 = true then 1 else 0, h') ∧ QM h h' s := by
  have hW := r.1.1
  obtain ⟨h1, e1, r1, _⟩ := QI_minds r
  have key : ∀ m a h1, a + m = n → QI h h1 s (zit s 0 a) 0 → ∃ h', ax_run m_X8_isSo 8 [(0, .ref 47), (1, .int (nI i)), (2, .int 1), (3, .int (nI a))] [] h1 = some (some (.int (if tld (pTold s i f) m a = true then 1 else 0)), h') ∧ QM h h' s := by
    intro m
    induction m with
    | zero =>
      intro a h1 ha q1
      obtain ⟨h2, e2, q2, _⟩ := QI_forgets q1
      refine ⟨h2, ?_, q2⟩
      rw [e_X8_isSo_8, q1.2.2.2.2.2.2.2.1 34 (by omega), hn, if_pos ((le_ (by omega) (by omega)).mpr (by omega)), e2, bnd]
      simp only [tld, if_true]
      exact if_pos (Or.inr trivial)
    | succ m ih =>
      intro a h1 ha q1
      have p1 := (q1.2.2.1.2.2.2.2.1 i (by omega)).2.2.2.1
      have b := (q1.2.2.1.1.2.2.1 i (by omega)).2.2.2
      have b2 := f99 a (by omega)
      have h65 : h1.1 65 a = nI (f a) := by rw [q1.2.2.2.2.2.2.1]; exact hf a (by omega)
      obtain ⟨h2, e2, q2, _⟩ := QI_hour q1 (by rw [zit_T]; omega)
      have st := e_X8_isSo_8 (nI i) 1 (nI a) h1
      rw [q1.2.2.2.2.2.2.2.1 34 (by omega), hn] at st
      simp (disch := omega) only [le_, g_in, cl_, p1, h65, eq_] at st
      rw [if_neg (by omega), if_neg (by decide)] at st
      by_cases q : zP (zit s 0 a) i = f a
      · obtain ⟨h3, e3, q3⟩ := ih (a + 1) h2 (by omega) q2
        refine ⟨h3, ?_, q3⟩
        rw [st, if_pos q, e2, bnd, nI_1, e3]
        simp only [tld, pTold, q, decide_true, if_true]
      · obtain ⟨h3, e3, q3, _⟩ := QI_forgets q2
        refine ⟨h3, ?_, q3⟩
        rw [st, if_neg q, e2, bnd, e_X8_isSo_8, e3, bnd]
        simp only [tld, pTold, q, decide_false, Bool.false_eq_true, if_false, if_true, true_or]
        split <;> rfl
  obtain ⟨h', e, f'⟩ := key n 0 h1 (by omega) r1
  refine ⟨h', rI_of ((e_X8_isSo_0 _ h).trans ?_), f'⟩
  rw [e1, bnd]
  exact e
/-- like a question, but it holds t now -/
def QN (h h' : ax_Hp) (T : Nat) (t : Sp) : Prop := h'.2.2 = h.2.2 ∧ (∀ k, k < 47 → h'.1 k = h.1 k) ∧ RM h' t 0 ∧ h'.1 48 = h.1 48 ∧ h'.1 56 = h.1 56 ∧ h'.1 65 = h.1 65 ∧
  (∀ i, i = 14 ∨ i = 19 ∨ i = 34 → h'.1 47 i = h.1 47 i) ∧ (∀ p, p < 93 → h'.1 60 p = h.1 60 p) ∧ (∀ i, i ≤ T → h'.1 61 i = h.1 61 i)
theorem QN.to {h h' : ax_Hp} {s : Sp} (q : QN h h' (zT s) s) : QM h h' s := q
theorem QN.step {h h1 h2 : ax_Hp} {T : Nat} {t : Sp} (a : QN h h1 T t) (b : QM h1 h2 t) (hT : zT t = T) : QN h h2 T t := by
  obtain ⟨a1, a2, a3, a4, a5, a6, a7, a8, a9⟩ := a
  obtain ⟨b1, b2, b3, b4, b5, b6, b7, b8, b9⟩ := b
  exact ⟨b1.trans a1, fun k hk => (b2 k hk).trans (a2 k hk), b3, b4.trans a4, b5.trans a5, b6.trans a6, fun i hi => (b7 i hi).trans (a7 i hi), fun p hp => (b8 p hp).trans (a8 p hp), fun i hi => (b9 i (by omega)).trans (a9 i hi)⟩
theorem QN.wr {h h1 : ax_Hp} {T c i : Nat} {t t2 : Sp} {x : Int32} (a : QN h h1 T t) (hc : 49 ≤ c ∧ c ≤ 55) (r : RM (wI h1 c i x) t2 0) : QN h (wI h1 c i x) T t2 := by
  obtain ⟨a1, a2, a3, a4, a5, a6, a7, a8, a9⟩ := a
  refine ⟨a1, fun k hk => (wI_ne (by omega)).trans (a2 k hk), r, ?_, ?_, ?_, ?_, ?_, ?_⟩ <;> (rw [wI_ne (by omega)]; assumption)
theorem RM_k {h : ax_Hp} {s : Sp} {w i k : Nat} (r : RM h s w) (hi : i < 7) (hk : k ≤ 5) : RM (wI h 49 i (nI k)) (zkf s i k (zF s i)) w := by
  have b := (r.1.2.2.1 i hi).2.1
  obtain ⟨ok, hw, r0, r1, rr, rn, rb⟩ := r
  refine ⟨okS_kf ok hk b, ?_, ?_, ?_, ?_, ?_, ?_⟩ <;> simp (disch := omega) only [wI_ne, wI_at] <;> try assumption
  intro j hj
  refine ⟨nI_upd (rr j hj).1, ?_, (rr j hj).2.2.1, (rr j hj).2.2.2.1, (rr j hj).2.2.2.2⟩
  show _ = nI (updN (zF s) i (zF s i) j)
  rw [updN_self]
  exact (rr j hj).2.1
theorem RM_f {h : ax_Hp} {s : Sp} {w i k : Nat} (r : RM h s w) (hi : i < 7) (hk : k ≤ 9) : RM (wI h 50 i (nI k)) (zkf s i (zK s i) k) w := by
  have b := (r.1.2.2.1 i hi).1
  obtain ⟨ok, hw, r0, r1, rr, rn, rb⟩ := r
  refine ⟨okS_kf ok b hk, ?_, ?_, ?_, ?_, ?_, ?_⟩ <;> simp (disch := omega) only [wI_ne, wI_at] <;> try assumption
  intro j hj
  refine ⟨?_, nI_upd (rr j hj).2.1, (rr j hj).2.2.1, (rr j hj).2.2.2.1, (rr j hj).2.2.2.2⟩
  show _ = nI (updN (zK s) i (zK s i) j)
  rw [updN_self]
  exact (rr j hj).1
theorem bitsFK_ {h : ax_Hp} {s : Sp} {i n : Nat} {f : Nat → Nat} (r : RM h s 0) (hi : i < zW s) (hT : zT s ≤ 999) (hn : h.1 47 34 = nI n) (n16 : n ≤ 16) (hf : ∀ i, i < n → h.1 65 i = nI (f i)) (f99 : ∀ i, i < n → f i ≤ 99) :
    ∃ h', rI m_X8_bitsFor [.ref 47, .ref 49, .int (nI i), .int 6] h = some (bm (fun k => tld (pTold (zkf s i k (zF s i)) i f) n 0) 6, h') ∧ QM h h' s := by
  have hW := r.1.1
  have okk := r.1.2.2.1 i (by omega)
  have o1 := (r.2.2.2.2.1 i (by omega)).1
  obtain ⟨h2, e2, ⟨k2, hk2, q2⟩, c2⟩ := ex_loop (fun (k : Int32) (h : Int32 × ax_Hp) => ax_run m_X8_bitsFor 11 [(0, .ref 47), (1, .ref 49), (2, .int (nI i)), (3, .int 6), (4, .int (nI (zK s i))), (5, .int h.1), (6, .int k)] [] h.2) (fun k h' => (∃ m, m ≤ 5 ∧ QN h h'.2 (zT s) (zkf s i m (zF s i))) ∧ h'.1 = bm (fun k => tld (pTold (zkf s i k (zF s i)) i f) n 0) k) 6 (by
    intro k a hk ⟨⟨m, hm, qa⟩, ca⟩
    have r1 : RM (wI a.2 49 i (nI k)) (zkf s i k (zF s i)) 0 := by
      have r1 := RM_k (i := i) (k := k) qa.2.2.1 (by omega) (by omega)
      rw [zkf_zkf, show zF (zkf s i m (zF s i)) i = zF s i from updN_at _ _ _] at r1
      exact r1
    have q1 := qa.wr (c := 49) (by omega) r1
    obtain ⟨h4, e4, q4⟩ := isSo_ (n := n) (f := f) q1.2.2.1 hi hT (by rw [q1.2.2.2.2.2.2.1 34 (by omega)]; exact hn) n16 (by rw [q1.2.2.2.2.2.1]; exact hf) f99
    refine ⟨(bm (fun k => tld (pTold (zkf s i k (zF s i)) i f) n 0) (k + 1), h4), ?_, ⟨k, by omega, q1.step q4 rfl⟩, rfl⟩
    show ax_run m_X8_bitsFor 11 [(0, .ref 47), (1, .ref 49), (2, .int (nI i)), (3, .int 6), (4, .int (nI (zK s i))), (5, .int a.1), (6, .int (nI k))] [] a.2 = ax_run m_X8_bitsFor 11 [(0, .ref 47), (1, .ref 49), (2, .int (nI i)), (3, .int 6), (4, .int (nI (zK s i))), (5, .int (bm (fun k => tld (pTold (zkf s i k (zF s i)) i f) n 0) (k + 1))), (6, .int (nI (k + 1)))] [] h4
    rw [e_X8_bitsFor_11_k47_49, if_neg (fun x => by
        have := (le_ (a := 6) (b := k) (by omega) (by omega)).mp x
        omega)]
    simp (disch := omega) only [g_in, cl_]
    rw [e4, bnd, nI_1, ca]
    simp only [bm]
    by_cases q : tld (pTold (zkf s i k (zF s i)) i f) n 0 = true <;> simp only [q, Bool.false_eq_true, if_false, if_true, ax_10, Int32.or_zero]) (0, h) (k0 := 0) ⟨⟨zK s i, okk.1, by rw [zkf_self]; exact QM.refl r⟩, rfl⟩ (by omega)
  refine ⟨wI h2.2 49 i (nI (zK s i)), rI_of ((e_X8_bitsFor_0_k47_49 _ _ h).trans ?_), ?_⟩
  · simp (disch := omega) only [g_in, cl_, o1]
    refine e2.trans ?_
    show ax_run m_X8_bitsFor 11 [(0, .ref 47), (1, .ref 49), (2, .int (nI i)), (3, .int 6), (4, .int (nI (zK s i))), (5, .int h2.1), (6, .int (nI 6))] [] h2.2 = _
    rw [e_X8_bitsFor_11_k47_49, if_pos (by decide), c2]
    simp (disch := omega) only [g_in, cl_]
  · have r1 := RM_k (i := i) (k := zK s i) q2.2.2.1 (by omega) okk.1
    rw [zkf_zkf, show zF (zkf s i k2 (zF s i)) i = zF s i from updN_at _ _ _, zkf_self] at r1
    exact q2.wr (c := 49) (by omega) r1
theorem bitsFF_ {h : ax_Hp} {s : Sp} {i n : Nat} {f : Nat → Nat} (r : RM h s 0) (hi : i < zW s) (hT : zT s ≤ 999) (hn : h.1 47 34 = nI n) (n16 : n ≤ 16) (hf : ∀ i, i < n → h.1 65 i = nI (f i)) (f99 : ∀ i, i < n → f i ≤ 99) :
    ∃ h', rI m_X8_bitsFor [.ref 47, .ref 50, .int (nI i), .int 10] h = some (bm (fun k => tld (pTold (zkf s i (zK s i) k) i f) n 0) 10, h') ∧ QM h h' s := by
  have hW := r.1.1
  have okk := r.1.2.2.1 i (by omega)
  have o1 := (r.2.2.2.2.1 i (by omega)).2.1
  obtain ⟨h2, e2, ⟨k2, hk2, q2⟩, c2⟩ := ex_loop (fun (k : Int32) (h : Int32 × ax_Hp) => ax_run m_X8_bitsFor 11 [(0, .ref 47), (1, .ref 50), (2, .int (nI i)), (3, .int 10), (4, .int (nI (zF s i))), (5, .int h.1), (6, .int k)] [] h.2) (fun k h' => (∃ m, m ≤ 9 ∧ QN h h'.2 (zT s) (zkf s i (zK s i) m)) ∧ h'.1 = bm (fun k => tld (pTold (zkf s i (zK s i) k) i f) n 0) k) 10 (by
    intro k a hk ⟨⟨m, hm, qa⟩, ca⟩
    have r1 : RM (wI a.2 50 i (nI k)) (zkf s i (zK s i) k) 0 := by
      have r1 := RM_f (i := i) (k := k) qa.2.2.1 (by omega) (by omega)
      rw [zkf_zkf, show zK (zkf s i (zK s i) m) i = zK s i from updN_at _ _ _] at r1
      exact r1
    have q1 := qa.wr (c := 50) (by omega) r1
    obtain ⟨h4, e4, q4⟩ := isSo_ (n := n) (f := f) q1.2.2.1 hi hT (by rw [q1.2.2.2.2.2.2.1 34 (by omega)]; exact hn) n16 (by rw [q1.2.2.2.2.2.1]; exact hf) f99
    refine ⟨(bm (fun k => tld (pTold (zkf s i (zK s i) k) i f) n 0) (k + 1), h4), ?_, ⟨k, by omega, q1.step q4 rfl⟩, rfl⟩
    show ax_run m_X8_bitsFor 11 [(0, .ref 47), (1, .ref 50), (2, .int (nI i)), (3, .int 10), (4, .int (nI (zF s i))), (5, .int a.1), (6, .int (nI k))] [] a.2 = ax_run m_X8_bitsFor 11 [(0, .ref 47), (1, .ref 50), (2, .int (nI i)), (3, .int 10), (4, .int (nI (zF s i))), (5, .int (bm (fun k => tld (pTold (zkf s i (zK s i) k) i f) n 0) (k + 1))), (6, .int (nI (k + 1)))] [] h4
    rw [e_X8_bitsFor_11_k47_50, if_neg (fun x => by
        have := (le_ (a := 10) (b := k) (by omega) (by omega)).mp x
        omega)]
    simp (disch := omega) only [g_in, cl_]
    rw [e4, bnd, nI_1, ca]
    simp only [bm]
    by_cases q : tld (pTold (zkf s i (zK s i) k) i f) n 0 = true <;> simp only [q, Bool.false_eq_true, if_false, if_true, ax_10, Int32.or_zero]) (0, h) (k0 := 0) ⟨⟨zF s i, okk.2.1, by rw [zkf_self]; exact QM.refl r⟩, rfl⟩ (by omega)
  refine ⟨wI h2.2 50 i (nI (zF s i)), rI_of ((e_X8_bitsFor_0_k47_50 _ _ h).trans ?_), ?_⟩
  · simp (disch := omega) only [g_in, cl_, o1]
    refine e2.trans ?_
    show ax_run m_X8_bitsFor 11 [(0, .ref 47), (1, .ref 50), (2, .int (nI i)), (3, .int 10), (4, .int (nI (zF s i))), (5, .int h2.1), (6, .int (nI 10))] [] h2.2 = _
    rw [e_X8_bitsFor_11_k47_50, if_pos (by decide), c2]
    simp (disch := omega) only [g_in, cl_]
  · have r1 := RM_f (i := i) (k := zF s i) q2.2.2.1 (by omega) okk.2.1
    rw [zkf_zkf, show zK (zkf s i (zK s i) k2) i = zK s i from updN_at _ _ _, zkf_self] at r1
    exact q2.wr (c := 50) (by omega) r1
theorem op_whatIs {h : ax_Hp} {A : Ab} (oa : okA A) (ic : IC h A) (im : IM h A) (x1 x2 : Int32) : OP m_X7_whatIs m_X8_whatIs [.int x1, .int x2] h := by
  have hW := ic.1.1.1.1
  have n16 := oa.2.2.2.2.2.1
  have n99 := oa.2.2.2.2.2.2
  have n1 : h.1 38 1 = nI (bRn A) := ic.2.2.2.2.2.2.1
  have n2 := ic.2.2.2.2.2.2.2.1
  by_cases hw : 0 ≤ x1 ∧ x1 < nI (zW (bS A))
  · by_cases ha : x2 < 0
    · exact OP_no (x := -2) 2 (by omega) oa ic im (rI_of ((e_X7_whatIs_0 _ _ h).trans (by simp only [isWall_ is1 ic.1.1, isHouse_, outs_, bnd, no1, no2, no3, no4, no6, lo1, lo2, lo4, lo6, if_true, if_false, ax_10, ax_n4, ax_n6, and_self, hw, ha]))) (fun h1 m => rI_of ((e_X8_whatIs_0 _ _ h1).trans (by simp only [isWallM_ m.1, isHouseM_, outsM_, isIn_, notH_, bnd, mo1, mo2, mo3, mo4, mo6, ml1, ml2, ml4, ml6, if_true, if_false, ax_10, ax_n4, ax_n6, and_self, hw, lt0_of ha 1])))
    · by_cases hb : x2 ≤ 1
      · obtain ⟨i, hi, rfl⟩ := of_in hw.1 hw.2 (by omega)
        have hx : 0 ≤ x2 ∧ x2 ≤ 1 := ⟨n0l ha, hb⟩
        by_cases q : x2 = 0
        · refine OP_q (v := bm (fun k => tld (pTold (zkf (bS A) i k (zF (bS A) i)) i (bR A)) (bRn A) 0) 6) oa ic im ?_ (fun h1 m => ?_)
          · obtain ⟨h1, e1, f1⟩ := kinds_ (n := bRn A) (f := bR A) ic.1 hi oa.1 n1 n16 n2 n99
            refine ⟨h1, rI_of ((e_X7_whatIs_0 _ _ h).trans ?_), QC.fr f1⟩
            simp only [isWall_ is1 ic.1.1, hw, and_self, if_true, ax_10, if_false, bnd, ha, hb]
            rw [if_pos q, e1, bnd]
          · obtain ⟨h2, e2, q2⟩ := bitsFK_ (n := bRn A) (f := bR A) m.1 hi oa.1 m.2.2.2.2.2.2.1 n16 m.2.2.2.2.2.2.2.1 n99
            refine ⟨h2, rI_of ((e_X8_whatIs_0 _ _ h1).trans ?_), q2⟩
            simp only [isWallM_ m.1, isIn_, hw, hx, and_self, if_true, ax_10, if_false, bnd]
            rw [if_pos q, e2, bnd]
        · refine OP_q (v := bm (fun k => tld (pTold (zkf (bS A) i (zK (bS A) i) k) i (bR A)) (bRn A) 0) 10) oa ic im ?_ (fun h1 m => ?_)
          · obtain ⟨h1, e1, f1⟩ := figures_ (n := bRn A) (f := bR A) ic.1 hi oa.1 n1 n16 n2 n99
            refine ⟨h1, rI_of ((e_X7_whatIs_0 _ _ h).trans ?_), QC.fr f1⟩
            simp only [isWall_ is1 ic.1.1, hw, and_self, if_true, ax_10, if_false, bnd, ha, hb, q, e1]
          · obtain ⟨h2, e2, q2⟩ := bitsFF_ (n := bRn A) (f := bR A) m.1 hi oa.1 m.2.2.2.2.2.2.1 n16 m.2.2.2.2.2.2.2.1 n99
            refine ⟨h2, rI_of ((e_X8_whatIs_0 _ _ h1).trans ?_), q2⟩
            simp only [isWallM_ m.1, isIn_, hw, hx, and_self, if_true, ax_10, if_false, bnd, q, e2]
      · have hx : ¬ (0 ≤ x2 ∧ x2 ≤ 1) := fun q => hb q.2
        exact OP_no (x := -2) 2 (by omega) oa ic im (rI_of ((e_X7_whatIs_0 _ _ h).trans (by simp only [isWall_ is1 ic.1.1, isHouse_, outs_, bnd, no1, no2, no3, no4, no6, lo1, lo2, lo4, lo6, if_true, if_false, ax_10, ax_n4, ax_n6, and_self, hw, ha, hb]))) (fun h1 m => rI_of ((e_X8_whatIs_0 _ _ h1).trans (by simp only [isWallM_ m.1, isHouseM_, outsM_, isIn_, notH_, bnd, mo1, mo2, mo3, mo4, mo6, ml1, ml2, ml4, ml6, if_true, if_false, ax_10, ax_n4, ax_n6, and_self, hw, hx])))
  · exact OP_no (x := -1) 1 (by omega) oa ic im (rI_of ((e_X7_whatIs_0 _ _ h).trans (by simp only [isWall_ is1 ic.1.1, isHouse_, outs_, bnd, no1, no2, no3, no4, no6, lo1, lo2, lo4, lo6, if_true, if_false, ax_10, ax_n4, ax_n6, and_self, hw]))) (fun h1 m => rI_of ((e_X8_whatIs_0 _ _ h1).trans (by simp only [isWallM_ m.1, isHouseM_, outsM_, isIn_, notH_, bnd, mo1, mo2, mo3, mo4, mo6, ml1, ml2, ml4, ml6, if_true, if_false, ax_10, ax_n4, ax_n6, and_self, hw])))
