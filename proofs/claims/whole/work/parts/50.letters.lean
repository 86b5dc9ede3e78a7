/-! letters: the class reads them -/
/-- a letter as an int; 256: none -/
def sI_ (c : Nat) : Int32 := if c = 256 then -1 else nI c
def cg (n : Nat) (tx : Nat → Nat) (p : Nat) : Nat := if p < n then tx p else 256
def LT (h : ax_Hp) (n : Nat) (tx : Nat → Nat) : Prop := h.1 36 1 = nI n ∧ n ≤ 96 ∧ ∀ i, i < n → h.1 37 i = nI (tx i) ∧ tx i ≤ 255
theorem cg_le {n : Nat} {tx : Nat → Nat} (ht : ∀ i, i < n → tx i ≤ 255) (p : Nat) : cg n tx p ≤ 256 := by
  unfold cg
  split
  · have := ht p (by assumption); omega
  · omega
theorem sI_lt {c : Nat} (h : c < 256) : sI_ c = nI c := if_neg (by omega)
theorem sI_eq : ∀ c, c < 257 → (sI_ c = 98 ↔ c = 98) ∧ (sI_ c = 104 ↔ c = 104) ∧ (sI_ c = 109 ↔ c = 109) ∧ (sI_ c = 110 ↔ c = 110) ∧ (sI_ c = 115 ↔ c = 115) ∧ (sI_ c = 119 ↔ c = 119) ∧ (sI_ c = 59 ↔ c = 59) := by decide +kernel
theorem sI_dig : ∀ c, c < 257 → ((sI_ c - 48 < 0) ↔ (c < 48 ∨ c = 256)) ∧ ((9 < sI_ c - 48) ↔ (57 < c ∧ c < 256)) := by decide +kernel
def dgt (c : Nat) : Bool := decide (48 ≤ c ∧ c ≤ 57)
def kdN (c : Nat) : Nat := if c = 119 then 0 else if c = 111 then 1 else if c = 98 then 2 else if c = 112 then 3 else if c = 108 then 4 else if c = 102 then 5 else 9
def szN (c : Nat) : Nat := if c = 119 then 5 else if c = 110 then 9 else if c = 109 ∨ c = 115 ∨ c = 98 ∨ c = 104 then 4 else 0
theorem szN_le (c : Nat) : szN c ≤ 9 := by unfold szN; repeat' split
                                           all_goals omega
theorem dgt_val {c : Nat} (h : dgt c = true) : sI_ c - 48 = nI (c - 48) ∧ c - 48 ≤ 9 ∧ c < 256 := by
  have := of_decide_eq_true h
  refine ⟨?_, by omega, by omega⟩
  rw [sI_lt (by omega), show (48 : Int32) = nI 48 from rfl, sub_ (by omega)]
theorem signAt_ {h : ax_Hp} {n : Nat} {tx : Nat → Nat} (t : LT h n tx) {p : Nat} (hp : p < 1073741824) : rI m_X3_signAt [.ref 36, .int (nI p)] h = some (sI_ (cg n tx p), h) := by
  obtain ⟨t1, t2, t3⟩ := t
  refine rI_of ((e_X3_signAt_0 _ h).trans ?_)
  rw [if_neg (nI_pos (by omega)), t1]
  simp (disch := omega) only [le_]
  unfold cg
  by_cases q : p < n
  · rw [if_neg (by omega), if_pos q, in_nI (by omega) (by omega), g_true, cl_ (by omega), (t3 p q).1, sI_lt (by have := (t3 p q).2; omega)]
  · rw [if_pos (by omega), if_neg q]
    rfl
theorem digitAt_ {h : ax_Hp} {n : Nat} {tx : Nat → Nat} (t : LT h n tx) {p : Nat} (hp : p < 1073741824) : rI m_X3_digitAt [.ref 36, .int (nI p)] h = some (sI_ (cg n tx p) - 48, h) := by
  refine rI_of ((e_X3_digitAt_0 _ h).trans ?_)
  rw [signAt_ t hp, bnd]
theorem sizeOf_ {c : Nat} (hc : c < 257) (h : ax_Hp) : rI m_X3_sizeOf [.int (sI_ c)] h = some (nI (szN c), h) := by
  refine rI_of ((e_X3_sizeOf_0 _ h).trans ?_)
  obtain ⟨a1, a2, a3, a4, a5, a6, a7⟩ := sI_eq c hc
  simp only [a1, a2, a3, a4, a5, a6]
  unfold szN
  repeat' split
  all_goals first | rfl | omega
theorem chr_ : ∀ c, c < 257 → ((sI_ c).toUInt32 % 65536).toInt32 = nI (if c = 256 then 65535 else c) := by decide +kernel
theorem byte_ : ∀ c, c < 256 → ((119 : Int32) = (nI c).toInt8.toInt32 ↔ c = 119) ∧ ((111 : Int32) = (nI c).toInt8.toInt32 ↔ c = 111) ∧ ((98 : Int32) = (nI c).toInt8.toInt32 ↔ c = 98) ∧ ((112 : Int32) = (nI c).toInt8.toInt32 ↔ c = 112) ∧ ((108 : Int32) = (nI c).toInt8.toInt32 ↔ c = 108) ∧ ((102 : Int32) = (nI c).toInt8.toInt32 ↔ c = 102) := by decide +kernel
theorem idx_ {c : Nat} (hc : c < 256) (h : ax_Hp) : ax_run m_J1_indexOfChar_4cfef 7 [(0, .ref 68), (3, .int 6), (4, .int (nI c).toInt8.toInt32), (5, .int 0)] [] h = some (some (.int (if kdN c < 9 then nI (kdN c) else -1)), h) := by
  obtain ⟨b1, b2, b3, b4, b5, b6⟩ := byte_ c hc
  have s0 : ∀ i v, i < 6 → ax_by.getD i 0 = v → ax_run m_J1_indexOfChar_4cfef 7 [(0, .ref 68), (3, .int 6), (4, .int (nI c).toInt8.toInt32), (5, .int (nI i))] [] h = if v = (nI c).toInt8.toInt32 then some (some (.int (nI i)), h) else ax_run m_J1_indexOfChar_4cfef 7 [(0, .ref 68), (3, .int 6), (4, .int (nI c).toInt8.toInt32), (5, .int (nI (i + 1)))] [] h := fun i v hi hv => by
    rw [e_J1_indexOfChar1_7, if_neg (fun y => by
      have := (le_ (a := 6) (b := i) (by omega) (by omega)).mp y
      omega), in_nI (by omega) (by omega), g_true, cl_ (by omega), hv, nI_1]
  have h0 := s0 0 119 (by omega) rfl
  have h1 := s0 1 111 (by omega) rfl
  have h2 := s0 2 98 (by omega) rfl
  have h3 := s0 3 112 (by omega) rfl
  have h4 := s0 4 108 (by omega) rfl
  have h5 := s0 5 102 (by omega) rfl
  have h6 : ax_run m_J1_indexOfChar_4cfef 7 [(0, .ref 68), (3, .int 6), (4, .int (nI c).toInt8.toInt32), (5, .int (nI 6))] [] h = some (some (.int (-1)), h) := by
    rw [e_J1_indexOfChar1_7, if_pos (by decide)]
  show ax_run m_J1_indexOfChar_4cfef 7 [(0, .ref 68), (3, .int 6), (4, .int (nI c).toInt8.toInt32), (5, .int (nI 0))] [] h = _
  rw [h0, h1, h2, h3, h4, h5, h6]
  simp only [b1, b2, b3, b4, b5, b6]
  unfold kdN
  repeat' split
  all_goals first | rfl | omega
theorem kindAt_ {h : ax_Hp} {n : Nat} {tx : Nat → Nat} (t : LT h n tx) {p : Nat} (hp : p < 1073741824) : rI m_X3_kindAt [.ref 36, .int (nI p)] h = some (if kdN (cg n tx p) < 9 then nI (kdN (cg n tx p)) else -1, h) := by
  have hc := cg_le (n := n) (tx := tx) (fun i hi => (t.2.2 i hi).2) p
  refine rI_of ((e_X3_kindAt_0 _ h).trans ?_)
  rw [signAt_ t hp, bnd]
  simp only []
  rw [chr_ _ (by omega)]
  generalize cg n tx p = c at hc
  have la : rI m_J0_isLatin1_aae02 [.ref 67] h = some (1, h) := rI_of (e_J0_isLatin1_aae02_0 h)
  have le : rI m_J0_length_8abf5 [.ref 67] h = some (6, h) := by
    have co : rI m_J0_coder_7d493 [.ref 67] h = some (0, h) := rI_of (e_J0_coder_7d493_0 h)
    exact rI_of ((e_J0_length_8abf5_0 h).trans (by
      rw [co, bnd]
      show some (some (Value.int (6 >>> ((0 : Int32) &&& 31))), h) = _
      rw [show (6 : Int32) >>> ((0 : Int32) &&& 31) = 6 by decide]))
  have key : ∀ x v, rI m_J1_indexOf_4cfef [.ref 68, .int x, .int 0, .int 6] h = some (v, h) → rI m_J0_indexOf_0f7a4 [.ref 67, .int x] h = some (v, h) := fun x v e => by
    refine rI_of ((e_J0_indexOf_0 _ h).trans ?_)
    have e2 : rI m_J0_indexOf_7cf53 [.ref 67, .int x, .int 0] h = some (v, h) := by
      refine rI_of ((e_J0_indexOf_7cf53_0 _ _ h).trans ?_)
      rw [la, bnd, if_neg (show ¬ (1 : Int32) = 0 by decide), le, bnd, e, bnd]
    rw [e2, bnd]
  by_cases q : c = 256
  · subst q
    have e : rI m_J1_indexOf_4cfef [.ref 68, .int (nI 65535), .int 0, .int 6] h = some (-1, h) := by
      refine rI_of ((e_J1_indexOf1_0 _ _ _ h).trans ?_)
      have ce : rI m_J1_canEncode_9a6ad [.int (nI 65535)] h = some (0, h) := rI_of ((e_J1_canEncode_9a6ad_0 _ h).trans (by rw [if_neg (by decide), if_pos (by decide)]))
      rw [ce, bnd, if_pos rfl]
    rw [if_pos rfl, key _ _ e, bnd]
    rfl
  · have e : rI m_J1_indexOf_4cfef [.ref 68, .int (nI c), .int 0, .int 6] h = some (if kdN c < 9 then nI (kdN c) else -1, h) := by
      refine rI_of ((e_J1_indexOf1_0 _ _ _ h).trans ?_)
      have ce : rI m_J1_canEncode_9a6ad [.int (nI c)] h = some (1, h) := rI_of ((e_J1_canEncode_9a6ad_0 _ h).trans (by
        rw [if_neg (nI_pos (by omega)), if_neg (fun y => by
          have := (lt_ (a := 255) (b := c) (by omega) (by omega)).mp y
          omega)]))
      have ix : rI m_J1_indexOfChar_4cfef [.ref 68, .int (nI c), .int 0, .int 6] h = some (if kdN c < 9 then nI (kdN c) else -1, h) := rI_of ((e_J1_indexOfChar1_0 _ _ _ h).trans (idx_ (by omega) h))
      rw [ce, bnd, if_neg (show ¬ (1 : Int32) = 0 by decide), if_pos (by decide)]
      show (rI m_J1_indexOfChar_4cfef [.ref 68, .int (nI c), .int 0, .int 6] h).bind _ = _
      rw [ix, bnd]
    rw [if_neg q, key _ _ e, bnd]
/-- does the letter behind j others fit a statement that begins with c -/
def fitB (c j x : Nat) : Bool := if j + 1 = szN c then decide (x = 59) else if j = 1 ∧ c = 119 then decide (kdN x < 9) else dgt x
theorem fitB_no (c j : Nat) : fitB c j 256 = false := by
  unfold fitB
  repeat' split
  all_goals rfl
theorem fits_ {h : ax_Hp} {n : Nat} {tx : Nat → Nat} (t : LT h n tx) {p j : Nat} (hp : p < 1000) (hj : 1 ≤ j) (hj2 : j < szN (cg n tx p)) :
    rI m_X3_fits [.ref 36, .int (nI p), .int (nI (p + j)), .int (nI (szN (cg n tx p)))] h = some (if fitB (cg n tx p) j (cg n tx (p + j)) = true then 1 else 0, h) := by
  have hz := szN_le (cg n tx p)
  have ht : ∀ i, i < n → tx i ≤ 255 := fun i hi => (t.2.2 i hi).2
  have hc := cg_le ht p
  have hd := cg_le ht (p + j)
  have n96 := t.2.1
  refine rI_of ((e_X3_fits_0 _ _ _ h).trans ?_)
  rw [t.1, add_, nI_1, show nI (p + szN (cg n tx p)) - 1 = nI (p + szN (cg n tx p) - 1) from sub_ (a := p + szN (cg n tx p)) (b := 1) (by omega)]
  simp (disch := omega) only [signAt_ t, kindAt_ t, digitAt_ t, bnd, lt_, eq_]
  obtain ⟨a1, a2, a3, a4, a5, a6, a7⟩ := sI_eq _ (show cg n tx p < 257 by omega)
  obtain ⟨b1, b2, b3, b4, b5, b6, b7⟩ := sI_eq _ (show cg n tx (p + j) < 257 by omega)
  obtain ⟨d1, d2⟩ := sI_dig _ (show cg n tx (p + j) < 257 by omega)
  by_cases q : p + j < n
  · rw [if_pos q]
    unfold fitB
    simp only [a6, b7, d1, d2]
    by_cases q1 : j + 1 = szN (cg n tx p)
    · rw [if_pos (by omega), if_pos q1]
      simp only [decide_eq_true_eq]
      split <;> rfl
    · rw [if_neg (by omega), if_neg q1]
      have dd : (if cg n tx (p + j) < 48 ∨ cg n tx (p + j) = 256 then some (some (Value.int 0), h) else if 57 < cg n tx (p + j) ∧ cg n tx (p + j) < 256 then some (some (.int 0), h) else some (some (.int 1), h)) = some (some (.int (if dgt (cg n tx (p + j)) = true then 1 else 0)), h) := by
        unfold dgt
        simp only [decide_eq_true_eq]
        repeat' split
        all_goals first | rfl | omega
      by_cases q2 : j = 1
      · rw [if_pos (by omega)]
        by_cases q3 : cg n tx p = 119
        · rw [if_pos q3, if_pos (show j = 1 ∧ cg n tx p = 119 from ⟨q2, q3⟩)]
          simp only [decide_eq_true_eq]
          by_cases q4 : kdN (cg n tx (p + j)) < 9
          · simp only [if_pos q4]
            rw [if_neg (nI_pos (by omega))]
          · simp only [if_neg q4]
            rfl
        · rw [if_neg q3, if_neg (show ¬ (j = 1 ∧ cg n tx p = 119) from fun y => q3 y.2)]
          exact dd
      · rw [if_neg (by omega), if_neg (show ¬ (j = 1 ∧ cg n tx p = 119) from fun y => q2 y.1)]
        exact dd
  · have e : cg n tx (p + j) = 256 := if_neg q
    rw [if_neg q, e, fitB_no]
    rfl
/-- the first letter that does not fit, by its place behind p; or the size -/
def bad (g : Nat → Nat) (p : Nat) : Nat → Nat → Nat
  | 0, j => j
  | f + 1, j => if fitB (g p) j (g (p + j)) = true then bad g p f (j + 1) else j
theorem bad_le (g : Nat → Nat) (p : Nat) : ∀ f j, j ≤ bad g p f j ∧ bad g p f j ≤ j + f := by
  intro f
  induction f with
  | zero => intro j; exact ⟨Nat.le_refl _, Nat.le_refl _⟩
  | succ f ih =>
    intro j
    simp only [bad]
    have := ih (j + 1)
    split <;> omega
theorem bad_all {g : Nat → Nat} {p : Nat} : ∀ f j, bad g p f j = j + f → ∀ i, j ≤ i → i < j + f → fitB (g p) i (g (p + i)) = true := by
  intro f
  induction f with
  | zero => intro j _ i h1 h2; omega
  | succ f ih =>
    intro j hb i h1 h2
    simp only [bad] at hb
    split at hb
    · next q =>
      by_cases e : i = j
      · rw [e]; exact q
      · exact ih (j + 1) (by omega) i (by omega) (by omega)
    · omega
def badS (g : Nat → Nat) (p : Nat) : Nat := bad g p (szN (g p) - 1) 1
/-- the place of the first fault of form from p on, with so much fuel -/
def prs (g : Nat → Nat) (n : Nat) : Nat → Nat → Option Nat
  | 0, _ => none
  | f + 1, p => if n ≤ p then none else if szN (g p) = 0 then some p else if badS g p = szN (g p) then prs g n f (p + szN (g p)) else some (p + badS g p)
def opI (o : Option Nat) : Int32 := match o with
  | none => -9
  | some q => nI q
theorem mis_in {h : ax_Hp} {n : Nat} {tx : Nat → Nat} (t : LT h n tx) {p i : Nat} (hp : p < 500) : ∀ f j, 1 ≤ j → j + f = szN (cg n tx p) → ax_run m_X3_misformedAt 47 [(0, .ref 36), (1, .int (nI p)), (2, .int (nI i)), (3, .int (nI (szN (cg n tx p)))), (4, .int (nI (p + j)))] [] h =
    if bad (cg n tx) p f j = szN (cg n tx p) then ax_run m_X3_misformedAt 13 [(0, .ref 36), (1, .int (nI (p + szN (cg n tx p)))), (2, .int (nI (i + 1)))] [] h else some (some (.int (nI (p + bad (cg n tx) p f j))), h) := by
  intro f
  have hz := szN_le (cg n tx p)
  induction f with
  | zero =>
    intro j h1 h2
    rw [e_X3_misformedAt_47, add_, if_pos ((le_ (by omega) (by omega)).mpr (by omega)), if_pos (show bad (cg n tx) p 0 j = szN (cg n tx p) by show j = _; omega), nI_1]
  | succ f ih =>
    intro j h1 h2
    have bl := bad_le (cg n tx) p f (j + 1)
    rw [e_X3_misformedAt_47, add_, if_neg (fun y => by
      have := (le_ (a := p + szN (cg n tx p)) (b := p + j) (by omega) (by omega)).mp y
      omega), fits_ t (by omega) h1 (by omega), bnd, nI_1]
    simp only [bad]
    by_cases q : fitB (cg n tx p) j (cg n tx (p + j)) = true
    · simp only [q, if_true, ax_10, if_false]
      exact ih (j + 1) (by omega) (by omega)
    · simp only [q, if_true, if_false, Bool.false_eq_true]
      rw [if_neg (by omega)]
theorem mis_out {h : ax_Hp} {n : Nat} {tx : Nat → Nat} (t : LT h n tx) : ∀ f p i, i + f = 96 → p ≤ 9 * i → p ≤ 200 → ax_run m_X3_misformedAt 13 [(0, .ref 36), (1, .int (nI p)), (2, .int (nI i))] [] h = some (some (.int (opI (prs (cg n tx) n f p))), h) := by
  intro f
  have ht : ∀ i, i < n → tx i ≤ 255 := fun i hi => (t.2.2 i hi).2
  have n96 := t.2.1
  induction f with
  | zero =>
    intro p i hi hp hp2
    rw [e_X3_misformedAt_13, if_pos (show (96 : Int32) ≤ nI i from (le_ (a := 96) (b := i) (by omega) (by omega)).mpr (by omega))]
    rfl
  | succ f ih =>
    intro p i hi hp hp2
    have hc := cg_le ht p
    have hz := szN_le (cg n tx p)
    rw [e_X3_misformedAt_13, if_neg (fun y => by
      have := (le_ (a := 96) (b := i) (by omega) (by omega)).mp y
      omega), t.1]
    simp (disch := omega) only [le_]
    simp only [prs]
    by_cases q : n ≤ p
    · rw [if_pos q, if_pos q]; rfl
    · rw [if_neg q, if_neg q, signAt_ t (by omega), bnd]
      simp only []
      rw [sizeOf_ (by omega), bnd]
      simp (disch := omega) only [eq0]
      by_cases q1 : szN (cg n tx p) = 0
      · rw [if_pos q1, if_pos q1]; rfl
      · rw [if_neg q1, if_neg q1, nI_1, mis_in t (by omega) (szN (cg n tx p) - 1) 1 (Nat.le_refl _) (by omega)]
        have eb : bad (cg n tx) p (szN (cg n tx p) - 1) 1 = badS (cg n tx) p := rfl
        rw [eb]
        by_cases q2 : badS (cg n tx) p = szN (cg n tx p)
        · rw [if_pos q2, if_pos q2]
          exact ih _ _ (by omega) (by omega) (by omega)
        · rw [if_neg q2, if_neg q2]; rfl
theorem mis_ {h : ax_Hp} {n : Nat} {tx : Nat → Nat} (t : LT h n tx) : rI m_X3_misformedAt [.ref 36] h = some (opI (if n = 0 then some 0 else prs (cg n tx) n 96 0), h) := by
  have n96 := t.2.1
  refine rI_of ((e_X3_misformedAt_0 h).trans ?_)
  rw [t.1]
  simp (disch := omega) only [eq0]
  by_cases q : n = 0
  · rw [if_pos q, if_pos q]; rfl
  · rw [if_neg q, if_neg q]
    exact mis_out t 96 0 0 (by omega) (by omega) (by omega)
