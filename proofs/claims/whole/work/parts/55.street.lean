/-! letters: the street op -/
/-- the state behind k statements -/
def sqA (c : Nat → Nat) (A : Ab) : Nat → Ab
  | 0 => A
  | k + 1 => stA c (sqA c A k) (pos c k)
def snK (c : Nat → Nat) (A : Ab) (k : Nat) : Bool := snB c (zW (bS (sqA c A k))) (zT (bS (sqA c A k))) (pos c k)
/-- the first statement without sense, from k on -/
def fS (c : Nat → Nat) (A : Ab) : Nat → Nat → Option Nat
  | 0, _ => none
  | d + 1, k => if snK c A k = true then fS c A d (k + 1) else some k
theorem stA_rest (c : Nat → Nat) (A : Ab) (p : Nat) : (stA c A p).2.1 = A.2.1 ∧ (stA c A p).2.2.2 = A.2.2.2 ∧ zT (bS A) ≤ zT (bS (stA c A p)) ∧ ∀ i, i ≤ zT (bS A) → bH (stA c A p) i = bH A i := by
  unfold stA
  repeat' split
  · exact ⟨rfl, rfl, Nat.le_refl _, fun _ _ => rfl⟩
  · exact ⟨rfl, rfl, Nat.le_refl _, fun _ _ => rfl⟩
  · exact ⟨rfl, rfl, Nat.le_refl _, fun _ _ => rfl⟩
  · exact ⟨rfl, rfl, Nat.le_of_eq (znn_T _ _ _ _).symm, fun _ _ => rfl⟩
  · exact ⟨rfl, rfl, Nat.le_refl _, fun _ _ => rfl⟩
  · refine ⟨rfl, rfl, ?_, fun i hi => ?_⟩
    · have := zit_T (bS A) 0 (10 * dv c (p + 1) + dv c (p + 2))
      show zT (bS A) ≤ zT (zit (bS A) 0 _)
      omega
    · show hN _ _ _ _ = _
      unfold hN
      rw [if_neg (by omega)]
theorem sqA_rest (c : Nat → Nat) (A : Ab) (k : Nat) : (sqA c A k).2.1 = A.2.1 ∧ (sqA c A k).2.2.2 = A.2.2.2 ∧ zT (bS A) ≤ zT (bS (sqA c A k)) ∧ ∀ i, i ≤ zT (bS A) → bH (sqA c A k) i = bH A i := by
  induction k with
  | zero => exact ⟨rfl, rfl, Nat.le_refl _, fun _ _ => rfl⟩
  | succ k ih =>
    obtain ⟨a1, a2, a3, a4⟩ := ih
    obtain ⟨b1, b2, b3, b4⟩ := stA_rest c (sqA c A k) (pos c k)
    exact ⟨b1.trans a1, b2.trans a2, Nat.le_trans a3 b3, fun i hi => (b4 i (by omega)).trans (a4 i hi)⟩
/-- no letters -/
def bNl (A : Ab) : Ab := (A.1, A.2.1, A.2.2.1, (0, A.2.2.2.1.2), A.2.2.2.2)
theorem stA_nl (c : Nat → Nat) (A : Ab) (p : Nat) : stA c (bNl A) p = bNl (stA c A p) := by
  unfold stA
  repeat' split
  all_goals rfl
theorem sqA_nl (c : Nat → Nat) (A : Ab) (k : Nat) : sqA c (bNl A) k = bNl (sqA c A k) := by
  induction k with
  | zero => rfl
  | succ k ih =>
    show stA c (sqA c (bNl A) k) _ = _
    rw [ih, stA_nl]
    rfl
theorem snK_nl (c : Nat → Nat) (A : Ab) (k : Nat) : snK c (bNl A) k = snK c A k := by
  unfold snK
  rw [sqA_nl]
  rfl
theorem fS_nl (c : Nat → Nat) (A : Ab) : ∀ d k, fS c (bNl A) d k = fS c A d k := by
  intro d
  induction d with
  | zero => intro k; rfl
  | succ d ih =>
    intro k
    simp only [fS]
    rw [snK_nl, ih]
theorem IC_nl {h : ax_Hp} {A : Ab} (ic : IC h A) : IC (wI h 36 1 0) (bNl A) := by
  obtain ⟨a1, a2, a3, a4, a5, a6, a7, a8, a9⟩ := ic
  refine ⟨RC_of (fun c _ _ => by simp (disch := omega) only [wI_ne]) a1, ?_, fun q => RC_of (fun c _ _ => by simp (disch := omega) only [wI_ne]) (a3 q), ?_, ?_, ?_, ?_, ?_, ?_⟩ <;> simp (disch := omega) only [wI_ne, wI_at, upd_at] <;> first | assumption | rfl | exact fun i hi => absurd hi (Nat.not_lt_zero i)
theorem okA_nl {A : Ab} (oa : okA A) : okA (bNl A) := ⟨oa.1, oa.2.1, oa.2.2.1, by show 0 ≤ 96; omega, fun i hi => absurd hi (Nat.not_lt_zero i), oa.2.2.2.2.2.1, oa.2.2.2.2.2.2⟩
theorem GS.wf {c : Nat → Nat} {n k j : Nat} (gs : GS c n k) (hj : j < k) : WF c (pos c j) := ⟨(gs j hj).2.1, (gs j hj).2.2.1⟩
theorem okA_sq {c : Nat → Nat} {A : Ab} {k : Nat} (oa : okA (sqA c A k)) (w : WF c (pos c k)) (s : snK c A k = true) : okA (sqA c A (k + 1)) := okA_st oa w s
theorem W_sq {c : Nat → Nat} {A : Ab} {k : Nat} (hW : zW (bS (sqA c A k)) ≤ 7) (s : snK c A k = true) : zW (bS (sqA c A (k + 1))) ≤ 7 := by
  show zW (bS (stA c (sqA c A k) (pos c k))) ≤ 7
  rw [stA_W]
  by_cases e : c (pos c k) = 119
  · rw [if_pos e]
    unfold snK snB at s
    rw [if_pos e] at s
    have := of_decide_eq_true s
    omega
  · rw [if_neg e]; exact hW
theorem prs_le {g : Nat → Nat} {n : Nat} : ∀ f p q, prs g n f p = some q → q < n + 10 := by
  intro f
  induction f with
  | zero => intro p q h; exact absurd h (by simp [prs])
  | succ f ih =>
    intro p q h
    simp only [prs] at h
    have bl := bad_le g p (szN (g p) - 1) 1
    have hz := szN_le (g p)
    have be : badS g p = bad g p (szN (g p) - 1) 1 := rfl
    split at h
    · exact absurd h (by simp)
    · split at h
      · injection h with h; omega
      · split at h
        · exact ih _ _ h
        · injection h with h; omega
def ansF (c : Nat → Nat) (o : Option Nat) : Int32 := match o with
  | none => -9
  | some j => nI (pos c j)
/-- the class looks for sense -/
theorem sens_ {h : ax_Hp} {A : Ab} {n K : Nat} {tx : Nat → Nat} (t : LT h n tx) (gs : GS (cg n tx) n K) (hp : pos (cg n tx) K = n) : ∀ d k, k + d = K → zW (bS (sqA (cg n tx) A k)) ≤ 7 → okA (sqA (cg n tx) A k) →
    ax_run m_X3_senselessAt 11 [(0, .ref 36), (3, .int (nI (zW (bS (sqA (cg n tx) A k))))), (4, .int (nI (zT (bS (sqA (cg n tx) A k))))), (5, .int (nI (pos (cg n tx) k))), (6, .int (nI k))] [] h = some (some (.int (ansF (cg n tx) (fS (cg n tx) A d k))), h) := by
  intro d
  have n96 := t.2.1
  have kp := pos_ge gs
  induction d with
  | zero =>
    intro k hk hW oa
    have e : k = K := by omega
    subst e
    rw [e_X3_senselessAt_11, if_neg (fun y => by
      have := (le_ (a := 96) (b := k) (by omega) (by omega)).mp y
      omega), t.1, hp, if_pos ((le_ (a := n) (b := n) (by omega) (by omega)).mpr (Nat.le_refl _))]
    rfl
  | succ d ih =>
    intro k hk hW oa
    obtain ⟨g1, g2, g3, g4⟩ := gs k (by omega)
    have w := gs.wf (show k < K by omega)
    have hc := cg_le (fun i hi => (t.2.2 i hi).2) (pos (cg n tx) k)
    have hz := szN_le (cg n tx (pos (cg n tx) k))
    obtain ⟨a1, a2, a3, a4, a5, a6, a7⟩ := sI_eq _ (show cg n tx (pos (cg n tx) k) < 257 by omega)
    have hT := oa.1
    rw [e_X3_senselessAt_11, if_neg (fun y => by
      have := (le_ (a := 96) (b := k) (by omega) (by omega)).mp y
      omega), t.1, if_neg (fun y => by
      have := (le_ (a := n) (b := pos (cg n tx) k) (by omega) (by omega)).mp y
      omega), sense_ t (by omega) w hW hT, bnd]
    simp only [fS]
    have es : snB (cg n tx) (zW (bS (sqA (cg n tx) A k))) (zT (bS (sqA (cg n tx) A k))) (pos (cg n tx) k) = snK (cg n tx) A k := rfl
    rw [es]
    by_cases q : snK (cg n tx) A k = true
    · have nx := ih (k + 1) (by omega) (W_sq hW q) (okA_sq oa w q)
      have eW : zW (bS (sqA (cg n tx) A (k + 1))) = _ := stA_W
      have eT : zT (bS (sqA (cg n tx) A (k + 1))) = _ := stA_T w.1
      rw [eW, eT] at nx
      have ep : pos (cg n tx) (k + 1) = pos (cg n tx) k + szN (cg n tx (pos (cg n tx) k)) := rfl
      rw [ep] at nx
      simp only [q, if_true, ax_10, if_false]
      have sg : rI m_X3_signAt [.ref 36, .int (nI (pos (cg n tx) k))] h = some (sI_ (cg n tx (pos (cg n tx) k)), h) := signAt_ t (by omega)
      have sz : rI m_X3_sizeOf [.int (sI_ (cg n tx (pos (cg n tx) k)))] h = some (nI (szN (cg n tx (pos (cg n tx) k))), h) := sizeOf_ (by omega) h
      simp only [sg, bnd, a2, a6, sz, nI_1, add_]
      by_cases e119 : cg n tx (pos (cg n tx) k) = 119
      · rw [if_pos e119, if_neg (by omega)]
        rw [if_pos e119, if_neg (by omega)] at nx
        exact nx
      · rw [if_neg e119] at nx ⊢
        by_cases e104 : cg n tx (pos (cg n tx) k) = 104
        · have d1 : dgt (cg n tx (pos (cg n tx) k + 1)) = true := wf_dig w (by omega) (by rw [e104]; decide) (by omega)
          have d2 : dgt (cg n tx (pos (cg n tx) k + 2)) = true := wf_dig w (by omega) (by rw [e104]; decide) (by omega)
          have ho : rI m_X3_hoursAt [.ref 36, .int (nI (pos (cg n tx) k))] h = some (nI (10 * dv (cg n tx) (pos (cg n tx) k + 1) + dv (cg n tx) (pos (cg n tx) k + 2)), h) := by
            refine rI_of ((e_X3_hoursAt_0 _ h).trans ?_)
            rw [nI_1, show (2 : Int32) = nI 2 from rfl, add_, dig_n t (by omega) d1, bnd]
            simp only []
            rw [dig_n t (by omega) d2, bnd, l10, mul_, add_]
          rw [if_pos e104] at nx ⊢
          simp only [ho, bnd, sg, sz, add_]
          exact nx
        · rw [if_neg e104] at nx ⊢
          exact nx
    · simp only [q, if_false, if_true, Bool.false_eq_true]
      rfl
/-- the class tells itself -/
theorem tells_ {A : Ab} {n K : Nat} {tx : Nat → Nat} (n96 : n ≤ 96) (ht : ∀ i, i < n → tx i ≤ 255) (gs : GS (cg n tx) n K) (hp : pos (cg n tx) K = n) : ∀ d k h, k + d = K → LT h n tx → okA (sqA (cg n tx) A k) → IC h (sqA (cg n tx) A k) → fS (cg n tx) A d k = none →
    ∃ h', ax_run m_X7_street 29 [(0, .ref 0), (1, .int 0), (2, .int (nI k)), (3, .int (nI (pos (cg n tx) k))), (4, .int (nI k))] [] h = some (some (.int (nI K)), wI h' 36 1 0) ∧ IC h' (sqA (cg n tx) A K) ∧ okA (sqA (cg n tx) A K) ∧ FC h h' := by
  intro d
  have kp := pos_ge gs
  induction d with
  | zero =>
    intro k h hk t oa ic _
    have e : k = K := by omega
    subst e
    refine ⟨h, ?_, ic, oa, rfl, fun _ _ => rfl⟩
    rw [e_X7_street_29, if_neg (fun y => by
      have := (le_ (a := 96) (b := k) (by omega) (by omega)).mp y
      omega), t.1, hp, if_pos rfl, if_pos rfl, if_pos ((le_ (a := n) (b := n) (by omega) (by omega)).mpr (Nat.le_refl _))]
  | succ d ih =>
    intro k h hk t oa ic hf
    simp only [fS] at hf
    by_cases q : snK (cg n tx) A k = true
    · rw [if_pos q] at hf
      obtain ⟨g1, g2, g3, g4⟩ := gs k (by omega)
      have w := gs.wf (show k < K by omega)
      have hc := cg_le ht (pos (cg n tx) k)
      obtain ⟨h1, e1, i1, f1, t1⟩ := tell_ oa ic t (p := pos (cg n tx) k) (by omega) w q
      obtain ⟨h2, e2, i2, o2, f2⟩ := ih (k + 1) h1 (by omega) t1 (okA_sq oa w q) i1 hf
      refine ⟨h2, ?_, i2, o2, f2.1.trans f1.1, fun c hc => (f2.2 c hc).trans (f1.2 c hc)⟩
      rw [e_X7_street_29, if_neg (fun y => by
        have := (le_ (a := 96) (b := k) (by omega) (by omega)).mp y
        omega), if_pos rfl, t.1, if_neg (fun y => by
        have := (le_ (a := n) (b := pos (cg n tx) k) (by omega) (by omega)).mp y
        omega), e1, bnd, signAt_ t1 (by omega), bnd]
      simp only []
      rw [sizeOf_ (by omega), bnd, nI_1, add_]
      exact e2
    · rw [if_neg q] at hf
      exact absurd hf (by simp)
theorem street29_no {h : ax_Hp} {x : Int32} (hx : x ≠ 0) : ax_run m_X7_street 29 [(0, .ref 0), (1, .int x), (2, .int 0), (3, .int 0), (4, .int 0)] [] h = some (some (.int x), wI h 36 1 0) := by
  rw [e_X7_street_29, if_neg (show ¬ (96 : Int32) ≤ 0 by decide), if_neg hx, if_neg hx]
theorem nI_far {a b : Nat} (hb : b < 1000) : ∀ x : Int32, x = nI b → (x < 0 → False) ∧ (-1000 - x ≠ 0) ∧ (-2000 - x ≠ 0) := by
  intro x hx
  subst hx
  refine ⟨nI_pos (by omega), ?_, ?_⟩
  · intro y
    have := congrArg Int32.toInt y
    rw [Int32.toInt_sub, nI_toInt (by omega)] at this
    have e1 : (-1000 : Int32).toInt = -1000 := rfl
    have e2 : (0 : Int32).toInt = 0 := rfl
    rw [e1, e2] at this
    rw [Int.bmod_def] at this
    omega
  · intro y
    have := congrArg Int32.toInt y
    rw [Int32.toInt_sub, nI_toInt (by omega)] at this
    have e1 : (-2000 : Int32).toInt = -2000 := rfl
    have e2 : (0 : Int32).toInt = 0 := rfl
    rw [e1, e2] at this
    rw [Int.bmod_def] at this
    omega
/-- back to where the letters began -/
theorem IM_back {g g2 : ax_Hp} {c : Nat → Nat} {A : Ab} {k : Nat} (im : IM g (sqA c A k)) (r : RM g2 (bS A) 0) (f : ∀ i, i = 48 ∨ i = 56 ∨ i = 60 ∨ i = 61 ∨ i = 65 → g2.1 i = g.1 i) (f2 : ∀ i, i = 14 ∨ i = 19 ∨ i = 34 → g2.1 47 i = g.1 47 i) : IM g2 A := by
  obtain ⟨e1, e2, e3, e4⟩ := sqA_rest c A k
  obtain ⟨a1, a2, a3, a4, a5, a6, a7, a8, a9⟩ := im
  simp only [bI, bK, bLn, bL, bRn, bR, bF] at a2 a3 a5 a6 a7 a8 a9
  rw [e1] at a2 a3
  rw [e2] at a5 a6 a7 a8 a9
  refine ⟨r, ?_, fun q => KP_of (fun p _ _ => by rw [f 60 (by omega)]) (a3 q), ?_, ?_, ?_, ?_, ?_, ?_⟩
  · rw [f2 19 (by omega)]; exact a2
  · intro i h1 h2
    rw [f 61 (by omega), a4 i h1 (by omega)]
    exact e4 i h2
  · rw [f2 14 (by omega)]; exact a5
  · rw [f 56 (by omega)]; exact a6
  · rw [f2 34 (by omega)]; exact a7
  · rw [f 65 (by omega)]; exact a8
  · rw [f 48 (by omega)]; exact a9
def ansM (c : Nat → Nat) (K : Nat) (o : Option Nat) : Int32 := match o with
  | none => nI K
  | some j => -2000 - nI (pos c j)
def endM (c : Nat → Nat) (A : Ab) (K : Nat) (o : Option Nat) : Ab := match o with
  | none => sqA c A K
  | some _ => A
theorem comes_ {A : Ab} {c : Nat → Nat} {n K : Nat} (hcl : ∀ p, c p ≤ 256) (hn : n ≤ 96) (gs : GS c n K) (hp : pos c K = n) (ok : okS (bS A)) : ∀ d k g, k + d = K → IM g (sqA c A k) → KP g 1 (bS A) → DT c g K → g.1 47 16 = nI K →
    ∃ g', ax_run m_X8_street 86 [(0, .ref 47), (2, .int (nI k))] [] g = some (some (.int (ansM c K (fS c A d k))), g') ∧ IM g' (endM c A K (fS c A d k)) ∧ FM g g' := by
  intro d
  have kp := pos_ge gs
  induction d with
  | zero =>
    intro k g hk im kp1 dt e16
    have e : k = K := by omega
    subst e
    refine ⟨g, ?_, im, rfl, fun _ _ => rfl⟩
    rw [e_X8_street_86, e16, if_pos ((le_ (a := k) (b := k) (by omega) (by omega)).mpr (Nat.le_refl _))]
    rfl
  | succ d ih =>
    intro k g hk im kp1 dt e16
    have w := gs.wf (show k < K by omega)
    obtain ⟨t57, t58, t59⟩ := dt k (by omega)
    obtain ⟨g1, e1, i1, k1, h61⟩ := told_ im (k := k) (by omega) (hcl _) w t57 t59
    have es : snB c (zW (bS (sqA c A k))) (zT (bS (sqA c A k))) (pos c k) = snK c A k := rfl
    rw [es] at e1 i1 h61
    have st := e_X8_street_86 (nI k) g
    rw [e16, if_neg (fun y => by
      have := (le_ (a := K) (b := k) (by omega) (by omega)).mp y
      omega), e1, bnd] at st
    simp only [fS]
    have c57 : g1.1 57 = g.1 57 := k1.2.1 57 (by omega) (by omega) (by omega)
    have c58 : g1.1 58 = g.1 58 := k1.2.1 58 (by omega) (by omega) (by omega)
    have c59 : g1.1 59 = g.1 59 := k1.2.1 59 (by omega) (by omega) (by omega)
    have c60 : g1.1 60 = g.1 60 := k1.2.1 60 (by omega) (by omega) (by omega)
    have kp2 : KP g1 1 (bS A) := KP_of (fun p _ _ => by rw [c60]) kp1
    have f1 : FM g g1 := ⟨by rw [k1.1], fun c hc => k1.2.1 c (by omega) (by omega) (by omega)⟩
    by_cases q : snK c A k = true
    · simp only [q, if_true, ax_10, if_false] at st ⊢
      obtain ⟨g2, e2, i2, f2⟩ := ih (k + 1) g1 (by omega) (i1 q) kp2 (fun j hj => by rw [c57, c58, c59]; exact dt j hj) ((k1.2.2 16 (by omega) (by omega) (by omega)).trans e16)
      refine ⟨g2, ?_, i2, f2.1.trans f1.1, fun c hc => (f2.2 c hc).trans (f1.2 c hc)⟩
      rw [st, nI_1]
      exact e2
    · simp only [q, if_true, if_false, Bool.false_eq_true] at st ⊢
      have h22 : g1.1 47 22 = 0 := by
        rw [k1.2.2 22 (by omega) (by omega) (by omega)]
        rcases im.1.2.1 with y | y
        · exact y.2
        · exact absurd y.1 (by omega)
      obtain ⟨g2, e2, r2, a2, b2, c2⟩ := takes_ (w := 0) kp2 ok (Or.inl ⟨rfl, h22⟩) (by omega)
      have e2' : rV m_X8_passesAll [.ref 47, .int 1, .int 0] g1 = some g2 := e2
      rw [e2', bnd] at st
      have t58' : g2.1 58 k = nI (pos c k) := by
        rw [b2 58 (by omega) (by omega), c58]; exact t58
      simp (disch := omega) only [g_in, cl_, t58'] at st
      refine ⟨g2, st, IM_back im r2 (fun i hi => ?_) (fun i hi => ?_), ?_, fun c hc => ?_⟩
      · rw [b2 i (by omega) (by omega)]
        by_cases q2 : i = 61
        · rw [q2]; exact h61 q
        · exact k1.2.1 i (by omega) (by omega) q2
      · rw [c2 i (by omega) (by omega) (by omega) (by omega)]
        exact k1.2.2 i (by omega) (by omega) (by omega)
      · rw [a2]; exact f1.1
      · exact (b2 c (by omega) (by omega)).trans (f1.2 c hc)
theorem op_street {h : ax_Hp} {A : Ab} (oa : okA A) (ic : IC h A) (im : IM h A) : OP m_X7_street m_X8_street [] h := by
  have t := IC_LT ic oa
  have n96 := t.2.1
  have ht : ∀ i, i < bLn A → bL A i ≤ 255 := fun i hi => (t.2.2 i hi).2
  have hcl : ∀ p, cg (bLn A) (bL A) p ≤ 256 := cg_le ht
  have mi := mis_ t
  have hW := ic.1.1.1.1
  have fa := e_X3_fault_0 (nI (zW (bS A))) (nI (zT (bS A))) h
  rw [mi, bnd] at fa
  have st := e_X7_street_0 h
  have w0 : h.1 1 0 = nI (zW (bS A)) := ic.1.1.2.2.1
  have w1 : h.1 1 1 = nI (zT (bS A)) := ic.1.1.2.2.2.1
  rw [w0, w1] at st
  -- the reference begins
  have begins : ∀ h1, IM h1 A → RS (wI (wI h1 47 15 0) 47 16 0) (bLn A) (bL A) (pos (cg (bLn A) (bL A)) 0) 0 ∧ SF h1 (wI (wI h1 47 15 0) 47 16 0) := fun h1 m => by
    obtain ⟨a1, a2, a3, a4, a5, a6, a7, a8, a9⟩ := m
    refine ⟨⟨?_, n96, fun i hi => ⟨?_, ht i hi⟩, ?_, Nat.zero_le _, ?_, by omega⟩, rfl, fun c h1 h2 h3 h4 => ?_, fun i h1 h2 h3 h4 => ?_⟩ <;> simp (disch := omega) only [wI_ne, wI_at, upd_ne, upd_at]
    · exact a5
    · exact a6 i hi
    · rfl
    · rfl
  have imn : ∀ h1 g, IM h1 A → SF h1 g → IM (wI g 47 14 0) (bNl A) ∧ FM h1 (wI g 47 14 0) := fun h1 g m f => by
    obtain ⟨a1, a2, a3, a4, a5, a6, a7, a8, a9⟩ := m
    obtain ⟨f0, f1, f2⟩ := f
    refine ⟨⟨RM_of (fun c _ _ => ?_) ?_ ?_ ?_ a1, ?_, fun q => KP_of (fun p _ _ => ?_) (a3 q), ?_, ?_, fun i hi => absurd hi (Nat.not_lt_zero i), ?_, ?_, ?_⟩, ?_, fun c hc => ?_⟩
    · rw [wI_ne (by omega)]; exact f1 c (by omega) (by omega) (by omega) (by omega)
    · simp (disch := omega) only [wI_at, upd_ne]; exact f2 22 (by omega) (by omega) (by omega) (by omega)
    · simp (disch := omega) only [wI_at, upd_ne]; exact f2 8 (by omega) (by omega) (by omega) (by omega)
    · simp (disch := omega) only [wI_at, upd_ne]; exact f2 9 (by omega) (by omega) (by omega) (by omega)
    · simp (disch := omega) only [wI_at, upd_ne]; exact (f2 19 (by omega) (by omega) (by omega) (by omega)).trans a2
    · rw [wI_ne (by omega), f1 60 (by omega) (by omega) (by omega) (by omega)]
    · rw [wI_ne (by omega), f1 61 (by omega) (by omega) (by omega) (by omega)]; exact a4
    · simp (disch := omega) only [wI_at, upd_at]; rfl
    · simp (disch := omega) only [wI_at, upd_ne]; exact (f2 34 (by omega) (by omega) (by omega) (by omega)).trans a7
    · rw [wI_ne (by omega), f1 65 (by omega) (by omega) (by omega) (by omega)]; exact a8
    · rw [wI_ne (by omega), f1 48 (by omega) (by omega) (by omega) (by omega)]; exact a9
    · show g.2.2 = _; rw [f0]
    · rw [wI_ne (by omega)]; exact f1 c (by omega) (by omega) (by omega) (by omega)
  -- a fault of form
  have form : ∀ q, q < 1000 → (if bLn A = 0 then some 0 else prs (cg (bLn A) (bL A)) (bLn A) 96 0) = some q → (∀ h1, IM h1 A → ∃ g', SF h1 g' ∧ ax_run m_X8_street 12 [(0, .ref 47), (1, .int 1)] [] (wI (wI h1 47 15 0) 47 16 0) = some (some (.int (-1000 - nI q)), wI g' 47 14 0)) → OP m_X7_street m_X8_street [] h := fun q hq e m => by
    rw [e] at fa
    obtain ⟨u1, u2, u3⟩ := nI_far (a := 0) hq (nI q) rfl
    have fa2 : rI m_X3_fault [.ref 36, .int (nI (zW (bS A))), .int (nI (zT (bS A)))] h = some (-1000 - nI q, h) := by
      refine rI_of (fa.trans ?_)
      exact if_neg (fun y => u1 y)
    rw [fa2, bnd] at st
    refine OP_of (A := A) (B := bNl A) (v := -1000 - nI q) (okA_nl oa) im ⟨_, rI_of (st.trans (street29_no u2)), IC_nl ic, rfl, fun k hk => wI_ne (by omega)⟩ (fun h1 i => ?_)
    obtain ⟨g', s', r'⟩ := m h1 i
    exact ⟨_, rI_of ((e_X8_street_0 h1).trans r'), (imn h1 g' i s').1, (imn h1 g' i s').2⟩
  by_cases z : bLn A = 0
  · refine form 0 (by omega) (by rw [if_pos z]) (fun h1 i => ?_)
    obtain ⟨rs, sf⟩ := begins h1 i
    obtain ⟨g', s', c'⟩ := st12_1 rs (by omega) (Or.inr rfl) (fun j hj => absurd hj (by omega)) (fun j hj => absurd hj (by omega))
    have e256 : cg (bLn A) (bL A) (pos (cg (bLn A) (bL A)) 0) = 256 := if_neg (by omega)
    have sz0 : szN (cg (bLn A) (bL A) (pos (cg (bLn A) (bL A)) 0)) = 0 := by rw [e256]; rfl
    rcases c' with ⟨_, r'⟩ | ⟨y, _⟩
    · rw [if_pos sz0] at r'
      exact ⟨g', sf.trans s', r'⟩
    · exact absurd sz0 y.1
  · rw [if_neg z] at fa form
    cases e : prs (cg (bLn A) (bL A)) (bLn A) 96 0 with
    | some q =>
      have hq := prs_le 96 0 q e
      refine form q (by omega) e (fun h1 i => ?_)
      obtain ⟨rs, sf⟩ := begins h1 i
      rcases parse_ 96 0 _ (by omega) (by omega) rs (fun j hj => absurd hj (by omega)) (fun j hj => absurd hj (by omega)) with ⟨q2, e2, g', s', r'⟩ | ⟨e2, _⟩
      · have e3 : prs (cg (bLn A) (bL A)) (bLn A) 96 0 = some q2 := e2
        rw [e] at e3
        injection e3 with e3
        subst e3
        exact ⟨g', sf.trans s', r'⟩
      · have e3 : prs (cg (bLn A) (bL A)) (bLn A) 96 0 = none := e2
        rw [e] at e3
        exact absurd e3 (by simp)
    | none =>
      -- well formed
      have wf : ∀ h1, IM h1 A → ∃ K g', SF h1 g' ∧ RS g' (bLn A) (bL A) (bLn A) K ∧ pos (cg (bLn A) (bL A)) K = bLn A ∧ GS (cg (bLn A) (bL A)) (bLn A) K ∧ DT (cg (bLn A) (bL A)) g' K ∧
          ax_run m_X8_street 12 [(0, .ref 47), (1, .int 1)] [] (wI (wI h1 47 15 0) 47 16 0) = (rV m_X8_passesAll [.ref 47, .int 1, .int 1] (wI g' 47 14 0)).bind (fun q1 => ax_run m_X8_street 86 [(0, .ref 47), (2, .int 0)] [] q1) := fun h1 i => by
        obtain ⟨rs, sf⟩ := begins h1 i
        rcases parse_ 96 0 _ (by omega) (by omega) rs (fun j hj => absurd hj (by omega)) (fun j hj => absurd hj (by omega)) with ⟨q2, e2, _⟩ | ⟨e2, K, g', s', c2, c3, c4, c5, c6, r'⟩
        · have e3 : prs (cg (bLn A) (bL A)) (bLn A) 96 0 = some q2 := e2
          rw [e] at e3
          exact absurd e3 (by simp)
        · exact ⟨K, g', sf.trans s', c2, c4, c5, c6, r'⟩
      obtain ⟨K, g0, s0, c2, c4, c5, c6, r0⟩ := wf h im
      clear s0 c2 c6 r0 g0
      have uniq : ∀ K', GS (cg (bLn A) (bL A)) (bLn A) K' → pos (cg (bLn A) (bL A)) K' = bLn A → K' = K := fun K' g4 p4 => by
        apply Classical.byContradiction
        intro y
        by_cases lt : K' < K
        · have := (c5 K' lt).1
          omega
        · have := (g4 K (by omega)).1
          omega
      have model : ∀ h1, IM h1 A → ∃ h2, rI m_X8_street [.ref 47] h1 = some (ansM (cg (bLn A) (bL A)) K (fS (cg (bLn A) (bL A)) A K 0), h2) ∧ IM h2 (endM (cg (bLn A) (bL A)) (bNl A) K (fS (cg (bLn A) (bL A)) A K 0)) ∧ FM h1 h2 := fun h1 i => by
        obtain ⟨K', g', s', d2, d4, d5, d6, r'⟩ := wf h1 i
        have eK := uniq K' d5 d4
        subst eK
        obtain ⟨in1, fm1⟩ := imn h1 g' i s'
        obtain ⟨g1, e1, kp1, a1, b1, c1, f1⟩ := keeps_ (k := 1) in1.1 (by omega)
        have e1' : rV m_X8_passesAll [.ref 47, .int 1, .int 1] (wI g' 47 14 0) = some g1 := e1
        rw [e1', bnd] at r'
        have i1 : IM g1 (bNl A) := by
          obtain ⟨a1', a2, a3, a4, a5, a6, a7, a8, a9⟩ := in1
          refine ⟨RM_of (fun c _ _ => b1 c (by omega) (by omega)) (c1 22 (by omega) (by omega)) (c1 8 (by omega) (by omega)) (c1 9 (by omega) (by omega)) a1', ?_, fun q => KP_of (fun p _ _ => f1 p (by omega)) (a3 q), ?_, ?_, fun i hi => absurd hi (Nat.not_lt_zero i), ?_, ?_, ?_⟩
          · rw [c1 19 (by omega) (by omega)]; exact a2
          · rw [b1 61 (by omega) (by omega)]; exact a4
          · rw [c1 14 (by omega) (by omega)]; exact a5
          · rw [c1 34 (by omega) (by omega)]; exact a7
          · rw [b1 65 (by omega) (by omega)]; exact a8
          · rw [b1 48 (by omega) (by omega)]; exact a9
        obtain ⟨g2, e2, i2, f2⟩ := comes_ (A := bNl A) hcl n96 d5 d4 in1.1.1 K' 0 g1 (by omega) i1 kp1 (fun j hj => by
          rw [b1 57 (by omega) (by omega), b1 58 (by omega) (by omega), b1 59 (by omega) (by omega), wI_ne (by omega), wI_ne (by omega), wI_ne (by omega)]
          exact d6 j hj) (by
          rw [c1 16 (by omega) (by omega)]
          simp (disch := omega) only [wI_at, upd_ne]
          exact d2.2.2.2.2.2.1)
        rw [fS_nl] at e2 i2
        refine ⟨g2, rI_of ((e_X8_street_0 h1).trans (r'.trans e2)), i2, ?_, fun c hc => ?_⟩
        · rw [f2.1, a1]; exact fm1.1
        · rw [f2.2 c hc, b1 c (by omega) (by omega)]; exact fm1.2 c hc
      have se := sens_ (A := A) t c5 c4 K 0 (by omega) hW oa
      have kp := pos_ge c5
      rw [e] at fa
      have fa1 : rI m_X3_senselessAt [.ref 36, .int (nI (zW (bS A))), .int (nI (zT (bS A)))] h = some (ansF (cg (bLn A) (bL A)) (fS (cg (bLn A) (bL A)) A K 0), h) := rI_of ((e_X3_senselessAt_0 _ _ h).trans se)
      have fa' : ax_run m_X3_fault 0 [(0, .ref 36), (1, .int (nI (zW (bS A)))), (2, .int (nI (zT (bS A))))] [] h = _ := fa.trans (if_pos (show opI none < 0 by decide))
      rw [fa1, bnd] at fa'
      cases ef : fS (cg (bLn A) (bL A)) A K 0 with
      | none =>
        rw [ef] at fa'
        have fa2 : rI m_X3_fault [.ref 36, .int (nI (zW (bS A))), .int (nI (zT (bS A)))] h = some (0, h) := rI_of (fa'.trans (if_pos (show (-9 : Int32) < 0 by decide)))
        rw [fa2, bnd] at st
        obtain ⟨h2, e2, i2, o2, f2⟩ := tells_ (A := A) n96 ht c5 c4 K 0 h (by omega) t oa ic ef
        refine OP_of (A := A) (B := bNl (sqA (cg (bLn A) (bL A)) A K)) (v := nI K) (okA_nl o2) im ⟨_, rI_of (st.trans e2), IC_nl i2, f2.1, fun k hk => (wI_ne (by omega)).trans (f2.2 k hk)⟩ (fun h1 i => ?_)
        obtain ⟨g2, e3, i3, f3⟩ := model h1 i
        rw [ef] at e3 i3
        refine ⟨g2, e3, ?_, f3⟩
        rw [← sqA_nl]
        exact i3
      | some j =>
        have hj : j < K := by
          have : ∀ d k j, fS (cg (bLn A) (bL A)) A d k = some j → j < k + d := by
            intro d
            induction d with
            | zero => intro k j h; exact absurd h (by simp [fS])
            | succ d ih =>
              intro k j h
              simp only [fS] at h
              split at h
              · have := ih _ _ h; omega
              · injection h with h; omega
          have := this K 0 j ef
          omega
        have hpj := (c5 j hj).1
        obtain ⟨u1, u2, u3⟩ := nI_far (a := 0) (b := pos (cg (bLn A) (bL A)) j) (by omega) _ rfl
        rw [ef] at fa'
        have fa2 : rI m_X3_fault [.ref 36, .int (nI (zW (bS A))), .int (nI (zT (bS A)))] h = some (-2000 - nI (pos (cg (bLn A) (bL A)) j), h) := rI_of (fa'.trans (if_neg (fun y => u1 y)))
        rw [fa2, bnd] at st
        refine OP_of (A := A) (B := bNl A) (v := -2000 - nI (pos (cg (bLn A) (bL A)) j)) (okA_nl oa) im ⟨_, rI_of (st.trans (street29_no u3)), IC_nl ic, rfl, fun k hk => wI_ne (by omega)⟩ (fun h1 i => ?_)
        obtain ⟨g2, e3, i3, f3⟩ := model h1 i
        rw [ef] at e3 i3
        exact ⟨g2, e3, i3, f3⟩
