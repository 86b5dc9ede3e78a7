/-! the state of both objects in one value; an operation of both -/
abbrev Ab : Type := Sp × (Nat × Sp) × (Nat → Int32) × (Nat × (Nat → Nat)) × (Nat × (Nat → Nat)) × (Nat → Int32)
abbrev bS (A : Ab) : Sp := A.1
abbrev bI (A : Ab) : Nat := A.2.1.1
abbrev bK (A : Ab) : Sp := A.2.1.2
abbrev bH (A : Ab) : Nat → Int32 := A.2.2.1
abbrev bLn (A : Ab) : Nat := A.2.2.2.1.1
abbrev bL (A : Ab) : Nat → Nat := A.2.2.2.1.2
abbrev bRn (A : Ab) : Nat := A.2.2.2.2.1.1
abbrev bR (A : Ab) : Nat → Nat := A.2.2.2.2.1.2
abbrev bF (A : Ab) : Nat → Int32 := A.2.2.2.2.2
def okA (A : Ab) : Prop := zT (bS A) ≤ 999 ∧ bI A ≤ 1 ∧ (bI A = 1 → zT (bK A) ≤ zT (bS A) ∧ okS (bK A)) ∧ bLn A ≤ 96 ∧ (∀ i, i < bLn A → bL A i ≤ 255) ∧ bRn A ≤ 16 ∧ (∀ i, i < bRn A → bR A i ≤ 99)
def IC (h : ax_Hp) (A : Ab) : Prop := RC h 1 (bS A) 0 ∧ h.1 0 3 = nI (bI A) ∧ (bI A = 1 → RC h 12 (bK A) 0) ∧ (∀ i, 1 ≤ i → i ≤ zT (bS A) → h.1 35 i = bH A i) ∧
  h.1 36 1 = nI (bLn A) ∧ (∀ i, i < bLn A → h.1 37 i = nI (bL A i)) ∧ h.1 38 1 = nI (bRn A) ∧ (∀ i, i < bRn A → h.1 39 i = nI (bR A i)) ∧ (∀ i, i < 7 → h.1 46 i = bF A i)
def IM (h : ax_Hp) (A : Ab) : Prop := RM h (bS A) 0 ∧ h.1 47 19 = nI (bI A) ∧ (bI A = 1 → KP h 0 (bK A)) ∧ (∀ i, 1 ≤ i → i ≤ zT (bS A) → h.1 61 i = bH A i) ∧
  h.1 47 14 = nI (bLn A) ∧ (∀ i, i < bLn A → h.1 56 i = nI (bL A i)) ∧ h.1 47 34 = nI (bRn A) ∧ (∀ i, i < bRn A → h.1 65 i = nI (bR A i)) ∧ (∀ i, i < 7 → h.1 48 i = bF A i)
def FC (h h' : ax_Hp) : Prop := h'.2.2 = h.2.2 ∧ ∀ k, 47 ≤ k → h'.1 k = h.1 k
def FM (h h' : ax_Hp) : Prop := h'.2.2 = h.2.2 ∧ ∀ k, k < 47 → h'.1 k = h.1 k
/-- a question to the class -/
def QC (h h' : ax_Hp) : Prop := h'.2.2 = h.2.2 ∧ ∀ k, k < 23 ∨ (33 < k ∧ k ≠ 44 ∧ k ≠ 45) → h'.1 k = h.1 k
/-- a question to the reference that holds s -/
def QM (h h' : ax_Hp) (s : Sp) : Prop := h'.2.2 = h.2.2 ∧ (∀ k, k < 47 → h'.1 k = h.1 k) ∧ RM h' s 0 ∧ h'.1 48 = h.1 48 ∧ h'.1 56 = h.1 56 ∧ h'.1 65 = h.1 65 ∧
  (∀ i, i = 14 ∨ i = 19 ∨ i = 34 → h'.1 47 i = h.1 47 i) ∧ (∀ p, p < 93 → h'.1 60 p = h.1 60 p) ∧ (∀ i, i ≤ zT s → h'.1 61 i = h.1 61 i)
theorem QC.refl (h : ax_Hp) : QC h h := ⟨rfl, fun _ _ => rfl⟩
theorem QC.trans {h h1 h2 : ax_Hp} (a : QC h h1) (b : QC h1 h2) : QC h h2 := ⟨b.1.trans a.1, fun k hk => (b.2 k hk).trans (a.2 k hk)⟩
theorem QC.fr {h h1 : ax_Hp} (a : Fr 23 h h1) : QC h h1 := ⟨by rw [a.1], fun k hk => a.2 k (by omega)⟩
theorem QM.refl {h : ax_Hp} {s : Sp} (r : RM h s 0) : QM h h s := ⟨rfl, fun _ _ => rfl, r, rfl, rfl, rfl, fun _ _ => rfl, fun _ _ => rfl, fun _ _ => rfl⟩
theorem QM.trans {h h1 h2 : ax_Hp} {s : Sp} (a : QM h h1 s) (b : QM h1 h2 s) : QM h h2 s := by
  obtain ⟨a1, a2, a3, a4, a5, a6, a7, a8, a9⟩ := a
  obtain ⟨b1, b2, b3, b4, b5, b6, b7, b8, b9⟩ := b
  exact ⟨b1.trans a1, fun k hk => (b2 k hk).trans (a2 k hk), b3, b4.trans a4, b5.trans a5, b6.trans a6, fun i hi => (b7 i hi).trans (a7 i hi), fun p hp => (b8 p hp).trans (a8 p hp), fun i hi => (b9 i hi).trans (a9 i hi)⟩
theorem RC_of {h h' : ax_Hp} {c : Nat} {s : Sp} {w : Nat} (e : ∀ k, c ≤ k → k ≤ c + 10 → h'.1 k = h.1 k) (r : RC h c s w) : RC h' c s w := by
  refine RC_cp (a := c) (fun j h1 h2 => e _ (by omega) (by omega)) ?_ ?_ ?_ r <;> rw [e c (by omega) (by omega)]
theorem IC_of {h h' : ax_Hp} {A : Ab} (e : ∀ k, k < 23 ∨ (33 < k ∧ k < 40) ∨ k = 46 → h'.1 k = h.1 k) (i : IC h A) : IC h' A := by
  obtain ⟨a1, a2, a3, a4, a5, a6, a7, a8, a9⟩ := i
  refine ⟨RC_of (fun k _ _ => e k (by omega)) a1, ?_, fun q => RC_of (fun k _ _ => e k (by omega)) (a3 q), ?_, ?_, ?_, ?_, ?_, ?_⟩
  · rw [e 0 (by omega)]; exact a2
  · rw [e 35 (by omega)]; exact a4
  · rw [e 36 (by omega)]; exact a5
  · rw [e 37 (by omega)]; exact a6
  · rw [e 38 (by omega)]; exact a7
  · rw [e 39 (by omega)]; exact a8
  · rw [e 46 (by omega)]; exact a9
theorem IC_QC {h h' : ax_Hp} {A : Ab} (q : QC h h') (i : IC h A) : IC h' A := IC_of (fun k hk => q.2 k (by omega)) i
theorem IC_FM {h h' : ax_Hp} {A : Ab} (q : FM h h') (i : IC h A) : IC h' A := IC_of (fun k hk => q.2 k (by omega)) i
theorem IM_FC {h h' : ax_Hp} {A : Ab} (q : FC h h') (i : IM h A) : IM h' A := by
  obtain ⟨a1, a2, a3, a4, a5, a6, a7, a8, a9⟩ := i
  refine ⟨RM_of (fun k _ _ => q.2 k (by omega)) (by rw [q.2 47 (by omega)]) (by rw [q.2 47 (by omega)]) (by rw [q.2 47 (by omega)]) a1, ?_, fun t => KP_of (fun p _ _ => by rw [q.2 60 (by omega)]) (a3 t), ?_, ?_, ?_, ?_, ?_, ?_⟩
  · rw [q.2 47 (by omega)]; exact a2
  · rw [q.2 61 (by omega)]; exact a4
  · rw [q.2 47 (by omega)]; exact a5
  · rw [q.2 56 (by omega)]; exact a6
  · rw [q.2 47 (by omega)]; exact a7
  · rw [q.2 65 (by omega)]; exact a8
  · rw [q.2 48 (by omega)]; exact a9
theorem IM_QM {h h' : ax_Hp} {A : Ab} (q : QM h h' (bS A)) (i : IM h A) : IM h' A := by
  obtain ⟨a1, a2, a3, a4, a5, a6, a7, a8, a9⟩ := i
  obtain ⟨b1, b2, b3, b4, b5, b6, b7, b8, b9⟩ := q
  refine ⟨b3, ?_, fun t => KP_of (fun p _ _ => b8 p (by omega)) (a3 t), fun i h1 h2 => (b9 i h2).trans (a4 i h1 h2), ?_, ?_, ?_, ?_, ?_⟩
  · rw [b7 19 (by omega)]; exact a2
  · rw [b7 14 (by omega)]; exact a5
  · rw [b5]; exact a6
  · rw [b7 34 (by omega)]; exact a7
  · rw [b6]; exact a8
  · rw [b4]; exact a9
/-- both answer the same, and agree behind it -/
def OP (z y : Nat) (as : List Value) (h : ax_Hp) : Prop := ∃ (v : Int32) (h1 h2 : ax_Hp) (B : Ab), rI z (.ref 0 :: as) h = some (v, h1) ∧ rI y (.ref 47 :: as) h1 = some (v, h2) ∧ okA B ∧ IC h2 B ∧ IM h2 B ∧ h1.2.2 = h.2.2 ∧ h2.2.2 = h.2.2
def OPL (z y : Nat) (as : List Value) (h : ax_Hp) : Prop := ∃ (v : Int64) (h1 h2 : ax_Hp) (B : Ab), rL z (.ref 0 :: as) h = some (v, h1) ∧ rL y (.ref 47 :: as) h1 = some (v, h2) ∧ okA B ∧ IC h2 B ∧ IM h2 B ∧ h1.2.2 = h.2.2 ∧ h2.2.2 = h.2.2
section
variable {z y : Nat} {as : List Value} {h : ax_Hp} {A : Ab}
theorem OP_of {v : Int32} {B : Ab} (ob : okA B) (im : IM h A) (c : ∃ h1, rI z (.ref 0 :: as) h = some (v, h1) ∧ IC h1 B ∧ FC h h1) (m : ∀ h1, IM h1 A → ∃ h2, rI y (.ref 47 :: as) h1 = some (v, h2) ∧ IM h2 B ∧ FM h1 h2) : OP z y as h := by
  obtain ⟨h1, e1, i1, f1⟩ := c
  obtain ⟨h2, e2, i2, f2⟩ := m h1 (IM_FC f1 im)
  exact ⟨v, h1, h2, B, e1, e2, ob, IC_FM f2 i1, i2, f1.1, f2.1.trans f1.1⟩
theorem OP_q {v : Int32} (oa : okA A) (ic : IC h A) (im : IM h A) (c : ∃ h1, rI z (.ref 0 :: as) h = some (v, h1) ∧ QC h h1) (m : ∀ h1, IM h1 A → ∃ h2, rI y (.ref 47 :: as) h1 = some (v, h2) ∧ QM h1 h2 (bS A)) : OP z y as h := by
  obtain ⟨h1, e1, q1⟩ := c
  refine OP_of oa im ⟨h1, e1, IC_QC q1 ic, q1.1, fun k hk => q1.2 k (by omega)⟩ (fun h1 i => ?_)
  obtain ⟨h2, e2, q2⟩ := m h1 i
  exact ⟨h2, e2, IM_QM q2 i, q2.1, q2.2.1⟩
theorem OPL_of {v : Int64} {B : Ab} (ob : okA B) (im : IM h A) (c : ∃ h1, rL z (.ref 0 :: as) h = some (v, h1) ∧ IC h1 B ∧ FC h h1) (m : ∀ h1, IM h1 A → ∃ h2, rL y (.ref 47 :: as) h1 = some (v, h2) ∧ IM h2 B ∧ FM h1 h2) : OPL z y as h := by
  obtain ⟨h1, e1, i1, f1⟩ := c
  obtain ⟨h2, e2, i2, f2⟩ := m h1 (IM_FC f1 im)
  exact ⟨v, h1, h2, B, e1, e2, ob, IC_FM f2 i1, i2, f1.1, f2.1.trans f1.1⟩
theorem OPL_q {v : Int64} (oa : okA A) (ic : IC h A) (im : IM h A) (c : ∃ h1, rL z (.ref 0 :: as) h = some (v, h1) ∧ QC h h1) (m : ∀ h1, IM h1 A → ∃ h2, rL y (.ref 47 :: as) h1 = some (v, h2) ∧ QM h1 h2 (bS A)) : OPL z y as h := by
  obtain ⟨h1, e1, q1⟩ := c
  refine OPL_of oa im ⟨h1, e1, IC_QC q1 ic, q1.1, fun k hk => q1.2 k (by omega)⟩ (fun h1 i => ?_)
  obtain ⟨h2, e2, q2⟩ := m h1 i
  exact ⟨h2, e2, IM_QM q2 i, q2.1, q2.2.1⟩
end
/-! refusals -/
def bNo (A : Ab) (k : Nat) : Ab := (A.1, A.2.1, A.2.2.1, A.2.2.2.1, A.2.2.2.2.1, upd (bF A) k (bF A k + 1))
theorem IC_no {h : ax_Hp} {A : Ab} {k : Nat} (hk : k < 7) (i : IC h A) : IC (wI h 46 k (h.1 46 k + 1)) (bNo A k) := by
  have j := IC_of (A := (A.1, A.2.1, A.2.2.1, A.2.2.2.1, A.2.2.2.2.1, h.1 46)) (h := h) (h' := h) (fun _ _ => rfl) ⟨i.1, i.2.1, i.2.2.1, i.2.2.2.1, i.2.2.2.2.1, i.2.2.2.2.2.1, i.2.2.2.2.2.2.1, i.2.2.2.2.2.2.2.1, fun _ _ => rfl⟩
  obtain ⟨a1, a2, a3, a4, a5, a6, a7, a8, a9⟩ := i
  refine ⟨RC_of (fun c _ _ => wI_ne (by omega)) a1, ?_, fun q => RC_of (fun c _ _ => wI_ne (by omega)) (a3 q), ?_, ?_, ?_, ?_, ?_, ?_⟩ <;> simp (disch := omega) only [wI_ne, wI_at] <;> try assumption
  intro i hi
  show upd (h.1 46) k _ i = upd (bF A) k (bF A k + 1) i
  by_cases e : i = k
  · rw [e, upd_at, upd_at, a9 k hk]
  · rw [upd_ne e, upd_ne e]; exact a9 i hi
theorem IM_no {h : ax_Hp} {A : Ab} {k : Nat} (hk : k < 7) (i : IM h A) : IM (wI h 48 k (h.1 48 k + 1)) (bNo A k) := by
  obtain ⟨a1, a2, a3, a4, a5, a6, a7, a8, a9⟩ := i
  refine ⟨RM_of (fun c _ _ => wI_ne (by omega)) (by rw [wI_ne (by omega)]) (by rw [wI_ne (by omega)]) (by rw [wI_ne (by omega)]) a1, ?_, fun q => KP_of (fun p _ _ => by rw [wI_ne (by omega)]) (a3 q), ?_, ?_, ?_, ?_, ?_, ?_⟩ <;> simp (disch := omega) only [wI_ne, wI_at] <;> try assumption
  intro i hi
  show upd (h.1 48) k _ i = upd (bF A) k (bF A k + 1) i
  by_cases e : i = k
  · rw [e, upd_at, upd_at, a9 k hk]
  · rw [upd_ne e, upd_ne e]; exact a9 i hi
section
variable {z y : Nat} {as : List Value} {h : ax_Hp} {A : Ab}
theorem OP_no {x : Int32} (k : Nat) (hk : k < 7) (oa : okA A) (ic : IC h A) (im : IM h A) (c : rI z (.ref 0 :: as) h = some (x, wI h 46 k (h.1 46 k + 1))) (m : ∀ h1, IM h1 A → rI y (.ref 47 :: as) h1 = some (x, wI h1 48 k (h1.1 48 k + 1))) : OP z y as h :=
  OP_of (A := A) (B := bNo A k) oa im ⟨_, c, IC_no hk ic, rfl, fun c hc => wI_ne (by omega)⟩ (fun h1 i => ⟨_, m h1 i, IM_no hk i, rfl, fun c hc => wI_ne (by omega)⟩)
theorem OPL_no {x : Int64} (k : Nat) (hk : k < 7) (oa : okA A) (ic : IC h A) (im : IM h A) (c : rL z (.ref 0 :: as) h = some (x, wI h 46 k (h.1 46 k + 1))) (m : ∀ h1, IM h1 A → rL y (.ref 47 :: as) h1 = some (x, wI h1 48 k (h1.1 48 k + 1))) : OPL z y as h :=
  OPL_of (A := A) (B := bNo A k) oa im ⟨_, c, IC_no hk ic, rfl, fun c hc => wI_ne (by omega)⟩ (fun h1 i => ⟨_, m h1 i, IM_no hk i, rfl, fun c hc => wI_ne (by omega)⟩)
end
theorem refuse_ {x : Int32} {k : Nat} (hx : -x = nI k) (hk : k < 7) (h : ax_Hp) : rI m_X7_refuse [.ref 0, .int x] h = some (x, wI h 46 k (h.1 46 k + 1)) := by
  refine rI_of ((e_X7_refuse_0 x h).trans ?_)
  rw [hx, if_neg (nI_pos (by omega)), if_neg (fun q => by
    have := (le_ (a := 7) (b := k) (by omega) (by omega)).mp q
    omega)]
  simp (disch := omega) only [g_in, cl_]
theorem refuseM_ {x : Int32} {k : Nat} (hx : -x = nI k) (hk : k < 7) (h : ax_Hp) : rI m_X8_no [.ref 47, .int x] h = some (x, wI h 48 k (h.1 48 k + 1)) := by
  refine rI_of ((e_X8_no_0 x h).trans ?_)
  rw [hx]
  simp (disch := omega) only [g_in, cl_]
theorem no1 (h : ax_Hp) : rI m_X7_refuse [.ref 0, .int (-1)] h = some (-1, wI h 46 1 (h.1 46 1 + 1)) := refuse_ (k := 1) rfl (by omega) h
theorem no2 (h : ax_Hp) : rI m_X7_refuse [.ref 0, .int (-2)] h = some (-2, wI h 46 2 (h.1 46 2 + 1)) := refuse_ (k := 2) rfl (by omega) h
theorem no3 (h : ax_Hp) : rI m_X7_refuse [.ref 0, .int (-3)] h = some (-3, wI h 46 3 (h.1 46 3 + 1)) := refuse_ (k := 3) rfl (by omega) h
theorem no4 (h : ax_Hp) : rI m_X7_refuse [.ref 0, .int (-4)] h = some (-4, wI h 46 4 (h.1 46 4 + 1)) := refuse_ (k := 4) rfl (by omega) h
theorem no6 (h : ax_Hp) : rI m_X7_refuse [.ref 0, .int (-6)] h = some (-6, wI h 46 6 (h.1 46 6 + 1)) := refuse_ (k := 6) rfl (by omega) h
theorem mo1 (h : ax_Hp) : rI m_X8_no [.ref 47, .int (-1)] h = some (-1, wI h 48 1 (h.1 48 1 + 1)) := refuseM_ (k := 1) rfl (by omega) h
theorem mo2 (h : ax_Hp) : rI m_X8_no [.ref 47, .int (-2)] h = some (-2, wI h 48 2 (h.1 48 2 + 1)) := refuseM_ (k := 2) rfl (by omega) h
theorem mo3 (h : ax_Hp) : rI m_X8_no [.ref 47, .int (-3)] h = some (-3, wI h 48 3 (h.1 48 3 + 1)) := refuseM_ (k := 3) rfl (by omega) h
theorem mo4 (h : ax_Hp) : rI m_X8_no [.ref 47, .int (-4)] h = some (-4, wI h 48 4 (h.1 48 4 + 1)) := refuseM_ (k := 4) rfl (by omega) h
theorem mo6 (h : ax_Hp) : rI m_X8_no [.ref 47, .int (-6)] h = some (-6, wI h 48 6 (h.1 48 6 + 1)) := refuseM_ (k := 6) rfl (by omega) h
theorem lo_ {x : Int32} {k : Nat} (hx : -x = nI k) (hk : k < 7) (h : ax_Hp) : rL m_X7_refuseLong [.ref 0, .int x] h = some (4000000000000000000 - x.toInt64, wI h 46 k (h.1 46 k + 1)) := by
  refine rL_of ((e_X7_refuseLong_0 x h).trans ?_)
  rw [refuse_ hx hk, bnd]
theorem ml_ {x : Int32} {k : Nat} (hx : -x = nI k) (hk : k < 7) (h : ax_Hp) : rL m_X8_lowestOf [.ref 47, .int x] h = some (4000000000000000000 - x.toInt64, wI h 48 k (h.1 48 k + 1)) := by
  refine rL_of ((e_X8_lowestOf_0 x h).trans ?_)
  rw [hx]
  simp (disch := omega) only [g_in, cl_]
theorem lo1 (h : ax_Hp) : rL m_X7_refuseLong [.ref 0, .int (-1)] h = some (4000000000000000000 - (-1 : Int32).toInt64, wI h 46 1 (h.1 46 1 + 1)) := lo_ (k := 1) rfl (by omega) h
theorem lo2 (h : ax_Hp) : rL m_X7_refuseLong [.ref 0, .int (-2)] h = some (4000000000000000000 - (-2 : Int32).toInt64, wI h 46 2 (h.1 46 2 + 1)) := lo_ (k := 2) rfl (by omega) h
theorem lo4 (h : ax_Hp) : rL m_X7_refuseLong [.ref 0, .int (-4)] h = some (4000000000000000000 - (-4 : Int32).toInt64, wI h 46 4 (h.1 46 4 + 1)) := lo_ (k := 4) rfl (by omega) h
theorem lo6 (h : ax_Hp) : rL m_X7_refuseLong [.ref 0, .int (-6)] h = some (4000000000000000000 - (-6 : Int32).toInt64, wI h 46 6 (h.1 46 6 + 1)) := lo_ (k := 6) rfl (by omega) h
theorem ml1 (h : ax_Hp) : rL m_X8_lowestOf [.ref 47, .int (-1)] h = some (4000000000000000000 - (-1 : Int32).toInt64, wI h 48 1 (h.1 48 1 + 1)) := ml_ (k := 1) rfl (by omega) h
theorem ml2 (h : ax_Hp) : rL m_X8_lowestOf [.ref 47, .int (-2)] h = some (4000000000000000000 - (-2 : Int32).toInt64, wI h 48 2 (h.1 48 2 + 1)) := ml_ (k := 2) rfl (by omega) h
theorem ml4 (h : ax_Hp) : rL m_X8_lowestOf [.ref 47, .int (-4)] h = some (4000000000000000000 - (-4 : Int32).toInt64, wI h 48 4 (h.1 48 4 + 1)) := ml_ (k := 4) rfl (by omega) h
theorem ml6 (h : ax_Hp) : rL m_X8_lowestOf [.ref 47, .int (-6)] h = some (4000000000000000000 - (-6 : Int32).toInt64, wI h 48 6 (h.1 48 6 + 1)) := ml_ (k := 6) rfl (by omega) h
/-! bounds -/
theorem outs_ (x a b : Int32) (h : ax_Hp) : rI m_X7_outside [.int x, .int a, .int b] h = some (if a ≤ x then if x ≤ b then 0 else -6 else -4, h) := by
  refine rI_of ((e_X7_outside_0 x a b h).trans ?_)
  repeat' split
  all_goals rfl
theorem outsM_ (x a b : Int32) (h : ax_Hp) : rI m_X8_bound [.int x, .int a, .int b] h = some (if a ≤ x then if x ≤ b then 0 else -6 else -4, h) := by
  refine rI_of ((e_X8_bound_0 x a b h).trans ?_)
  repeat' split
  all_goals rfl
theorem notH_ (x : Int32) (h : ax_Hp) : rI m_X8_notHours [.int x] h = some (if 0 ≤ x then if x ≤ 60 then 0 else -6 else -4, h) := by
  refine rI_of ((e_X8_notHours_0 x h).trans ?_)
  rw [outsM_, bnd]
theorem isIn_ (x a b : Int32) (h : ax_Hp) : rI m_X8_isIn [.int x, .int a, .int b] h = some (if a ≤ x ∧ x ≤ b then 1 else 0, h) := by
  refine rI_of ((e_X8_isIn_0 x a b h).trans ?_)
  simp only [fa_lt', Int32.le_iff_toInt_le]
  repeat' split
  all_goals first | rfl | omega
theorem le7 (x : Int32) : (0 ≤ x ∧ x ≤ 7) ↔ (0 ≤ x ∧ x < 8) := by
  simp only [fa_lt', Int32.le_iff_toInt_le]
  have h7 : (7 : Int32).toInt = 7 := rfl
  have h8 : (8 : Int32).toInt = 8 := rfl
  omega
theorem isHouseM_ (x : Int32) (h : ax_Hp) : rI m_X8_isHouse [.int x] h = some (if 0 ≤ x ∧ x < 8 then 1 else 0, h) := by
  refine rI_of ((e_X8_isHouse_0 x h).trans ?_)
  rw [isIn_, bnd]
  simp only [le7]
  split
  · exact if_pos (Or.inr rfl)
  · exact if_pos (Or.inl rfl)
theorem leW (x : Int32) {n : Nat} (hn : n ≤ 7) : (0 ≤ x ∧ x ≤ nI n - 1) ↔ (0 ≤ x ∧ x < nI n) := by
  have h1 : (nI n - nI 1).toInt = (n : Int) - 1 := pk_sub_toInt (by omega) (by omega)
  have h2 : (nI n).toInt = n := nI_toInt (by omega)
  rw [l1]
  simp only [fa_lt', Int32.le_iff_toInt_le, h1, h2]
  omega
theorem isWallM_ {h : ax_Hp} {s : Sp} {w : Nat} (r : RM h s w) (x : Int32) : rI m_X8_isWall [.ref 47, .int x] h = some (if 0 ≤ x ∧ x < nI (zW s) then 1 else 0, h) := by
  refine rI_of ((e_X8_isWall_0 x h).trans ?_)
  rw [r.2.2.1, isIn_, bnd]
  simp only [leW x r.1.1]
  split
  · exact if_pos (Or.inr rfl)
  · exact if_pos (Or.inl rfl)
def twoP (a b : Int32) : Prop := (0 ≤ a ∧ a < 8) ∧ (0 ≤ b ∧ b < 8) ∧ a ≠ b
theorem areTwo_pos {a b : Int32} (t : twoP a b) (h : ax_Hp) : rI m_X7_areTwoHouses [.int a, .int b] h = some (1, h) := by
  refine rI_of ((e_X7_areTwoHouses_0 _ _ h).trans ?_)
  simp only [isHouse_, t.1, t.2.1, t.2.2, bnd, and_self, if_true, ax_10, if_false]
theorem areTwoM_pos {a b : Int32} (t : twoP a b) (h : ax_Hp) : rI m_X8_areTwo [.int a, .int b] h = some (1, h) := by
  refine rI_of ((e_X8_areTwo_0 _ _ h).trans ?_)
  simp only [isHouseM_, t.1, t.2.1, t.2.2, bnd, and_self, if_true, ax_10, if_false]
theorem areTwo_neg {a b : Int32} (t : ¬ twoP a b) (h : ax_Hp) : rI m_X7_areTwoHouses [.int a, .int b] h = some (0, h) := by
  refine rI_of ((e_X7_areTwoHouses_0 _ _ h).trans ?_)
  by_cases ha : 0 ≤ a ∧ a < 8
  · by_cases hb : 0 ≤ b ∧ b < 8
    · have hab : a = b := Classical.byContradiction fun q => t ⟨ha, hb, q⟩
      subst hab
      simp only [isHouse_, ha, bnd, and_self, if_true, ax_10, if_false]
    · simp only [isHouse_, ha, hb, bnd, and_self, if_true, ax_10, if_false]
  · simp only [isHouse_, ha, bnd, if_true, if_false]
theorem areTwoM_neg {a b : Int32} (t : ¬ twoP a b) (h : ax_Hp) : rI m_X8_areTwo [.int a, .int b] h = some (0, h) := by
  refine rI_of ((e_X8_areTwo_0 _ _ h).trans ?_)
  by_cases ha : 0 ≤ a ∧ a < 8
  · by_cases hb : 0 ≤ b ∧ b < 8
    · have hab : a = b := Classical.byContradiction fun q => t ⟨ha, hb, q⟩
      subst hab
      simp only [isHouseM_, ha, bnd, and_self, if_true, ax_10, if_false]
    · simp only [isHouseM_, ha, hb, bnd, and_self, if_true, ax_10, if_false]
  · simp only [isHouseM_, ha, bnd, if_true, if_false]
theorem two_n {a b : Int32} (t : twoP a b) : ∃ i j, i < 8 ∧ j < 8 ∧ i ≠ j ∧ a = nI i ∧ b = nI j := by
  obtain ⟨i, hi, rfl⟩ := of_in t.1.1 t.1.2 (n := 8) (by omega)
  obtain ⟨j, hj, rfl⟩ := of_in t.2.1.1 t.2.1.2 (n := 8) (by omega)
  exact ⟨i, j, hi, hj, fun e => t.2.2 (by rw [e]), rfl, rfl⟩
theorem in_n {x a b : Int32} {m n : Nat} (ha : a = nI m) (hb : b = nI n) (h1 : a ≤ x) (h2 : x ≤ b) (hmn : m ≤ n) (hn : n < 2147483647) : ∃ k, m ≤ k ∧ k ≤ n ∧ x = nI k := by
  subst ha hb
  have p1 := Int32.le_iff_toInt_le.mp h1
  have p2 := Int32.le_iff_toInt_le.mp h2
  rw [nI_toInt (by omega)] at p1 p2
  refine ⟨x.toInt.toNat, by omega, by omega, ?_⟩
  apply Int32.toInt_inj.mp
  rw [nI_toInt (by omega)]
  omega
