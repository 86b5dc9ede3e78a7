/-! the law's loop: both answer alike at every step -/
noncomputable def lawAt (pc i : Nat) (h : ax_Hp) : Option ax_Rs := ax_run m_L_law pc [(0, .ref 66), (1, .ref 0), (2, .ref 47), (3, .int (nI i))] [] h
/-- on to the next step, both in one state -/
def Nx (o : Option ax_Rs) (i : Nat) (h : ax_Hp) : Prop := ∃ (h2 : ax_Hp) (B : Ab), o = lawAt 18 (i + 5) h2 ∧ okA B ∧ IC h2 B ∧ IM h2 B ∧ h2.2.2 = h.2.2
theorem iteNx {c : Prop} [Decidable c] {a b : Option ax_Rs} {i : Nat} {h : ax_Hp} (ha : Nx a i h) (hb : Nx b i h) : Nx (if c then a else b) i h := by
  by_cases q : c
  · rw [if_pos q]; exact ha
  · rw [if_neg q]; exact hb
theorem law_next (i : Nat) (h : ax_Hp) : ax_run m_L_law 1509 [(0, .ref 66), (1, .ref 0), (2, .ref 47), (3, .int (nI i))] [] h = lawAt 18 (i + 5) h := by
  rw [q_L_law_1509, show (5 : Int32) = nI 5 from rfl, add_]
  rfl
theorem cmp_self (x : Int64) : lg_cmp x x = 0 := by
  simp [lg_cmp]
section
variable {h : ax_Hp} {A : Ab} {i : Nat}
theorem law_letter (oa : okA A) (ic : IC h A) (im : IM h A) (hL : h.2.2.1 ≤ 2560) (hi : i + 5 ≤ h.2.2.1) : Nx (lawAt 224 i h) i h := by
  obtain ⟨v, h1, h2, B, e1, e2, ob, ic2, im2, s1, s2⟩ := op_letter oa ic im (h.2.2.2 (nI (i + 1)).toNatClampNeg)
  have E := q_L_law_224 (nI i) h
  rw [show (1 : Int32) = nI 1 from rfl] at E
  simp (disch := omega) only [add_, g_in] at E
  rw [e1, bnd] at E
  rw [s1] at E
  simp (disch := omega) only [g_in] at E
  rw [e2, bnd, if_pos rfl, law_next] at E
  exact ⟨h2, B, E, ob, ic2, im2, s2⟩
theorem law_street (oa : okA A) (ic : IC h A) (im : IM h A) (hL : h.2.2.1 ≤ 2560) (hi : i + 5 ≤ h.2.2.1) : Nx (lawAt 247 i h) i h := by
  obtain ⟨v, h1, h2, B, e1, e2, ob, ic2, im2, s1, s2⟩ := op_street oa ic im 
  have E := q_L_law_247 (nI i) h
  rw [e1, bnd] at E
  rw [e2, bnd, if_pos rfl, law_next] at E
  exact ⟨h2, B, E, ob, ic2, im2, s2⟩
theorem law_wall (oa : okA A) (ic : IC h A) (im : IM h A) (hL : h.2.2.1 ≤ 2560) (hi : i + 5 ≤ h.2.2.1) : Nx (lawAt 260 i h) i h := by
  obtain ⟨v, h1, h2, B, e1, e2, ob, ic2, im2, s1, s2⟩ := op_wall oa ic im (h.2.2.2 (nI (i + 1)).toNatClampNeg) (h.2.2.2 (nI (i + 2)).toNatClampNeg)
  have E := q_L_law_260 (nI i) h
  rw [show (1 : Int32) = nI 1 from rfl, show (2 : Int32) = nI 2 from rfl] at E
  simp (disch := omega) only [add_, g_in] at E
  rw [e1, bnd] at E
  rw [s1] at E
  simp (disch := omega) only [g_in] at E
  rw [e2, bnd, if_pos rfl, law_next] at E
  exact ⟨h2, B, E, ob, ic2, im2, s2⟩
theorem law_house (oa : okA A) (ic : IC h A) (im : IM h A) (hL : h.2.2.1 ≤ 2560) (hi : i + 5 ≤ h.2.2.1) : Nx (lawAt 293 i h) i h := by
  obtain ⟨v, h1, h2, B, e1, e2, ob, ic2, im2, s1, s2⟩ := op_house oa ic im (h.2.2.2 (nI (i + 1)).toNatClampNeg) (h.2.2.2 (nI (i + 2)).toNatClampNeg)
  have E := q_L_law_293 (nI i) h
  rw [show (1 : Int32) = nI 1 from rfl, show (2 : Int32) = nI 2 from rfl] at E
  simp (disch := omega) only [add_, g_in] at E
  rw [e1, bnd] at E
  rw [s1] at E
  simp (disch := omega) only [g_in] at E
  rw [e2, bnd, if_pos rfl, law_next] at E
  exact ⟨h2, B, E, ob, ic2, im2, s2⟩
theorem law_takes (oa : okA A) (ic : IC h A) (im : IM h A) (hL : h.2.2.1 ≤ 2560) (hi : i + 5 ≤ h.2.2.1) : Nx (lawAt 326 i h) i h := by
  obtain ⟨v, h1, h2, B, e1, e2, ob, ic2, im2, s1, s2⟩ := op_takes oa ic im (h.2.2.2 (nI (i + 1)).toNatClampNeg) (h.2.2.2 (nI (i + 2)).toNatClampNeg)
  have E := q_L_law_326 (nI i) h
  rw [show (1 : Int32) = nI 1 from rfl, show (2 : Int32) = nI 2 from rfl] at E
  simp (disch := omega) only [add_, g_in] at E
  rw [e1, bnd] at E
  rw [s1] at E
  simp (disch := omega) only [g_in] at E
  rw [e2, bnd, if_pos rfl, law_next] at E
  exact ⟨h2, B, E, ob, ic2, im2, s2⟩
theorem law_sells (oa : okA A) (ic : IC h A) (im : IM h A) (hL : h.2.2.1 ≤ 2560) (hi : i + 5 ≤ h.2.2.1) : Nx (lawAt 359 i h) i h := by
  obtain ⟨v, h1, h2, B, e1, e2, ob, ic2, im2, s1, s2⟩ := op_sells oa ic im (h.2.2.2 (nI (i + 1)).toNatClampNeg) (h.2.2.2 (nI (i + 2)).toNatClampNeg)
  have E := q_L_law_359 (nI i) h
  rw [show (1 : Int32) = nI 1 from rfl, show (2 : Int32) = nI 2 from rfl] at E
  simp (disch := omega) only [add_, g_in] at E
  rw [e1, bnd] at E
  rw [s1] at E
  simp (disch := omega) only [g_in] at E
  rw [e2, bnd, if_pos rfl, law_next] at E
  exact ⟨h2, B, E, ob, ic2, im2, s2⟩
theorem law_needs (oa : okA A) (ic : IC h A) (im : IM h A) (hL : h.2.2.1 ≤ 2560) (hi : i + 5 ≤ h.2.2.1) : Nx (lawAt 392 i h) i h := by
  obtain ⟨v, h1, h2, B, e1, e2, ob, ic2, im2, s1, s2⟩ := op_needs oa ic im (h.2.2.2 (nI (i + 1)).toNatClampNeg) (h.2.2.2 (nI (i + 2)).toNatClampNeg) (h.2.2.2 (nI (i + 3)).toNatClampNeg)
  have E := q_L_law_392 (nI i) h
  rw [show (1 : Int32) = nI 1 from rfl, show (2 : Int32) = nI 2 from rfl, show (3 : Int32) = nI 3 from rfl] at E
  simp (disch := omega) only [add_, g_in] at E
  rw [e1, bnd] at E
  rw [s1] at E
  simp (disch := omega) only [g_in] at E
  rw [e2, bnd, if_pos rfl, law_next] at E
  exact ⟨h2, B, E, ob, ic2, im2, s2⟩
theorem law_bars (oa : okA A) (ic : IC h A) (im : IM h A) (hL : h.2.2.1 ≤ 2560) (hi : i + 5 ≤ h.2.2.1) : Nx (lawAt 435 i h) i h := by
  obtain ⟨v, h1, h2, B, e1, e2, ob, ic2, im2, s1, s2⟩ := op_bars oa ic im (h.2.2.2 (nI (i + 1)).toNatClampNeg) (h.2.2.2 (nI (i + 2)).toNatClampNeg)
  have E := q_L_law_435 (nI i) h
  rw [show (1 : Int32) = nI 1 from rfl, show (2 : Int32) = nI 2 from rfl] at E
  simp (disch := omega) only [add_, g_in] at E
  rw [e1, bnd] at E
  rw [s1] at E
  simp (disch := omega) only [g_in] at E
  rw [e2, bnd, if_pos rfl, law_next] at E
  exact ⟨h2, B, E, ob, ic2, im2, s2⟩
theorem law_turn (oa : okA A) (ic : IC h A) (im : IM h A) (hL : h.2.2.1 ≤ 2560) (hi : i + 5 ≤ h.2.2.1) : Nx (lawAt 468 i h) i h := by
  obtain ⟨v, h1, h2, B, e1, e2, ob, ic2, im2, s1, s2⟩ := op_turn oa ic im (h.2.2.2 (nI (i + 1)).toNatClampNeg) (h.2.2.2 (nI (i + 2)).toNatClampNeg) (h.2.2.2 (nI (i + 3)).toNatClampNeg)
  have E := q_L_law_468 (nI i) h
  rw [show (1 : Int32) = nI 1 from rfl, show (2 : Int32) = nI 2 from rfl, show (3 : Int32) = nI 3 from rfl] at E
  simp (disch := omega) only [add_, g_in] at E
  rw [e1, bnd] at E
  rw [s1] at E
  simp (disch := omega) only [g_in] at E
  rw [e2, bnd, if_pos rfl, law_next] at E
  exact ⟨h2, B, E, ob, ic2, im2, s2⟩
theorem law_hours (oa : okA A) (ic : IC h A) (im : IM h A) (hL : h.2.2.1 ≤ 2560) (hi : i + 5 ≤ h.2.2.1) : Nx (lawAt 511 i h) i h := by
  obtain ⟨v, h1, h2, B, e1, e2, ob, ic2, im2, s1, s2⟩ := op_hours oa ic im (h.2.2.2 (nI (i + 1)).toNatClampNeg)
  have E := q_L_law_511 (nI i) h
  rw [show (1 : Int32) = nI 1 from rfl] at E
  simp (disch := omega) only [add_, g_in] at E
  rw [e1, bnd] at E
  rw [s1] at E
  simp (disch := omega) only [g_in] at E
  rw [e2, bnd, if_pos rfl, law_next] at E
  exact ⟨h2, B, E, ob, ic2, im2, s2⟩
theorem law_atThen (oa : okA A) (ic : IC h A) (im : IM h A) (hL : h.2.2.1 ≤ 2560) (hi : i + 5 ≤ h.2.2.1) : Nx (lawAt 534 i h) i h := by
  obtain ⟨v, h1, h2, B, e1, e2, ob, ic2, im2, s1, s2⟩ := op_atThen oa ic im (h.2.2.2 (nI (i + 1)).toNatClampNeg) (h.2.2.2 (nI (i + 2)).toNatClampNeg)
  have E := q_L_law_534 (nI i) h
  rw [show (1 : Int32) = nI 1 from rfl, show (2 : Int32) = nI 2 from rfl] at E
  simp (disch := omega) only [add_, g_in] at E
  rw [e1, bnd] at E
  rw [s1] at E
  simp (disch := omega) only [g_in] at E
  rw [e2, bnd, if_pos rfl, law_next] at E
  exact ⟨h2, B, E, ob, ic2, im2, s2⟩
theorem law_lacksThen (oa : okA A) (ic : IC h A) (im : IM h A) (hL : h.2.2.1 ≤ 2560) (hi : i + 5 ≤ h.2.2.1) : Nx (lawAt 567 i h) i h := by
  obtain ⟨v, h1, h2, B, e1, e2, ob, ic2, im2, s1, s2⟩ := op_lacksThen oa ic im (h.2.2.2 (nI (i + 1)).toNatClampNeg) (h.2.2.2 (nI (i + 2)).toNatClampNeg)
  have E := q_L_law_567 (nI i) h
  rw [show (1 : Int32) = nI 1 from rfl, show (2 : Int32) = nI 2 from rfl] at E
  simp (disch := omega) only [add_, g_in] at E
  rw [e1, bnd] at E
  rw [s1] at E
  simp (disch := omega) only [g_in] at E
  rw [e2, bnd, if_pos rfl, law_next] at E
  exact ⟨h2, B, E, ob, ic2, im2, s2⟩
theorem law_allLack (oa : okA A) (ic : IC h A) (im : IM h A) (hL : h.2.2.1 ≤ 2560) (hi : i + 5 ≤ h.2.2.1) : Nx (lawAt 600 i h) i h := by
  obtain ⟨v, h1, h2, B, e1, e2, ob, ic2, im2, s1, s2⟩ := op_allLack oa ic im (h.2.2.2 (nI (i + 1)).toNatClampNeg)
  have E := q_L_law_600 (nI i) h
  rw [show (1 : Int32) = nI 1 from rfl] at E
  simp (disch := omega) only [add_, g_in] at E
  rw [e1, bnd] at E
  rw [s1] at E
  simp (disch := omega) only [g_in] at E
  rw [e2, bnd, if_pos rfl, law_next] at E
  exact ⟨h2, B, E, ob, ic2, im2, s2⟩
theorem law_goes (oa : okA A) (ic : IC h A) (im : IM h A) (hL : h.2.2.1 ≤ 2560) (hi : i + 5 ≤ h.2.2.1) : Nx (lawAt 623 i h) i h := by
  obtain ⟨v, h1, h2, B, e1, e2, ob, ic2, im2, s1, s2⟩ := op_goes oa ic im (h.2.2.2 (nI (i + 1)).toNatClampNeg) (h.2.2.2 (nI (i + 2)).toNatClampNeg)
  have E := q_L_law_623 (nI i) h
  rw [show (1 : Int32) = nI 1 from rfl, show (2 : Int32) = nI 2 from rfl] at E
  simp (disch := omega) only [add_, g_in] at E
  rw [e1, bnd] at E
  rw [s1] at E
  simp (disch := omega) only [g_in] at E
  rw [e2, bnd, if_pos rfl, law_next] at E
  exact ⟨h2, B, E, ob, ic2, im2, s2⟩
theorem law_shown (oa : okA A) (ic : IC h A) (im : IM h A) (hL : h.2.2.1 ≤ 2560) (hi : i + 5 ≤ h.2.2.1) : Nx (lawAt 656 i h) i h := by
  obtain ⟨v, h1, h2, B, e1, e2, ob, ic2, im2, s1, s2⟩ := op_shown oa ic im (h.2.2.2 (nI (i + 1)).toNatClampNeg)
  have E := q_L_law_656 (nI i) h
  rw [show (1 : Int32) = nI 1 from rfl] at E
  simp (disch := omega) only [add_, g_in] at E
  rw [e1, bnd] at E
  rw [s1] at E
  simp (disch := omega) only [g_in] at E
  rw [e2, bnd, if_pos rfl, law_next] at E
  exact ⟨h2, B, E, ob, ic2, im2, s2⟩
theorem law_asked (oa : okA A) (ic : IC h A) (im : IM h A) (hL : h.2.2.1 ≤ 2560) (hi : i + 5 ≤ h.2.2.1) : Nx (lawAt 679 i h) i h := by
  obtain ⟨v, h1, h2, B, e1, e2, ob, ic2, im2, s1, s2⟩ := op_asked oa ic im 
  have E := q_L_law_679 (nI i) h
  rw [e1, bnd] at E
  rw [e2, bnd, if_pos rfl, law_next] at E
  exact ⟨h2, B, E, ob, ic2, im2, s2⟩
theorem law_coughs (oa : okA A) (ic : IC h A) (im : IM h A) (hL : h.2.2.1 ≤ 2560) (hi : i + 5 ≤ h.2.2.1) : Nx (lawAt 692 i h) i h := by
  obtain ⟨v, h1, h2, B, e1, e2, ob, ic2, im2, s1, s2⟩ := op_coughs oa ic im (h.2.2.2 (nI (i + 1)).toNatClampNeg) (h.2.2.2 (nI (i + 2)).toNatClampNeg) (h.2.2.2 (nI (i + 3)).toNatClampNeg)
  have E := q_L_law_692 (nI i) h
  rw [show (1 : Int32) = nI 1 from rfl, show (2 : Int32) = nI 2 from rfl, show (3 : Int32) = nI 3 from rfl] at E
  simp (disch := omega) only [add_, g_in] at E
  rw [e1, bnd] at E
  rw [s1] at E
  simp (disch := omega) only [g_in] at E
  rw [e2, bnd, if_pos rfl, law_next] at E
  exact ⟨h2, B, E, ob, ic2, im2, s2⟩
theorem law_lend (oa : okA A) (ic : IC h A) (im : IM h A) (hL : h.2.2.1 ≤ 2560) (hi : i + 5 ≤ h.2.2.1) : Nx (lawAt 735 i h) i h := by
  obtain ⟨v, h1, h2, B, e1, e2, ob, ic2, im2, s1, s2⟩ := op_lend oa ic im (h.2.2.2 (nI (i + 1)).toNatClampNeg)
  have E := q_L_law_735 (nI i) h
  rw [show (1 : Int32) = nI 1 from rfl] at E
  simp (disch := omega) only [add_, g_in] at E
  rw [e1, bnd] at E
  rw [s1] at E
  simp (disch := omega) only [g_in] at E
  rw [e2, bnd, if_pos rfl, law_next] at E
  exact ⟨h2, B, E, ob, ic2, im2, s2⟩
theorem law_close (oa : okA A) (ic : IC h A) (im : IM h A) (hL : h.2.2.1 ≤ 2560) (hi : i + 5 ≤ h.2.2.1) : Nx (lawAt 758 i h) i h := by
  obtain ⟨v, h1, h2, B, e1, e2, ob, ic2, im2, s1, s2⟩ := op_close oa ic im (h.2.2.2 (nI (i + 1)).toNatClampNeg) (h.2.2.2 (nI (i + 2)).toNatClampNeg)
  have E := q_L_law_758 (nI i) h
  rw [show (1 : Int32) = nI 1 from rfl, show (2 : Int32) = nI 2 from rfl] at E
  simp (disch := omega) only [add_, g_in] at E
  rw [e1, bnd] at E
  rw [s1] at E
  simp (disch := omega) only [g_in] at E
  rw [e2, bnd, if_pos rfl, law_next] at E
  exact ⟨h2, B, E, ob, ic2, im2, s2⟩
theorem law_split (oa : okA A) (ic : IC h A) (im : IM h A) (hL : h.2.2.1 ≤ 2560) (hi : i + 5 ≤ h.2.2.1) : Nx (lawAt 791 i h) i h := by
  obtain ⟨v, h1, h2, B, e1, e2, ob, ic2, im2, s1, s2⟩ := op_split oa ic im (h.2.2.2 (nI (i + 1)).toNatClampNeg) (h.2.2.2 (nI (i + 2)).toNatClampNeg) (h.2.2.2 (nI (i + 3)).toNatClampNeg)
  have E := q_L_law_791 (nI i) h
  rw [show (1 : Int32) = nI 1 from rfl, show (2 : Int32) = nI 2 from rfl, show (3 : Int32) = nI 3 from rfl] at E
  simp (disch := omega) only [add_, g_in] at E
  rw [e1, bnd] at E
  rw [s1] at E
  simp (disch := omega) only [g_in] at E
  rw [e2, bnd, if_pos rfl, law_next] at E
  exact ⟨h2, B, E, ob, ic2, im2, s2⟩
theorem law_spare (oa : okA A) (ic : IC h A) (im : IM h A) (hL : h.2.2.1 ≤ 2560) (hi : i + 5 ≤ h.2.2.1) : Nx (lawAt 834 i h) i h := by
  obtain ⟨v, h1, h2, B, e1, e2, ob, ic2, im2, s1, s2⟩ := op_spare oa ic im 
  have E := q_L_law_834 (nI i) h
  rw [e1, bnd] at E
  rw [e2, bnd, if_pos rfl, law_next] at E
  exact ⟨h2, B, E, ob, ic2, im2, s2⟩
theorem law_price (oa : okA A) (ic : IC h A) (im : IM h A) (hL : h.2.2.1 ≤ 2560) (hi : i + 5 ≤ h.2.2.1) : Nx (lawAt 847 i h) i h := by
  obtain ⟨v, h1, h2, B, e1, e2, ob, ic2, im2, s1, s2⟩ := op_price oa ic im (h.2.2.2 (nI (i + 1)).toNatClampNeg) (h.2.2.2 (nI (i + 2)).toNatClampNeg)
  have E := q_L_law_847 (nI i) h
  rw [show (1 : Int32) = nI 1 from rfl, show (2 : Int32) = nI 2 from rfl] at E
  simp (disch := omega) only [add_, g_in] at E
  rw [e1, bnd] at E
  rw [s1] at E
  simp (disch := omega) only [g_in] at E
  rw [e2, bnd, if_pos rfl, law_next] at E
  exact ⟨h2, B, E, ob, ic2, im2, s2⟩
theorem law_shares (oa : okA A) (ic : IC h A) (im : IM h A) (hL : h.2.2.1 ≤ 2560) (hi : i + 5 ≤ h.2.2.1) : Nx (lawAt 880 i h) i h := by
  obtain ⟨v, h1, h2, B, e1, e2, ob, ic2, im2, s1, s2⟩ := op_shares oa ic im (h.2.2.2 (nI (i + 1)).toNatClampNeg) (h.2.2.2 (nI (i + 2)).toNatClampNeg)
  have E := q_L_law_880 (nI i) h
  rw [show (1 : Int32) = nI 1 from rfl, show (2 : Int32) = nI 2 from rfl] at E
  simp (disch := omega) only [add_, g_in] at E
  rw [e1, bnd] at E
  rw [s1] at E
  simp (disch := omega) only [g_in] at E
  rw [e2, bnd, if_pos rfl, law_next] at E
  exact ⟨h2, B, E, ob, ic2, im2, s2⟩
theorem law_coldest (oa : okA A) (ic : IC h A) (im : IM h A) (hL : h.2.2.1 ≤ 2560) (hi : i + 5 ≤ h.2.2.1) : Nx (lawAt 913 i h) i h := by
  obtain ⟨v, h1, h2, B, e1, e2, ob, ic2, im2, s1, s2⟩ := op_coldest oa ic im (h.2.2.2 (nI (i + 1)).toNatClampNeg)
  have E := q_L_law_913 (nI i) h
  rw [show (1 : Int32) = nI 1 from rfl] at E
  simp (disch := omega) only [add_, g_in] at E
  rw [e1, bnd] at E
  rw [s1] at E
  simp (disch := omega) only [g_in] at E
  rw [e2, bnd, if_pos rfl, law_next] at E
  exact ⟨h2, B, E, ob, ic2, im2, s2⟩
theorem law_best (oa : okA A) (ic : IC h A) (im : IM h A) (hL : h.2.2.1 ≤ 2560) (hi : i + 5 ≤ h.2.2.1) : Nx (lawAt 936 i h) i h := by
  obtain ⟨v, h1, h2, B, e1, e2, ob, ic2, im2, s1, s2⟩ := op_best oa ic im (h.2.2.2 (nI (i + 1)).toNatClampNeg)
  have E := q_L_law_936 (nI i) h
  rw [show (1 : Int32) = nI 1 from rfl] at E
  simp (disch := omega) only [add_, g_in] at E
  rw [e1, bnd] at E
  rw [s1] at E
  simp (disch := omega) only [g_in] at E
  rw [e2, bnd, if_pos rfl, law_next] at E
  exact ⟨h2, B, E, ob, ic2, im2, s2⟩
theorem law_each (oa : okA A) (ic : IC h A) (im : IM h A) (hL : h.2.2.1 ≤ 2560) (hi : i + 5 ≤ h.2.2.1) : Nx (lawAt 959 i h) i h := by
  obtain ⟨v, h1, h2, B, e1, e2, ob, ic2, im2, s1, s2⟩ := op_each oa ic im (h.2.2.2 (nI (i + 1)).toNatClampNeg)
  have E := q_L_law_959 (nI i) h
  rw [show (1 : Int32) = nI 1 from rfl] at E
  simp (disch := omega) only [add_, g_in] at E
  rw [e1, bnd] at E
  rw [s1] at E
  simp (disch := omega) only [g_in] at E
  rw [e2, bnd, if_pos rfl, law_next] at E
  exact ⟨h2, B, E, ob, ic2, im2, s2⟩
theorem law_panes (oa : okA A) (ic : IC h A) (im : IM h A) (hL : h.2.2.1 ≤ 2560) (hi : i + 5 ≤ h.2.2.1) : Nx (lawAt 982 i h) i h := by
  obtain ⟨v, h1, h2, B, e1, e2, ob, ic2, im2, s1, s2⟩ := op_panes oa ic im (h.2.2.2 (nI (i + 1)).toNatClampNeg)
  have E := q_L_law_982 (nI i) h
  rw [show (1 : Int32) = nI 1 from rfl] at E
  simp (disch := omega) only [add_, g_in] at E
  rw [e1, bnd] at E
  rw [s1] at E
  simp (disch := omega) only [g_in] at E
  rw [e2, bnd, if_pos rfl, law_next] at E
  exact ⟨h2, B, E, ob, ic2, im2, s2⟩
theorem law_sees (oa : okA A) (ic : IC h A) (im : IM h A) (hL : h.2.2.1 ≤ 2560) (hi : i + 5 ≤ h.2.2.1) : Nx (lawAt 1005 i h) i h := by
  obtain ⟨v, h1, h2, B, e1, e2, ob, ic2, im2, s1, s2⟩ := op_sees oa ic im (h.2.2.2 (nI (i + 1)).toNatClampNeg)
  have E := q_L_law_1005 (nI i) h
  rw [show (1 : Int32) = nI 1 from rfl] at E
  simp (disch := omega) only [add_, g_in] at E
  rw [e1, bnd] at E
  rw [s1] at E
  simp (disch := omega) only [g_in] at E
  rw [e2, bnd, if_pos rfl, law_next] at E
  exact ⟨h2, B, E, ob, ic2, im2, s2⟩
theorem law_hide (oa : okA A) (ic : IC h A) (im : IM h A) (hL : h.2.2.1 ≤ 2560) (hi : i + 5 ≤ h.2.2.1) : Nx (lawAt 1028 i h) i h := by
  obtain ⟨v, h1, h2, B, e1, e2, ob, ic2, im2, s1, s2⟩ := op_hide oa ic im (h.2.2.2 (nI (i + 1)).toNatClampNeg) (h.2.2.2 (nI (i + 2)).toNatClampNeg)
  have E := q_L_law_1028 (nI i) h
  rw [show (1 : Int32) = nI 1 from rfl, show (2 : Int32) = nI 2 from rfl] at E
  simp (disch := omega) only [add_, g_in] at E
  rw [e1, bnd] at E
  rw [s1] at E
  simp (disch := omega) only [g_in] at E
  rw [e2, bnd, if_pos rfl, law_next] at E
  exact ⟨h2, B, E, ob, ic2, im2, s2⟩
theorem law_two (oa : okA A) (ic : IC h A) (im : IM h A) (hL : h.2.2.1 ≤ 2560) (hi : i + 5 ≤ h.2.2.1) : Nx (lawAt 1061 i h) i h := by
  obtain ⟨v, h1, h2, B, e1, e2, ob, ic2, im2, s1, s2⟩ := op_two oa ic im (h.2.2.2 (nI (i + 1)).toNatClampNeg) (h.2.2.2 (nI (i + 2)).toNatClampNeg) (h.2.2.2 (nI (i + 3)).toNatClampNeg)
  have E := q_L_law_1061 (nI i) h
  rw [show (1 : Int32) = nI 1 from rfl, show (2 : Int32) = nI 2 from rfl, show (3 : Int32) = nI 3 from rfl] at E
  simp (disch := omega) only [add_, g_in] at E
  rw [e1, bnd] at E
  rw [s1] at E
  simp (disch := omega) only [g_in] at E
  rw [e2, bnd, if_pos rfl, law_next] at E
  exact ⟨h2, B, E, ob, ic2, im2, s2⟩
theorem law_ways (oa : okA A) (ic : IC h A) (im : IM h A) (hL : h.2.2.1 ≤ 2560) (hi : i + 5 ≤ h.2.2.1) : Nx (lawAt 1104 i h) i h := by
  obtain ⟨v, h1, h2, B, e1, e2, ob, ic2, im2, s1, s2⟩ := op_ways oa ic im (h.2.2.2 (nI (i + 1)).toNatClampNeg) (h.2.2.2 (nI (i + 2)).toNatClampNeg) (h.2.2.2 (nI (i + 3)).toNatClampNeg)
  have E := q_L_law_1104 (nI i) h
  rw [show (1 : Int32) = nI 1 from rfl, show (2 : Int32) = nI 2 from rfl, show (3 : Int32) = nI 3 from rfl] at E
  simp (disch := omega) only [add_, g_in] at E
  rw [e1, bnd] at E
  rw [s1] at E
  simp (disch := omega) only [g_in] at E
  rw [e2, bnd, cmp_self, if_pos rfl, law_next] at E
  exact ⟨h2, B, E, ob, ic2, im2, s2⟩
theorem law_rain (oa : okA A) (ic : IC h A) (im : IM h A) (hL : h.2.2.1 ≤ 2560) (hi : i + 5 ≤ h.2.2.1) : Nx (lawAt 1148 i h) i h := by
  obtain ⟨v, h1, h2, B, e1, e2, ob, ic2, im2, s1, s2⟩ := op_rain oa ic im (h.2.2.2 (nI (i + 1)).toNatClampNeg) (h.2.2.2 (nI (i + 2)).toNatClampNeg) (h.2.2.2 (nI (i + 3)).toNatClampNeg) (h.2.2.2 (nI (i + 4)).toNatClampNeg)
  have E := q_L_law_1148 (nI i) h
  rw [show (1 : Int32) = nI 1 from rfl, show (2 : Int32) = nI 2 from rfl, show (3 : Int32) = nI 3 from rfl, show (4 : Int32) = nI 4 from rfl] at E
  simp (disch := omega) only [add_, g_in] at E
  rw [e1, bnd] at E
  rw [s1] at E
  simp (disch := omega) only [g_in] at E
  rw [e2, bnd, cmp_self, if_pos rfl, law_next] at E
  exact ⟨h2, B, E, ob, ic2, im2, s2⟩
theorem law_mean (oa : okA A) (ic : IC h A) (im : IM h A) (hL : h.2.2.1 ≤ 2560) (hi : i + 5 ≤ h.2.2.1) : Nx (lawAt 1202 i h) i h := by
  obtain ⟨v, h1, h2, B, e1, e2, ob, ic2, im2, s1, s2⟩ := op_mean oa ic im (h.2.2.2 (nI (i + 1)).toNatClampNeg)
  have E := q_L_law_1202 (nI i) h
  rw [show (1 : Int32) = nI 1 from rfl] at E
  simp (disch := omega) only [add_, g_in] at E
  rw [e1, bnd] at E
  rw [s1] at E
  simp (disch := omega) only [g_in] at E
  rw [e2, bnd, cmp_self, if_pos rfl, law_next] at E
  exact ⟨h2, B, E, ob, ic2, im2, s2⟩
theorem law_wasSeen (oa : okA A) (ic : IC h A) (im : IM h A) (hL : h.2.2.1 ≤ 2560) (hi : i + 5 ≤ h.2.2.1) : Nx (lawAt 1226 i h) i h := by
  obtain ⟨v, h1, h2, B, e1, e2, ob, ic2, im2, s1, s2⟩ := op_wasSeen oa ic im (h.2.2.2 (nI (i + 1)).toNatClampNeg) (h.2.2.2 (nI (i + 2)).toNatClampNeg) (h.2.2.2 (nI (i + 3)).toNatClampNeg)
  have E := q_L_law_1226 (nI i) h
  rw [show (1 : Int32) = nI 1 from rfl, show (2 : Int32) = nI 2 from rfl, show (3 : Int32) = nI 3 from rfl] at E
  simp (disch := omega) only [add_, g_in] at E
  rw [e1, bnd] at E
  rw [s1] at E
  simp (disch := omega) only [g_in] at E
  rw [e2, bnd, if_pos rfl, law_next] at E
  exact ⟨h2, B, E, ob, ic2, im2, s2⟩
theorem law_longest (oa : okA A) (ic : IC h A) (im : IM h A) (hL : h.2.2.1 ≤ 2560) (hi : i + 5 ≤ h.2.2.1) : Nx (lawAt 1269 i h) i h := by
  obtain ⟨v, h1, h2, B, e1, e2, ob, ic2, im2, s1, s2⟩ := op_longest oa ic im (h.2.2.2 (nI (i + 1)).toNatClampNeg)
  have E := q_L_law_1269 (nI i) h
  rw [show (1 : Int32) = nI 1 from rfl] at E
  simp (disch := omega) only [add_, g_in] at E
  rw [e1, bnd] at E
  rw [s1] at E
  simp (disch := omega) only [g_in] at E
  rw [e2, bnd, if_pos rfl, law_next] at E
  exact ⟨h2, B, E, ob, ic2, im2, s2⟩
theorem law_together (oa : okA A) (ic : IC h A) (im : IM h A) (hL : h.2.2.1 ≤ 2560) (hi : i + 5 ≤ h.2.2.1) : Nx (lawAt 1292 i h) i h := by
  obtain ⟨v, h1, h2, B, e1, e2, ob, ic2, im2, s1, s2⟩ := op_together oa ic im (h.2.2.2 (nI (i + 1)).toNatClampNeg) (h.2.2.2 (nI (i + 2)).toNatClampNeg) (h.2.2.2 (nI (i + 3)).toNatClampNeg)
  have E := q_L_law_1292 (nI i) h
  rw [show (1 : Int32) = nI 1 from rfl, show (2 : Int32) = nI 2 from rfl, show (3 : Int32) = nI 3 from rfl] at E
  simp (disch := omega) only [add_, g_in] at E
  rw [e1, bnd] at E
  rw [s1] at E
  simp (disch := omega) only [g_in] at E
  rw [e2, bnd, if_pos rfl, law_next] at E
  exact ⟨h2, B, E, ob, ic2, im2, s2⟩
theorem law_whatIs (oa : okA A) (ic : IC h A) (im : IM h A) (hL : h.2.2.1 ≤ 2560) (hi : i + 5 ≤ h.2.2.1) : Nx (lawAt 1335 i h) i h := by
  obtain ⟨v, h1, h2, B, e1, e2, ob, ic2, im2, s1, s2⟩ := op_whatIs oa ic im (h.2.2.2 (nI (i + 1)).toNatClampNeg) (h.2.2.2 (nI (i + 2)).toNatClampNeg)
  have E := q_L_law_1335 (nI i) h
  rw [show (1 : Int32) = nI 1 from rfl, show (2 : Int32) = nI 2 from rfl] at E
  simp (disch := omega) only [add_, g_in] at E
  rw [e1, bnd] at E
  rw [s1] at E
  simp (disch := omega) only [g_in] at E
  rw [e2, bnd, if_pos rfl, law_next] at E
  exact ⟨h2, B, E, ob, ic2, im2, s2⟩
theorem law_row (oa : okA A) (ic : IC h A) (im : IM h A) (hL : h.2.2.1 ≤ 2560) (hi : i + 5 ≤ h.2.2.1) : Nx (lawAt 1368 i h) i h := by
  obtain ⟨v, h1, h2, B, e1, e2, ob, ic2, im2, s1, s2⟩ := op_row oa ic im (h.2.2.2 (nI (i + 1)).toNatClampNeg)
  have E := q_L_law_1368 (nI i) h
  rw [show (1 : Int32) = nI 1 from rfl] at E
  simp (disch := omega) only [add_, g_in] at E
  rw [e1, bnd] at E
  rw [s1] at E
  simp (disch := omega) only [g_in] at E
  rw [e2, bnd, if_pos rfl, law_next] at E
  exact ⟨h2, B, E, ob, ic2, im2, s2⟩
theorem law_judge (oa : okA A) (ic : IC h A) (im : IM h A) (hL : h.2.2.1 ≤ 2560) (hi : i + 5 ≤ h.2.2.1) : Nx (lawAt 1391 i h) i h := by
  obtain ⟨v, h1, h2, B, e1, e2, ob, ic2, im2, s1, s2⟩ := op_judge oa ic im 
  have E := q_L_law_1391 (nI i) h
  rw [e1, bnd] at E
  rw [e2, bnd, if_pos rfl, law_next] at E
  exact ⟨h2, B, E, ob, ic2, im2, s2⟩
theorem law_clear (oa : okA A) (ic : IC h A) (im : IM h A) (hL : h.2.2.1 ≤ 2560) (hi : i + 5 ≤ h.2.2.1) : Nx (lawAt 1404 i h) i h := by
  obtain ⟨v, h1, h2, B, e1, e2, ob, ic2, im2, s1, s2⟩ := op_clear oa ic im 
  have E := q_L_law_1404 (nI i) h
  rw [e1, bnd] at E
  rw [e2, bnd, if_pos rfl, law_next] at E
  exact ⟨h2, B, E, ob, ic2, im2, s2⟩
theorem law_lots (oa : okA A) (ic : IC h A) (im : IM h A) (hL : h.2.2.1 ≤ 2560) (hi : i + 5 ≤ h.2.2.1) : Nx (lawAt 1417 i h) i h := by
  obtain ⟨v, h1, h2, B, e1, e2, ob, ic2, im2, s1, s2⟩ := op_lots oa ic im (h.2.2.2 (nI (i + 1)).toNatClampNeg) (h.2.2.2 (nI (i + 2)).toNatClampNeg) (h.2.2.2 (nI (i + 3)).toNatClampNeg)
  have E := q_L_law_1417 (nI i) h
  rw [show (1 : Int32) = nI 1 from rfl, show (2 : Int32) = nI 2 from rfl, show (3 : Int32) = nI 3 from rfl] at E
  simp (disch := omega) only [add_, g_in] at E
  rw [e1, bnd] at E
  rw [s1] at E
  simp (disch := omega) only [g_in] at E
  rw [e2, bnd, if_pos rfl, law_next] at E
  exact ⟨h2, B, E, ob, ic2, im2, s2⟩
theorem law_image (oa : okA A) (ic : IC h A) (im : IM h A) (hL : h.2.2.1 ≤ 2560) (hi : i + 5 ≤ h.2.2.1) : Nx (lawAt 1460 i h) i h := by
  obtain ⟨v, h1, h2, B, e1, e2, ob, ic2, im2, s1, s2⟩ := op_image oa ic im 
  have E := q_L_law_1460 (nI i) h
  rw [e1, bnd] at E
  rw [e2, bnd, if_pos rfl, law_next] at E
  exact ⟨h2, B, E, ob, ic2, im2, s2⟩
theorem law_on (oa : okA A) (ic : IC h A) (im : IM h A) (hL : h.2.2.1 ≤ 2560) (hi : i + 5 ≤ h.2.2.1) : Nx (lawAt 1473 i h) i h := by
  obtain ⟨v, h1, h2, B, e1, e2, ob, ic2, im2, s1, s2⟩ := op_on oa ic im 
  have E := q_L_law_1473 (nI i) h
  rw [e1, bnd] at E
  rw [e2, bnd, if_pos rfl, law_next] at E
  exact ⟨h2, B, E, ob, ic2, im2, s2⟩
theorem law_count (oa : okA A) (ic : IC h A) (im : IM h A) (hL : h.2.2.1 ≤ 2560) (hi : i + 5 ≤ h.2.2.1) : Nx (lawAt 1486 i h) i h := by
  obtain ⟨v, h1, h2, B, e1, e2, ob, ic2, im2, s1, s2⟩ := op_count oa ic im (h.2.2.2 (nI (i + 1)).toNatClampNeg)
  have E := q_L_law_1486 (nI i) h
  rw [show (1 : Int32) = nI 1 from rfl] at E
  simp (disch := omega) only [add_, g_in] at E
  rw [e1, bnd] at E
  rw [s1] at E
  simp (disch := omega) only [g_in] at E
  rw [e2, bnd, if_pos rfl, law_next] at E
  exact ⟨h2, B, E, ob, ic2, im2, s2⟩
end
theorem law_step {h : ax_Hp} {A : Ab} {i : Nat} (oa : okA A) (ic : IC h A) (im : IM h A) (hL : h.2.2.1 ≤ 2560) (hi : i + 5 ≤ h.2.2.1) : Nx (lawAt 18 i h) i h := by
  have E := q_L_law_18 (nI i) h
  have c1 : ¬ (Int32.ofNat h.2.2.1) - 5 < nI i := by
    rw [show Int32.ofNat h.2.2.1 = nI h.2.2.1 from rfl, show (5 : Int32) = nI 5 from rfl, sub_ (by omega)]
    intro y
    have := (lt_ (a := h.2.2.1 - 5) (b := i) (by omega) (by omega)).mp y
    omega
  rw [if_neg c1, g_in (show i < h.2.2.1 by omega) _ (show h.2.2.1 < 2147483648 by omega)] at E
  have F : lawAt 18 i h = _ := E
  rw [F]
  refine iteNx (law_letter oa ic im hL hi) (iteNx (law_street oa ic im hL hi) (iteNx (law_wall oa ic im hL hi) (iteNx (law_house oa ic im hL hi) (iteNx (law_takes oa ic im hL hi) (iteNx (law_sells oa ic im hL hi) (iteNx (law_needs oa ic im hL hi) (iteNx (law_bars oa ic im hL hi) (iteNx (law_turn oa ic im hL hi) (iteNx (law_hours oa ic im hL hi) (iteNx (law_atThen oa ic im hL hi) (iteNx (law_lacksThen oa ic im hL hi) (iteNx (law_allLack oa ic im hL hi) (iteNx (law_goes oa ic im hL hi) (iteNx (law_shown oa ic im hL hi) (iteNx (law_asked oa ic im hL hi) (iteNx (law_coughs oa ic im hL hi) (iteNx (law_lend oa ic im hL hi) (iteNx (law_close oa ic im hL hi) (iteNx (law_split oa ic im hL hi) (iteNx (law_spare oa ic im hL hi) (iteNx (law_price oa ic im hL hi) (iteNx (law_shares oa ic im hL hi) (iteNx (law_coldest oa ic im hL hi) (iteNx (law_best oa ic im hL hi) (iteNx (law_each oa ic im hL hi) (iteNx (law_panes oa ic im hL hi) (iteNx (law_sees oa ic im hL hi) (iteNx (law_hide oa ic im hL hi) (iteNx (law_two oa ic im hL hi) (iteNx (law_ways oa ic im hL hi) (iteNx (law_rain oa ic im hL hi) (iteNx (law_mean oa ic im hL hi) (iteNx (law_wasSeen oa ic im hL hi) (iteNx (law_longest oa ic im hL hi) (iteNx (law_together oa ic im hL hi) (iteNx (law_whatIs oa ic im hL hi) (iteNx (law_row oa ic im hL hi) (iteNx (law_judge oa ic im hL hi) (iteNx (law_clear oa ic im hL hi) (iteNx (law_lots oa ic im hL hi) (iteNx (law_image oa ic im hL hi) (iteNx (law_on oa ic im hL hi) (iteNx (law_count oa ic im hL hi) (⟨h, A, law_next i h, oa, ic, im, rfl⟩))))))))))))))))))))))))))))))))))))))))))))
theorem law_end {h : ax_Hp} {i : Nat} (hL : h.2.2.1 ≤ 2560) (hi : h.2.2.1 < i + 5) (hi2 : i ≤ 2560) : lawAt 18 i h = some (some (.int 1), h) := by
  have E := q_L_law_18 (nI i) h
  rw [if_pos (?_), q_L_law_1515] at E
  · exact E
  · rw [show Int32.ofNat h.2.2.1 = nI h.2.2.1 from rfl]
    refine Int32.lt_iff_toInt_lt.mpr ?_
    rw [Int32.toInt_sub, nI_toInt (by omega), nI_toInt (by omega), show (5 : Int32).toInt = 5 from rfl, Int.bmod_def]
    omega
theorem law_loop : ∀ (d i : Nat) (h : ax_Hp) (A : Ab), h.2.2.1 ≤ 2560 → i ≤ 2560 → h.2.2.1 < i + 5 * d + 5 → okA A → IC h A → IM h A → ∃ h2, lawAt 18 i h = some (some (.int 1), h2) := by
  intro d
  induction d with
  | zero => intro i h A hL hi hd oa ic im; exact ⟨h, law_end hL (by omega) hi⟩
  | succ d ih =>
    intro i h A hL hi hd oa ic im
    by_cases q : h.2.2.1 < i + 5
    · exact ⟨h, law_end hL q hi⟩
    · obtain ⟨h2, B, e, ob, ic2, im2, s2⟩ := law_step oa ic im hL (i := i) (by omega)
      obtain ⟨h3, e3⟩ := ih (i + 5) h2 B (by rw [s2]; exact hL) (by omega) (by rw [s2]; omega) ob ic2 im2
      exact ⟨h3, e.trans e3⟩
