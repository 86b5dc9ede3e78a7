/-! the reference keeps its street on the tape (slot k from 93 k) and takes it back -/
def KP (h : ax_Hp) (k : Nat) (s : Sp) : Prop :=
  (∀ i, i < 7 → h.1 60 (93 * k + i) = nI (zK s i)) ∧ (∀ i, i < 7 → h.1 60 (93 * k + 7 + i) = nI (zF s i)) ∧ (∀ i, i < 7 → h.1 60 (93 * k + 14 + i) = nI (zO s i)) ∧
  (∀ i, i < 7 → h.1 60 (93 * k + 21 + i) = nI (zP s i)) ∧ (∀ i, i < 7 → h.1 60 (93 * k + 28 + i) = zL s i) ∧ (∀ j, j < 48 → h.1 60 (93 * k + 35 + j) = nI (zN s j)) ∧
  (∀ j, j < 8 → h.1 60 (93 * k + 83 + j) = zB s j) ∧ h.1 60 (93 * k + 91) = nI (zW s) ∧ h.1 60 (93 * k + 92) = nI (zT s)
theorem KP_of {h h' : ax_Hp} {k : Nat} {s : Sp} (e : ∀ p, 93 * k ≤ p → p < 93 * k + 93 → h'.1 60 p = h.1 60 p) (r : KP h k s) : KP h' k s := by
  obtain ⟨a1, a2, a3, a4, a5, a6, a7, a8, a9⟩ := r
  exact ⟨fun i hi => (e _ (by omega) (by omega)).trans (a1 i hi), fun i hi => (e _ (by omega) (by omega)).trans (a2 i hi), fun i hi => (e _ (by omega) (by omega)).trans (a3 i hi),
    fun i hi => (e _ (by omega) (by omega)).trans (a4 i hi), fun i hi => (e _ (by omega) (by omega)).trans (a5 i hi), fun i hi => (e _ (by omega) (by omega)).trans (a6 i hi),
    fun i hi => (e _ (by omega) (by omega)).trans (a7 i hi), (e _ (by omega) (by omega)).trans a8, (e _ (by omega) (by omega)).trans a9⟩
theorem RM_of {h h' : ax_Hp} {s : Sp} {w : Nat} (e : ∀ c, 49 ≤ c → c ≤ 55 → h'.1 c = h.1 c) (e2 : h'.1 47 22 = h.1 47 22) (e8 : h'.1 47 8 = h.1 47 8) (e9 : h'.1 47 9 = h.1 47 9) (r : RM h s w) : RM h' s w := by
  unfold RM at r ⊢
  rw [e 49 (by omega) (by omega), e 50 (by omega) (by omega), e 51 (by omega) (by omega), e 52 (by omega) (by omega), e 53 (by omega) (by omega), e 54 (by omega) (by omega), e 55 (by omega) (by omega), e2, e8, e9]
  exact r
theorem passOneK {h : ax_Hp} {m : Nat} (x : Int32) (h20 : h.1 47 20 = 1) (h21 : h.1 47 21 = nI m) (hm : m < 279) : rI m_X8_passOne [.ref 47, .int x] h = some (x, wI (wI h 60 m x) 47 21 (nI (m + 1))) := by
  refine rI_of ((e_X8_passOne_0 x h).trans ?_)
  simp (disch := omega) only [h20, h21, ax_10, if_false, g_in, cl_, wI_ne]
  simp only [l1, add_]
theorem passOneL {h : ax_Hp} {m : Nat} (x : Int32) (h20 : h.1 47 20 = 0) (h21 : h.1 47 21 = nI m) (hm : m < 279) : rI m_X8_passOne [.ref 47, .int x] h = some (h.1 60 m, wI h 47 21 (nI (m + 1))) := by
  refine rI_of ((e_X8_passOne_0 x h).trans ?_)
  simp (disch := omega) only [h20, h21, if_true, g_in, cl_, l1, add_]
theorem keeps_ {h : ax_Hp} {s : Sp} {w k : Nat} (r : RM h s w) (hk : k ≤ 2) :
    ∃ h', rV m_X8_passesAll [.ref 47, .int (nI k), .int 1] h = some h' ∧ KP h' k s ∧ h'.2 = h.2 ∧ (∀ c, c ≠ 47 → c ≠ 60 → h'.1 c = h.1 c) ∧ (∀ i, i ≠ 20 → i ≠ 21 → h'.1 47 i = h.1 47 i) ∧
      (∀ p, p < 93 * k ∨ 93 * k + 93 ≤ p → h'.1 60 p = h.1 60 p) := by
  have E := e_X8_passesAll_0 (nI k) 1 h
  rw [ax_gb1, show (93 : Int32) = nI 93 from rfl, mul_] at E
  obtain ⟨h1, e1, a1, b1, c1, d1, f1, g1⟩ := sto_ (q := 49) (n := 7) (m := 93 * k) e_X8_passes_0_k47_49 e_X8_passes_2_k47_49 (by omega) (by omega) (h := wI (wI h 47 21 (nI (93 * k))) 47 20 1) (by simp (disch := omega) only [wI_at, upd_at]) (by simp (disch := omega) only [wI_at, upd_at, upd_ne])
  have s1 : h1.1 47 20 = 1 := (c1 20 (by omega)).trans (by simp (disch := omega) only [wI_at, upd_at])
  obtain ⟨h2, e2, a2, b2, c2, d2, f2, g2⟩ := sto_ (q := 50) (n := 7) (m := 93 * k + 7) e_X8_passes_0_k47_50 e_X8_passes_2_k47_50 (by omega) (by omega) s1 d1
  have s2 : h2.1 47 20 = 1 := (c2 20 (by omega)).trans s1
  obtain ⟨h3, e3, a3, b3, c3, d3, f3, g3⟩ := sto_ (q := 51) (n := 7) (m := 93 * k + 7 + 7) e_X8_passes_0_k47_51 e_X8_passes_2_k47_51 (by omega) (by omega) s2 d2
  have s3 : h3.1 47 20 = 1 := (c3 20 (by omega)).trans s2
  obtain ⟨h4, e4, a4, b4, c4, d4, f4, g4⟩ := sto_ (q := 52) (n := 7) (m := 93 * k + 7 + 7 + 7) e_X8_passes_0_k47_52 e_X8_passes_2_k47_52 (by omega) (by omega) s3 d3
  have s4 : h4.1 47 20 = 1 := (c4 20 (by omega)).trans s3
  obtain ⟨h5, e5, a5, b5, c5, d5, f5, g5⟩ := sto_ (q := 53) (n := 7) (m := 93 * k + 7 + 7 + 7 + 7) e_X8_passes_0_k47_53 e_X8_passes_2_k47_53 (by omega) (by omega) s4 d4
  have s5 : h5.1 47 20 = 1 := (c5 20 (by omega)).trans s4
  obtain ⟨h6, e6, a6, b6, c6, d6, f6, g6⟩ := sto_ (q := 54) (n := 48) (m := 93 * k + 7 + 7 + 7 + 7 + 7) e_X8_passes_0_k47_54 e_X8_passes_2_k47_54 (by omega) (by omega) s5 d5
  have s6 : h6.1 47 20 = 1 := (c6 20 (by omega)).trans s5
  obtain ⟨h7, e7, a7, b7, c7, d7, f7, g7⟩ := sto_ (q := 55) (n := 8) (m := 93 * k + 7 + 7 + 7 + 7 + 7 + 48) e_X8_passes_0_k47_55 e_X8_passes_2_k47_55 (by omega) (by omega) s6 d6
  have s7 : h7.1 47 20 = 1 := (c7 20 (by omega)).trans s6
  have cell : ∀ c, c ≠ 47 → c ≠ 60 → h7.1 c = h.1 c := fun c p q => ((b7 c p q).trans ((b6 c p q).trans ((b5 c p q).trans ((b4 c p q).trans ((b3 c p q).trans ((b2 c p q).trans (b1 c p q))))))).trans (by simp (disch := omega) only [wI_ne])
  have slot : ∀ i, i ≠ 20 → i ≠ 21 → h7.1 47 i = h.1 47 i := fun i p q => ((c7 i q).trans ((c6 i q).trans ((c5 i q).trans ((c4 i q).trans ((c3 i q).trans ((c2 i q).trans (c1 i q))))))).trans (by simp (disch := omega) only [wI_at, upd_ne])
  rw [e1, bnd, e2, bnd, e3, bnd, e4, bnd, e5, bnd, e6, bnd, e7, bnd, passOneK _ s7 d7 (by omega), bnd] at E
  rw [passOneK (m := 93 * k + 7 + 7 + 7 + 7 + 7 + 48 + 8 + 1) _ (by simp (disch := omega) only [wI_at, wI_ne, upd_ne]; exact s7) (by simp (disch := omega) only [wI_at, upd_ne, upd_at]) (by omega), bnd] at E
  refine ⟨_, rV_of E, ⟨?_, ?_, ?_, ?_, ?_, ?_, ?_, ?_, ?_⟩, ?_, ?_, ?_, ?_⟩
  · intro i hi
    simp (disch := omega) only [wI_ne, wI_at, upd_ne]
    rw [g7 _ (by omega), g6 _ (by omega), g5 _ (by omega), g4 _ (by omega), g3 _ (by omega), g2 _ (by omega), f1 i hi]
    simp (disch := omega) only [wI_ne]
    exact (r.2.2.2.2.1 i hi).1
  · intro i hi
    simp (disch := omega) only [wI_ne, wI_at, upd_ne]
    rw [g7 _ (by omega), g6 _ (by omega), g5 _ (by omega), g4 _ (by omega), g3 _ (by omega), f2 i hi, b1 50 (by omega) (by omega)]
    simp (disch := omega) only [wI_ne]
    exact (r.2.2.2.2.1 i hi).2.1
  · intro i hi
    simp (disch := omega) only [wI_ne, wI_at, upd_ne]
    rw [g7 _ (by omega), g6 _ (by omega), g5 _ (by omega), g4 _ (by omega), f3 i hi, b2 51 (by omega) (by omega), b1 51 (by omega) (by omega)]
    simp (disch := omega) only [wI_ne]
    exact (r.2.2.2.2.1 i hi).2.2.1
  · intro i hi
    simp (disch := omega) only [wI_ne, wI_at, upd_ne]
    rw [g7 _ (by omega), g6 _ (by omega), g5 _ (by omega), f4 i hi, b3 52 (by omega) (by omega), b2 52 (by omega) (by omega), b1 52 (by omega) (by omega)]
    simp (disch := omega) only [wI_ne]
    exact (r.2.2.2.2.1 i hi).2.2.2.1
  · intro i hi
    simp (disch := omega) only [wI_ne, wI_at, upd_ne]
    rw [g7 _ (by omega), g6 _ (by omega), f5 i hi, b4 53 (by omega) (by omega), b3 53 (by omega) (by omega), b2 53 (by omega) (by omega), b1 53 (by omega) (by omega)]
    simp (disch := omega) only [wI_ne]
    exact (r.2.2.2.2.1 i hi).2.2.2.2
  · intro i hi
    simp (disch := omega) only [wI_ne, wI_at, upd_ne]
    rw [g7 _ (by omega), f6 i hi, b5 54 (by omega) (by omega), b4 54 (by omega) (by omega), b3 54 (by omega) (by omega), b2 54 (by omega) (by omega), b1 54 (by omega) (by omega)]
    simp (disch := omega) only [wI_ne]
    exact r.2.2.2.2.2.1 i hi
  · intro i hi
    simp (disch := omega) only [wI_ne, wI_at, upd_ne]
    rw [f7 i hi, b6 55 (by omega) (by omega), b5 55 (by omega) (by omega), b4 55 (by omega) (by omega), b3 55 (by omega) (by omega), b2 55 (by omega) (by omega), b1 55 (by omega) (by omega)]
    simp (disch := omega) only [wI_ne]
    exact r.2.2.2.2.2.2 i hi
  · simp (disch := omega) only [wI_ne, wI_at, upd_ne, upd_at]
    rw [slot 8 (by omega) (by omega)]
    exact r.2.2.1
  · simp (disch := omega) only [wI_ne, wI_at, upd_ne, upd_at]
    rw [slot 9 (by omega) (by omega)]
    exact r.2.2.2.1
  · show h7.2 = h.2
    rw [a7, a6, a5, a4, a3, a2, a1]
    rfl
  · intro c p q
    simp (disch := omega) only [wI_ne]
    exact cell c p q
  · intro i p q
    by_cases e8 : i = 8
    · subst e8
      simp (disch := omega) only [wI_ne, wI_at, upd_ne, upd_at]
      exact slot 8 p q
    · by_cases e9 : i = 9
      · subst e9
        simp (disch := omega) only [wI_ne, wI_at, upd_ne, upd_at]
        exact slot 9 p q
      · simp (disch := omega) only [wI_ne, wI_at, upd_ne]
        exact slot i p q
  · intro p hp
    simp (disch := omega) only [wI_ne, wI_at, upd_ne]
    rw [g7 _ (by omega), g6 _ (by omega), g5 _ (by omega), g4 _ (by omega), g3 _ (by omega), g2 _ (by omega), g1 _ (by omega)]
    simp (disch := omega) only [wI_ne]
theorem takes_ {h : ax_Hp} {s : Sp} {w k : Nat} (r : KP h k s) (ok : okS s) (hw : (w = 0 ∧ h.1 47 22 = 0) ∨ (w = 2 ∧ h.1 47 22 = 1)) (hk : k ≤ 2) :
    ∃ h', rV m_X8_passesAll [.ref 47, .int (nI k), .int 0] h = some h' ∧ RM h' s w ∧ h'.2 = h.2 ∧ (∀ c, c ≠ 47 → (c < 49 ∨ 55 < c) → h'.1 c = h.1 c) ∧ (∀ i, i ≠ 20 → i ≠ 21 → i ≠ 8 → i ≠ 9 → h'.1 47 i = h.1 47 i) := by
  have E := e_X8_passesAll_0 (nI k) 0 h
  rw [ax_gb0, show (93 : Int32) = nI 93 from rfl, mul_] at E
  obtain ⟨h1, e1, a1, b1, c1, d1, f1⟩ := lod_ (q := 49) (n := 7) (m := 93 * k) e_X8_passes_0_k47_49 e_X8_passes_2_k47_49 (by omega) (by omega) (h := wI (wI h 47 21 (nI (93 * k))) 47 20 0) (by simp (disch := omega) only [wI_at, upd_at]) (by simp (disch := omega) only [wI_at, upd_at, upd_ne])
  have s1 : h1.1 47 20 = 0 := (c1 20 (by omega)).trans (by simp (disch := omega) only [wI_at, upd_at])
  have t1 : h1.1 60 = h.1 60 := (b1 60 (by omega) (by omega)).trans (by simp (disch := omega) only [wI_ne])
  obtain ⟨h2, e2, a2, b2, c2, d2, f2⟩ := lod_ (q := 50) (n := 7) (m := 93 * k + 7) e_X8_passes_0_k47_50 e_X8_passes_2_k47_50 (by omega) (by omega) s1 d1
  have s2 : h2.1 47 20 = 0 := (c2 20 (by omega)).trans s1
  have t2 : h2.1 60 = h.1 60 := (b2 60 (by omega) (by omega)).trans t1
  obtain ⟨h3, e3, a3, b3, c3, d3, f3⟩ := lod_ (q := 51) (n := 7) (m := 93 * k + 7 + 7) e_X8_passes_0_k47_51 e_X8_passes_2_k47_51 (by omega) (by omega) s2 d2
  have s3 : h3.1 47 20 = 0 := (c3 20 (by omega)).trans s2
  have t3 : h3.1 60 = h.1 60 := (b3 60 (by omega) (by omega)).trans t2
  obtain ⟨h4, e4, a4, b4, c4, d4, f4⟩ := lod_ (q := 52) (n := 7) (m := 93 * k + 7 + 7 + 7) e_X8_passes_0_k47_52 e_X8_passes_2_k47_52 (by omega) (by omega) s3 d3
  have s4 : h4.1 47 20 = 0 := (c4 20 (by omega)).trans s3
  have t4 : h4.1 60 = h.1 60 := (b4 60 (by omega) (by omega)).trans t3
  obtain ⟨h5, e5, a5, b5, c5, d5, f5⟩ := lod_ (q := 53) (n := 7) (m := 93 * k + 7 + 7 + 7 + 7) e_X8_passes_0_k47_53 e_X8_passes_2_k47_53 (by omega) (by omega) s4 d4
  have s5 : h5.1 47 20 = 0 := (c5 20 (by omega)).trans s4
  have t5 : h5.1 60 = h.1 60 := (b5 60 (by omega) (by omega)).trans t4
  obtain ⟨h6, e6, a6, b6, c6, d6, f6⟩ := lod_ (q := 54) (n := 48) (m := 93 * k + 7 + 7 + 7 + 7 + 7) e_X8_passes_0_k47_54 e_X8_passes_2_k47_54 (by omega) (by omega) s5 d5
  have s6 : h6.1 47 20 = 0 := (c6 20 (by omega)).trans s5
  have t6 : h6.1 60 = h.1 60 := (b6 60 (by omega) (by omega)).trans t5
  obtain ⟨h7, e7, a7, b7, c7, d7, f7⟩ := lod_ (q := 55) (n := 8) (m := 93 * k + 7 + 7 + 7 + 7 + 7 + 48) e_X8_passes_0_k47_55 e_X8_passes_2_k47_55 (by omega) (by omega) s6 d6
  have s7 : h7.1 47 20 = 0 := (c7 20 (by omega)).trans s6
  have t7 : h7.1 60 = h.1 60 := (b7 60 (by omega) (by omega)).trans t6
  have slot : ∀ i, i ≠ 20 → i ≠ 21 → h7.1 47 i = h.1 47 i := fun i p q => ((c7 i q).trans ((c6 i q).trans ((c5 i q).trans ((c4 i q).trans ((c3 i q).trans ((c2 i q).trans (c1 i q))))))).trans (by simp (disch := omega) only [wI_at, upd_ne])
  obtain ⟨r1, r2, r3, r4, r5, r6, r7, r8, r9⟩ := r
  rw [e1, bnd, e2, bnd, e3, bnd, e4, bnd, e5, bnd, e6, bnd, e7, bnd, passOneL _ s7 d7 (by omega), bnd] at E
  rw [passOneL (m := 93 * k + 7 + 7 + 7 + 7 + 7 + 48 + 8 + 1) _ (by simp (disch := omega) only [wI_at, wI_ne, upd_ne]; exact s7) (by simp (disch := omega) only [wI_at, upd_ne, upd_at]) (by omega), bnd] at E
  refine ⟨_, rV_of E, ⟨ok, ?_, ?_, ?_, ?_, ?_, ?_⟩, ?_, ?_, ?_⟩
  · simp (disch := omega) only [wI_at, upd_ne]
    rw [slot 22 (by omega) (by omega)]
    exact hw
  · simp (disch := omega) only [wI_at, upd_ne, upd_at]
    rw [t7, ← r8]
  · simp (disch := omega) only [wI_at, wI_ne, upd_ne, upd_at]
    rw [t7, ← r9]
  · intro i hi
    simp (disch := omega) only [wI_ne]
    refine ⟨?_, ?_, ?_, ?_, ?_⟩
    · rw [b7 49 (by omega) (by omega), b6 49 (by omega) (by omega), b5 49 (by omega) (by omega), b4 49 (by omega) (by omega), b3 49 (by omega) (by omega), b2 49 (by omega) (by omega), f1 i hi]
      simp (disch := omega) only [wI_ne]
      exact r1 i hi
    · rw [b7 50 (by omega) (by omega), b6 50 (by omega) (by omega), b5 50 (by omega) (by omega), b4 50 (by omega) (by omega), b3 50 (by omega) (by omega), f2 i hi, t1]
      exact r2 i hi
    · rw [b7 51 (by omega) (by omega), b6 51 (by omega) (by omega), b5 51 (by omega) (by omega), b4 51 (by omega) (by omega), f3 i hi, t2]
      exact r3 i hi
    · rw [b7 52 (by omega) (by omega), b6 52 (by omega) (by omega), b5 52 (by omega) (by omega), f4 i hi, t3]
      exact r4 i hi
    · rw [b7 53 (by omega) (by omega), b6 53 (by omega) (by omega), f5 i hi, t4]
      exact r5 i hi
  · intro i hi
    simp (disch := omega) only [wI_ne]
    rw [b7 54 (by omega) (by omega), f6 i hi, t5]
    exact r6 i hi
  · intro i hi
    simp (disch := omega) only [wI_ne]
    rw [f7 i hi, t6]
    exact r7 i hi
  · show h7.2 = h.2
    rw [a7, a6, a5, a4, a3, a2, a1]
    rfl
  · intro c p q
    simp (disch := omega) only [wI_ne]
    exact ((b7 c p (by omega)).trans ((b6 c p (by omega)).trans ((b5 c p (by omega)).trans ((b4 c p (by omega)).trans ((b3 c p (by omega)).trans ((b2 c p (by omega)).trans (b1 c p (by omega)))))))).trans (by simp (disch := omega) only [wI_ne])
  · intro i p q p8 p9
    simp (disch := omega) only [wI_ne, wI_at, upd_ne]
    exact slot i p q
theorem minds_ {h : ax_Hp} {s : Sp} {w : Nat} (r : RM h s w) :
    ∃ h', rV m_X8_minds [.ref 47] h = some h' ∧ KP h' 2 s ∧ RM h' s w ∧ h'.2 = h.2 ∧ (∀ c, c ≠ 47 → c ≠ 60 → h'.1 c = h.1 c) ∧ (∀ i, i ≠ 20 → i ≠ 21 → h'.1 47 i = h.1 47 i) ∧ (∀ p, p < 186 → h'.1 60 p = h.1 60 p) := by
  obtain ⟨h', e, k, a, b, c, d⟩ := keeps_ (k := 2) r (by omega)
  refine ⟨h', rV_of ((e_X8_minds_0 h).trans ?_), k, RM_of (fun c _ _ => b c (by omega) (by omega)) (c 22 (by omega) (by omega)) (c 8 (by omega) (by omega)) (c 9 (by omega) (by omega)) r, a, b, c, fun p hp => d p (by omega)⟩
  rw [show (2 : Int32) = nI 2 from rfl, e, bnd]
theorem forgets_ {h : ax_Hp} {s : Sp} {w : Nat} (r : KP h 2 s) (ok : okS s) (hw : (w = 0 ∧ h.1 47 22 = 0) ∨ (w = 2 ∧ h.1 47 22 = 1)) :
    ∃ h', rV m_X8_forgets [.ref 47] h = some h' ∧ RM h' s w ∧ h'.2 = h.2 ∧ (∀ c, c ≠ 47 → (c < 49 ∨ 55 < c) → h'.1 c = h.1 c) ∧ (∀ i, i ≠ 20 → i ≠ 21 → i ≠ 8 → i ≠ 9 → h'.1 47 i = h.1 47 i) := by
  obtain ⟨h', e, k, a, b, c⟩ := takes_ (k := 2) r ok hw (by omega)
  refine ⟨h', rV_of ((e_X8_forgets_0 h).trans ?_), k, a, b, c⟩
  rw [show (2 : Int32) = nI 2 from rfl, e, bnd]
