/-! what the reference keeps: rows to the tape of cell 60 and back -/
theorem goesM_ {h : ax_Hp} {s : Sp} {w : Nat} (r : RM h s w) (n : Nat) (hT : zT s + n < 1000000) (P : Nat → Sp) (h0 : P 0 = s) (h1 : ∀ k, P (k + 1) = zhour (P k) w) :
    ∃ h', rV m_X8_goes_ [.ref 47, .int (nI n)] h = some h' ∧ RM h' (P n) w ∧ Gh h h' ∧
      (∀ i, h'.1 61 i = if zT s < i ∧ i ≤ zT s + n ∧ i ≤ 999 then zseen (P (i - zT s)) w else h.1 61 i) := by
  have hPT : ∀ k, zT (P k) = zT s + k := by
    intro k
    induction k with
    | zero => rw [h0]; rfl
    | succ k ih => rw [h1, zhour_T, ih]; omega
  obtain ⟨h2, e2, r2, g2, p2⟩ := ex_loop (fun x h => ax_run m_X8_goes_ 2 [(0, .ref 47), (1, .int (nI n)), (2, .int x)] [] h) (fun k h' => RM h' (P k) w ∧ Gh h h' ∧ ∀ i, h'.1 61 i = if zT s < i ∧ i ≤ zT s + k ∧ i ≤ 999 then zseen (P (i - zT s)) w else h.1 61 i) n (by
    intro k a hk ⟨ra, ga, pa⟩
    obtain ⟨a', e', r', g', p', c'⟩ := goesHour_ ra (by rw [hPT]; omega)
    rw [← h1] at r' p'
    refine ⟨a', ?_, r', ga.trans g', fun i => ?_⟩
    · show ax_run m_X8_goes_ 2 _ [] a = _
      rw [e_X8_goes__2, if_neg (fun x => by
        have := (le_ (a := n) (b := k) (by omega) (by omega)).mp x
        omega), e', bnd, l1, add_]
    · rw [p', hPT]
      by_cases q : zT s + k + 1 ≤ 999
      · rw [if_pos q]
        by_cases e : i = zT s + k + 1
        · rw [e, upd_at, if_pos (by omega), show zT s + k + 1 - zT s = k + 1 by omega]
        · rw [upd_ne e, pa]
          by_cases f : zT s < i ∧ i ≤ zT s + k ∧ i ≤ 999
          · rw [if_pos f, if_pos (by omega)]
          · rw [if_neg f, if_neg (by omega)]
      · rw [if_neg q, pa]
        by_cases f : zT s < i ∧ i ≤ zT s + k ∧ i ≤ 999
        · rw [if_pos f, if_pos (by omega)]
        · rw [if_neg f, if_neg (by omega)]) h (k0 := 0) ⟨by rw [h0]; exact r, Gh.refl h, fun i => by rw [if_neg (by omega)]⟩ (by omega)
  refine ⟨h2, rV_of ((e_X8_goes__0 _ h).trans (e2.trans ?_)), r2, g2, p2⟩
  show ax_run m_X8_goes_ 2 _ [] h2 = _
  rw [e_X8_goes__2]
  exact if_pos ((le_ (a := n) (b := n) (by omega) (by omega)).mpr (Nat.le_refl _))
/-- the row of n places at cell q goes to the tape from m on -/
theorem sto_ {q n m : Nat} (E0 : ∀ h, ax_run m_X8_passes 0 [(0, .ref 47), (1, .ref q)] [] h = ax_run m_X8_passes 2 [(0, .ref 47), (1, .ref q), (2, .int 0)] [] h)
    (E : ∀ (x2 : Int32) (h : ax_Hp), ax_run m_X8_passes 2 [(0, .ref 47), (1, .ref q), (2, .int x2)] [] h = if nI n ≤ x2 then some (none, h) else if h.1 47 20 = 0 then ax_g (ax_in (h.1 47 21) 279) (ax_g (ax_in x2 n) (ax_run m_X8_passes 2 [(0, .ref 47), (1, .ref q), (2, .int (x2 + 1))] [] (wI (wI h q x2.toNatClampNeg (h.1 60 (h.1 47 21).toNatClampNeg)) 47 21 (((wI h q x2.toNatClampNeg (h.1 60 (h.1 47 21).toNatClampNeg)).1 47 21) + 1)))) else ax_g (ax_in x2 n) (ax_g (ax_in (h.1 47 21) 279) (ax_run m_X8_passes 2 [(0, .ref 47), (1, .ref q), (2, .int (x2 + 1))] [] (wI (wI h 60 (h.1 47 21).toNatClampNeg (h.1 q x2.toNatClampNeg)) 47 21 (((wI h 60 (h.1 47 21).toNatClampNeg (h.1 q x2.toNatClampNeg)).1 47 21) + 1)))))
    (hq : q ≠ 47 ∧ q ≠ 60) (hm : m + n ≤ 279) {h : ax_Hp} (h20 : h.1 47 20 = 1) (h21 : h.1 47 21 = nI m) :
    ∃ h', rV m_X8_passes [.ref 47, .ref q] h = some h' ∧ h'.2 = h.2 ∧ (∀ k, k ≠ 47 → k ≠ 60 → h'.1 k = h.1 k) ∧ (∀ i, i ≠ 21 → h'.1 47 i = h.1 47 i) ∧ h'.1 47 21 = nI (m + n) ∧
      (∀ i, i < n → h'.1 60 (m + i) = h.1 q i) ∧ (∀ p, p < m ∨ m + n ≤ p → h'.1 60 p = h.1 60 p) := by
  obtain ⟨h2, e2, a1, a2, a3, a4, a5, a6⟩ := ex_loop (fun x h => ax_run m_X8_passes 2 [(0, .ref 47), (1, .ref q), (2, .int x)] [] h) (fun k h' => h'.2 = h.2 ∧ (∀ k, k ≠ 47 → k ≠ 60 → h'.1 k = h.1 k) ∧ (∀ i, i ≠ 21 → h'.1 47 i = h.1 47 i) ∧ h'.1 47 21 = nI (m + k) ∧
      (∀ i, i < k → h'.1 60 (m + i) = h.1 q i) ∧ (∀ p, p < m ∨ m + k ≤ p → h'.1 60 p = h.1 60 p)) n (by
    intro k a hk ⟨a1, a2, a3, a4, a5, a6⟩
    have st := E (nI k) a
    rw [if_neg (fun x => by
        have := (le_ (a := n) (b := k) (by omega) (by omega)).mp x
        omega), a3 20 (by omega), h20, if_neg (by decide), a4] at st
    rw [in_nI (by omega) (by omega), in_nI (by omega) (by omega), g_true, g_true, a2 q hq.1 hq.2] at st
    simp (disch := omega) only [cl_, wI_ne, a4, l1, add_] at st
    refine ⟨_, st, a1, fun j b c => ?_, fun i b => ?_, ?_, fun i b => ?_, fun p b => ?_⟩
    · simp (disch := omega) only [wI_ne]; exact a2 j b c
    · simp (disch := omega) only [wI_ne, wI_at, upd_ne]; exact a3 i b
    · simp (disch := omega) only [wI_at, upd_at]; rfl
    · simp (disch := omega) only [wI_ne, wI_at]
      by_cases e : i = k
      · rw [e, upd_at]
      · rw [upd_ne (by omega)]; exact a5 i (by omega)
    · simp (disch := omega) only [wI_ne, wI_at, upd_ne]; exact a6 p (by omega)) h (k0 := 0) ⟨rfl, fun _ _ _ => rfl, fun _ _ => rfl, h21, fun i b => by omega, fun _ _ => rfl⟩ (by omega)
  refine ⟨h2, rV_of ((E0 h).trans (e2.trans ?_)), a1, a2, a3, a4, a5, a6⟩
  show ax_run m_X8_passes 2 _ [] h2 = _
  rw [E]
  exact if_pos ((le_ (a := n) (b := n) (by omega) (by omega)).mpr (Nat.le_refl _))
/-- and back -/
theorem lod_ {q n m : Nat} (E0 : ∀ h, ax_run m_X8_passes 0 [(0, .ref 47), (1, .ref q)] [] h = ax_run m_X8_passes 2 [(0, .ref 47), (1, .ref q), (2, .int 0)] [] h)
    (E : ∀ (x2 : Int32) (h : ax_Hp), ax_run m_X8_passes 2 [(0, .ref 47), (1, .ref q), (2, .int x2)] [] h = if nI n ≤ x2 then some (none, h) else if h.1 47 20 = 0 then ax_g (ax_in (h.1 47 21) 279) (ax_g (ax_in x2 n) (ax_run m_X8_passes 2 [(0, .ref 47), (1, .ref q), (2, .int (x2 + 1))] [] (wI (wI h q x2.toNatClampNeg (h.1 60 (h.1 47 21).toNatClampNeg)) 47 21 (((wI h q x2.toNatClampNeg (h.1 60 (h.1 47 21).toNatClampNeg)).1 47 21) + 1)))) else ax_g (ax_in x2 n) (ax_g (ax_in (h.1 47 21) 279) (ax_run m_X8_passes 2 [(0, .ref 47), (1, .ref q), (2, .int (x2 + 1))] [] (wI (wI h 60 (h.1 47 21).toNatClampNeg (h.1 q x2.toNatClampNeg)) 47 21 (((wI h 60 (h.1 47 21).toNatClampNeg (h.1 q x2.toNatClampNeg)).1 47 21) + 1)))))
    (hq : q ≠ 47 ∧ q ≠ 60) (hm : m + n ≤ 279) {h : ax_Hp} (h20 : h.1 47 20 = 0) (h21 : h.1 47 21 = nI m) :
    ∃ h', rV m_X8_passes [.ref 47, .ref q] h = some h' ∧ h'.2 = h.2 ∧ (∀ k, k ≠ 47 → k ≠ q → h'.1 k = h.1 k) ∧ (∀ i, i ≠ 21 → h'.1 47 i = h.1 47 i) ∧ h'.1 47 21 = nI (m + n) ∧
      (∀ i, i < n → h'.1 q i = h.1 60 (m + i)) := by
  obtain ⟨h2, e2, a1, a2, a3, a4, a5⟩ := ex_loop (fun x h => ax_run m_X8_passes 2 [(0, .ref 47), (1, .ref q), (2, .int x)] [] h) (fun k h' => h'.2 = h.2 ∧ (∀ k, k ≠ 47 → k ≠ q → h'.1 k = h.1 k) ∧ (∀ i, i ≠ 21 → h'.1 47 i = h.1 47 i) ∧ h'.1 47 21 = nI (m + k) ∧
      (∀ i, i < k → h'.1 q i = h.1 60 (m + i))) n (by
    intro k a hk ⟨a1, a2, a3, a4, a5⟩
    have st := E (nI k) a
    rw [if_neg (fun x => by
        have := (le_ (a := n) (b := k) (by omega) (by omega)).mp x
        omega), a3 20 (by omega), h20, if_pos rfl, a4] at st
    rw [in_nI (by omega) (by omega), in_nI (by omega) (by omega), g_true, g_true, a2 60 (by omega) (fun x => hq.2 x.symm)] at st
    simp (disch := omega) only [cl_, wI_ne, a4, l1, add_] at st
    refine ⟨_, st, a1, fun j b c => ?_, fun i b => ?_, ?_, fun i b => ?_⟩
    · simp (disch := omega) only [wI_ne]; exact a2 j b c
    · simp (disch := omega) only [wI_ne, wI_at, upd_ne]; exact a3 i b
    · simp (disch := omega) only [wI_at, upd_at]; rfl
    · simp (disch := omega) only [wI_ne, wI_at]
      by_cases e : i = k
      · rw [e, upd_at]
      · rw [upd_ne (by omega)]; exact a5 i (by omega)) h (k0 := 0) ⟨rfl, fun _ _ _ => rfl, fun _ _ => rfl, h21, fun i b => by omega⟩ (by omega)
  refine ⟨h2, rV_of ((E0 h).trans (e2.trans ?_)), a1, a2, a3, a4, a5⟩
  show ax_run m_X8_passes 2 _ [] h2 = _
  rw [E]
  exact if_pos ((le_ (a := n) (b := n) (by omega) (by omega)).mpr (Nat.le_refl _))
