/-! the reference in mind: from h, with s kept, it holds t now; searches -/
def QI (h h1 : ax_Hp) (s t : Sp) (w : Nat) : Prop := h1.2.2 = h.2.2 ∧ (∀ k, k < 47 → h1.1 k = h.1 k) ∧ RM h1 t w ∧ KP h1 2 s ∧ h1.1 48 = h.1 48 ∧ h1.1 56 = h.1 56 ∧ h1.1 65 = h.1 65 ∧
  (∀ i, i = 14 ∨ i = 19 ∨ i = 34 → h1.1 47 i = h.1 47 i) ∧ (∀ p, p < 93 → h1.1 60 p = h.1 60 p) ∧ (∀ i, i ≤ zT s → h1.1 61 i = h.1 61 i) ∧ zT s ≤ zT t ∧ okS s
theorem QI_minds {h : ax_Hp} {s : Sp} (r : RM h s 0) : ∃ h1, rV m_X8_minds [.ref 47] h = some h1 ∧ QI h h1 s s 0 ∧ (∀ i, i ≠ 20 → i ≠ 21 → h1.1 47 i = h.1 47 i) ∧ h1.1 62 = h.1 62 := by
  obtain ⟨h1, e, k, r1, a, b, c, d⟩ := minds_ r
  exact ⟨h1, e, ⟨by rw [a], fun k hk => b k (by omega) (by omega), r1, k, b 48 (by omega) (by omega), b 56 (by omega) (by omega), b 65 (by omega) (by omega), fun i hi => c i (by omega) (by omega), fun p hp => d p (by omega), fun i _ => by rw [b 61 (by omega) (by omega)], Nat.le_refl _, r.1⟩, c, b 62 (by omega) (by omega)⟩
theorem QI_hour {h h1 : ax_Hp} {s t : Sp} {w : Nat} (q : QI h h1 s t w) (hT : zT t + 1 < 1000000) :
    ∃ h2, rV m_X8_goesHour [.ref 47] h1 = some h2 ∧ QI h h2 s (zhour t w) w ∧ h2.1 47 26 = h1.1 47 26 + zcou t w (h1.1 47 24) (h1.1 47 25) ∧ (∀ i, i ≠ 9 → i ≠ 26 → h2.1 47 i = h1.1 47 i) ∧ h2.1 62 = h1.1 62 := by
  obtain ⟨a1, a2, a3, a4, a5, a6, a7, a8, a9, a10, a11, a12⟩ := q
  obtain ⟨h2, e, r, g, p, c⟩ := goesHour_ a3 hT
  have g60 := g.2.1 60 (by omega) (by omega) (by omega) (by omega)
  refine ⟨h2, e, ⟨by rw [g.1]; exact a1, fun k hk => (g.2.1 k (by omega) (by omega) (by omega) (by omega)).trans (a2 k hk), r, KP_of (fun p _ _ => by rw [g60]) a4, (g.2.1 48 (by omega) (by omega) (by omega) (by omega)).trans a5, (g.2.1 56 (by omega) (by omega) (by omega) (by omega)).trans a6,
    (g.2.1 65 (by omega) (by omega) (by omega) (by omega)).trans a7, fun i hi => (g.2.2 i (by omega) (by omega)).trans (a8 i hi), fun p hp => by rw [g60]; exact a9 p hp, fun i hi => ?_, by rw [zhour_T]; omega, a12⟩, c, g.2.2, g.2.1 62 (by omega) (by omega) (by omega) (by omega)⟩
  rw [p]
  split
  · rw [upd_ne (by omega)]; exact a10 i hi
  · exact a10 i hi
theorem QI_hours {h h1 : ax_Hp} {s t : Sp} {w n : Nat} (q : QI h h1 s t w) (hT : zT t + n < 1000000) :
    ∃ h2, rV m_X8_goes_ [.ref 47, .int (nI n)] h1 = some h2 ∧ QI h h2 s (zit t w n) w ∧ (∀ i, i ≠ 9 → i ≠ 26 → h2.1 47 i = h1.1 47 i) ∧ h2.1 62 = h1.1 62 := by
  obtain ⟨a1, a2, a3, a4, a5, a6, a7, a8, a9, a10, a11, a12⟩ := q
  obtain ⟨h2, e, r, g, p⟩ := goesN_ a3 n hT
  have g60 := g.2.1 60 (by omega) (by omega) (by omega) (by omega)
  refine ⟨h2, e, ⟨by rw [g.1]; exact a1, fun k hk => (g.2.1 k (by omega) (by omega) (by omega) (by omega)).trans (a2 k hk), r, KP_of (fun p _ _ => by rw [g60]) a4, (g.2.1 48 (by omega) (by omega) (by omega) (by omega)).trans a5, (g.2.1 56 (by omega) (by omega) (by omega) (by omega)).trans a6,
    (g.2.1 65 (by omega) (by omega) (by omega) (by omega)).trans a7, fun i hi => (g.2.2 i (by omega) (by omega)).trans (a8 i hi), fun p hp => by rw [g60]; exact a9 p hp, fun i hi => ?_, by rw [zit_T]; omega, a12⟩, g.2.2, g.2.1 62 (by omega) (by omega) (by omega) (by omega)⟩
  rw [p, if_neg (by omega)]
  exact a10 i hi
theorem QI_forgets {h h1 : ax_Hp} {s t : Sp} (q : QI h h1 s t 0) : ∃ h2, rV m_X8_forgets [.ref 47] h1 = some h2 ∧ QM h h2 s ∧ (∀ i, i ≠ 20 → i ≠ 21 → i ≠ 8 → i ≠ 9 → h2.1 47 i = h1.1 47 i) ∧ h2.1 62 = h1.1 62 := by
  obtain ⟨a1, a2, a3, a4, a5, a6, a7, a8, a9, a10, a11, a12⟩ := q
  obtain ⟨h2, e, r, a, b, c⟩ := forgets_ (w := 0) a4 a12 (Or.inl ⟨rfl, by rcases a3.2.1 with t | t; exact t.2; omega⟩)
  refine ⟨h2, e, ⟨by rw [a]; exact a1, fun k hk => (b k (by omega) (by omega)).trans (a2 k hk), r, (b 48 (by omega) (by omega)).trans a5, (b 56 (by omega) (by omega)).trans a6, (b 65 (by omega) (by omega)).trans a7, fun i hi => (c i (by omega) (by omega) (by omega) (by omega)).trans (a8 i hi), fun p hp => ?_, fun i hi => ?_⟩, c, b 62 (by omega) (by omega)⟩
  · rw [b 60 (by omega) (by omega)]; exact a9 p hp
  · rw [b 61 (by omega) (by omega)]; exact a10 i hi
theorem QI_put {h h1 : ax_Hp} {s t : Sp} {w i j : Nat} (q : QI h h1 s t w) (hj : j < 8) : QI h (wI h1 52 i (nI j)) s (zput t i j) w := by
  obtain ⟨a1, a2, a3, a4, a5, a6, a7, a8, a9, a10, a11, a12⟩ := q
  refine ⟨a1, fun k hk => (wI_ne (by omega)).trans (a2 k hk), RM_put a3 hj, KP_of (fun p _ _ => by rw [wI_ne (by omega)]) a4, ?_, ?_, ?_, ?_, ?_, ?_, a11, a12⟩ <;> simp (disch := omega) only [wI_ne] <;> assumption
/-- what stays of h in h' while s is held -/
theorem QM_RM {h h' : ax_Hp} {s : Sp} (q : QM h h' s) : RM h' s 0 := q.2.2.1
/-- the first from a on, of so many, for which p holds -/
def fst_ (p : Nat → Bool) : Nat → Nat → Int32
  | 0, _ => -9
  | f + 1, a => if p a = true then nI a else fst_ p f (a + 1)
theorem srchC {R : Int32 → ax_Hp → Option ax_Rs} {St : Nat → ax_Hp → Prop} {Fin : ax_Hp → Prop} {p : Nat → Bool} {N : Nat} (he : ∀ h1, St N h1 → R (nI N) h1 = some (some (.int (-9)), h1) ∧ Fin h1)
    (h1 : ∀ a h1, a < N → St a h1 → p a = true → ∃ h2, R (nI a) h1 = some (some (.int (nI a)), h2) ∧ Fin h2)
    (h0 : ∀ a h1, a < N → St a h1 → p a = false → ∃ h2, R (nI a) h1 = R (nI (a + 1)) h2 ∧ St (a + 1) h2) :
    ∀ f a hh, a + f = N → St a hh → ∃ h2, R (nI a) hh = some (some (.int (fst_ p f a)), h2) ∧ Fin h2 := by
  intro f
  induction f with
  | zero =>
    intro a hh ha st
    have : a = N := by omega
    subst this
    exact ⟨hh, (he hh st).1, (he hh st).2⟩
  | succ f ih =>
    intro a hh ha st
    cases q : p a with
    | true =>
      obtain ⟨h2, e, f2⟩ := h1 a hh (by omega) st q
      refine ⟨h2, ?_, f2⟩
      rw [e]; simp only [fst_, q, if_true]
    | false =>
      obtain ⟨h2, e, s2⟩ := h0 a hh (by omega) st q
      obtain ⟨h3, e3, f3⟩ := ih (a + 1) h2 (by omega) s2
      refine ⟨h3, ?_, f3⟩
      rw [e, e3]; simp only [fst_, q, Bool.false_eq_true, if_false]
theorem srchM {R : Int32 → Int32 → ax_Hp → Option ax_Rs} {St : Nat → ax_Hp → Prop} {Fin : ax_Hp → Prop} {p : Nat → Bool} {N : Nat} (hN : N < 2147483648)
    (he : ∀ a v h1, St a h1 → a = N ∨ 0 ≤ v → ∃ h2, R v (nI a) h1 = some (some (.int v), h2) ∧ Fin h2)
    (hs : ∀ a h1, a < N → St a h1 → ∃ h2, R (-9) (nI a) h1 = R (if p a = true then nI a else -9) (nI (a + 1)) h2 ∧ St (a + 1) h2) :
    ∀ f a hh, a + f = N → St a hh → ∃ h2, R (-9) (nI a) hh = some (some (.int (fst_ p f a)), h2) ∧ Fin h2 := by
  intro f
  induction f with
  | zero =>
    intro a hh ha st
    exact he a (-9) hh st (Or.inl (by omega))
  | succ f ih =>
    intro a hh ha st
    obtain ⟨h2, e, s2⟩ := hs a hh (by omega) st
    cases q : p a with
    | true =>
      rw [q, if_pos rfl] at e
      obtain ⟨h3, e3, f3⟩ := he (a + 1) (nI a) h2 s2 (Or.inr (nI_pos' (by omega)))
      refine ⟨h3, ?_, f3⟩
      rw [e, e3]; simp only [fst_, q, if_true]
    | false =>
      rw [q, if_neg (by decide)] at e
      obtain ⟨h3, e3, f3⟩ := ih (a + 1) h2 (by omega) s2
      refine ⟨h3, ?_, f3⟩
      rw [e, e3]; simp only [fst_, q, Bool.false_eq_true, if_false]
theorem tbig {s : Sp} (h : zT s ≤ 999) {n : Nat} (hn : n ≤ 1000) : zT s + n < 1000000 := by omega
