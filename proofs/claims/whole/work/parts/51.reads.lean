/-! letters: the reference reads them -/
/-- where the reference reads: at p of n letters, the next told number at u -/
def RA (g : ax_Hp) (n : Nat) (tx : Nat → Nat) (p u : Nat) : Prop := g.1 47 14 = nI n ∧ n ≤ 96 ∧ (∀ i, i < n → g.1 56 i = nI (tx i) ∧ tx i ≤ 255) ∧ g.1 47 15 = nI p ∧ p ≤ n ∧ g.1 47 17 = nI u ∧ u < 217
/-- what reading changes: told from u on, where it reads -/
def RD (g g' : ax_Hp) (u : Nat) : Prop := g'.2 = g.2 ∧ (∀ c, c ≠ 47 → c ≠ 59 → g'.1 c = g.1 c) ∧ (∀ i, i ≠ 15 → i ≠ 17 → g'.1 47 i = g.1 47 i) ∧ ∀ i, i < u → g'.1 59 i = g.1 59 i
theorem RD.refl (g : ax_Hp) (u : Nat) : RD g g u := ⟨rfl, fun _ _ _ => rfl, fun _ _ _ => rfl, fun _ _ => rfl⟩
theorem RD.trans {g g1 g2 : ax_Hp} {u v : Nat} (a : RD g g1 u) (b : RD g1 g2 v) (h : u ≤ v) : RD g g2 u :=
  ⟨b.1.trans a.1, fun c h1 h2 => (b.2.1 c h1 h2).trans (a.2.1 c h1 h2), fun i h1 h2 => (b.2.2.1 i h1 h2).trans (a.2.2.1 i h1 h2), fun i hi => (b.2.2.2 i (by omega)).trans (a.2.2.2 i hi)⟩
theorem RA.lt {g : ax_Hp} {n : Nat} {tx : Nat → Nat} {p u : Nat} (r : RA g n tx p u) (h : cg n tx p ≠ 256) : p < n := by
  apply Classical.byContradiction
  intro q
  exact h (if_neg q)
theorem RA.cl {g : ax_Hp} {n : Nat} {tx : Nat → Nat} {p u : Nat} (r : RA g n tx p u) (q : Nat) : cg n tx q ≤ 256 := cg_le (fun i hi => (r.2.2.1 i hi).2) q
theorem RA.to {g g' : ax_Hp} {n : Nat} {tx : Nat → Nat} {p u v : Nat} (r : RA g n tx p u) (d : RD g g' v) {p' u' : Nat} (h1 : g'.1 47 15 = nI p') (h2 : p' ≤ n) (h3 : g'.1 47 17 = nI u') (h4 : u' < 217) : RA g' n tx p' u' := by
  obtain ⟨r1, r2, r3, r4, r5, r6, r7⟩ := r
  refine ⟨(d.2.2.1 14 (by omega) (by omega)).trans r1, r2, fun i hi => ?_, h1, h2, h3, h4⟩
  rw [d.2.1 56 (by omega) (by omega)]
  exact r3 i hi
theorem now_l {g : ax_Hp} {n : Nat} {tx : Nat → Nat} {p u : Nat} (r : RA g n tx p u) : rI m_X8_letterNow [.ref 47] g = some (sI_ (cg n tx p), g) := by
  obtain ⟨r1, r2, r3, r4, r5, r6, r7⟩ := r
  refine rI_of ((e_X8_letterNow_0 g).trans ?_)
  rw [r1, r4]
  simp (disch := omega) only [le_]
  unfold cg
  by_cases q : p < n
  · rw [if_neg (by omega), if_pos q, in_nI (by omega) (by omega), g_true, cl_ (by omega), (r3 p q).1, sI_lt (by have := (r3 p q).2; omega)]
  · rw [if_pos (by omega), if_neg q]
    rfl
theorem sI_in : ∀ c, c < 257 → ((48 ≤ sI_ c ∧ sI_ c ≤ 57) ↔ dgt c = true) := by decide +kernel
theorem dig_ne {c : Nat} (h : dgt c = true) : c ≠ 256 := by
  have := of_decide_eq_true h
  omega
/-- a number of digits is told: the letters' value so far is x -/
theorem rd_step {g : ax_Hp} {n : Nat} {tx : Nat → Nat} {p u k m : Nat} (x : Nat) (r : RA g n tx p u) (hk : k < m) (hm : m ≤ 2) (hx : x ≤ 9) :
    ax_run m_X8_readsDigits 4 [(0, .ref 47), (1, .int (nI m)), (2, .int (nI x)), (3, .int (nI k))] [] g =
      if dgt (cg n tx p) = true then ax_run m_X8_readsDigits 4 [(0, .ref 47), (1, .int (nI m)), (2, .int (nI (10 * x + (cg n tx p - 48)))), (3, .int (nI (k + 1)))] [] (wI g 47 15 (nI (p + 1))) else some (some (.int 0), g) := by
  have hc := r.cl p
  rw [e_X8_readsDigits_4, if_neg (fun y => by
    have := (le_ (a := m) (b := k) (by omega) (by omega)).mp y
    omega), now_l r, bnd]
  simp only []
  rw [isIn_, bnd]
  simp only [sI_in _ (show cg n tx p < 257 by omega)]
  by_cases q : dgt (cg n tx p) = true
  · obtain ⟨d1, d2, d3⟩ := dgt_val q
    have dd := of_decide_eq_true q
    simp only [q, if_true, ax_10, if_false]
    rw [now_l r, bnd]
    simp only []
    rw [r.2.2.2.1, sI_lt d3, l10, mul_, add_, nI_1, nI_1, show (48 : Int32) = nI 48 from rfl, sub_ (by omega), show 10 * x + cg n tx p - 48 = 10 * x + (cg n tx p - 48) by omega]
  · simp only [q, if_true, if_false, Bool.false_eq_true]
theorem rd_end {g : ax_Hp} {n : Nat} {tx : Nat → Nat} {p u m : Nat} (x : Nat) (r : RA g n tx p u) (hm : m ≤ 2) :
    ax_run m_X8_readsDigits 4 [(0, .ref 47), (1, .int (nI m)), (2, .int (nI x)), (3, .int (nI m))] [] g = some (some (.int 1), wI (wI g 59 u (nI x)) 47 17 (nI (u + 1))) := by
  have hu := r.2.2.2.2.2.2
  rw [e_X8_readsDigits_4, if_pos ((le_ (a := m) (b := m) (by omega) (by omega)).mpr (Nat.le_refl _)), r.2.2.2.2.2.1]
  simp (disch := omega) only [g_in, cl_, wI_ne, r.2.2.2.2.2.1, nI_1]
theorem RA_15 {g : ax_Hp} {n : Nat} {tx : Nat → Nat} {p u q : Nat} (r : RA g n tx p u) (hq : q ≤ n) : RA (wI g 47 15 (nI q)) n tx q u := by
  obtain ⟨r1, r2, r3, r4, r5, r6, r7⟩ := r
  refine ⟨?_, r2, ?_, ?_, hq, ?_, r7⟩ <;> simp (disch := omega) only [wI_at, wI_ne, upd_at, upd_ne] <;> assumption
theorem rd1 {g : ax_Hp} {n : Nat} {tx : Nat → Nat} {p u : Nat} (r : RA g n tx p u) :
    ∃ g', rI m_X8_readsDigits [.ref 47, .int 1] g = some (if dgt (cg n tx p) = true then 1 else 0, g') ∧ RD g g' u ∧
      (dgt (cg n tx p) = true → g'.1 47 15 = nI (p + 1) ∧ g'.1 47 17 = nI (u + 1) ∧ g'.1 59 u = nI (cg n tx p - 48)) ∧ (dgt (cg n tx p) = false → g' = g) := by
  have st := rd_step 0 r (k := 0) (m := 1) (by omega) (by omega) (by omega)
  by_cases q : dgt (cg n tx p) = true
  · have hp := r.lt (dig_ne q)
    rw [if_pos q] at st
    have en := rd_end (10 * 0 + (cg n tx p - 48)) (RA_15 r (q := p + 1) (by omega)) (m := 1) (by omega)
    refine ⟨wI (wI (wI g 47 15 (nI (p + 1))) 59 u (nI (10 * 0 + (cg n tx p - 48)))) 47 17 (nI (u + 1)), rI_of ((e_X8_readsDigits_0 _ g).trans ((st.trans en).trans (by rw [if_pos q]))), ⟨rfl, fun c h1 h2 => by simp (disch := omega) only [wI_ne], fun i h1 h2 => by simp (disch := omega) only [wI_at, wI_ne, upd_ne], fun i hi => by simp (disch := omega) only [wI_ne, wI_at, upd_ne]⟩, fun _ => ⟨by simp (disch := omega) only [wI_at, wI_ne, upd_at, upd_ne], by simp (disch := omega) only [wI_at, upd_at], ?_⟩, fun e => by rw [q] at e; exact absurd e (by decide)⟩
    simp (disch := omega) only [wI_ne, wI_at, upd_at]
    rw [Nat.mul_zero, Nat.zero_add]
  · rw [if_neg q] at st
    have q' : dgt (cg n tx p) = false := by simpa using q
    exact ⟨g, rI_of ((e_X8_readsDigits_0 _ g).trans (st.trans (by rw [if_neg q]))), RD.refl g u, fun e => absurd e q, fun _ => rfl⟩
/-- two digits as one number -/
theorem rd2 {g : ax_Hp} {n : Nat} {tx : Nat → Nat} {p u : Nat} (r : RA g n tx p u) :
    ∃ g', rI m_X8_readsDigits [.ref 47, .int 2] g = some (if dgt (cg n tx p) = true ∧ dgt (cg n tx (p + 1)) = true then 1 else 0, g') ∧ RD g g' u ∧
      g'.1 47 15 = nI (if dgt (cg n tx p) = true then if dgt (cg n tx (p + 1)) = true then p + 2 else p + 1 else p) ∧
      (dgt (cg n tx p) = true ∧ dgt (cg n tx (p + 1)) = true → g'.1 47 17 = nI (u + 1) ∧ g'.1 59 u = nI (10 * (cg n tx p - 48) + (cg n tx (p + 1) - 48))) := by
  have st := rd_step 0 r (k := 0) (m := 2) (by omega) (by omega) (by omega)
  by_cases q : dgt (cg n tx p) = true
  · have hp := r.lt (dig_ne q)
    have d2 := (dgt_val q).2.1
    have r1 := RA_15 r (q := p + 1) (by omega)
    rw [if_pos q, Nat.mul_zero, Nat.zero_add] at st
    have st2 := rd_step (cg n tx p - 48) r1 (k := 1) (m := 2) (by omega) (by omega) d2
    by_cases q2 : dgt (cg n tx (p + 1)) = true
    · have hp2 := r1.lt (dig_ne q2)
      rw [if_pos q2] at st2
      have en := rd_end (10 * (cg n tx p - 48) + (cg n tx (p + 1) - 48)) (RA_15 r1 (q := p + 1 + 1) (by omega)) (m := 2) (by omega)
      refine ⟨wI (wI (wI (wI g 47 15 (nI (p + 1))) 47 15 (nI (p + 1 + 1))) 59 u (nI (10 * (cg n tx p - 48) + (cg n tx (p + 1) - 48)))) 47 17 (nI (u + 1)), rI_of ((e_X8_readsDigits_0 _ g).trans ((st.trans (st2.trans en)).trans (by rw [if_pos ⟨q, q2⟩]))), ⟨rfl, fun c h1 h2 => by simp (disch := omega) only [wI_ne], fun i h1 h2 => by simp (disch := omega) only [wI_at, wI_ne, upd_ne], fun i hi => by simp (disch := omega) only [wI_ne, wI_at, upd_ne]⟩, ?_, fun _ => ⟨by simp (disch := omega) only [wI_at, upd_at], by simp (disch := omega) only [wI_ne, wI_at, upd_at]⟩⟩
      rw [if_pos q, if_pos q2]
      simp (disch := omega) only [wI_at, wI_ne, upd_at, upd_ne]
    · rw [if_neg q2] at st2
      refine ⟨wI g 47 15 (nI (p + 1)), rI_of ((e_X8_readsDigits_0 _ g).trans ((st.trans st2).trans (by rw [if_neg (fun y => q2 y.2)]))), ⟨rfl, fun c h1 h2 => by simp (disch := omega) only [wI_ne], fun i h1 h2 => by simp (disch := omega) only [wI_at, wI_ne, upd_ne], fun i hi => by simp (disch := omega) only [wI_ne, wI_at, upd_ne]⟩, ?_, fun y => absurd y.2 q2⟩
      rw [if_pos q, if_neg q2]
      simp (disch := omega) only [wI_at, wI_ne, upd_at, upd_ne]
  · rw [if_neg q] at st
    refine ⟨g, rI_of ((e_X8_readsDigits_0 _ g).trans (st.trans (by rw [if_neg (fun y => q y.1)]))), RD.refl g u, ?_, fun y => absurd y.1 q⟩
    rw [if_neg q]
    exact r.2.2.2.1
/-- how many of the next m letters are digits, from q on -/
def ldg (c : Nat → Nat) : Nat → Nat → Nat
  | 0, _ => 0
  | m + 1, q => if dgt (c q) = true then ldg c m (q + 1) + 1 else 0
theorem ldg_le (c : Nat → Nat) : ∀ m q, ldg c m q ≤ m := by
  intro m
  induction m with
  | zero => intro q; exact Nat.le_refl _
  | succ m ih =>
    intro q
    simp only [ldg]
    have := ih (q + 1)
    split <;> omega
theorem many_in {n : Nat} {tx : Nat → Nat} {M : Nat} (hM : M ≤ 7) : ∀ m i g p u, RA g n tx p u → i + m = M → u + m < 217 →
    ∃ g', ax_run m_X8_readsMany 2 [(0, .ref 47), (1, .int (nI M)), (2, .int (nI i))] [] g = some (some (.int (if ldg (cg n tx) m p = m then 1 else 0)), g') ∧ RD g g' u ∧
      g'.1 47 15 = nI (p + ldg (cg n tx) m p) ∧ p + ldg (cg n tx) m p ≤ n ∧ g'.1 47 17 = nI (u + ldg (cg n tx) m p) ∧ ∀ j, j < ldg (cg n tx) m p → g'.1 59 (u + j) = nI (cg n tx (p + j) - 48) := by
  intro m
  induction m with
  | zero =>
    intro i g p u r hi hu
    refine ⟨g, ?_, RD.refl g u, r.2.2.2.1, r.2.2.2.2.1, r.2.2.2.2.2.1, fun j hj => absurd hj (Nat.not_lt_zero j)⟩
    rw [e_X8_readsMany_2, if_pos ((le_ (by omega) (by omega)).mpr (by omega))]
    rfl
  | succ m ih =>
    intro i g p u r hi hu
    obtain ⟨g1, e1, d1, t1, f1⟩ := rd1 r
    have st := e_X8_readsMany_2 (nI M) (nI i) g
    rw [if_neg (fun y => by
      have := (le_ (a := M) (b := i) (by omega) (by omega)).mp y
      omega), e1, bnd, nI_1] at st
    have ll := ldg_le (cg n tx) m (p + 1)
    by_cases q : dgt (cg n tx p) = true
    · obtain ⟨a1, a2, a3⟩ := t1 q
      have hp := r.lt (dig_ne q)
      obtain ⟨g2, e2, d2, b1, b2, b3, b4⟩ := ih (i + 1) g1 (p + 1) (u + 1) (r.to d1 a1 (by omega) a2 (by omega)) (by omega) (by omega)
      simp only [q, if_true, ax_10, if_false] at st
      refine ⟨g2, st.trans (e2.trans ?_), d1.trans d2 (by omega), ?_, ?_, ?_, fun j hj => ?_⟩
      · simp only [ldg, q, if_true]
        by_cases y : ldg (cg n tx) m (p + 1) = m
        · rw [if_pos y, if_pos (by omega)]
        · rw [if_neg y, if_neg (by omega)]
      · simp only [ldg, q, if_true]
        rw [b1, show p + 1 + ldg (cg n tx) m (p + 1) = p + (ldg (cg n tx) m (p + 1) + 1) by omega]
      · simp only [ldg, q, if_true]; omega
      · simp only [ldg, q, if_true]
        rw [b3, show u + 1 + ldg (cg n tx) m (p + 1) = u + (ldg (cg n tx) m (p + 1) + 1) by omega]
      · simp only [ldg, q, if_true] at hj
        by_cases y : j = 0
        · subst y
          show g2.1 59 u = nI (cg n tx p - 48)
          rw [d2.2.2.2 u (by omega)]
          exact a3
        · have := b4 (j - 1) (by omega)
          rw [show u + 1 + (j - 1) = u + j by omega, show p + 1 + (j - 1) = p + j by omega] at this
          exact this
    · have q' : dgt (cg n tx p) = false := by simpa using q
      have eg := f1 q'
      subst eg
      simp only [q', Bool.false_eq_true, if_false, if_true] at st
      refine ⟨g1, st.trans ?_, RD.refl g1 u, ?_, ?_, ?_, fun j hj => ?_⟩
      · simp only [ldg, q', Bool.false_eq_true, if_false]
        rw [if_neg (by omega)]
      · simp only [ldg, q', Bool.false_eq_true, if_false]; exact r.2.2.2.1
      · simp only [ldg, q', Bool.false_eq_true, if_false]; exact r.2.2.2.2.1
      · simp only [ldg, q', Bool.false_eq_true, if_false]; exact r.2.2.2.2.2.1
      · simp only [ldg, q', Bool.false_eq_true, if_false] at hj; omega
theorem many_ {g : ax_Hp} {n : Nat} {tx : Nat → Nat} {p u m : Nat} (r : RA g n tx p u) (hm : m ≤ 7) (hu : u + m < 217) :
    ∃ g', rI m_X8_readsMany [.ref 47, .int (nI m)] g = some (if ldg (cg n tx) m p = m then 1 else 0, g') ∧ RD g g' u ∧
      g'.1 47 15 = nI (p + ldg (cg n tx) m p) ∧ p + ldg (cg n tx) m p ≤ n ∧ g'.1 47 17 = nI (u + ldg (cg n tx) m p) ∧ ∀ j, j < ldg (cg n tx) m p → g'.1 59 (u + j) = nI (cg n tx (p + j) - 48) := by
  obtain ⟨g', e, c⟩ := many_in hm m 0 g p u r (by omega) hu
  exact ⟨g', rI_of ((e_X8_readsMany_0 _ g).trans e), c⟩
theorem kt_ {c : Nat} (hc : c < 257) (h : ax_Hp) : rI m_X8_kindTold [.int (sI_ c)] h = some (if kdN c < 9 then nI (kdN c) else -9, h) := by
  refine rI_of ((e_X8_kindTold_0 _ h).trans ?_)
  have key : ∀ c, c < 257 → (sI_ c = 98 ↔ c = 98) ∧ (sI_ c = 102 ↔ c = 102) ∧ (sI_ c = 108 ↔ c = 108) ∧ (sI_ c = 111 ↔ c = 111) ∧ (sI_ c = 112 ↔ c = 112) ∧ (sI_ c = 119 ↔ c = 119) := by decide +kernel
  obtain ⟨a1, a2, a3, a4, a5, a6⟩ := key c hc
  simp only [a1, a2, a3, a4, a5, a6]
  unfold kdN
  repeat' split
  all_goals first | rfl | omega
theorem kd_ne {c : Nat} (h : kdN c < 9) : c ≠ 256 := by
  intro e
  subst e
  exact absurd h (by decide)
theorem kind_ {g : ax_Hp} {n : Nat} {tx : Nat → Nat} {p u : Nat} (r : RA g n tx p u) :
    ∃ g', rI m_X8_readsKind [.ref 47] g = some (if kdN (cg n tx p) < 9 then 1 else 0, g') ∧ RD g g' u ∧
      (kdN (cg n tx p) < 9 → g'.1 47 15 = nI (p + 1) ∧ g'.1 47 17 = nI (u + 1) ∧ g'.1 59 u = nI (kdN (cg n tx p))) ∧ (¬ kdN (cg n tx p) < 9 → g' = g) := by
  have hc := r.cl p
  have hu := r.2.2.2.2.2.2
  have st := e_X8_readsKind_0 g
  rw [now_l r, bnd] at st
  simp only [] at st
  rw [kt_ (by omega), bnd] at st
  by_cases q : kdN (cg n tx p) < 9
  · simp only [q, if_true] at st
    rw [if_pos (nI_pos' (by omega)), r.2.2.2.2.2.1] at st
    simp (disch := omega) only [g_in, cl_, wI_ne, wI_at, upd_ne, r.2.2.2.2.2.1, r.2.2.2.1, nI_1] at st
    refine ⟨wI (wI (wI g 59 u (nI (kdN (cg n tx p)))) 47 17 (nI (u + 1))) 47 15 (nI (p + 1)), rI_of (st.trans (by rw [if_pos q])), ⟨rfl, fun c h1 h2 => by simp (disch := omega) only [wI_ne], fun i h1 h2 => by simp (disch := omega) only [wI_at, wI_ne, upd_ne], fun i hi => by simp (disch := omega) only [wI_ne, wI_at, upd_ne]⟩, fun _ => ⟨by simp (disch := omega) only [wI_at, upd_at], by simp (disch := omega) only [wI_at, upd_at, upd_ne], by simp (disch := omega) only [wI_ne, wI_at, upd_at]⟩, fun y => absurd q y⟩
  · simp only [q, if_false] at st
    rw [if_neg (by decide)] at st
    exact ⟨g, rI_of (st.trans (by rw [if_neg q])), RD.refl g u, fun y => absurd y q, fun _ => rfl⟩
/-- digits first, then the rest of the statement -/
theorem bad_dig {c : Nat → Nat} {s : Nat} : ∀ m f j, (∀ i, j ≤ i → i < j + m → ∀ x, fitB (c s) i x = dgt x) → bad c s (m + f) j = if ldg c m (s + j) = m then bad c s f (j + m) else j + ldg c m (s + j) := by
  intro m
  induction m with
  | zero => intro f j _; rw [Nat.zero_add, if_pos (show ldg c 0 (s + j) = 0 from rfl), Nat.add_zero]
  | succ m ih =>
    intro f j hf
    have e : m + 1 + f = m + f + 1 := by omega
    rw [e]
    simp only [bad, ldg]
    rw [hf j (Nat.le_refl _) (by omega)]
    have ll := ldg_le c m (s + j + 1)
    by_cases q : dgt (c (s + j)) = true
    · simp only [q, if_true]
      rw [ih f (j + 1) (fun i h1 h2 x => hf i (by omega) (by omega) x), show s + (j + 1) = s + j + 1 by omega]
      by_cases y : ldg c m (s + j + 1) = m
      · rw [if_pos y, if_pos (by omega), show j + 1 + m = j + (m + 1) by omega]
      · rw [if_neg y, if_neg (by omega)]; omega
    · have q' : dgt (c (s + j)) = false := by simpa using q
      simp only [q', Bool.false_eq_true, if_false]
      rw [if_neg (by omega), Nat.add_zero]
/-- what is told of a statement at s -/
def td (c : Nat → Nat) (s i : Nat) : Nat := if c s = 119 ∧ i = 0 then kdN (c (s + 1)) else if c s = 104 then 10 * (c (s + 1) - 48) + (c (s + 2) - 48) else c (s + 1 + i) - 48
def tn (c : Nat) : Nat := if c = 119 then 3 else if c = 110 then 7 else if c = 104 then 1 else 2
/-- all but the last letter of a statement -/
def badA (c : Nat → Nat) (s : Nat) : Nat := bad c s (szN (c s) - 2) 1
theorem badS_is {c : Nat → Nat} {s : Nat} (h : szN (c s) ≠ 0) : badS c s = if badA c s = szN (c s) - 1 then (if c (s + (szN (c s) - 1)) = 59 then szN (c s) else szN (c s) - 1) else badA c s := by
  have h4 : 4 ≤ szN (c s) := by
    unfold szN at h ⊢
    repeat' split
    all_goals first | omega | (exfalso; simp_all)
  have key : ∀ f j, j + f + 1 = szN (c s) → bad c s (f + 1) j = if bad c s f j = szN (c s) - 1 then (if c (s + (szN (c s) - 1)) = 59 then szN (c s) else szN (c s) - 1) else bad c s f j := by
    intro f
    induction f with
    | zero =>
      intro j hj
      have e1 : bad c s 0 j = j := rfl
      have ef : fitB (c s) j (c (s + j)) = decide (c (s + j) = 59) := by unfold fitB; rw [if_pos (by omega)]
      rw [e1, if_pos (by omega), show szN (c s) - 1 = j by omega]
      show (if fitB (c s) j (c (s + j)) = true then j + 1 else j) = _
      rw [ef]
      simp only [decide_eq_true_eq]
      split <;> omega
    | succ f ih =>
      intro j hj
      have e1 : bad c s (f + 1) j = if fitB (c s) j (c (s + j)) = true then bad c s f (j + 1) else j := rfl
      have e2 : bad c s (f + 1 + 1) j = if fitB (c s) j (c (s + j)) = true then bad c s (f + 1) (j + 1) else j := rfl
      rw [e1, e2]
      by_cases q : fitB (c s) j (c (s + j)) = true
      · rw [if_pos q, if_pos q]
        exact ih (j + 1) (by omega)
      · rw [if_neg q, if_neg q, if_neg (by omega)]
  unfold badS badA
  rw [show szN (c s) - 1 = szN (c s) - 2 + 1 by omega, key (szN (c s) - 2) 1 (by omega), show szN (c s) - 2 + 1 = szN (c s) - 1 by omega]
/-- the letters behind the first one are read -/
theorem all_ {g : ax_Hp} {n : Nat} {tx : Nat → Nat} {s u : Nat} (r : RA g n tx (s + 1) u) (hz : szN (cg n tx s) ≠ 0) (hu : u + 7 < 217) :
    ∃ g', rI m_X8_readsAll [.ref 47, .int (sI_ (cg n tx s))] g = some (if badA (cg n tx) s = szN (cg n tx s) - 1 then 1 else 0, g') ∧ RD g g' u ∧
      g'.1 47 15 = nI (s + badA (cg n tx) s) ∧ s + badA (cg n tx) s ≤ n ∧ (∃ v, g'.1 47 17 = nI v ∧ v < 217) ∧ (badA (cg n tx) s = szN (cg n tx s) - 1 → ∀ i, i < tn (cg n tx s) → g'.1 59 (u + i) = nI (td (cg n tx) s i)) := by
  have hc := r.cl s
  obtain ⟨a1, a2, a3, a4, a5, a6, a7⟩ := sI_eq _ (show cg n tx s < 257 by omega)
  have st := e_X8_readsAll_0 (sI_ (cg n tx s)) g
  simp only [a2, a4, a6] at st
  have c6 : cg n tx s = 119 ∨ cg n tx s = 110 ∨ cg n tx s = 104 ∨ (cg n tx s = 109 ∨ cg n tx s = 115 ∨ cg n tx s = 98) := by
    unfold szN at hz
    repeat' split at hz
    all_goals omega
  have b01 : ∀ b : Bool, ((if b = true then (1 : Int32) else 0) = 0 ∨ (if b = true then (1 : Int32) else 0) = 1) := fun b => by cases b <;> simp
  rcases c6 with e | e | e | e
  · -- a wall
    have z5 : szN (cg n tx s) = 5 := by rw [e]; rfl
    have t3 : tn (cg n tx s) = 3 := by rw [e]; rfl
    rw [if_neg (by omega), if_neg (by omega), if_pos e] at st
    obtain ⟨g1, e1, d1, k1, k0⟩ := kind_ r
    rw [e1, bnd] at st
    have f1 : fitB (cg n tx s) 1 (cg n tx (s + 1)) = decide (kdN (cg n tx (s + 1)) < 9) := by
      unfold fitB
      rw [z5, if_neg (by decide), if_pos ⟨rfl, e⟩]
    have bA : badA (cg n tx) s = if kdN (cg n tx (s + 1)) < 9 then bad (cg n tx) s 2 2 else 1 := by
      unfold badA
      rw [z5]
      show (if fitB (cg n tx s) 1 (cg n tx (s + 1)) = true then bad (cg n tx) s 2 2 else 1) = _
      rw [f1]
      simp only [decide_eq_true_eq]
    have bD : bad (cg n tx) s 2 2 = if ldg (cg n tx) 2 (s + 2) = 2 then 4 else 2 + ldg (cg n tx) 2 (s + 2) := bad_dig 2 0 2 (fun i h1 h2 x => by
      unfold fitB
      rw [z5, if_neg (by omega), if_neg (fun y => by omega)])
    have ll := ldg_le (cg n tx) 2 (s + 2)
    by_cases q : kdN (cg n tx (s + 1)) < 9
    · obtain ⟨x1, x2, x3⟩ := k1 q
      have hp := r.lt (kd_ne q)
      simp only [q, if_true, ax_10, if_false] at st
      obtain ⟨g2, e2, d2, y1, y2, y3, y4⟩ := many_ (m := 2) (r.to d1 x1 (by omega) x2 (by omega)) (by omega) (by omega)
      have e2' : rI m_X8_readsMany [.ref 47, .int 2] g1 = some (if ldg (cg n tx) 2 (s + 1 + 1) = 2 then 1 else 0, g2) := e2
      rw [e2', bnd] at st
      rw [bA, if_pos q, bD]
      have e22 : s + 1 + 1 = s + 2 := rfl
      rw [e22] at y1 y2 y3 y4 st
      refine ⟨g2, rI_of (st.trans ?_), d1.trans d2 (by omega), ?_, ?_, ⟨_, y3, by omega⟩, fun hb i hi => ?_⟩
      · rw [z5]
        by_cases y : ldg (cg n tx) 2 (s + 2) = 2
        · simp only [y, if_true, ax_10, if_false]
        · simp only [y, if_true, if_false]
          rw [if_neg (by omega)]
      · rw [y1]
        by_cases y : ldg (cg n tx) 2 (s + 2) = 2
        · rw [if_pos y, y]
        · rw [if_neg y, show s + 2 + ldg (cg n tx) 2 (s + 2) = s + (2 + ldg (cg n tx) 2 (s + 2)) by omega]
      · split <;> omega
      · rw [z5] at hb
        rw [t3] at hi
        by_cases y : ldg (cg n tx) 2 (s + 2) = 2
        · unfold td
          by_cases i0 : i = 0
          · subst i0
            rw [if_pos ⟨e, rfl⟩, d2.2.2.2 _ (by omega)]
            exact x3
          · rw [if_neg (fun y => i0 y.2), if_neg (by omega)]
            have := y4 (i - 1) (by omega)
            rw [show u + 1 + (i - 1) = u + i by omega, show s + 2 + (i - 1) = s + 1 + i by omega] at this
            exact this
        · rw [if_neg y] at hb; omega
    · have eg := k0 q
      subst eg
      simp only [q, if_true, if_false] at st
      rw [bA, if_neg q]
      refine ⟨g1, rI_of (st.trans ?_), d1, r.2.2.2.1, r.2.2.2.2.1, ⟨u, r.2.2.2.2.2.1, by omega⟩, fun hb => ?_⟩
      · rw [z5, if_neg (by omega)]
      · rw [z5] at hb; omega
  · -- needs
    have z5 : szN (cg n tx s) = 9 := by rw [e]; rfl
    have t3 : tn (cg n tx s) = 7 := by rw [e]; rfl
    rw [if_neg (by omega), if_pos e] at st
    obtain ⟨g2, e2, d2, y1, y2, y3, y4⟩ := many_ (m := 7) r (by omega) (by omega)
    have e2' : rI m_X8_readsMany [.ref 47, .int 7] g = some (if ldg (cg n tx) 7 (s + 1) = 7 then 1 else 0, g2) := e2
    rw [e2', bnd] at st
    have ll := ldg_le (cg n tx) 7 (s + 1)
    have bD : badA (cg n tx) s = if ldg (cg n tx) 7 (s + 1) = 7 then 8 else 1 + ldg (cg n tx) 7 (s + 1) := by
      unfold badA
      rw [z5]
      exact bad_dig 7 0 1 (fun i h1 h2 x => by
        unfold fitB
        rw [z5, if_neg (by omega), if_neg (fun y => by omega)])
    rw [bD]
    refine ⟨g2, rI_of (st.trans ?_), d2, ?_, ?_, ⟨_, y3, by omega⟩, fun hb i hi => ?_⟩
    · rw [z5]
      by_cases y : ldg (cg n tx) 7 (s + 1) = 7
      · simp only [y, if_true]; exact if_pos (Or.inr trivial)
      · simp only [y, if_false]
        rw [if_pos (Or.inl trivial), if_neg (by omega)]
    · rw [y1]
      by_cases y : ldg (cg n tx) 7 (s + 1) = 7
      · rw [if_pos y, y]
      · rw [if_neg y, show s + 1 + ldg (cg n tx) 7 (s + 1) = s + (1 + ldg (cg n tx) 7 (s + 1)) by omega]
    · split <;> omega
    · rw [z5] at hb
      rw [t3] at hi
      by_cases y : ldg (cg n tx) 7 (s + 1) = 7
      · unfold td
        rw [if_neg (fun y => by omega), if_neg (by omega)]
        exact y4 i (by omega)
      · rw [if_neg y] at hb; omega
  · -- hours
    have z5 : szN (cg n tx s) = 4 := by rw [e]; rfl
    have t3 : tn (cg n tx s) = 1 := by rw [e]; rfl
    rw [if_pos e] at st
    obtain ⟨g2, e2, d2, y1, y2⟩ := rd2 r
    rw [e2, bnd] at st
    have bD : badA (cg n tx) s = if ldg (cg n tx) 2 (s + 1) = 2 then 3 else 1 + ldg (cg n tx) 2 (s + 1) := by
      unfold badA
      rw [z5]
      exact bad_dig 2 0 1 (fun i h1 h2 x => by
        unfold fitB
        rw [z5, if_neg (by omega), if_neg (fun y => by omega)])
    have l2' : ldg (cg n tx) 2 (s + 1) = if dgt (cg n tx (s + 1)) = true then (if dgt (cg n tx (s + 1 + 1)) = true then 2 else 1) else 0 := by
      show (if dgt (cg n tx (s + 1)) = true then (if dgt (cg n tx (s + 1 + 1)) = true then 0 + 1 else 0) + 1 else 0) = _
      repeat' split
      all_goals rfl
    have h5 := r.2.2.2.2.1
    by_cases q1 : dgt (cg n tx (s + 1)) = true
    · have hp := r.lt (dig_ne q1)
      by_cases q2 : dgt (cg n tx (s + 1 + 1)) = true
      · have hp2 : s + 1 + 1 < n := by
          apply Classical.byContradiction
          intro y
          exact dig_ne q2 (if_neg y)
        have bE : badA (cg n tx) s = 3 := by rw [bD, l2', if_pos q1, if_pos q2]; rfl
        obtain ⟨v1, v2⟩ := y2 ⟨q1, q2⟩
        rw [if_pos q1, if_pos q2] at y1
        rw [bE]
        refine ⟨g2, rI_of (st.trans ?_), d2, y1, by omega, ⟨_, v1, by omega⟩, fun _ i hi => ?_⟩
        · simp only [q1, q2, and_self, if_true]
          rw [z5, if_pos rfl]; exact if_pos (Or.inr trivial)
        · rw [t3] at hi
          have i0 : i = 0 := by omega
          subst i0
          unfold td
          rw [if_neg (fun y => by omega), if_pos e]
          exact v2
      · have bE : badA (cg n tx) s = 2 := by rw [bD, l2', if_pos q1, if_neg q2]; rfl
        rw [if_pos q1, if_neg q2] at y1
        rw [bE]
        have d17 : ∃ v, g2.1 47 17 = nI v ∧ v < 217 := ⟨u, by
          have st1 := rd_step 0 r (k := 0) (m := 2) (by omega) (by omega) (by omega)
          have r1 := RA_15 r (q := s + 1 + 1) (by omega)
          have st2 := rd_step (10 * 0 + (cg n tx (s + 1) - 48)) r1 (k := 1) (m := 2) (by omega) (by omega) (by have := (dgt_val q1).2.1; omega)
          rw [if_pos q1] at st1
          rw [if_neg q2] at st2
          have e3 : rI m_X8_readsDigits [.ref 47, .int 2] g = some (0, wI g 47 15 (nI (s + 1 + 1))) := rI_of ((e_X8_readsDigits_0 2 g).trans (st1.trans st2))
          rw [e3] at e2
          injection e2 with e2
          injection e2 with _ e2
          rw [← e2]
          simp (disch := omega) only [wI_at, upd_ne]
          exact r.2.2.2.2.2.1, by omega⟩
        refine ⟨g2, rI_of (st.trans ?_), d2, y1, by omega, d17, fun hb => by rw [z5] at hb; omega⟩
        simp only [q2, Bool.false_eq_true, and_false, if_false]
        rw [z5, if_neg (show ¬ 2 = 4 - 1 by decide)]
        exact if_pos (Or.inl trivial)
    · have bE : badA (cg n tx) s = 1 := by rw [bD, l2', if_neg q1]; rfl
      rw [if_neg q1] at y1
      rw [bE]
      have d17 : ∃ v, g2.1 47 17 = nI v ∧ v < 217 := ⟨u, by
        have st1 := rd_step 0 r (k := 0) (m := 2) (by omega) (by omega) (by omega)
        rw [if_neg q1] at st1
        have e3 : rI m_X8_readsDigits [.ref 47, .int 2] g = some (0, g) := rI_of ((e_X8_readsDigits_0 _ g).trans st1)
        rw [e3] at e2
        injection e2 with e2
        injection e2 with _ e2
        rw [← e2]
        exact r.2.2.2.2.2.1, by omega⟩
      refine ⟨g2, rI_of (st.trans ?_), d2, y1, h5, d17, fun hb => by rw [z5] at hb; omega⟩
      simp only [q1, Bool.false_eq_true, false_and, if_false]
      rw [z5, if_neg (show ¬ 1 = 4 - 1 by decide)]
      exact if_pos (Or.inl trivial)
  · -- two digits
    have z5 : szN (cg n tx s) = 4 := by rcases e with e | e | e <;> (rw [e]; rfl)
    have t3 : tn (cg n tx s) = 2 := by rcases e with e | e | e <;> (rw [e]; rfl)
    rw [if_neg (by omega), if_neg (by omega), if_neg (by omega)] at st
    obtain ⟨g2, e2, d2, y1, y2, y3, y4⟩ := many_ (m := 2) r (by omega) (by omega)
    have e2' : rI m_X8_readsMany [.ref 47, .int 2] g = some (if ldg (cg n tx) 2 (s + 1) = 2 then 1 else 0, g2) := e2
    rw [e2', bnd] at st
    have ll := ldg_le (cg n tx) 2 (s + 1)
    have bD : badA (cg n tx) s = if ldg (cg n tx) 2 (s + 1) = 2 then 3 else 1 + ldg (cg n tx) 2 (s + 1) := by
      unfold badA
      rw [z5]
      exact bad_dig 2 0 1 (fun i h1 h2 x => by
        unfold fitB
        rw [z5, if_neg (by omega), if_neg (fun y => by omega)])
    rw [bD]
    refine ⟨g2, rI_of (st.trans ?_), d2, ?_, ?_, ⟨_, y3, by omega⟩, fun hb i hi => ?_⟩
    · rw [z5]
      by_cases y : ldg (cg n tx) 2 (s + 1) = 2
      · simp only [y, if_true]; exact if_pos (Or.inr trivial)
      · simp only [y, if_false]
        rw [if_pos (Or.inl trivial), if_neg (by omega)]
    · rw [y1]
      by_cases y : ldg (cg n tx) 2 (s + 1) = 2
      · rw [if_pos y, y]
      · rw [if_neg y, show s + 1 + ldg (cg n tx) 2 (s + 1) = s + (1 + ldg (cg n tx) 2 (s + 1)) by omega]
    · split <;> omega
    · rw [z5] at hb
      rw [t3] at hi
      by_cases y : ldg (cg n tx) 2 (s + 1) = 2
      · unfold td
        rw [if_neg (fun y => by omega), if_neg (by omega)]
        exact y4 i (by omega)
      · rw [if_neg y] at hb; omega
