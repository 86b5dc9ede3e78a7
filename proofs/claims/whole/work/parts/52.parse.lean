/-! letters: the reference's statements -/
def SD (g g' : ax_Hp) (k : Nat) : Prop := g'.2 = g.2 ∧ (∀ c, c ≠ 47 → c ≠ 57 → c ≠ 58 → c ≠ 59 → g'.1 c = g.1 c) ∧ (∀ i, i ≠ 15 → i ≠ 17 → g'.1 47 i = g.1 47 i) ∧ (∀ i, i < k → g'.1 57 i = g.1 57 i ∧ g'.1 58 i = g.1 58 i) ∧ ∀ i, i < 7 * k → g'.1 59 i = g.1 59 i
theorem SD.refl (g : ax_Hp) (k : Nat) : SD g g k := ⟨rfl, fun _ _ _ _ _ => rfl, fun _ _ _ => rfl, fun _ _ => ⟨rfl, rfl⟩, fun _ _ => rfl⟩
/-- the reference reads: letters, place, statements so far -/
def RS (g : ax_Hp) (n : Nat) (tx : Nat → Nat) (p k : Nat) : Prop := g.1 47 14 = nI n ∧ n ≤ 96 ∧ (∀ i, i < n → g.1 56 i = nI (tx i) ∧ tx i ≤ 255) ∧ g.1 47 15 = nI p ∧ p ≤ n ∧ g.1 47 16 = nI k ∧ k ≤ 24
theorem sz6 {c : Nat} (h : szN c ≠ 0) : c = 119 ∨ c = 109 ∨ c = 115 ∨ c = 110 ∨ c = 98 ∨ c = 104 := by
  unfold szN at h
  repeat' split at h
  all_goals omega
theorem sz0 {c : Nat} (h : szN c = 0) : c ≠ 119 ∧ c ≠ 109 ∧ c ≠ 115 ∧ c ≠ 110 ∧ c ≠ 98 ∧ c ≠ 104 := by
  refine ⟨?_, ?_, ?_, ?_, ?_, ?_⟩ <;> (intro e; subst e; exact absurd h (by decide))
theorem sz_256 {c : Nat} (h : szN c ≠ 0) : c ≠ 256 := by
  have := sz6 h
  omega
theorem now_s {g : ax_Hp} {n : Nat} {tx : Nat → Nat} {p k : Nat} (r : RS g n tx p k) : rI m_X8_letterNow [.ref 47] g = some (sI_ (cg n tx p), g) := by
  obtain ⟨r1, r2, r3, r4, r5, r6, r7⟩ := r
  refine rI_of ((e_X8_letterNow_0 g).trans ?_)
  rw [r1, r4]
  simp (disch := omega) only [le_]
  unfold cg
  by_cases q : p < n
  · rw [if_neg (by omega), if_pos q, in_nI (by omega) (by omega), g_true, cl_ (by omega), (r3 p q).1, sI_lt (by have := (r3 p q).2; omega)]
  · rw [if_pos (by omega), if_neg q]
    rfl
theorem stmt_ {g : ax_Hp} {n : Nat} {tx : Nat → Nat} {s k : Nat} (r : RS g n tx s k) :
    ∃ g', rI m_X8_statement [.ref 47] g = some (if szN (cg n tx s) ≠ 0 ∧ badS (cg n tx) s = szN (cg n tx s) then 1 else 0, g') ∧ SD g g' k ∧
      g'.1 47 15 = nI (if szN (cg n tx s) = 0 then s else s + badS (cg n tx) s) ∧ (szN (cg n tx s) ≠ 0 → s + badS (cg n tx) s ≤ n) ∧
      (szN (cg n tx s) ≠ 0 ∧ badS (cg n tx) s = szN (cg n tx s) → g'.1 57 k = sI_ (cg n tx s) ∧ g'.1 58 k = nI s ∧ ∀ i, i < tn (cg n tx s) → g'.1 59 (7 * k + i) = nI (td (cg n tx) s i)) := by
  have ht : ∀ i, i < n → tx i ≤ 255 := fun i hi => (r.2.2.1 i hi).2
  have hc := cg_le ht s
  obtain ⟨a1, a2, a3, a4, a5, a6, a7⟩ := sI_eq _ (show cg n tx s < 257 by omega)
  have hnow := now_s r
  obtain ⟨r1, r2, r3, r4, r5, r6, r7⟩ := r
  have st := e_X8_statement_0 g
  rw [hnow, bnd] at st
  simp only [a1, a2, a3, a4, a5, a6] at st
  by_cases z : szN (cg n tx s) = 0
  · obtain ⟨z1, z2, z3, z4, z5, z6⟩ := sz0 z
    simp only [z1, z2, z3, z4, z5, z6, if_false] at st
    refine ⟨g, rI_of (st.trans ?_), SD.refl g k, ?_, fun y => absurd z y, fun y => absurd z y.1⟩
    · rw [if_neg (fun y => y.1 z)]
    · rw [if_pos z]; exact r4
  · have hs : s < n := by
      apply Classical.byContradiction
      intro y
      exact sz_256 z (if_neg y)
    have l7' : (7 : Int32) = nI 7 := rfl
    simp (disch := omega) only [r6, r4, g_in, cl_, wI_ne, wI_at, upd_ne, upd_at, l7', mul_, nI_1] at st
    have rG : RA (wI (wI (wI (wI g 57 k (sI_ (cg n tx s))) 58 k (nI s)) 47 17 (nI (7 * k))) 47 15 (nI (s + 1))) n tx (s + 1) (7 * k) := by
      refine ⟨?_, r2, ?_, ?_, by omega, ?_, by omega⟩ <;> simp (disch := omega) only [wI_ne, wI_at, upd_ne, upd_at] <;> assumption
    have sG : SD g (wI (wI (wI (wI g 57 k (sI_ (cg n tx s))) 58 k (nI s)) 47 17 (nI (7 * k))) 47 15 (nI (s + 1))) k := by
      refine ⟨rfl, fun c h1 h2 h3 h4 => ?_, fun i h1 h2 => ?_, fun i hi => ⟨?_, ?_⟩, fun i hi => ?_⟩ <;> simp (disch := omega) only [wI_ne, wI_at, upd_ne]
    have k57 : (wI (wI (wI (wI g 57 k (sI_ (cg n tx s))) 58 k (nI s)) 47 17 (nI (7 * k))) 47 15 (nI (s + 1))).1 57 k = sI_ (cg n tx s) := by simp (disch := omega) only [wI_ne, wI_at, upd_at]
    have k58 : (wI (wI (wI (wI g 57 k (sI_ (cg n tx s))) 58 k (nI s)) 47 17 (nI (7 * k))) 47 15 (nI (s + 1))).1 58 k = nI s := by simp (disch := omega) only [wI_ne, wI_at, upd_at]
    generalize hG : wI (wI (wI (wI g 57 k (sI_ (cg n tx s))) 58 k (nI s)) 47 17 (nI (7 * k))) 47 15 (nI (s + 1)) = G at st rG sG k57 k58
    obtain ⟨g1, e1, d1, p1, p2, ⟨v, v1, v2⟩, t1⟩ := all_ rG z (by omega)
    have r1' := rG.to d1 p1 p2 v1 v2
    have sd : SD g g1 k := ⟨d1.1.trans sG.1, fun c h1 h2 h3 h4 => (d1.2.1 c h1 h4).trans (sG.2.1 c h1 h2 h3 h4), fun i h1 h2 => (d1.2.2.1 i h1 h2).trans (sG.2.2.1 i h1 h2), fun i hi => ⟨by rw [d1.2.1 57 (by omega) (by omega)]; exact (sG.2.2.2.1 i hi).1, by rw [d1.2.1 58 (by omega) (by omega)]; exact (sG.2.2.2.1 i hi).2⟩, fun i hi => (d1.2.2.2 i hi).trans (sG.2.2.2.2 i hi)⟩
    have tail : ((rI m_X8_readsAll [.ref 47, .int (sI_ (cg n tx s))] G).bind (fun q2 => if q2.1 = 0 then some (some (.int 0), q2.2) else (rI m_X8_letterNow [.ref 47] q2.2).bind (fun q3 => if q3.1 = 59 then some (some (.int 1), wI q3.2 47 15 ((q3.2.1 47 15) + 1)) else some (some (.int 0), q3.2)))) =
        if badA (cg n tx) s = szN (cg n tx s) - 1 then (if cg n tx (s + (szN (cg n tx s) - 1)) = 59 then some (some (Value.int 1), wI g1 47 15 (nI (s + szN (cg n tx s)))) else some (some (.int 0), g1)) else some (some (.int 0), g1) := by
      rw [e1, bnd]
      by_cases q : badA (cg n tx) s = szN (cg n tx s) - 1
      · simp only [q, if_true, ax_10, if_false]
        rw [now_l r1', bnd, q]
        have hcc := r1'.cl (s + (szN (cg n tx s) - 1))
        simp only [(sI_eq _ (show cg n tx (s + (szN (cg n tx s) - 1)) < 257 by omega)).2.2.2.2.2.2]
        rw [p1, q, nI_1, show s + (szN (cg n tx s) - 1) + 1 = s + szN (cg n tx s) by omega]
      · simp only [q, if_false, if_true]
    have st2 : ax_run m_X8_statement 0 [(0, .ref 47)] [] g = if badA (cg n tx) s = szN (cg n tx s) - 1 then (if cg n tx (s + (szN (cg n tx s) - 1)) = 59 then some (some (Value.int 1), wI g1 47 15 (nI (s + szN (cg n tx s)))) else some (some (.int 0), g1)) else some (some (.int 0), g1) := by
      rw [← tail]
      refine st.trans ?_
      rcases sz6 z with e | e | e | e | e | e <;> simp only [e, if_true, Nat.reduceEqDiff, if_false]
    have bs := badS_is z
    by_cases q : badA (cg n tx) s = szN (cg n tx s) - 1
    · rw [if_pos q] at st2 bs
      by_cases q2 : cg n tx (s + (szN (cg n tx s) - 1)) = 59
      · rw [if_pos q2] at st2 bs
        have hs2 : s + (szN (cg n tx s) - 1) < n := by
          apply Classical.byContradiction
          intro y
          have : cg n tx (s + (szN (cg n tx s) - 1)) = 256 := if_neg y
          omega
        refine ⟨wI g1 47 15 (nI (s + szN (cg n tx s))), rI_of (st2.trans (by rw [if_pos ⟨z, bs⟩])), ⟨sd.1, fun c h1 h2 h3 h4 => (wI_ne h1).trans (sd.2.1 c h1 h2 h3 h4), fun i h1 h2 => ?_, fun i hi => ?_, fun i hi => ?_⟩, ?_, fun _ => by omega, fun _ => ⟨?_, ?_, fun i hi => ?_⟩⟩
        · simp (disch := omega) only [wI_at, upd_ne]; exact sd.2.2.1 i h1 h2
        · rw [wI_ne (by omega), wI_ne (by omega)]; exact sd.2.2.2.1 i hi
        · rw [wI_ne (by omega)]; exact sd.2.2.2.2 i hi
        · rw [if_neg z, bs]; simp (disch := omega) only [wI_at, upd_at]
        · rw [wI_ne (by omega), d1.2.1 57 (by omega) (by omega)]; exact k57
        · rw [wI_ne (by omega), d1.2.1 58 (by omega) (by omega)]; exact k58
        · rw [wI_ne (by omega)]; exact t1 q i hi
      · rw [if_neg q2] at st2 bs
        refine ⟨g1, rI_of (st2.trans (by rw [if_neg (fun y => by omega)])), sd, ?_, fun _ => by omega, fun y => by omega⟩
        rw [if_neg z, bs, ← q]; exact p1
    · rw [if_neg q] at st2 bs
      have bl := bad_le (cg n tx) s (szN (cg n tx s) - 2) 1
      have ba : badA (cg n tx) s = bad (cg n tx) s (szN (cg n tx s) - 2) 1 := rfl
      have z2 := sz6 z
      have hz4 : 4 ≤ szN (cg n tx s) := by rcases z2 with e | e | e | e | e | e <;> (rw [e]; decide)
      refine ⟨g1, rI_of (st2.trans (by rw [if_neg (fun y => by omega)])), sd, ?_, fun _ => by omega, fun y => by omega⟩
      rw [if_neg z, bs]; exact p1
/-- where the statement k begins -/
def pos (c : Nat → Nat) : Nat → Nat
  | 0 => 0
  | k + 1 => pos c k + szN (c (pos c k))
/-- the first k statements are well formed -/
def GS (c : Nat → Nat) (n k : Nat) : Prop := ∀ j, j < k → pos c j < n ∧ szN (c (pos c j)) ≠ 0 ∧ badS c (pos c j) = szN (c (pos c j)) ∧ pos c (j + 1) ≤ n
/-- and told -/
def DT (c : Nat → Nat) (g : ax_Hp) (k : Nat) : Prop := ∀ j, j < k → g.1 57 j = sI_ (c (pos c j)) ∧ g.1 58 j = nI (pos c j) ∧ ∀ i, i < tn (c (pos c j)) → g.1 59 (7 * j + i) = nI (td c (pos c j) i)
theorem tn_le (c : Nat) : tn c ≤ 7 := by unfold tn; repeat' split
                                         all_goals omega
theorem sz4 {c : Nat} (h : szN c ≠ 0) : 4 ≤ szN c := by
  rcases sz6 h with e | e | e | e | e | e <;> (rw [e]; decide)
theorem pos_ge {c : Nat → Nat} {n k : Nat} (gs : GS c n k) : 4 * k ≤ pos c k := by
  induction k with
  | zero => exact Nat.zero_le _
  | succ k ih =>
    have h1 := ih (fun j hj => gs j (by omega))
    have h2 := sz4 (gs k (by omega)).2.1
    show _ ≤ pos c k + szN (c (pos c k))
    omega
def SF (g g' : ax_Hp) : Prop := g'.2 = g.2 ∧ (∀ c, c ≠ 47 → c ≠ 57 → c ≠ 58 → c ≠ 59 → g'.1 c = g.1 c) ∧ ∀ i, i ≠ 14 → i ≠ 15 → i ≠ 16 → i ≠ 17 → g'.1 47 i = g.1 47 i
theorem SF.trans {g g1 g2 : ax_Hp} (a : SF g g1) (b : SF g1 g2) : SF g g2 :=
  ⟨b.1.trans a.1, fun c h1 h2 h3 h4 => (b.2.1 c h1 h2 h3 h4).trans (a.2.1 c h1 h2 h3 h4), fun i h1 h2 h3 h4 => (b.2.2 i h1 h2 h3 h4).trans (a.2.2 i h1 h2 h3 h4)⟩
theorem SF.sd {g g' : ax_Hp} {k : Nat} (d : SD g g' k) : SF g g' := ⟨d.1, d.2.1, fun i _ h2 _ h4 => d.2.2.1 i h2 h4⟩
theorem SF.wr {g g' : ax_Hp} {i : Nat} {x : Int32} (a : SF g g') (hi : i = 14 ∨ i = 15 ∨ i = 16 ∨ i = 17) : SF g (wI g' 47 i x) :=
  ⟨a.1, fun c h1 h2 h3 h4 => (wI_ne h1).trans (a.2.1 c h1 h2 h3 h4), fun j h1 h2 h3 h4 => by
    rw [wI_at, upd_ne (by omega)]; exact a.2.2 j h1 h2 h3 h4⟩
theorem st12_0 (g : ax_Hp) : ax_run m_X8_street 12 [(0, .ref 47), (1, .int 0)] [] g = some (some (.int (-1000 - g.1 47 15)), wI g 47 14 0) := by
  rw [e_X8_street_12, if_pos rfl, if_pos rfl]
  simp (disch := omega) only [wI_at, upd_ne]
/-- one statement more, or the fault -/
theorem st12_1 {g : ax_Hp} {n : Nat} {tx : Nat → Nat} {k : Nat} (r : RS g n tx (pos (cg n tx) k) k) (hk : k < 24) (hp : pos (cg n tx) k < n ∨ k = 0) (gs : GS (cg n tx) n k) (dt : DT (cg n tx) g k) :
    ∃ g', SF g g' ∧ ((¬ (szN (cg n tx (pos (cg n tx) k)) ≠ 0 ∧ badS (cg n tx) (pos (cg n tx) k) = szN (cg n tx (pos (cg n tx) k))) ∧
        ax_run m_X8_street 12 [(0, .ref 47), (1, .int 1)] [] g = some (some (.int (-1000 - nI (if szN (cg n tx (pos (cg n tx) k)) = 0 then pos (cg n tx) k else pos (cg n tx) k + badS (cg n tx) (pos (cg n tx) k)))), wI g' 47 14 0)) ∨
      ((szN (cg n tx (pos (cg n tx) k)) ≠ 0 ∧ badS (cg n tx) (pos (cg n tx) k) = szN (cg n tx (pos (cg n tx) k))) ∧ ax_run m_X8_street 12 [(0, .ref 47), (1, .int 1)] [] g = ax_run m_X8_street 12 [(0, .ref 47), (1, .int 1)] [] g' ∧
        RS g' n tx (pos (cg n tx) (k + 1)) (k + 1) ∧ GS (cg n tx) n (k + 1) ∧ DT (cg n tx) g' (k + 1))) := by
  obtain ⟨g1, e1, d1, p1, p2, t1⟩ := stmt_ r
  have st : ax_run m_X8_street 12 [(0, .ref 47), (1, .int 1)] [] g = (rI m_X8_statement [.ref 47] g).bind (fun q2 => if q2.1 = 0 then ax_run m_X8_street 12 [(0, .ref 47), (1, .int q2.1)] [] (wI q2.2 47 16 ((q2.2.1 47 16) + 0)) else ax_run m_X8_street 12 [(0, .ref 47), (1, .int q2.1)] [] (wI q2.2 47 16 ((q2.2.1 47 16) + 1))) := by
    have r2 := r.2.1
    have r5 := r.2.2.2.2.1
    rw [e_X8_street_12, if_neg (by decide), r.1, r.2.2.2.1, r.2.2.2.2.2.1]
    simp (disch := omega) only [lt_, eq0]
    by_cases q : pos (cg n tx) k < n
    · rw [if_pos q]
    · have k0 : k = 0 := by omega
      rw [if_neg q, if_pos k0]
  rw [e1, bnd] at st
  have r6 := r.2.2.2.2.2.1
  have s16 : g1.1 47 16 = nI k := (d1.2.2.1 16 (by omega) (by omega)).trans r6
  by_cases q : szN (cg n tx (pos (cg n tx) k)) ≠ 0 ∧ badS (cg n tx) (pos (cg n tx) k) = szN (cg n tx (pos (cg n tx) k))
  · simp only [if_pos q, ax_10, if_false] at st
    rw [s16, nI_1] at st
    rw [if_neg q.1, q.2] at p1
    have p3 := p2 q.1
    rw [q.2] at p3
    obtain ⟨t2, t3, t4⟩ := t1 q
    refine ⟨wI g1 47 16 (nI (k + 1)), (SF.sd d1).wr (by omega), Or.inr ⟨q, st, ?_, ?_, ?_⟩⟩
    · refine ⟨?_, r.2.1, fun i hi => ?_, ?_, p3, ?_, by omega⟩
      · simp (disch := omega) only [wI_at, upd_ne]; exact (d1.2.2.1 14 (by omega) (by omega)).trans r.1
      · rw [wI_ne (by omega), d1.2.1 56 (by omega) (by omega) (by omega) (by omega)]; exact r.2.2.1 i hi
      · simp (disch := omega) only [wI_at, upd_ne]; exact p1
      · simp (disch := omega) only [wI_at, upd_at]
    · intro j hj
      by_cases e : j = k
      · subst e
        have hlt : pos (cg n tx) j < n := by
          have := sz4 q.1
          omega
        exact ⟨hlt, q.1, q.2, p3⟩
      · exact gs j (by omega)
    · intro j hj
      rw [wI_ne (by omega), wI_ne (by omega), wI_ne (by omega)]
      by_cases e : j = k
      · subst e
        exact ⟨t2, t3, t4⟩
      · have := dt j (by omega)
        have tl := tn_le (cg n tx (pos (cg n tx) j))
        refine ⟨(d1.2.2.2.1 j (by omega)).1.trans this.1, (d1.2.2.2.1 j (by omega)).2.trans this.2.1, fun i hi => (d1.2.2.2.2 _ (by omega)).trans (this.2.2 i hi)⟩
  · simp only [if_neg q, if_true] at st
    rw [st12_0] at st
    refine ⟨wI g1 47 16 (g1.1 47 16 + 0), (SF.sd d1).wr (by omega), Or.inl ⟨q, st.trans ?_⟩⟩
    simp (disch := omega) only [wI_at, upd_ne]
    rw [p1]
theorem st12_end {g : ax_Hp} {n : Nat} {tx : Nat → Nat} {p k : Nat} (r : RS g n tx p k) (hk : 0 < k) (hp : n ≤ p) :
    ax_run m_X8_street 12 [(0, .ref 47), (1, .int 1)] [] g = (rV m_X8_passesAll [.ref 47, .int 1, .int 1] (wI g 47 14 0)).bind (fun q1 => ax_run m_X8_street 86 [(0, .ref 47), (2, .int 0)] [] q1) := by
  obtain ⟨r1, r2, r3, r4, r5, r6, r7⟩ := r
  rw [e_X8_street_12, if_neg (by decide), r1, r4, r6]
  simp (disch := omega) only [lt_, eq0]
  rw [if_neg (by omega), if_neg (by omega), if_neg (by decide)]
theorem parse_ {n : Nat} {tx : Nat → Nat} : ∀ f k g, k + f = 96 → 0 < n → RS g n tx (pos (cg n tx) k) k → GS (cg n tx) n k → DT (cg n tx) g k →
    (∃ q, prs (cg n tx) n f (pos (cg n tx) k) = some q ∧ ∃ g', SF g g' ∧ ax_run m_X8_street 12 [(0, .ref 47), (1, .int 1)] [] g = some (some (.int (-1000 - nI q)), wI g' 47 14 0)) ∨
    (prs (cg n tx) n f (pos (cg n tx) k) = none ∧ ∃ K g', SF g g' ∧ RS g' n tx n K ∧ 0 < K ∧ pos (cg n tx) K = n ∧ GS (cg n tx) n K ∧ DT (cg n tx) g' K ∧
      ax_run m_X8_street 12 [(0, .ref 47), (1, .int 1)] [] g = (rV m_X8_passesAll [.ref 47, .int 1, .int 1] (wI g' 47 14 0)).bind (fun q1 => ax_run m_X8_street 86 [(0, .ref 47), (2, .int 0)] [] q1)) := by
  intro f
  induction f with
  | zero =>
    intro k g hk h0 r gs dt
    have h1 := pos_ge gs
    have h2 := r.2.2.2.2.1
    have h3 := r.2.1
    omega
  | succ f ih =>
    intro k g hk h0 r gs dt
    have h1 := pos_ge gs
    have h2 := r.2.2.2.2.1
    have h3 := r.2.1
    by_cases e : n ≤ pos (cg n tx) k
    · refine Or.inr ⟨by simp only [prs]; rw [if_pos e], k, g, ⟨rfl, fun _ _ _ _ _ => rfl, fun _ _ _ _ _ => rfl⟩, ?_, ?_, by omega, gs, dt, ?_⟩
      · rw [show pos (cg n tx) k = n by omega] at r; exact r
      · apply Nat.pos_of_ne_zero
        intro k0
        subst k0
        have : pos (cg n tx) 0 = 0 := rfl
        omega
      · refine st12_end r ?_ e
        apply Nat.pos_of_ne_zero
        intro k0
        subst k0
        have : pos (cg n tx) 0 = 0 := rfl
        omega
    · obtain ⟨g1, s1, c1⟩ := st12_1 r (by omega) (Or.inl (by omega)) gs dt
      rcases c1 with ⟨q, st⟩ | ⟨q, st, r', gs', dt'⟩
      · refine Or.inl ⟨_, ?_, g1, s1, st⟩
        simp only [prs]
        rw [if_neg e]
        by_cases z : szN (cg n tx (pos (cg n tx) k)) = 0
        · rw [if_pos z, if_pos z]
        · rw [if_neg z, if_neg z, if_neg (fun y => q ⟨z, y⟩)]
      · have ep : prs (cg n tx) n (f + 1) (pos (cg n tx) k) = prs (cg n tx) n f (pos (cg n tx) (k + 1)) := by
          simp only [prs]
          rw [if_neg e, if_neg q.1, if_pos q.2]
          rfl
        rw [ep]
        rcases ih (k + 1) g1 (by omega) h0 r' gs' dt' with ⟨q2, e2, g2, s2, st2⟩ | ⟨e2, K, g2, s2, c2, c3, c4, c5, c6, st2⟩
        · exact Or.inl ⟨q2, e2, g2, s1.trans s2, st.trans st2⟩
        · exact Or.inr ⟨e2, K, g2, s1.trans s2, c2, c3, c4, c5, c6, st.trans st2⟩
