/-! the run: a fixed point of the step; what it answers, some fuel answers -/
abbrev ax_Q : Type := (Nat × Nat × ax_Lc × List Value × ax_Hp) × ax_Rs
def ax_A (R : ax_Rn) (q : ax_Q) : Prop := R q.1.1 q.1.2.1 q.1.2.2.1 q.1.2.2.2.1 q.1.2.2.2.2 = some q.2
def ax_F {α : Type} (f : ax_Rn → Option α) (R : ax_Rn) (r : α) : Prop := ∃ qs : List ax_Q, (∀ q ∈ qs, ax_A R q) ∧ ∀ R' : ax_Rn, (∀ q ∈ qs, ax_A R' q) → f R' = some r
theorem ax_F_const {α : Type} {o : Option α} {R : ax_Rn} {r : α} (h : o = some r) : ax_F (fun _ => o) R r := ⟨[], fun q hq => absurd hq List.not_mem_nil, fun _ _ => h⟩
theorem ax_F_ask {m pc : Nat} {ls : ax_Lc} {st : List Value} {h : ax_Hp} {R : ax_Rn} {r : ax_Rs} (e : R m pc ls st h = some r) : ax_F (fun R => R m pc ls st h) R r :=
  ⟨[((m, pc, ls, st, h), r)], fun q hq => by cases List.mem_singleton.mp hq; exact e, fun R' hR => hR _ (List.mem_singleton.mpr rfl)⟩
theorem ax_F_bind {α β : Type} {f : ax_Rn → Option α} {g : α → ax_Rn → Option β} {R : ax_Rn} {a : α} {b : β} (h1 : ax_F f R a) (h2 : ax_F (g a) R b) : ax_F (fun R => (f R).bind (fun x => g x R)) R b := by
  obtain ⟨q1, a1, b1⟩ := h1
  obtain ⟨q2, a2, b2⟩ := h2
  refine ⟨q1 ++ q2, fun q hq => (List.mem_append.mp hq).elim (a1 q) (a2 q), fun R' hR => ?_⟩
  show (f R').bind (fun x => g x R') = some b
  rw [b1 R' (fun q hq => hR q (List.mem_append_left _ hq))]
  exact b2 R' (fun q hq => hR q (List.mem_append_right _ hq))
theorem ax_F_eq {α : Type} {f g : ax_Rn → Option α} {R : ax_Rn} {r : α} (e : ∀ R', g R' = f R') (h : ax_F f R r) : ax_F g R r := by
  obtain ⟨qs, a, b⟩ := h
  exact ⟨qs, a, fun R' hR => (e R').trans (b R' hR)⟩
theorem ax_F_jmp {m : Nat} {t : Nat × List Nat} {ls : ax_Lc} {st : List Value} {h : ax_Hp} {R : ax_Rn} {r : ax_Rs} (e : ax_jmp R m t ls st h = some r) : ax_F (fun R => ax_jmp R m t ls st h) R r := by
  unfold ax_jmp at e ⊢
  cases hn : ax_nrm t.2 ls with
  | none => rw [hn] at e; cases e
  | some l => rw [hn] at e; exact ax_F_ask e
theorem ax_F_sw {m : Nat} {x : Int32} {ls : ax_Lc} {st : List Value} {h : ax_Hp} {R : ax_Rn} {r : ax_Rs} : ∀ (l : ax_If), ax_sw R m x ls st h l = some r → ax_F (fun R => ax_sw R m x ls st h l) R r
  | [], e => by cases e
  | [(v, t)], e => ax_F_jmp e
  | (v, t) :: q :: l, e => by
    cases v with
    | int w =>
      have e0 : ∀ R' : ax_Rn, ax_sw R' m x ls st h ((.int w, t) :: q :: l) = if x = w then ax_jmp R' m t ls st h else ax_sw R' m x ls st h (q :: l) := fun _ => rfl
      rw [e0] at e
      by_cases hx : x = w
      · rw [if_pos hx] at e
        exact ax_F_eq (fun R' => (e0 R').trans (if_pos hx)) (ax_F_jmp e)
      · rw [if_neg hx] at e
        exact ax_F_eq (fun R' => (e0 R').trans (if_neg hx)) (ax_F_sw (q :: l) e)
    | _ => cases e
theorem ax_F_rV {z : Nat} {as : List Value} {h : ax_Hp} {R : ax_Rn} {r : ax_Hp} (e : ax_rV R z as h = some r) : ax_F (fun R => ax_rV R z as h) R r := by
  unfold ax_rV at e
  split at e
  · next h' hR =>
    cases e
    obtain ⟨qs, a, b⟩ := ax_F_ask hR
    exact ⟨qs, a, fun R' hR' => by simp only [ax_rV, b R' hR']⟩
  · cases e
theorem ax_F_rI {z : Nat} {as : List Value} {h : ax_Hp} {R : ax_Rn} {r : Int32 × ax_Hp} (e : ax_rI R z as h = some r) : ax_F (fun R => ax_rI R z as h) R r := by
  unfold ax_rI at e
  split at e
  · next h' hR =>
    cases e
    obtain ⟨qs, a, b⟩ := ax_F_ask hR
    exact ⟨qs, a, fun R' hR' => by simp only [ax_rI, b R' hR']⟩
  · cases e
theorem ax_F_rL {z : Nat} {as : List Value} {h : ax_Hp} {R : ax_Rn} {r : Int64 × ax_Hp} (e : ax_rL R z as h = some r) : ax_F (fun R => ax_rL R z as h) R r := by
  unfold ax_rL at e
  split at e
  · next h' hR =>
    cases e
    obtain ⟨qs, a, b⟩ := ax_F_ask hR
    exact ⟨qs, a, fun R' hR' => by simp only [ax_rL, b R' hR']⟩
  · cases e
theorem ax_F_rA {z : Nat} {as : List Value} {h : ax_Hp} {R : ax_Rn} {r : Nat × ax_Hp} (e : ax_rA R z as h = some r) : ax_F (fun R => ax_rA R z as h) R r := by
  unfold ax_rA at e
  split at e
  · next h' hR =>
    cases e
    obtain ⟨qs, a, b⟩ := ax_F_ask hR
    exact ⟨qs, a, fun R' hR' => by simp only [ax_rA, b R' hR']⟩
  · cases e
theorem ax_bind_some {α β : Type} {o : Option α} {g : α → Option β} {b : β} (h : o.bind g = some b) : ∃ a, o = some a ∧ g a = some b := by
  cases o with
  | none => cases h
  | some a => exact ⟨a, rfl, h⟩
theorem ax_F_call {z n k : Nat} {st : List Value} {h : ax_Hp} {R : ax_Rn} {r : ax_Rs} {go : ax_Rn → List Value → ax_Hp → Option ax_Rs} (hgo : ∀ st' h', go R st' h' = some r → ax_F (fun R => go R st' h') R r)
    (e : ax_call R z n k st h (go R) = some r) : ax_F (fun R => ax_call R z n k st h (go R)) R r := by
  unfold ax_call at e ⊢
  split at e
  · obtain ⟨a, h1, h2⟩ := ax_bind_some e
    exact ax_F_bind (ax_F_rV h1) (hgo _ _ h2)
  · obtain ⟨a, h1, h2⟩ := ax_bind_some e
    exact ax_F_bind (g := fun q R => go R (.int q.1 :: st.drop n) q.2) (ax_F_rI h1) (hgo _ _ h2)
  · obtain ⟨a, h1, h2⟩ := ax_bind_some e
    exact ax_F_bind (g := fun q R => go R (.long q.1 :: st.drop n) q.2) (ax_F_rL h1) (hgo _ _ h2)
  · obtain ⟨a, h1, h2⟩ := ax_bind_some e
    exact ax_F_bind (g := fun q R => go R (.ref q.1 :: st.drop n) q.2) (ax_F_rA h1) (hgo _ _ h2)
theorem ax_F_if {c : ClassFile.Cond} {x y : Int32} {f g : ax_Rn → Option ax_Rs} {R : ax_Rn} {r : ax_Rs} (hf : f R = some r → ax_F f R r) (hg : g R = some r → ax_F g R r)
    (e : ax_if c x y (f R) (g R) = some r) : ax_F (fun R => ax_if c x y (f R) (g R)) R r := by
  cases c <;> simp only [ax_if] at e ⊢ <;> split at e <;> rename_i hc <;> simp only [hc, if_true, if_false] <;> first | exact hf e | exact hg e
theorem ax_F_exec {m rt : Nat} {nx : Nat × List Nat} {R : ax_Rn} {r : ax_Rs} : ∀ (ops : List ax_Op) (ls : ax_Lc) (st : List Value) (h : ax_Hp), ax_exec R m rt nx ops ls st h = some r → ax_F (fun R => ax_exec R m rt nx ops ls st h) R r
  | [], ls, st, h, e => ax_F_jmp e
  | op :: rest, ls, st, h, e => by
    unfold ax_exec at e ⊢
    split at e
    · split at e
      · exact ax_F_jmp e
      · cases e
    · split at e
      · exact ax_F_if ax_F_jmp (ax_F_exec rest _ _ _) e
      · cases e
    · split at e
      · exact ax_F_if ax_F_jmp (ax_F_exec rest _ _ _) e
      · cases e
    · split at e
      · exact ax_F_sw _ e
      · cases e
    · split at e
      · exact ax_F_sw _ e
      · cases e
    · exact ax_F_const e
    · exact ax_F_const e
    · exact ax_F_const e
    · exact ax_F_const e
    · split at e
      · split at e
        · exact ax_F_call (go := fun R st' h' => ax_exec R m rt nx rest ls st' h') (fun st' h' => ax_F_exec rest ls st' h') e
        · cases e
      · split at e
        · cases e
        · next b ls' st' h' hs =>
          cases b with
          | false => cases e
          | true => exact ax_F_exec rest ls' st' h' e
theorem ax_F_step {R : ax_Rn} {r : ax_Rs} {m pc : Nat} {ls : ax_Lc} {st : List Value} {h : ax_Hp} (e : ax_step R m pc ls st h = some r) : ax_F (fun R => ax_step R m pc ls st h) R r := by
  unfold ax_step at e ⊢
  split at e
  · cases e
  · exact ax_F_exec _ _ _ _ e
theorem ax_fuel_up : ∀ (n m pc : Nat) (ls : ax_Lc) (st : List Value) (h : ax_Hp) (r : ax_Rs), ax_fuel n m pc ls st h = some r → ax_fuel (n + 1) m pc ls st h = some r
  | 0, m, pc, ls, st, h, r, e => by cases e
  | n + 1, m, pc, ls, st, h, r, e => by
    obtain ⟨qs, a, b⟩ := ax_F_step (R := ax_fuel n) e
    exact b (ax_fuel (n + 1)) (fun q hq => ax_fuel_up n _ _ _ _ _ _ (a q hq))
theorem ax_fuel_le {n k : Nat} (hk : n ≤ k) {m pc : Nat} {ls : ax_Lc} {st : List Value} {h : ax_Hp} {r : ax_Rs} (e : ax_fuel n m pc ls st h = some r) : ax_fuel k m pc ls st h = some r := by
  induction hk with
  | refl => exact e
  | step _ ih => exact ax_fuel_up _ _ _ _ _ _ _ ih
theorem ax_run_fuel {m pc : Nat} {ls : ax_Lc} {st : List Value} {h : ax_Hp} {r : ax_Rs} : ax_run m pc ls st h = some r ↔ ∃ n, ax_fuel n m pc ls st h = some r := by
  unfold ax_run
  by_cases hx : ∃ (r : ax_Rs) (n : Nat), ax_fuel n m pc ls st h = some r
  · rw [dif_pos hx]
    obtain ⟨n, hn⟩ := hx.choose_spec
    constructor
    · intro e
      exact ⟨n, by rw [hn]; exact e⟩
    · rintro ⟨k, hk⟩
      have h1 := ax_fuel_le (Nat.le_max_left n k) hn
      have h2 := ax_fuel_le (Nat.le_max_right n k) hk
      rw [h1] at h2
      exact h2
  · rw [dif_neg hx]
    exact ⟨fun e => by (cases e), fun ⟨n, hn⟩ => absurd ⟨r, n, hn⟩ hx⟩
theorem ax_fuel_all : ∀ (qs : List ax_Q), (∀ q ∈ qs, ax_A ax_run q) → ∃ n, ∀ q ∈ qs, ax_A (ax_fuel n) q
  | [], _ => ⟨0, fun _ h => by cases h⟩
  | q :: qs, h => by
    obtain ⟨n, hn⟩ := ax_fuel_all qs (fun q' hq => h q' (List.mem_cons_of_mem _ hq))
    obtain ⟨k, hk⟩ := ax_run_fuel.mp (h q List.mem_cons_self)
    refine ⟨max n k, fun q' hq => ?_⟩
    rcases List.mem_cons.mp hq with rfl | hq
    · exact ax_fuel_le (Nat.le_max_right n k) hk
    · exact ax_fuel_le (Nat.le_max_left n k) (hn q' hq)
/-- the run goes on as the step says -/
theorem ax_run_eq (m pc : Nat) (ls : ax_Lc) (st : List Value) (h : ax_Hp) : ax_run m pc ls st h = ax_step ax_run m pc ls st h := by
  have up : ∀ r, ax_run m pc ls st h = some r → ax_step ax_run m pc ls st h = some r := by
    intro r e
    obtain ⟨n, hn⟩ := ax_run_fuel.mp e
    cases n with
    | zero => cases hn
    | succ n =>
      obtain ⟨qs, a, b⟩ := ax_F_step (R := ax_fuel n) hn
      exact b ax_run (fun q hq => ax_run_fuel.mpr ⟨n, a q hq⟩)
  have down : ∀ r, ax_step ax_run m pc ls st h = some r → ax_run m pc ls st h = some r := by
    intro r e
    obtain ⟨qs, a, b⟩ := ax_F_step e
    obtain ⟨n, hn⟩ := ax_fuel_all qs a
    exact ax_run_fuel.mpr ⟨n + 1, b (ax_fuel n) hn⟩
  cases hs : ax_step ax_run m pc ls st h with
  | some r => exact down r hs
  | none =>
    cases hr : ax_run m pc ls st h with
    | none => rfl
    | some r => rw [up r hr] at hs; cases hs
