/-! the exec, the fuel, the run: sound -/
section
variable {p : Program} {l : Launch} {e : Env} {R : Room} {s : State} {m : MethodId} {args : Array Value} {below : List Frame} {meth : Method} {c : Code} {cells slots : Nat} {Q : State → Prop}
variable {cc : ByteArray} {nL own fr lo : Nat} {ad : Nat → Nat} {cI cL : ClassId} {dC : Nat → ClassId} {dI : Nat → Nat → Nat} {A : Nat → Prop} {h0 : ax_Hp} {R' : ax_Rn} {z rt : Nat} {r : ax_Rs}
theorem ax_ret_ok {pc : Nat} {ins : Instr} {ls : ax_Lc} {st : List Value} {h : ax_Hp} (hd : decode cc pc = .ok (ins, 1)) (hk : (ins = .ireturn ∧ ∃ x, st = [.int x]) ∨ (ins = .lreturn ∧ ∃ x, st = [.long x]) ∨ (ins = .areturn ∧ ∃ x, st = [.ref x]) ∨ (ins = .return_ ∧ st = [])) (hR : ax_Rt p l e R s m args below meth c cells slots Q cc ad cI cL dC dI A h0 rt r) (he : ax_ret rt st h = some r) : ax_Go p l e R s m args below meth c cells slots Q nL ad cI cL dC dI A h0 pc ls st h := by
  intro H locs la hP hl
  rcases hk with ⟨rfl, x, rfl⟩ | ⟨rfl, x, rfl⟩ | ⟨rfl, x, rfl⟩ | ⟨rfl, rfl⟩
  · simp only [ax_ret] at he
    split at he
    · next h1 => cases he; exact hR pc H locs la hP ⟨Or.inl h1, hd⟩
    · split at he
      · next h1 =>
        split at he
        · next h2 => cases he; exact hR pc H locs la hP ⟨Or.inr ⟨h1, h2⟩, hd⟩
        · cases he
      · cases he
  · simp only [ax_ret] at he
    split at he
    · next h1 => cases he; exact hR pc H locs la hP ⟨h1, hd⟩
    · cases he
  · simp only [ax_ret] at he
    split at he
    · next h1 => cases he; exact hR pc H locs la hP ⟨h1, hd⟩
    · cases he
  · simp only [ax_ret] at he
    split at he
    · next h1 => cases he; exact hR pc H locs la hP ⟨h1, hd⟩
    · cases he
theorem ax_ret_shape {rt : Nat} {ins : Instr} {st : List Value} {h : ax_Hp} (hi : ax_retI rt ins = true) (he : ax_ret rt st h = some r) (hk : ins = .ireturn ∨ ins = .lreturn ∨ ins = .areturn ∨ ins = .return_) : (ins = .ireturn ∧ ∃ x, st = [.int x]) ∨ (ins = .lreturn ∧ ∃ x, st = [.long x]) ∨ (ins = .areturn ∧ ∃ x, st = [.ref x]) ∨ (ins = .return_ ∧ st = []) := by
  unfold ax_ret at he
  rcases hk with rfl | rfl | rfl | rfl <;> simp only [ax_retI, Bool.or_eq_true, beq_iff_eq] at hi
  · left
    refine ⟨rfl, ?_⟩
    split at he
    · rcases hi with rfl | rfl <;> simp at he
    · exact ⟨_, rfl⟩
    · rcases hi with rfl | rfl <;> simp at he
    · rcases hi with rfl | rfl <;> simp at he
    · cases he
  · right; left
    refine ⟨rfl, ?_⟩
    subst hi
    split at he
    · simp at he
    · simp at he
    · exact ⟨_, rfl⟩
    · simp at he
    · cases he
  · right; right; left
    refine ⟨rfl, ?_⟩
    subst hi
    split at he
    · simp at he
    · simp at he
    · simp at he
    · exact ⟨_, rfl⟩
    · cases he
  · right; right; right
    refine ⟨rfl, ?_⟩
    subst hi
    split at he
    · rfl
    · simp at he
    · simp at he
    · simp at he
    · cases he
theorem ax_exec_ok {nx : Nat × List Nat} (hG : ax_G p s m args c R cells slots own nL fr lo cc ad cI cL dC dI A h0) (hR : ax_Rt p l e R s m args below meth c cells slots Q cc ad cI cL dC dI A h0 rt r)
    (hj : ∀ pc ls st h, R' z pc ls st h = some r → ax_Go p l e R s m args below meth c cells slots Q nL ad cI cL dC dI A h0 pc ls st h) (hc : ∀ (z' : Nat) as h r', z' < ax_ents.length → R' z' 0 (lv_args 0 as) [] h = some r' → ax_Ct l z' as h r') (hW : ∀ z', z' < ax_ents.length → ax_okW z' = true) :
    ∀ (ops : List ax_Op) (pc : Nat) (ls : ax_Lc) (st : List Value) (h : ax_Hp), ax_okO own cc nL fr lo nx.1 pc ops = true → ax_okR rt ops = true → ax_exec R' z rt nx ops ls st h = some r → ax_Go p l e R s m args below meth c cells slots Q nL ad cI cL dC dI A h0 pc ls st h
  | [], pc, ls, st, h, hok, _, he => by
    simp only [ax_okO, decide_eq_true_eq] at hok
    rw [hok]
    exact ax_jmp_ok hj he
  | (pc', ins, len, inf) :: rest, pc, ls, st, h, hok, hrr, he => by
    simp only [ax_okO, Bool.and_eq_true, Bool.or_eq_true, decide_eq_true_eq] at hok
    obtain ⟨-, hd, hI, h5, hend⟩ := hok
    simp only [ax_okR, List.all_cons, Bool.and_eq_true] at hrr
    obtain ⟨hri, hrr⟩ := hrr
    have ih := fun pc ls st h hok he => ax_exec_ok (nx := nx) hG hR hj hc hW rest pc ls st h hok hrr he
    obtain ⟨hx, hb, hml, hown, hts, hK, hA, hE, hfr, hlo, hcc, hss⟩ := id hG
    unfold ax_exec at he
    dsimp only at he hend hI h5 hd
    split at he
    · -- goto
      next o =>
      split at he
      · next v t q =>
        obtain ⟨t1, t2⟩ := t
        simp only [ax_okI, Bool.and_eq_true, decide_eq_true_eq] at hI
        obtain ⟨e1, e2⟩ := hI
        have e1 : len = 3 := beq_iff_eq.mp e1
        subst e1
        intro H locs la hP hl
        exact lv_goto hx hb hd e2 (ax_jmp_ok hj he H locs la hP hl)
      · cases he
    · -- if
      next c9 o =>
      split at he
      · next v t q x r9 =>
        obtain ⟨t1, t2⟩ := t
        simp only [ax_okI, Bool.and_eq_true, decide_eq_true_eq] at hI
        obtain ⟨e1, e2⟩ := hI
        have e1 : len = 3 := beq_iff_eq.mp e1
        subst e1
        have hend' := hend.resolve_left (fun q => by cases q)
        intro H locs la hP hl
        refine ax_if_ok he (fun g => ax_jmp_ok hj g H locs la hP hl) (fun g => ih _ _ _ _ hend' g H locs la hP hl) ?_
        cases c9
        · exact lv_if_eq hx hb hd e2
        · exact lv_if_ne hx hb hd e2
        · exact lv_if_lt hx hb hd e2
        · exact lv_if_ge hx hb hd e2
        · exact lv_if_gt hx hb hd e2
        · exact lv_if_le hx hb hd e2
      · cases he
    · -- if_icmp
      next c9 o =>
      split at he
      · next v t q y x r9 =>
        obtain ⟨t1, t2⟩ := t
        simp only [ax_okI, Bool.and_eq_true, decide_eq_true_eq] at hI
        obtain ⟨e1, e2⟩ := hI
        have e1 : len = 3 := beq_iff_eq.mp e1
        subst e1
        have hend' := hend.resolve_left (fun q => by cases q)
        intro H locs la hP hl
        refine ax_if_ok he (fun g => ax_jmp_ok hj g H locs la hP hl) (fun g => ih _ _ _ _ hend' g H locs la hP hl) ?_
        cases c9
        · exact lv_icmp_eq hx hb hd e2
        · exact lv_icmp_ne hx hb hd e2
        · exact lv_icmp_lt hx hb hd e2
        · exact lv_icmp_ge hx hb hd e2
        · exact lv_icmp_gt hx hb hd e2
        · exact lv_icmp_le hx hb hd e2
      · cases he
    · next d9 lo9 hi9 os9 =>
      split at he
      · next x r9 =>
        cases inf with
        | nil => cases hI
        | cons q inf =>
          obtain ⟨v, i, a⟩ := q
          simp only [ax_okI, Bool.and_eq_true, decide_eq_true_eq] at hI
          obtain ⟨e1, e2⟩ := hI
          refine ax_swT_ok hG hd hj e1 os9.toList _ 0 (by simp) (Nat.zero_le _) (by omega) ?_ he
          simpa using e2
      · cases he
    · next d9 ps9 =>
      split at he
      · next x r9 =>
        cases inf with
        | nil => cases hI
        | cons q inf =>
          obtain ⟨v, i, a⟩ := q
          simp only [ax_okI, Bool.and_eq_true] at hI
          exact ax_swL_ok hG hd hI.1 hj ps9.toList _ rfl hI.2 he
      · cases he
    · have e1 : len = 1 := by
        cases inf with
        | nil => simpa [ax_okI] using hI
        | cons q inf => obtain ⟨v, i, a⟩ := q; cases hI
      subst e1
      exact ax_ret_ok hd (ax_ret_shape hri he (Or.inl rfl)) hR he
    · have e1 : len = 1 := by
        cases inf with
        | nil => simpa [ax_okI] using hI
        | cons q inf => obtain ⟨v, i, a⟩ := q; cases hI
      subst e1
      exact ax_ret_ok hd (ax_ret_shape hri he (Or.inr (Or.inl rfl))) hR he
    · have e1 : len = 1 := by
        cases inf with
        | nil => simpa [ax_okI] using hI
        | cons q inf => obtain ⟨v, i, a⟩ := q; cases hI
      subst e1
      exact ax_ret_ok hd (ax_ret_shape hri he (Or.inr (Or.inr (Or.inl rfl)))) hR he
    · have e1 : len = 1 := by
        cases inf with
        | nil => simpa [ax_okI] using hI
        | cons q inf => obtain ⟨v, i, a⟩ := q; cases hI
      subst e1
      exact ax_ret_ok hd (ax_ret_shape hri he (Or.inr (Or.inr (Or.inr rfl)))) hR he
    · next g1 g2 g3 g4 g5 g6 g7 g8 g9 =>
      have hend' := hend.resolve_left (by rw [ax_end_no g1 g4 g5 g6 g7 g8 g9]; exact Bool.false_ne_true)
      split at he
      · next v z' n k ci w pl q =>
        split at he
        · next hm =>
          have hcall : ∀ (sc : Bool) (idx : Nat), ax_okc own fr lo idx sc z' n k ci w pl = true → decode cc pc = .ok (if sc then .invokestatic idx else .invokevirtual idx, 3) → len = 3 → ax_Go p l e R s m args below meth c cells slots Q nL ad cI cL dC dI A h0 pc ls st h := by
            intro sc idx hokc hd3 hl3
            subst hl3
            have hz : z' < ax_ents.length := by
              simp only [ax_okc, Bool.and_eq_true, decide_eq_true_eq] at hokc
              exact hokc.1
            unfold ax_call at he
            have fin : ∀ (r9 : ax_Rs), R' z' 0 (lv_args 0 (st.take n).reverse) [] h = some r9 → ax_exec R' z rt nx rest ls (r9.1.toList ++ st.drop n) r9.2 = some r → ax_Go p l e R s m args below meth c cells slots Q nL ad cI cL dC dI A h0 pc ls st h :=
              fun r9 q1 q2 => ax_call_ok (hW z' hz) hG hokc hd3 hm (hc z' _ h r9 hz q1) (ih _ _ _ _ hend' q2)
            split at he
            · obtain ⟨q1, q2, q3⟩ := ax_bind_some he
              unfold ax_rV at q2
              split at q2
              · next h9 q4 => cases q2; exact fin _ q4 q3
              · cases q2
            · obtain ⟨q1, q2, q3⟩ := ax_bind_some he
              unfold ax_rI at q2
              split at q2
              · next h9 q4 => cases q2; exact fin _ q4 q3
              · cases q2
            · obtain ⟨q1, q2, q3⟩ := ax_bind_some he
              unfold ax_rL at q2
              split at q2
              · next h9 q4 => cases q2; exact fin _ q4 q3
              · cases q2
            · obtain ⟨q1, q2, q3⟩ := ax_bind_some he
              unfold ax_rA at q2
              split at q2
              · next h9 q4 => cases q2; exact fin _ q4 q3
              · cases q2
          have h5' : ax_five ins ((v, z', [n, k, ci, w, pl]) :: q) = true := h5
          unfold ax_five at h5'
          split at h5'
          · next v8 z8 n8 k8 c8 w8 p8 q8 hq8 =>
            split at h5'
            · next idx =>
              simp only [ax_okI, Bool.and_eq_true] at hI
              exact hcall true idx hI.2 (by rw [← beq_iff_eq.mp hI.1]; exact hd) (beq_iff_eq.mp hI.1)
            · next idx =>
              simp only [ax_okI, Bool.and_eq_true] at hI
              exact hcall false idx hI.2 (by rw [← beq_iff_eq.mp hI.1]; exact hd) (beq_iff_eq.mp hI.1)
            · exact (g1 _ rfl).elim
            · exact (g2 _ _ rfl).elim
            · exact (g3 _ _ rfl).elim
            · exact (g4 _ _ _ _ rfl).elim
            · exact (g5 _ _ rfl).elim
            · cases h5'
          · next hno => exact (hno _ _ _ _ _ _ _ _ rfl).elim
        · cases he
      · next hno =>
        split at he
        · cases he
        · next b ls' st' h' hs =>
          cases b with
          | false => cases he
          | true =>
            cases inf with
            | nil => exact ax_stp_nil hG hd hI hs (ih _ _ _ _ hend' he)
            | cons q inf =>
              obtain ⟨v, i, a⟩ := q
              refine ax_stp_cons hG hd ?_ hI hs (ih _ _ _ _ hend' he)
              intro ha
              match a, ha with
              | [n, k, ci, w, pl], _ => exact hno _ _ _ _ _ _ _ _ rfl
end
