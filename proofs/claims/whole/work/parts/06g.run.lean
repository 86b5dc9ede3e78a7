/-! the run is sound: contracts for every method, and the law's own body -/
/-- what the check says of method z, unfolded -/
theorem ax_okM_of {z : Nat} (h : ax_okM z = true) : ax_okW z = true ∧ ∃ e, ax_code[z]? = some e ∧ ax_rOk e.1 (ax_rT z) = true ∧ ax_okB (ax_ow z) (ax_c z) (ax_nL z) (ax_fr z) (ax_lo z) e.2 = true ∧ e.2.all (fun b => ax_okR e.1 b.2.2) = true := by
  simp only [ax_okM, Bool.and_eq_true] at h
  obtain ⟨h1, h2⟩ := h
  split at h2
  · next e he =>
    simp only [Bool.and_eq_true] at h2
    exact ⟨h1, e, he, h2.1, h2.2.1, h2.2.2⟩
  · cases h2
theorem ax_find_of {z pc rt : Nat} {b : ax_Bl} (h : ax_find z pc = some (rt, b)) : ∃ e, ax_code[z]? = some e ∧ rt = e.1 ∧ (pc, b) ∈ e.2 := by
  unfold ax_find at h
  split at h
  · cases h
  · next e he =>
    split at h
    · cases h
    · next b' hb =>
      cases h
      exact ⟨e, he, rfl, ax_lk_mem hb⟩
/-- the contracts of all methods, at one fuel -/
def ax_Cn (l : Launch) (n : Nat) : Prop := ∀ (z : Nat) as h r, z < ax_ents.length → ax_fuel n z 0 (lv_args 0 as) [] h = some r → ax_Ct l z as h r
section
variable {p : Program} {l : Launch} {e : Env} {R : Room} {s : State} {m : MethodId} {args : Array Value} {below : List Frame} {meth : Method} {c : Code} {cells slots : Nat} {Q : State → Prop}
variable {cc : ByteArray} {nL own fr lo : Nat} {ad : Nat → Nat} {cI cL : ClassId} {dC : Nat → ClassId} {dI : Nat → Nat → Nat} {A : Nat → Prop} {h0 : ax_Hp} {z rt : Nat} {r : ax_Rs}
/-- a body whose blocks are checked: what the run answers, the machine does -/
theorem ax_body_ok {bl : List (Nat × ax_Bl)} (hz : ax_code[z]? = some (rt, bl)) (hB : ax_okB own cc nL fr lo bl = true) (hRt : bl.all (fun b => ax_okR rt b.2.2) = true) (hW : ∀ z', z' < ax_ents.length → ax_okW z' = true)
    (hG : ax_G p s m args c R cells slots own nL fr lo cc ad cI cL dC dI A h0) (hR : ax_Rt p l e R s m args below meth c cells slots Q cc ad cI cL dC dI A h0 rt r) :
    ∀ n : Nat, (∀ k, k < n → ax_Cn l k) → ∀ (pc : Nat) (ls : ax_Lc) (st : List Value) (h : ax_Hp), ax_fuel n z pc ls st h = some r → ax_Go p l e R s m args below meth c cells slots Q nL ad cI cL dC dI A h0 pc ls st h := by
  intro n
  induction n with
  | zero =>
    intro _ _ _ _ _ he
    cases he
  | succ n ih =>
    intro hC pc ls st h he
    have he' : ax_step (ax_fuel n) z pc ls st h = some r := he
    unfold ax_step at he'
    split at he'
    · cases he'
    · next rt' b hf =>
      obtain ⟨e9, h1, h2, h3⟩ := ax_find_of hf
      rw [hz] at h1
      cases h1
      subst h2
      have hb := List.all_eq_true.mp hB _ h3
      have hr := List.all_eq_true.mp hRt _ h3
      exact ax_exec_ok (R' := ax_fuel n) hG hR (fun pc ls st h q => ih (fun k hk => hC k (Nat.lt_succ_of_lt hk)) pc ls st h q) (hC n (Nat.lt_succ_self n)) hW b.2 pc ls st h hb hr he'
end
theorem ax_args_cv (ad : Nat → Nat) : ∀ (i : Nat) (as : List Value), lv_args i (as.map (ax_cv ad)) = ax_cls ad (lv_args i as)
  | _, [] => rfl
  | i, v :: as => by
    simp only [List.map_cons, lv_args, ax_cv_cat]
    rw [ax_args_cv ad _ as]
    rfl
theorem ax_sl_len : ∀ (vs : List Value), (lg_sl vs).length = ax_sum vs
  | [] => rfl
  | v :: vs => by
    have ih := ax_sl_len vs
    unfold lg_sl at ih ⊢
    rw [List.flatMap_cons, List.length_append, ih]
    rcases lv_cat v with h | h
    · simp [ax_sum, h]
    · simp [ax_sum, h]
theorem ax_sum_cv (ad : Nat → Nat) : ∀ (vs : List Value), ax_sum (vs.map (ax_cv ad)) = ax_sum vs
  | [] => rfl
  | v :: vs => by simp only [List.map_cons, ax_sum, ax_cv_cat, ax_sum_cv ad vs]
theorem ax_okM_all (hM : ∀ z, z < ax_ents.length → ax_okM z = true) (l : Launch) : ∀ n, ax_Cn l n := by
  intro n
  induction n using Nat.strongRecOn with
  | ind n ih =>
    intro z as h r hz he hsum ad cI cL dC dI sz
    obtain ⟨hW, e9, hcode, hrok, hB, hRt⟩ := ax_okM_of (hM z hz)
    obtain ⟨w1, w2, w3, w4, w5, w6, w7⟩ := ax_okM_W hW
    obtain ⟨rt, bl⟩ := e9
    refine Met.ofW (cc := ax_c z) (maxL := ax_nL z) (ret := ax_rT z) w1 rfl ?_
    intro p e s m args below meth c s₁ B hml hv
    obtain ⟨rfl, hsz, hP, hK, hD0, hE⟩ := hv
    have hx := B.exec
    have hb := B.bytes
    have hr := B.returns
    have hts0 := atoms_spec (ws := ax_wz z) B.pre
    have hts : ∀ w ∈ ax_tb, w.before ((as.map (ax_cv ad)).toArray) s = true := fun w hw => hts0 w (List.mem_cons_of_mem _ hw)
    have hown : s.vm.findClass (ax_y z).cls = some m.cls := findClass_of_methodNamed B.named
    have hlocks := B.notSynchronized
    subst hsz
    have hD := hD0.self (sz := s.heap.size)
    have hl := lv_entry (as.map (ax_cv ad)) (n := ax_nL z) (by rw [ax_sl_len, ax_sum_cv]; exact hsum)
    rw [lg_entry_eq]
    generalize (lg_sl (as.map (ax_cv ad)) ++ List.replicate (ax_nL z - (lg_sl (as.map (ax_cv ad))).length) Slot.unset).toArray = la at hl ⊢
    rw [ax_args_cv] at hl
    have hG : ax_G p s m ((as.map (ax_cv ad)).toArray) c (ax_rz z) 0 0 (ax_ow z) (ax_nL z) (ax_fr z) (ax_lo z) (ax_c z) ad cI cL dC dI (va_A (ax_wd ad cI cL h) s.heap.size) h :=
      ⟨hx, hb, hml, by rw [← w3]; exact hown, hts, hK, fun q hq => Or.inr hq, hE, Nat.le_refl _, Nat.le_refl _, Nat.le_refl _, Nat.le_refl _⟩
    have hR : ax_Rt p l e (ax_rz z) s m ((as.map (ax_cv ad)).toArray) below meth c 0 0 (MQ below (ax_Qc ad cI cL dC dI s.heap.size h r) ((as.map (ax_cv ad)).toArray) s 0 0 (va_A (ax_wd ad cI cL h) s.heap.size)) (ax_c z) ad cI cL dC dI (va_A (ax_wd ad cI cL h) s.heap.size) h rt r := by
      intro pc H locs la2 hPP hrd
      obtain ⟨hP1, hP2, hP3, hP4⟩ := hPP
      have hq : ∀ t : State, t.heap = H → s.WarmedH t.vm → ax_Qc ad cI cL dC dI s.heap.size h r ((as.map (ax_cv ad)).toArray) s (.returned (r.1.map (ax_cv ad))) t := fun t ht _ =>
        ⟨⟨rfl, by rw [ht]; exact hP1, hP4⟩, hP3.F ht⟩
      obtain ⟨r1, r2⟩ := r
      match r1, hrd, hq with
      | none, hrd, hq =>
        obtain ⟨g1, g2⟩ := hrd
        have hret : ax_rT z = none := by
          subst g1
          revert hrok
          unfold ax_rOk
          split <;> intro h9 <;> first | assumption | (simp at h9; done)
        exact W.vret hx hb (hr.trans hret) hq hP3.2.2 g2 hlocks
      | some (.int x), hrd, hq =>
        obtain ⟨g1, g2⟩ := hrd
        rcases g1 with g1 | ⟨g1, gx⟩
        · have hret : ax_rT z = some .int := by
            subst g1
            revert hrok
            unfold ax_rOk
            split <;> intro h9 <;> first | assumption | (simp at h9; done)
          exact W.iret hx hb (hr.trans hret) hq hP3.2.2 g2 hlocks
        · have hret : ax_rT z = some .boolean ∨ ax_rT z = some .byte := by
            subst g1
            revert hrok
            unfold ax_rOk
            split <;> intro h9 <;> first | (left; assumption) | (right; assumption) | (simp at h9; done)
          rcases hret with hret | hret
          · exact W.zret hx hb (hr.trans hret) (by rcases gx with rfl | rfl <;> rfl) hq hP3.2.2 g2 hlocks
          · exact W.zret hx hb (hr.trans hret) (by rcases gx with rfl | rfl <;> rfl) hq hP3.2.2 g2 hlocks
      | some (.long x), hrd, hq =>
        obtain ⟨g1, g2⟩ := hrd
        have hret : ax_rT z = some .long := by
          subst g1
          revert hrok
          unfold ax_rOk
          split <;> intro h9 <;> first | assumption | (simp at h9; done)
        exact W.lret hx hb (hr.trans hret) hq hP3.2.2 g2 hlocks
      | some (.ref x), hrd, hq =>
        obtain ⟨g1, g2⟩ := hrd
        have hret : ∃ C, ax_rT z = some (.object C) := by
          subst g1
          revert hrok
          unfold ax_rOk
          split <;> intro h9 <;> first | exact ⟨_, by assumption⟩ | (simp at h9; done)
        obtain ⟨C, hret⟩ := hret
        exact W.aret hx hb (hr.trans hret) (Or.inl ⟨C, rfl⟩) (Or.inr ⟨_, rfl⟩) hq hP3.2.2 g2 hlocks
      | some (.float _), hrd, _ => exact hrd.elim
      | some (.double _), hrd, _ => exact hrd.elim
      | some .null, hrd, _ => exact hrd.elim
      | some (.retAddr _), hrd, _ => exact hrd.elim
    have key := ax_body_ok (l := l) (e := e) (below := below) (meth := meth) hcode hB hRt (fun z' hz' => (ax_okM_of (hM z' hz')).1) hG hR n ih 0 (lv_args 0 as) [] h he
    exact key s.heap [] la ⟨hP, hD, va_S.rf, rfl⟩ hl
