/-! contracts out of runs; calls; the exec's soundness -/
theorem ax_Ex.shift {ad : Nat → Nat} {h h0 : ax_Hp} {A A1 : Nat → Prop} {s U : State} {H : Heap} {locs : List Loc} (hE : ax_Ex ad h0 A s s.heap) (hS : va_S A s.heap H locs) (hU : U.heap = H) (hW : s.WarmedH U.vm) (hA : ∀ q, A1 q → A q) (e : h.2.2 = h0.2.2) : ax_Ex ad h A1 U U.heap := by
  obtain ⟨h1, h2, h3, h4, h5, h6, h7⟩ := hE
  rw [hU]
  unfold ax_Ex
  rw [e]
  refine ⟨va_X.moved hW.alike (h1.kept (hS.2.1 _ h2 h3)), Nat.lt_of_lt_of_le h2 hS.1, fun q => h3 (hA _ q), vk_R.warm hW h4, vk_S.moved hW.alike ((h5.kept hS.2.1).narrow hA), va_Z.moved hW.alike ((h6.kept hS.2.1).narrow hA), fun w hw => ?_⟩
  obtain ⟨q, hq, rfl⟩ := List.mem_map.mp hw
  exact va_Nw.warmM hW (h7 _ hw)
theorem ax_Ex.blind {ad : Nat → Nat} {h : ax_Hp} {A : Nat → Prop} {U V : State} (hv : V.vm = U.vm) (hh : V.heap = U.heap) (hE : ax_Ex ad h A U U.heap) : ax_Ex ad h A V V.heap := by
  obtain ⟨h1, h2, h3, h4, h5, h6, h7⟩ := hE
  have al : U.vm.Alike V.vm := by rw [hv]; exact Vm.Alike.refl U.vm
  rw [hh]
  refine ⟨va_X.moved al h1, h2, h3, vk_R.same hv h4, vk_S.moved al h5, va_Z.moved al h6, fun w hw => ?_⟩
  have h8 := h7 w hw
  obtain ⟨q, hq, rfl⟩ := List.mem_map.mp hw
  exact va_Nw.same rfl hv.symm h8
/-- the contract of method z at these arguments in this heap -/
def ax_Pz (ad : Nat → Nat) (cI cL : ClassId) (dC : Nat → ClassId) (dI : Nat → Nat → Nat) (sz : Nat) (h : ax_Hp) (U : State) : Prop :=
  U.heap.size = sz ∧ va_P (dC, dI) ax_cl (ax_wd ad cI cL h) U.heap ∧ va_K (dC, dI) ax_cl (ax_tys cI cL) U ∧ va_D (fun _ => True) (ax_wd ad cI cL h) ∧ ax_Ex ad h (va_A (ax_wd ad cI cL h) sz) U U.heap
def ax_Qc (ad : Nat → Nat) (cI cL : ClassId) (dC : Nat → ClassId) (dI : Nat → Nat → Nat) (sz : Nat) (h : ax_Hp) (r : ax_Rs) : Array Value → State → Outcome → State → Prop := fun _ st oc t =>
  (oc = .returned (r.1.map (ax_cv ad)) ∧ va_P (dC, dI) ax_cl (ax_wd ad cI cL r.2) t.heap ∧ r.2.2.2 = h.2.2) ∧ va_F (va_A (ax_wd ad cI cL h) sz) st t
abbrev ax_wz (z : Nat) : List Cond := .code (ax_y z) (ax_c z) (ax_nL z) (ax_rT z) :: ax_tb
abbrev ax_rz (z : Nat) : Room := { frames := ax_fr z, cells := 0, slots := 0, locals := ax_lo z }
def ax_Ct (l : Launch) (z : Nat) (as : List Value) (h : ax_Hp) (r : ax_Rs) : Prop := ax_sum as ≤ ax_nL z → ∀ (ad : Nat → Nat) (cI cL : ClassId) (dC : Nat → ClassId) (dI : Nat → Nat → Nat) (sz : Nat),
  Met l (ax_y z) (ax_wz z) (ax_rz z) (va_Pc (as.map (ax_cv ad)) (ax_Pz ad cI cL dC dI sz h)) (ax_Qc ad cI cL dC dI sz h r) 0 0 (va_A (ax_wd ad cI cL h) sz)
theorem ax_A_eq {ad : Nat → Nat} {cI cL : ClassId} {h h' : ax_Hp} {sz : Nat} {q : Nat} (hq : va_A (ax_wd ad cI cL h) sz q) : va_A (ax_wd ad cI cL h') sz q := by
  rcases hq with ⟨k, x, hk⟩ | hq
  · have hl : k < 66 := by
      have := (List.getElem?_eq_some_iff.mp hk).1
      simpa [ax_wd] using this
    rw [ax_wd_get hl] at hk
    cases hk
    exact Or.inl ⟨k, _, ax_wd_get hl⟩
  · exact Or.inr hq
theorem ax_D_eq {ad : Nat → Nat} {cI cL : ClassId} {A : Nat → Prop} {h h' : ax_Hp} (hD : va_D A (ax_wd ad cI cL h)) : va_D A (ax_wd ad cI cL h') := by
  have key : ∀ {k : Nat} {q : Nat × va_E}, (ax_wd ad cI cL h')[k]? = some q → (ax_wd ad cI cL h)[k]? = some (q.1, ax_cell ad cI cL h k) := by
    intro k q hk
    have hl : k < 66 := by
      have := (List.getElem?_eq_some_iff.mp hk).1
      simpa [ax_wd] using this
    rw [ax_wd_get hl] at hk ⊢
    cases hk
    rfl
  exact ⟨fun i j p q hp hq he => hD.1 i j _ _ (key hp) (key hq) he, fun k q hk => hD.2 k (q.1, ax_cell ad cI cL h k) (key hk)⟩
section
variable {p : Program} {l : Launch} {e : Env} {R : Room} {s : State} {m : MethodId} {args : Array Value} {below : List Frame} {meth : Method} {c : Code} {cells slots : Nat} {Q : State → Prop}
variable {cc : ByteArray} {nL own fr lo : Nat} {ad : Nat → Nat} {cI cL : ClassId} {dC : Nat → ClassId} {dI : Nat → Nat → Nat} {A : Nat → Prop} {h0 : ax_Hp}
theorem ax_callX {H : Heap} {locs : List Loc} {pc : Nat} {la : Array Slot} {st0 rest : List Value} {Qa : State → Outcome → State → Prop} {free : Nat → Prop} {v0 : Option Value} {B : State → Prop} {A1 : Nat → Prop}
    (hr : va_Run p l e R s m args below meth c H locs cells slots 0 0 (F0 m pc la st0) rest Qa free) (hQ : ∀ st oc t, Qa st oc t → (oc = .returned v0 ∧ B t) ∧ va_F A1 st t) (hS : va_S A s.heap H locs) (hA : ∀ q : Nat, A1 q → A q) (hf : ∀ q, free q → A q)
    (kk : ∀ (t : State) (H1 : Heap) (locs1 : List Loc), t.heap = H1 → B t → va_S A s.heap H1 locs1 → W p l e R s m args below meth c H1 locs1 cells slots Q (F0 m (pc + 3) la (v0.toList ++ rest))) : W p l e R s m args below meth c H locs cells slots Q (F0 m pc la st0) := by
  intro T hT X
  obtain ⟨v, st₀, t, T', L, g0, X', hL, e1, e2, hq, st⟩ := hr T hT X
  obtain ⟨⟨hv, hB⟩, hz, hk⟩ := hQ _ _ _ hq
  cases hv
  rw [g0] at hz hk
  obtain ⟨t2, a1, b1⟩ := kk t T'.heap (locs ++ L) e1.symm hB
    ⟨Nat.le_trans hS.1 (by rw [e1]; exact hz), fun q h1 h2 => by rw [e1, hk q (Nat.lt_of_lt_of_le h1 hS.1) (fun z => h2 (hA q z))]; exact hS.2.1 q h1 h2, fun q hq => by
      rcases List.mem_append.mp hq with h | h
      · exact hS.2.2 q h
      · exact hf _ (hL q h)⟩ T' rfl X'
  exact ⟨t2, st t2 a1, b1⟩
theorem ax_okM_W {z : Nat} (h : ax_okW z = true) : plainName (ax_y z).cls = true ∧ ((ax_y z).cls ≠ "java/lang/invoke/MethodHandle" ∧ (ax_y z).cls ≠ "java/lang/invoke/VarHandle" ∧ (parseMethodDescriptor (ax_y z).desc).map (fun d => d.parameters.length) = some (ax_np z)) ∧ (ax_y z).cls = ax_nmC (ax_ow z) ∧
    Cond.code (ax_y z) (ax_c z) (ax_nL z) (ax_rT z) ∈ ax_tb ∧ Cond.initialized (ax_y z).cls ∈ ax_tb ∧ (ax_sc z = true → Cond.static (ax_y z) ∈ ax_tb) ∧ (ax_sc z = false → Cond.instanceMethod (ax_y z) ∈ ax_tb ∧ Cond.selects (ax_y z).cls (ax_y z) (ax_y z) ∈ ax_tb) := by
  simp only [ax_okW, Bool.and_eq_true, decide_eq_true_eq] at h
  obtain ⟨h1, h2, h3, h4, h5, h6⟩ := h
  refine ⟨h1, ⟨h2, h3, h4⟩, h5, ?_⟩
  split at h6
  · next p0 p1 p2 es ep =>
    simp only [Bool.and_eq_true, decide_eq_true_eq] at h6
    obtain ⟨g1, g2, g3⟩ := h6
    refine ⟨ax_word g1, ?_, fun _ => ax_word g3, fun q => ?_⟩
    · rw [h5]; exact ax_word g2
    · rw [es] at q; cases q
  · next p0 p1 p2 p3 es ep =>
    simp only [Bool.and_eq_true, decide_eq_true_eq] at h6
    obtain ⟨g1, g2, g3, g4⟩ := h6
    refine ⟨ax_word g1, ?_, fun q => ?_, fun _ => ⟨ax_word g3, ax_word g4⟩⟩
    · rw [h5]; exact ax_word g2
    · rw [es] at q; cases q
  · cases h6
theorem ax_goodz {z : Nat} (h : ax_okW z = true) : GoodIn ax_tb (ax_wz z) := by
  intro w hw
  rcases List.mem_cons.mp hw with rfl | hw
  · exact ax_tb_good _ (ax_okM_W h).2.2.2.1
  · exact ax_tb_good w hw
theorem ax_goodcons {ws ws' : List Cond} (h : ∀ w ∈ ws, w ∈ ax_tb) (h2 : GoodIn ax_tb ws') : GoodIn ax_tb (ws ++ ws') := goodIn_app (fun w hw => ax_tb_good w (h w hw)) h2
theorem ax_Pz_blind {as : List Value} {sz : Nat} {h : ax_Hp} : FrameBlind (va_Pc as (ax_Pz ad cI cL dC dI sz h)) := by
  intro a U g mk q
  obtain ⟨q0, q1, q2, q3, q4, q5⟩ := q
  exact ⟨q0, q1, q2, va_K.moved (u := U) (U := U.calling g mk a) (Vm.Alike.refl U.vm) q3, q4, ax_Ex.blind (U := U) (V := U.calling g mk a) rfl rfl q5⟩
theorem ax_sum_app : ∀ (a b : List Value), ax_sum (a ++ b) = ax_sum a + ax_sum b
  | [], b => by simp [ax_sum]
  | v :: a, b => by simp only [List.cons_append, ax_sum, ax_sum_app a b, Nat.add_assoc]
theorem ax_sum_rev : ∀ (a : List Value), ax_sum a.reverse = ax_sum a
  | [] => rfl
  | v :: a => by
    rw [List.reverse_cons, ax_sum_app, ax_sum_rev a]
    simp only [ax_sum]
    omega
theorem ax_c2o_nm : ∀ ci, ci < 8 → ax_nmC (ax_c2o ci) = (ax_cd ci).1
  | 0, _ => rfl
  | 1, _ => rfl
  | 2, _ => rfl
  | 3, _ => rfl
  | 4, _ => rfl
  | 5, _ => rfl
  | 6, _ => rfl
  | 7, _ => rfl
  | n + 8, h => absurd h (by omega)
/-- a call, by the callee's contract -/
theorem ax_call_ok {z n k ci w pl idx pc : Nat} {sc : Bool} {ls : ax_Lc} {st : List Value} {h : ax_Hp} {r : ax_Rs} (hzW : ax_okW z = true)
    (hG : ax_G p s m args c R cells slots own nL fr lo cc ad cI cL dC dI A h0) (hok : ax_okc own fr lo idx sc z n k ci w pl = true)
    (hd : decode cc pc = .ok (if sc then .invokestatic idx else .invokevirtual idx, 3)) (hmay : ax_may st n ci w = true) (hct : ax_Ct l z (st.take n).reverse h r)
    (kk : ax_Go p l e R s m args below meth c cells slots Q nL ad cI cL dC dI A h0 (pc + 3) ls (r.1.toList ++ st.drop n) r.2) : ax_Go p l e R s m args below meth c cells slots Q nL ad cI cL dC dI A h0 pc ls st h := by
  intro H locs la hP hl
  obtain ⟨hx, hb, hml, hown, hts, hK, hA, hE, hfr, hlo, hcc, hss⟩ := hG
  obtain ⟨hP1, hP2, hP3, hP4⟩ := hP
  simp only [ax_okc, Bool.and_eq_true, decide_eq_true_eq] at hok
  obtain ⟨o1, o2, o3, o4, o5, o6, o7, o8, o9⟩ := hok
  simp only [ax_may, Bool.and_eq_true, Bool.or_eq_true, decide_eq_true_eq] at hmay
  obtain ⟨m1, m2, m3, m4⟩ := hmay
  obtain ⟨w1, w2, w3, w4, w5, w6, w7⟩ := ax_okM_W hzW
  have hsum : ax_sum (st.take n).reverse ≤ ax_nL z := by
    rw [ax_sum_rev]; omega
  have hM := hct hsum ad cI cL dC dI H.size
  have hA1 : ∀ q : Nat, va_A (ax_wd ad cI cL h) H.size q → A q := by
    intro q hq
    rcases hq with ⟨k9, x, hk9⟩ | hq
    · exact hP2.2 k9 _ hk9
    · exact hA q (Nat.le_trans hP3.1 hq)
  have hpre : ∀ U : State, U.heap = H → s.WarmedH U.vm → ax_Pz ad cI cL dC dI H.size h U := fun U hU hW =>
    ⟨by rw [hU], by rw [hU]; exact hP1, va_K.moved hW.alike hK, hP2.weaken (fun _ _ _ _ => trivial), hE.shift hP3 hU hW hA1 hP4⟩
  have hroom : 2 * (F0 m pc la (st.map (ax_cv ad))).monitorRoom + (((st.drop n).map (ax_cv ad)).map fun v => v.category).sum ≤ 8 := lv_room (by rw [ax_sum_map]; exact m2)
  have hsplit : st.map (ax_cv ad) = (((st.take n).reverse.map (ax_cv ad)).reverse) ++ (st.drop n).map (ax_cv ad) := by
    rw [← List.map_reverse, List.reverse_reverse, ← List.map_append, List.take_append_drop]
  have hlen : (st.take n).reverse.length = n := by simp [m1]
  have hlk2 : (ax_rz z).frames + 1 ≤ R.frames ∧ 8 + (ax_nL z + 11) + (ax_rz z).locals ≤ R.locals := ⟨Nat.le_trans o4 hfr, Nat.le_trans o5 hlo⟩
  have fin : ∀ (t : State) (H1 : Heap) (locs1 : List Loc), t.heap = H1 → (va_P (dC, dI) ax_cl (ax_wd ad cI cL r.2) t.heap ∧ r.2.2.2 = h.2.2) → va_S A s.heap H1 locs1 → W p l e R s m args below meth c H1 locs1 cells slots Q (F0 m (pc + 3) la ((r.1.map (ax_cv ad)).toList ++ (st.drop n).map (ax_cv ad))) := by
    intro t H1 locs1 ht hB hS1
    have k1 := kk H1 locs1 la ⟨by rw [← ht]; exact hB.1, ax_D_eq hP2, hS1, hB.2.trans hP4⟩ hl
    have e9 : (r.1.toList ++ st.drop n).map (ax_cv ad) = (r.1.map (ax_cv ad)).toList ++ (st.drop n).map (ax_cv ad) := by
      cases r.1 <;> simp
    rw [e9] at k1
    exact k1
  have hcon : ∀ st9 oc t, ax_Qc ad cI cL dC dI H.size h r ((st.take n).reverse.map (ax_cv ad)).toArray st9 oc t → (oc = .returned (r.1.map (ax_cv ad)) ∧ (va_P (dC, dI) ax_cl (ax_wd ad cI cL r.2) t.heap ∧ r.2.2.2 = h.2.2)) ∧ va_F (va_A (ax_wd ad cI cL h) H.size) st9 t := fun _ _ _ q => ⟨⟨q.1.1, q.1.2⟩, q.2⟩
  cases sc with
  | true =>
    have hn : ((st.take n).reverse.map (ax_cv ad)).length = ax_np z := by rw [List.length_map, hlen, o3]; simp
    by_cases hpl : pl < 5000
    · rw [if_pos hpl] at o8
      simp only [decide_eq_true_eq] at o8
      have hT : GoodIn ax_tb (va_wsS (ax_nmC own) idx (ax_y z) (ax_wz z)) := ax_goodcons (by
        intro w9 hw9
        simp only [List.mem_cons, List.not_mem_nil, or_false] at hw9
        rcases hw9 with rfl | rfl | rfl
        · exact ax_word o8
        · exact w6 o2
        · exact w5) (ax_goodz hzW)
      exact ax_callX (va_runS (As := (st.take n).reverse.map (ax_cv ad)) (rest := (st.drop n).map (ax_cv ad)) ⟨hx, hb, hml, hown, hts⟩ hM (va_cwS (ax_np z) hts hT rfl rfl rfl w2 hlk2) ⟨ax_Pz_blind, fun U hU hW => ⟨rfl, hpre U hU hW⟩⟩ rfl hn hl.1 hsplit hroom hd ⟨hcc, hss⟩) hcon hP3 hA1 (fun q hq => hA1 q hq) fin
    · rw [if_neg hpl] at o8
      simp only [Bool.and_eq_true, decide_eq_true_eq] at o8
      have hnw : va_Nw (.methodLinkNest (ax_nmC own) idx (ax_y z) RX7) s := hE.2.2.2.2.2.2 _ (List.mem_map.mpr ⟨_, List.mem_of_getElem? o8.2, rfl⟩)
      have hini : (Cond.initialized (ax_y z).cls).before args s = true := hts _ w5
      exact ax_callX (va_runSN (As := (st.take n).reverse.map (ax_cv ad)) (rest := (st.drop n).map (ax_cv ad)) ⟨hx, hb, hml, hown, hts⟩ hM ⟨va_cnB (ax_np z) hts (ax_goodz hzW) rfl rfl rfl hnw hini w2 hlk2, hts _ (w6 o2), trivial⟩ ⟨ax_Pz_blind, fun U hU hW => ⟨rfl, hpre U hU hW⟩⟩ rfl hn hl.1 hsplit hroom hd ⟨hcc, hss⟩) hcon hP3 hA1 (fun q hq => hA1 q hq) fin
  | false =>
    simp only [Bool.false_eq_true, if_false, Bool.and_eq_true, decide_eq_true_eq] at o9
    have hpl : pl < 5000 := by
      by_cases hpl : pl < 5000
      · exact hpl
      · rw [if_neg hpl] at o8
        simp at o8
    rw [if_pos hpl] at o8
    simp only [decide_eq_true_eq] at o8
    have m5 := m4.resolve_left (fun q => o9.1 (Nat.eq_of_beq_eq_true q))
    cases hrev : (st.take n).reverse with
    | nil => rw [hrev] at m5; cases m5
    | cons v9 As =>
      rw [hrev] at m5 hsplit hlen hM hcon
      cases v9 with
      | ref c9 =>
        simp only at m5
        have hn : (As.map (ax_cv ad)).length = ax_np z := by
          rw [List.length_map]
          simp only [List.length_cons] at hlen
          simp only [Bool.false_eq_true, if_false] at o3
          omega
        have hrecv : ∃ cellB : Cell, H[ad c9]? = some cellB ∧ cellB.vm.isStatics = false ∧ s.vm.findClass (ax_y z).cls = some cellB.cls := by
          split at m5
          · next cj fl hsh =>
            have ej : cj = ci := Nat.eq_of_beq_eq_true m5
            subst ej
            have hj8 : cj < 8 := by
              have h8 := ax_ci_lt0 c9 (ax_shp_69 (by rw [hsh]; exact Nat.zero_le 5)) (by rw [hsh])
              rw [hsh] at h8
              exact h8
            obtain ⟨cell, r1, r2, r3⟩ := va_recv hK hP1 (ax_cl_get hj8) (ax_cellO hsh)
            refine ⟨cell, r1, r2, ?_⟩
            rw [w3, ← o9.2, ax_c2o_nm cj hj8]
            exact r3
          · next cj fl hsh =>
            have ej : 98 = ci := Nat.eq_of_beq_eq_true m5
            subst ej
            have ea : c9 = 67 := ax_shp_4 c9 (ax_shp_69 (by rw [hsh]; exact (by decide : (4 : Nat) ≤ 5))) (by rw [hsh])
            subst ea
            obtain ⟨cell, r1, r2, r3⟩ := vk_recv hE.2.2.2.2.1 (i := 0) (by decide) hP3
            refine ⟨cell, r1, r2, ?_⟩
            rw [w3, ← o9.2]
            exact r3
          · cases m5
        have hT : GoodIn ax_tb (wsV (ax_nmC own) idx (ax_y z).cls (ax_y z) (ax_wz z)) := ax_goodcons (by
          intro w9 hw9
          simp only [List.mem_cons, List.not_mem_nil, or_false] at hw9
          rcases hw9 with rfl | rfl | rfl | rfl
          · exact ax_word o8
          · exact (w7 o2).1
          · exact (w7 o2).2
          · exact w5) (ax_goodz hzW)
        have hsp2 : st.map (ax_cv ad) = (As.map (ax_cv ad)).reverse ++ .ref (ad c9) :: (st.drop n).map (ax_cv ad) := by
          rw [hsplit]
          simp [ax_cv]
        exact ax_callX (va_runV (As := As.map (ax_cv ad)) (rest := (st.drop n).map (ax_cv ad)) ⟨hx, hb, hml, hown, hts⟩ hM (cwV (ax_np z) hts hT rfl rfl rfl ⟨rfl, w2⟩ hlk2) ⟨ax_Pz_blind, hrecv, fun U hU hW => ⟨rfl, hpre U hU hW⟩⟩ rfl hn hl.1 hsp2 hroom hd ⟨hcc, hss⟩) hcon hP3 hA1 (fun q hq => hA1 q hq) fin
      | _ => cases m5
end
