/-! the makers: contracts (by wip/whole/gen92.py) -/
set_option maxHeartbeats 8000000 in
set_option maxRecDepth 100000 in
theorem mk_X1 (l : Launch) (dC : Nat → ClassId) (dI : Nat → Nat → Nat) (cI cL : ClassId) (h0 sz : Nat) : Met l yX1_init (.code yX1_init cX1_init 1 none :: cw) ({ frames := 1, cells := 1, slots := 1000, locals := 12 }) (va_Pc [.ref h0] (fun U => U.heap.size = sz ∧ va_P (dC, dI) ax_cl [(h0, .inr (1, [.null]))] U.heap ∧ va_K (dC, dI) ax_cl (ax_tys cI cL) U ∧ va_D (fun _ => True) [(h0, .inr (1, [.null]))])) (va_Qv (fun _ : Unit => True) (fun _ t => ∃ (q8 : Nat), va_P (dC, dI) ax_cl [(h0, .inr (1, [.ref q8])), (q8, .inl (cI, 1000, .inl (fun _ => 0)))] t.heap ∧ va_D (va_A [(h0, .inr (1, [.null]))] sz) [(h0, .inr (1, [.ref q8])), (q8, .inl (cI, 1000, .inl (fun _ => 0)))]) (va_A [(h0, .inr (1, [.null]))] sz)) 1 1000 (va_A [(h0, .inr (1, [.null]))] sz) := by
  refine Met.ofW (cc := cX1_init) (maxL := 1) (ret := none) (by decide) rfl ?_
  intro p e s m args below meth c s₁ B hml hv
  obtain ⟨rfl, hsz, hP, hK, hD0⟩ := hv
  have hx := B.exec
  have hb := B.bytes
  have hr := B.returns
  have hts := atoms_spec (ws := .code yX1_init cX1_init 1 none :: cw) B.pre
  have htc : ∀ w ∈ cw, w.before #[Value.ref h0] s = true := fun w hw => hts w (List.mem_cons_of_mem _ hw)
  have hown : s.vm.findClass RX1 = some m.cls := findClass_of_methodNamed B.named
  have hlocks := B.notSynchronized
  have hin : meth.name = "<init>" := (name_of_methodNamed B.named B.method).1
  subst hsz
  have hD := hD0.self (sz := s.heap.size)
  generalize hAe : va_A [(h0, .inr (1, [.null]))] s.heap.size = A at hD ⊢
  have hA : ∀ q : Nat, s.heap.size ≤ q → A q := fun q h => by rw [← hAe]; exact Or.inr h
  have hS : va_S A s.heap s.heap [] := va_S.rf
  have hP : va_P (dC, dI) ax_cl [(h0, .inr (1, [.null]))] s.heap := hP
  have hl := lv_entry ([.ref h0]) (n := 1) (Nat.le_of_ble_eq_true rfl)
  rw [lg_entry_eq]
  generalize (lg_sl ([.ref h0]) ++ List.replicate (1 - (lg_sl ([.ref h0])).length) Slot.unset).toArray = ls at hl ⊢
  have hl : lv_has ls 1 [(0, .ref h0)] := hl
  refine lv_aload_n hx hb d_X1_0 rfl (lv_at hl 0 rfl) ?_
  refine W.objInit hx hb hown (htc _ cm_4) (htc _ cm_0) (htc _ cm_1) rfl (by rw [hml]; exact hl.1) rfl d_X1_1 (Nat.le_of_ble_eq_true rfl) (Nat.le_of_ble_eq_true rfl) ?_
  refine W.eq (g2 := F0 m 4 ls []) rfl ?_
  refine lv_aload_n hx hb d_X1_4 rfl (lv_at hl 0 rfl) ?_
  refine lv_sipush (v := 1000) hx hb d_X1_5 (by decide) ?_
  refine ax_newI (cI := cI) (cL := cL) (N' := 1000) (a0 := (1000, .inl (fun _ => 0))) hx hb (htc _ cm_2) hK hP hD hS hA (fun _ => rfl) (by decide) rfl (Nat.le_of_ble_eq_true rfl) (Nat.le_of_ble_eq_true rfl) (Nat.le_of_ble_eq_true rfl) d_X1_8 (fun q8 H hP hD hS => ?_)
  have hP : va_P (dC, dI) ax_cl [(h0, .inr (1, [.null])), (q8, .inl (cI, 1000, .inl (fun _ => 0)))] H := hP
  have hD : va_D A [(h0, .inr (1, [.null])), (q8, .inl (cI, 1000, .inl (fun _ => 0)))] := hD
  refine W.widen (k := 1) (n := 1000) (by omega) (by omega) ?_
  refine va_putF (D := (dC, dI)) (ci := 1) (v := .ref q8) (ty := .array .int) (C := RX1) (T := TX1) (N := 1) hx hb htc (cw_lay (ci := 1) (by decide)) tyX1 tyX1_ok nmX1 hown hK hP hD hS 0 rfl rfl 0 (by decide) (htc _ cm_5) (fun _ h9 => h9) rfl hin rfl (by decide +kernel) rfl rfl (Nat.le_of_ble_eq_true rfl) d_X1_10 (fun H locs hP hD hS => ?_)
  have hP : va_P (dC, dI) ax_cl [(h0, .inr (1, [.ref q8])), (q8, .inl (cI, 1000, .inl (fun _ => 0)))] H := hP
  have hD : va_D A [(h0, .inr (1, [.ref q8])), (q8, .inl (cI, 1000, .inl (fun _ => 0)))] := hD
  refine W.widen (k := 1) (n := 1000) (by omega) (by omega) ?_
  exact W.vret hx hb hr (fun t ht hW => ⟨⟨(), rfl, trivial, q8, by rw [ht]; exact hP, hD⟩, hS.F ht⟩) hS.2.2 d_X1_13
set_option maxHeartbeats 8000000 in
set_option maxRecDepth 100000 in
theorem mk_X3 (l : Launch) (dC : Nat → ClassId) (dI : Nat → Nat → Nat) (cI cL : ClassId) (h0 sz : Nat) : Met l yX3_init (.code yX3_init cX3_init 1 none :: cw) ({ frames := 1, cells := 1, slots := 96, locals := 12 }) (va_Pc [.ref h0] (fun U => U.heap.size = sz ∧ va_P (dC, dI) ax_cl [(h0, .inr (2, [.null, .int 0]))] U.heap ∧ va_K (dC, dI) ax_cl (ax_tys cI cL) U ∧ va_D (fun _ => True) [(h0, .inr (2, [.null, .int 0]))])) (va_Qv (fun _ : Unit => True) (fun _ t => ∃ (q7 : Nat), va_P (dC, dI) ax_cl [(h0, .inr (2, [.ref q7, .int 0])), (q7, .inl (cI, 96, .inl (fun _ => 0)))] t.heap ∧ va_D (va_A [(h0, .inr (2, [.null, .int 0]))] sz) [(h0, .inr (2, [.ref q7, .int 0])), (q7, .inl (cI, 96, .inl (fun _ => 0)))]) (va_A [(h0, .inr (2, [.null, .int 0]))] sz)) 1 96 (va_A [(h0, .inr (2, [.null, .int 0]))] sz) := by
  refine Met.ofW (cc := cX3_init) (maxL := 1) (ret := none) (by decide) rfl ?_
  intro p e s m args below meth c s₁ B hml hv
  obtain ⟨rfl, hsz, hP, hK, hD0⟩ := hv
  have hx := B.exec
  have hb := B.bytes
  have hr := B.returns
  have hts := atoms_spec (ws := .code yX3_init cX3_init 1 none :: cw) B.pre
  have htc : ∀ w ∈ cw, w.before #[Value.ref h0] s = true := fun w hw => hts w (List.mem_cons_of_mem _ hw)
  have hown : s.vm.findClass RX3 = some m.cls := findClass_of_methodNamed B.named
  have hlocks := B.notSynchronized
  have hin : meth.name = "<init>" := (name_of_methodNamed B.named B.method).1
  subst hsz
  have hD := hD0.self (sz := s.heap.size)
  generalize hAe : va_A [(h0, .inr (2, [.null, .int 0]))] s.heap.size = A at hD ⊢
  have hA : ∀ q : Nat, s.heap.size ≤ q → A q := fun q h => by rw [← hAe]; exact Or.inr h
  have hS : va_S A s.heap s.heap [] := va_S.rf
  have hP : va_P (dC, dI) ax_cl [(h0, .inr (2, [.null, .int 0]))] s.heap := hP
  have hl := lv_entry ([.ref h0]) (n := 1) (Nat.le_of_ble_eq_true rfl)
  rw [lg_entry_eq]
  generalize (lg_sl ([.ref h0]) ++ List.replicate (1 - (lg_sl ([.ref h0])).length) Slot.unset).toArray = ls at hl ⊢
  have hl : lv_has ls 1 [(0, .ref h0)] := hl
  refine lv_aload_n hx hb d_X3_0 rfl (lv_at hl 0 rfl) ?_
  refine W.objInit hx hb hown (htc _ cm_6) (htc _ cm_0) (htc _ cm_1) rfl (by rw [hml]; exact hl.1) rfl d_X3_1 (Nat.le_of_ble_eq_true rfl) (Nat.le_of_ble_eq_true rfl) ?_
  refine W.eq (g2 := F0 m 4 ls []) rfl ?_
  refine lv_aload_n hx hb d_X3_4 rfl (lv_at hl 0 rfl) ?_
  refine lv_bipush (v := 96) hx hb d_X3_5 (by decide) ?_
  refine ax_newI (cI := cI) (cL := cL) (N' := 96) (a0 := (96, .inl (fun _ => 0))) hx hb (htc _ cm_2) hK hP hD hS hA (fun _ => rfl) (by decide) rfl (Nat.le_of_ble_eq_true rfl) (Nat.le_of_ble_eq_true rfl) (Nat.le_of_ble_eq_true rfl) d_X3_7 (fun q7 H hP hD hS => ?_)
  have hP : va_P (dC, dI) ax_cl [(h0, .inr (2, [.null, .int 0])), (q7, .inl (cI, 96, .inl (fun _ => 0)))] H := hP
  have hD : va_D A [(h0, .inr (2, [.null, .int 0])), (q7, .inl (cI, 96, .inl (fun _ => 0)))] := hD
  refine W.widen (k := 1) (n := 96) (by omega) (by omega) ?_
  refine va_putF (D := (dC, dI)) (ci := 2) (v := .ref q7) (ty := .array .int) (C := RX3) (T := TX3) (N := 2) hx hb htc (cw_lay (ci := 2) (by decide)) tyX3 tyX3_ok nmX3 hown hK hP hD hS 0 rfl rfl 0 (by decide) (htc _ cm_7) (fun _ h9 => h9) rfl hin rfl (by decide +kernel) rfl rfl (Nat.le_of_ble_eq_true rfl) d_X3_9 (fun H locs hP hD hS => ?_)
  have hP : va_P (dC, dI) ax_cl [(h0, .inr (2, [.ref q7, .int 0])), (q7, .inl (cI, 96, .inl (fun _ => 0)))] H := hP
  have hD : va_D A [(h0, .inr (2, [.ref q7, .int 0])), (q7, .inl (cI, 96, .inl (fun _ => 0)))] := hD
  refine lv_aload_n hx hb d_X3_12 rfl (lv_at hl 0 rfl) ?_
  refine lv_iconst (v := 0) hx hb d_X3_13 (by decide) ?_
  refine va_put (D := (dC, dI)) (ci := 2) (v := .int 0) (ty := .int) (C := RX3) (T := TX3) (N := 2) hx hb htc (cw_lay (ci := 2) (by decide)) tyX3 tyX3_ok nmX3 hown hK hP hD hS 0 rfl rfl 1 (by decide) (htc _ cm_8) (fun _ h9 => h9) rfl (by decide +kernel) rfl rfl (Nat.le_of_ble_eq_true rfl) d_X3_14 (fun H locs hP hD hS => ?_)
  have hP : va_P (dC, dI) ax_cl [(h0, .inr (2, [.ref q7, .int 0])), (q7, .inl (cI, 96, .inl (fun _ => 0)))] H := hP
  have hD : va_D A [(h0, .inr (2, [.ref q7, .int 0])), (q7, .inl (cI, 96, .inl (fun _ => 0)))] := hD
  refine W.widen (k := 1) (n := 96) (by omega) (by omega) ?_
  exact W.vret hx hb hr (fun t ht hW => ⟨⟨(), rfl, trivial, q7, by rw [ht]; exact hP, hD⟩, hS.F ht⟩) hS.2.2 d_X3_17
set_option maxHeartbeats 8000000 in
set_option maxRecDepth 100000 in
theorem mk_X4 (l : Launch) (dC : Nat → ClassId) (dI : Nat → Nat → Nat) (cI cL : ClassId) (h0 sz : Nat) : Met l yX4_init (.code yX4_init cX4_init 1 none :: cw) ({ frames := 1, cells := 1, slots := 16, locals := 12 }) (va_Pc [.ref h0] (fun U => U.heap.size = sz ∧ va_P (dC, dI) ax_cl [(h0, .inr (3, [.null, .int 0]))] U.heap ∧ va_K (dC, dI) ax_cl (ax_tys cI cL) U ∧ va_D (fun _ => True) [(h0, .inr (3, [.null, .int 0]))])) (va_Qv (fun _ : Unit => True) (fun _ t => ∃ (q7 : Nat), va_P (dC, dI) ax_cl [(h0, .inr (3, [.ref q7, .int 0])), (q7, .inl (cI, 16, .inl (fun _ => 0)))] t.heap ∧ va_D (va_A [(h0, .inr (3, [.null, .int 0]))] sz) [(h0, .inr (3, [.ref q7, .int 0])), (q7, .inl (cI, 16, .inl (fun _ => 0)))]) (va_A [(h0, .inr (3, [.null, .int 0]))] sz)) 1 16 (va_A [(h0, .inr (3, [.null, .int 0]))] sz) := by
  refine Met.ofW (cc := cX4_init) (maxL := 1) (ret := none) (by decide) rfl ?_
  intro p e s m args below meth c s₁ B hml hv
  obtain ⟨rfl, hsz, hP, hK, hD0⟩ := hv
  have hx := B.exec
  have hb := B.bytes
  have hr := B.returns
  have hts := atoms_spec (ws := .code yX4_init cX4_init 1 none :: cw) B.pre
  have htc : ∀ w ∈ cw, w.before #[Value.ref h0] s = true := fun w hw => hts w (List.mem_cons_of_mem _ hw)
  have hown : s.vm.findClass RX4 = some m.cls := findClass_of_methodNamed B.named
  have hlocks := B.notSynchronized
  have hin : meth.name = "<init>" := (name_of_methodNamed B.named B.method).1
  subst hsz
  have hD := hD0.self (sz := s.heap.size)
  generalize hAe : va_A [(h0, .inr (3, [.null, .int 0]))] s.heap.size = A at hD ⊢
  have hA : ∀ q : Nat, s.heap.size ≤ q → A q := fun q h => by rw [← hAe]; exact Or.inr h
  have hS : va_S A s.heap s.heap [] := va_S.rf
  have hP : va_P (dC, dI) ax_cl [(h0, .inr (3, [.null, .int 0]))] s.heap := hP
  have hl := lv_entry ([.ref h0]) (n := 1) (Nat.le_of_ble_eq_true rfl)
  rw [lg_entry_eq]
  generalize (lg_sl ([.ref h0]) ++ List.replicate (1 - (lg_sl ([.ref h0])).length) Slot.unset).toArray = ls at hl ⊢
  have hl : lv_has ls 1 [(0, .ref h0)] := hl
  refine lv_aload_n hx hb d_X4_0 rfl (lv_at hl 0 rfl) ?_
  refine W.objInit hx hb hown (htc _ cm_9) (htc _ cm_0) (htc _ cm_1) rfl (by rw [hml]; exact hl.1) rfl d_X4_1 (Nat.le_of_ble_eq_true rfl) (Nat.le_of_ble_eq_true rfl) ?_
  refine W.eq (g2 := F0 m 4 ls []) rfl ?_
  refine lv_aload_n hx hb d_X4_4 rfl (lv_at hl 0 rfl) ?_
  refine lv_bipush (v := 16) hx hb d_X4_5 (by decide) ?_
  refine ax_newI (cI := cI) (cL := cL) (N' := 16) (a0 := (16, .inl (fun _ => 0))) hx hb (htc _ cm_2) hK hP hD hS hA (fun _ => rfl) (by decide) rfl (Nat.le_of_ble_eq_true rfl) (Nat.le_of_ble_eq_true rfl) (Nat.le_of_ble_eq_true rfl) d_X4_7 (fun q7 H hP hD hS => ?_)
  have hP : va_P (dC, dI) ax_cl [(h0, .inr (3, [.null, .int 0])), (q7, .inl (cI, 16, .inl (fun _ => 0)))] H := hP
  have hD : va_D A [(h0, .inr (3, [.null, .int 0])), (q7, .inl (cI, 16, .inl (fun _ => 0)))] := hD
  refine W.widen (k := 1) (n := 16) (by omega) (by omega) ?_
  refine va_putF (D := (dC, dI)) (ci := 3) (v := .ref q7) (ty := .array .int) (C := RX4) (T := TX4) (N := 2) hx hb htc (cw_lay (ci := 3) (by decide)) tyX4 tyX4_ok nmX4 hown hK hP hD hS 0 rfl rfl 0 (by decide) (htc _ cm_10) (fun _ h9 => h9) rfl hin rfl (by decide +kernel) rfl rfl (Nat.le_of_ble_eq_true rfl) d_X4_9 (fun H locs hP hD hS => ?_)
  have hP : va_P (dC, dI) ax_cl [(h0, .inr (3, [.ref q7, .int 0])), (q7, .inl (cI, 16, .inl (fun _ => 0)))] H := hP
  have hD : va_D A [(h0, .inr (3, [.ref q7, .int 0])), (q7, .inl (cI, 16, .inl (fun _ => 0)))] := hD
  refine lv_aload_n hx hb d_X4_12 rfl (lv_at hl 0 rfl) ?_
  refine lv_iconst (v := 0) hx hb d_X4_13 (by decide) ?_
  refine va_put (D := (dC, dI)) (ci := 3) (v := .int 0) (ty := .int) (C := RX4) (T := TX4) (N := 2) hx hb htc (cw_lay (ci := 3) (by decide)) tyX4 tyX4_ok nmX4 hown hK hP hD hS 0 rfl rfl 1 (by decide) (htc _ cm_11) (fun _ h9 => h9) rfl (by decide +kernel) rfl rfl (Nat.le_of_ble_eq_true rfl) d_X4_14 (fun H locs hP hD hS => ?_)
  have hP : va_P (dC, dI) ax_cl [(h0, .inr (3, [.ref q7, .int 0])), (q7, .inl (cI, 16, .inl (fun _ => 0)))] H := hP
  have hD : va_D A [(h0, .inr (3, [.ref q7, .int 0])), (q7, .inl (cI, 16, .inl (fun _ => 0)))] := hD
  refine W.widen (k := 1) (n := 16) (by omega) (by omega) ?_
  exact W.vret hx hb hr (fun t ht hW => ⟨⟨(), rfl, trivial, q7, by rw [ht]; exact hP, hD⟩, hS.F ht⟩) hS.2.2 d_X4_17
set_option maxHeartbeats 8000000 in
set_option maxRecDepth 100000 in
theorem mk_X0 (l : Launch) (dC : Nat → ClassId) (dI : Nat → Nat → Nat) (cI cL : ClassId) (h0 sz : Nat) : Met l yX0_init (.code yX0_init cX0_init 1 none :: cw) ({ frames := 1, cells := 2, slots := 16, locals := 12 }) (va_Pc [.ref h0] (fun U => U.heap.size = sz ∧ va_P (dC, dI) ax_cl [(h0, .inr (0, [.null, .null]))] U.heap ∧ va_K (dC, dI) ax_cl (ax_tys cI cL) U ∧ va_D (fun _ => True) [(h0, .inr (0, [.null, .null]))])) (va_Qv (fun _ : Unit => True) (fun _ t => ∃ (q7 q15 : Nat), va_P (dC, dI) ax_cl [(h0, .inr (0, [.ref q7, .ref q15])), (q7, .inl (cL, 8, .inr (.inl (fun _ => 0)))), (q15, .inl (cL, 8, .inr (.inl (fun _ => 0))))] t.heap ∧ va_D (va_A [(h0, .inr (0, [.null, .null]))] sz) [(h0, .inr (0, [.ref q7, .ref q15])), (q7, .inl (cL, 8, .inr (.inl (fun _ => 0)))), (q15, .inl (cL, 8, .inr (.inl (fun _ => 0))))]) (va_A [(h0, .inr (0, [.null, .null]))] sz)) 2 16 (va_A [(h0, .inr (0, [.null, .null]))] sz) := by
  refine Met.ofW (cc := cX0_init) (maxL := 1) (ret := none) (by decide) rfl ?_
  intro p e s m args below meth c s₁ B hml hv
  obtain ⟨rfl, hsz, hP, hK, hD0⟩ := hv
  have hx := B.exec
  have hb := B.bytes
  have hr := B.returns
  have hts := atoms_spec (ws := .code yX0_init cX0_init 1 none :: cw) B.pre
  have htc : ∀ w ∈ cw, w.before #[Value.ref h0] s = true := fun w hw => hts w (List.mem_cons_of_mem _ hw)
  have hown : s.vm.findClass RX0 = some m.cls := findClass_of_methodNamed B.named
  have hlocks := B.notSynchronized
  have hin : meth.name = "<init>" := (name_of_methodNamed B.named B.method).1
  subst hsz
  have hD := hD0.self (sz := s.heap.size)
  generalize hAe : va_A [(h0, .inr (0, [.null, .null]))] s.heap.size = A at hD ⊢
  have hA : ∀ q : Nat, s.heap.size ≤ q → A q := fun q h => by rw [← hAe]; exact Or.inr h
  have hS : va_S A s.heap s.heap [] := va_S.rf
  have hP : va_P (dC, dI) ax_cl [(h0, .inr (0, [.null, .null]))] s.heap := hP
  have hl := lv_entry ([.ref h0]) (n := 1) (Nat.le_of_ble_eq_true rfl)
  rw [lg_entry_eq]
  generalize (lg_sl ([.ref h0]) ++ List.replicate (1 - (lg_sl ([.ref h0])).length) Slot.unset).toArray = ls at hl ⊢
  have hl : lv_has ls 1 [(0, .ref h0)] := hl
  refine lv_aload_n hx hb d_X0_0 rfl (lv_at hl 0 rfl) ?_
  refine W.objInit hx hb hown (htc _ cm_12) (htc _ cm_0) (htc _ cm_1) rfl (by rw [hml]; exact hl.1) rfl d_X0_1 (Nat.le_of_ble_eq_true rfl) (Nat.le_of_ble_eq_true rfl) ?_
  refine W.eq (g2 := F0 m 4 ls []) rfl ?_
  refine lv_aload_n hx hb d_X0_4 rfl (lv_at hl 0 rfl) ?_
  refine lv_bipush (v := 8) hx hb d_X0_5 (by decide) ?_
  refine ax_newL (cI := cI) (cL := cL) (N' := 8) (a0 := (8, .inr (.inl (fun _ => 0)))) hx hb (htc _ cm_3) hK hP hD hS hA (fun _ => rfl) (by decide) rfl (Nat.le_of_ble_eq_true rfl) (Nat.le_of_ble_eq_true rfl) (Nat.le_of_ble_eq_true rfl) d_X0_7 (fun q7 H hP hD hS => ?_)
  have hP : va_P (dC, dI) ax_cl [(h0, .inr (0, [.null, .null])), (q7, .inl (cL, 8, .inr (.inl (fun _ => 0))))] H := hP
  have hD : va_D A [(h0, .inr (0, [.null, .null])), (q7, .inl (cL, 8, .inr (.inl (fun _ => 0))))] := hD
  refine W.widen (k := 1) (n := 8) (by omega) (by omega) ?_
  refine va_putF (D := (dC, dI)) (ci := 0) (v := .ref q7) (ty := .array .long) (C := RX0) (T := TX0) (N := 2) hx hb htc (cw_lay (ci := 0) (by decide)) tyX0 tyX0_ok nmX0 hown hK hP hD hS 0 rfl rfl 0 (by decide) (htc _ cm_13) (fun _ h9 => h9) rfl hin rfl (by decide +kernel) rfl rfl (Nat.le_of_ble_eq_true rfl) d_X0_9 (fun H locs hP hD hS => ?_)
  have hP : va_P (dC, dI) ax_cl [(h0, .inr (0, [.ref q7, .null])), (q7, .inl (cL, 8, .inr (.inl (fun _ => 0))))] H := hP
  have hD : va_D A [(h0, .inr (0, [.ref q7, .null])), (q7, .inl (cL, 8, .inr (.inl (fun _ => 0))))] := hD
  refine lv_aload_n hx hb d_X0_12 rfl (lv_at hl 0 rfl) ?_
  refine lv_bipush (v := 8) hx hb d_X0_13 (by decide) ?_
  refine ax_newL (cI := cI) (cL := cL) (N' := 8) (a0 := (8, .inr (.inl (fun _ => 0)))) hx hb (htc _ cm_3) hK hP hD hS hA (fun _ => rfl) (by decide) rfl (Nat.le_of_ble_eq_true rfl) (Nat.le_of_ble_eq_true rfl) (Nat.le_of_ble_eq_true rfl) d_X0_15 (fun q15 H hP hD hS => ?_)
  have hP : va_P (dC, dI) ax_cl [(h0, .inr (0, [.ref q7, .null])), (q7, .inl (cL, 8, .inr (.inl (fun _ => 0)))), (q15, .inl (cL, 8, .inr (.inl (fun _ => 0))))] H := hP
  have hD : va_D A [(h0, .inr (0, [.ref q7, .null])), (q7, .inl (cL, 8, .inr (.inl (fun _ => 0)))), (q15, .inl (cL, 8, .inr (.inl (fun _ => 0))))] := hD
  refine W.widen (k := 2) (n := 16) (by omega) (by omega) ?_
  refine va_putF (D := (dC, dI)) (ci := 0) (v := .ref q15) (ty := .array .long) (C := RX0) (T := TX0) (N := 2) hx hb htc (cw_lay (ci := 0) (by decide)) tyX0 tyX0_ok nmX0 hown hK hP hD hS 0 rfl rfl 1 (by decide) (htc _ cm_14) (fun _ h9 => h9) rfl hin rfl (by decide +kernel) rfl rfl (Nat.le_of_ble_eq_true rfl) d_X0_17 (fun H locs hP hD hS => ?_)
  have hP : va_P (dC, dI) ax_cl [(h0, .inr (0, [.ref q7, .ref q15])), (q7, .inl (cL, 8, .inr (.inl (fun _ => 0)))), (q15, .inl (cL, 8, .inr (.inl (fun _ => 0))))] H := hP
  have hD : va_D A [(h0, .inr (0, [.ref q7, .ref q15])), (q7, .inl (cL, 8, .inr (.inl (fun _ => 0)))), (q15, .inl (cL, 8, .inr (.inl (fun _ => 0))))] := hD
  refine W.widen (k := 2) (n := 16) (by omega) (by omega) ?_
  exact W.vret hx hb hr (fun t ht hW => ⟨⟨(), rfl, trivial, q7, q15, by rw [ht]; exact hP, hD⟩, hS.F ht⟩) hS.2.2 d_X0_20
set_option maxHeartbeats 8000000 in
set_option maxRecDepth 100000 in
theorem mk_X5 (l : Launch) (dC : Nat → ClassId) (dI : Nat → Nat → Nat) (cI cL : ClassId) (h0 sz : Nat) : Met l yX5_init (.code yX5_init cX5_init 1 none :: cw) ({ frames := 1, cells := 10, slots := 113, locals := 12 }) (va_Pc [.ref h0] (fun U => U.heap.size = sz ∧ va_P (dC, dI) ax_cl [(h0, .inr (4, [.int 0, .int 0, .int 0, .null, .null, .null, .null, .null, .null, .null, .null, .null, .null]))] U.heap ∧ va_K (dC, dI) ax_cl (ax_tys cI cL) U ∧ va_D (fun _ => True) [(h0, .inr (4, [.int 0, .int 0, .int 0, .null, .null, .null, .null, .null, .null, .null, .null, .null, .null]))])) (va_Qv (fun _ : Unit => True) (fun _ t => ∃ (q22 q30 q38 q46 q54 q62 q70 q78 q86 q94 : Nat), va_P (dC, dI) ax_cl [(h0, .inr (4, [.int 0, .int 0, .int 0, .ref q22, .ref q30, .ref q38, .ref q46, .ref q54, .ref q62, .ref q70, .ref q78, .ref q86, .ref q94])), (q22, .inl (cI, 7, .inl (fun _ => 0))), (q30, .inl (cI, 7, .inl (fun _ => 0))), (q38, .inl (cI, 7, .inl (fun _ => 0))), (q46, .inl (cI, 7, .inl (fun _ => 0))), (q54, .inl (cI, 7, .inl (fun _ => 0))), (q62, .inl (cI, 7, .inl (fun _ => 0))), (q70, .inl (cI, 48, .inl (fun _ => 0))), (q78, .inl (cI, 8, .inl (fun _ => 0))), (q86, .inl (cI, 7, .inl (fun _ => 0))), (q94, .inl (cI, 8, .inl (fun _ => 0)))] t.heap ∧ va_D (va_A [(h0, .inr (4, [.int 0, .int 0, .int 0, .null, .null, .null, .null, .null, .null, .null, .null, .null, .null]))] sz) [(h0, .inr (4, [.int 0, .int 0, .int 0, .ref q22, .ref q30, .ref q38, .ref q46, .ref q54, .ref q62, .ref q70, .ref q78, .ref q86, .ref q94])), (q22, .inl (cI, 7, .inl (fun _ => 0))), (q30, .inl (cI, 7, .inl (fun _ => 0))), (q38, .inl (cI, 7, .inl (fun _ => 0))), (q46, .inl (cI, 7, .inl (fun _ => 0))), (q54, .inl (cI, 7, .inl (fun _ => 0))), (q62, .inl (cI, 7, .inl (fun _ => 0))), (q70, .inl (cI, 48, .inl (fun _ => 0))), (q78, .inl (cI, 8, .inl (fun _ => 0))), (q86, .inl (cI, 7, .inl (fun _ => 0))), (q94, .inl (cI, 8, .inl (fun _ => 0)))]) (va_A [(h0, .inr (4, [.int 0, .int 0, .int 0, .null, .null, .null, .null, .null, .null, .null, .null, .null, .null]))] sz)) 10 113 (va_A [(h0, .inr (4, [.int 0, .int 0, .int 0, .null, .null, .null, .null, .null, .null, .null, .null, .null, .null]))] sz) := by
  refine Met.ofW (cc := cX5_init) (maxL := 1) (ret := none) (by decide) rfl ?_
  intro p e s m args below meth c s₁ B hml hv
  obtain ⟨rfl, hsz, hP, hK, hD0⟩ := hv
  have hx := B.exec
  have hb := B.bytes
  have hr := B.returns
  have hts := atoms_spec (ws := .code yX5_init cX5_init 1 none :: cw) B.pre
  have htc : ∀ w ∈ cw, w.before #[Value.ref h0] s = true := fun w hw => hts w (List.mem_cons_of_mem _ hw)
  have hown : s.vm.findClass RX5 = some m.cls := findClass_of_methodNamed B.named
  have hlocks := B.notSynchronized
  have hin : meth.name = "<init>" := (name_of_methodNamed B.named B.method).1
  subst hsz
  have hD := hD0.self (sz := s.heap.size)
  generalize hAe : va_A [(h0, .inr (4, [.int 0, .int 0, .int 0, .null, .null, .null, .null, .null, .null, .null, .null, .null, .null]))] s.heap.size = A at hD ⊢
  have hA : ∀ q : Nat, s.heap.size ≤ q → A q := fun q h => by rw [← hAe]; exact Or.inr h
  have hS : va_S A s.heap s.heap [] := va_S.rf
  have hP : va_P (dC, dI) ax_cl [(h0, .inr (4, [.int 0, .int 0, .int 0, .null, .null, .null, .null, .null, .null, .null, .null, .null, .null]))] s.heap := hP
  have hl := lv_entry ([.ref h0]) (n := 1) (Nat.le_of_ble_eq_true rfl)
  rw [lg_entry_eq]
  generalize (lg_sl ([.ref h0]) ++ List.replicate (1 - (lg_sl ([.ref h0])).length) Slot.unset).toArray = ls at hl ⊢
  have hl : lv_has ls 1 [(0, .ref h0)] := hl
  refine lv_aload_n hx hb d_X5_0 rfl (lv_at hl 0 rfl) ?_
  refine W.objInit hx hb hown (htc _ cm_15) (htc _ cm_0) (htc _ cm_1) rfl (by rw [hml]; exact hl.1) rfl d_X5_1 (Nat.le_of_ble_eq_true rfl) (Nat.le_of_ble_eq_true rfl) ?_
  refine W.eq (g2 := F0 m 4 ls []) rfl ?_
  refine lv_aload_n hx hb d_X5_4 rfl (lv_at hl 0 rfl) ?_
  refine lv_iconst (v := 0) hx hb d_X5_5 (by decide) ?_
  refine va_put (D := (dC, dI)) (ci := 4) (v := .int 0) (ty := .int) (C := RX5) (T := TX5) (N := 13) hx hb htc (cw_lay (ci := 4) (by decide)) tyX5 tyX5_ok nmX5 hown hK hP hD hS 0 rfl rfl 0 (by decide) (htc _ cm_16) (fun _ h9 => h9) rfl (by decide +kernel) rfl rfl (Nat.le_of_ble_eq_true rfl) d_X5_6 (fun H locs hP hD hS => ?_)
  have hP : va_P (dC, dI) ax_cl [(h0, .inr (4, [.int 0, .int 0, .int 0, .null, .null, .null, .null, .null, .null, .null, .null, .null, .null]))] H := hP
  have hD : va_D A [(h0, .inr (4, [.int 0, .int 0, .int 0, .null, .null, .null, .null, .null, .null, .null, .null, .null, .null]))] := hD
  refine lv_aload_n hx hb d_X5_9 rfl (lv_at hl 0 rfl) ?_
  refine lv_iconst (v := 0) hx hb d_X5_10 (by decide) ?_
  refine va_put (D := (dC, dI)) (ci := 4) (v := .int 0) (ty := .int) (C := RX5) (T := TX5) (N := 13) hx hb htc (cw_lay (ci := 4) (by decide)) tyX5 tyX5_ok nmX5 hown hK hP hD hS 0 rfl rfl 1 (by decide) (htc _ cm_17) (fun _ h9 => h9) rfl (by decide +kernel) rfl rfl (Nat.le_of_ble_eq_true rfl) d_X5_11 (fun H locs hP hD hS => ?_)
  have hP : va_P (dC, dI) ax_cl [(h0, .inr (4, [.int 0, .int 0, .int 0, .null, .null, .null, .null, .null, .null, .null, .null, .null, .null]))] H := hP
  have hD : va_D A [(h0, .inr (4, [.int 0, .int 0, .int 0, .null, .null, .null, .null, .null, .null, .null, .null, .null, .null]))] := hD
  refine lv_aload_n hx hb d_X5_14 rfl (lv_at hl 0 rfl) ?_
  refine lv_iconst (v := 0) hx hb d_X5_15 (by decide) ?_
  refine va_put (D := (dC, dI)) (ci := 4) (v := .int 0) (ty := .int) (C := RX5) (T := TX5) (N := 13) hx hb htc (cw_lay (ci := 4) (by decide)) tyX5 tyX5_ok nmX5 hown hK hP hD hS 0 rfl rfl 2 (by decide) (htc _ cm_18) (fun _ h9 => h9) rfl (by decide +kernel) rfl rfl (Nat.le_of_ble_eq_true rfl) d_X5_16 (fun H locs hP hD hS => ?_)
  have hP : va_P (dC, dI) ax_cl [(h0, .inr (4, [.int 0, .int 0, .int 0, .null, .null, .null, .null, .null, .null, .null, .null, .null, .null]))] H := hP
  have hD : va_D A [(h0, .inr (4, [.int 0, .int 0, .int 0, .null, .null, .null, .null, .null, .null, .null, .null, .null, .null]))] := hD
  refine lv_aload_n hx hb d_X5_19 rfl (lv_at hl 0 rfl) ?_
  refine lv_bipush (v := 7) hx hb d_X5_20 (by decide) ?_
  refine ax_newI (cI := cI) (cL := cL) (N' := 7) (a0 := (7, .inl (fun _ => 0))) hx hb (htc _ cm_2) hK hP hD hS hA (fun _ => rfl) (by decide) rfl (Nat.le_of_ble_eq_true rfl) (Nat.le_of_ble_eq_true rfl) (Nat.le_of_ble_eq_true rfl) d_X5_22 (fun q22 H hP hD hS => ?_)
  have hP : va_P (dC, dI) ax_cl [(h0, .inr (4, [.int 0, .int 0, .int 0, .null, .null, .null, .null, .null, .null, .null, .null, .null, .null])), (q22, .inl (cI, 7, .inl (fun _ => 0)))] H := hP
  have hD : va_D A [(h0, .inr (4, [.int 0, .int 0, .int 0, .null, .null, .null, .null, .null, .null, .null, .null, .null, .null])), (q22, .inl (cI, 7, .inl (fun _ => 0)))] := hD
  refine W.widen (k := 1) (n := 7) (by omega) (by omega) ?_
  refine va_putF (D := (dC, dI)) (ci := 4) (v := .ref q22) (ty := .array .int) (C := RX5) (T := TX5) (N := 13) hx hb htc (cw_lay (ci := 4) (by decide)) tyX5 tyX5_ok nmX5 hown hK hP hD hS 0 rfl rfl 3 (by decide) (htc _ cm_19) (fun _ h9 => h9) rfl hin rfl (by decide +kernel) rfl rfl (Nat.le_of_ble_eq_true rfl) d_X5_24 (fun H locs hP hD hS => ?_)
  have hP : va_P (dC, dI) ax_cl [(h0, .inr (4, [.int 0, .int 0, .int 0, .ref q22, .null, .null, .null, .null, .null, .null, .null, .null, .null])), (q22, .inl (cI, 7, .inl (fun _ => 0)))] H := hP
  have hD : va_D A [(h0, .inr (4, [.int 0, .int 0, .int 0, .ref q22, .null, .null, .null, .null, .null, .null, .null, .null, .null])), (q22, .inl (cI, 7, .inl (fun _ => 0)))] := hD
  refine lv_aload_n hx hb d_X5_27 rfl (lv_at hl 0 rfl) ?_
  refine lv_bipush (v := 7) hx hb d_X5_28 (by decide) ?_
  refine ax_newI (cI := cI) (cL := cL) (N' := 7) (a0 := (7, .inl (fun _ => 0))) hx hb (htc _ cm_2) hK hP hD hS hA (fun _ => rfl) (by decide) rfl (Nat.le_of_ble_eq_true rfl) (Nat.le_of_ble_eq_true rfl) (Nat.le_of_ble_eq_true rfl) d_X5_30 (fun q30 H hP hD hS => ?_)
  have hP : va_P (dC, dI) ax_cl [(h0, .inr (4, [.int 0, .int 0, .int 0, .ref q22, .null, .null, .null, .null, .null, .null, .null, .null, .null])), (q22, .inl (cI, 7, .inl (fun _ => 0))), (q30, .inl (cI, 7, .inl (fun _ => 0)))] H := hP
  have hD : va_D A [(h0, .inr (4, [.int 0, .int 0, .int 0, .ref q22, .null, .null, .null, .null, .null, .null, .null, .null, .null])), (q22, .inl (cI, 7, .inl (fun _ => 0))), (q30, .inl (cI, 7, .inl (fun _ => 0)))] := hD
  refine W.widen (k := 2) (n := 14) (by omega) (by omega) ?_
  refine va_putF (D := (dC, dI)) (ci := 4) (v := .ref q30) (ty := .array .int) (C := RX5) (T := TX5) (N := 13) hx hb htc (cw_lay (ci := 4) (by decide)) tyX5 tyX5_ok nmX5 hown hK hP hD hS 0 rfl rfl 4 (by decide) (htc _ cm_20) (fun _ h9 => h9) rfl hin rfl (by decide +kernel) rfl rfl (Nat.le_of_ble_eq_true rfl) d_X5_32 (fun H locs hP hD hS => ?_)
  have hP : va_P (dC, dI) ax_cl [(h0, .inr (4, [.int 0, .int 0, .int 0, .ref q22, .ref q30, .null, .null, .null, .null, .null, .null, .null, .null])), (q22, .inl (cI, 7, .inl (fun _ => 0))), (q30, .inl (cI, 7, .inl (fun _ => 0)))] H := hP
  have hD : va_D A [(h0, .inr (4, [.int 0, .int 0, .int 0, .ref q22, .ref q30, .null, .null, .null, .null, .null, .null, .null, .null])), (q22, .inl (cI, 7, .inl (fun _ => 0))), (q30, .inl (cI, 7, .inl (fun _ => 0)))] := hD
  refine lv_aload_n hx hb d_X5_35 rfl (lv_at hl 0 rfl) ?_
  refine lv_bipush (v := 7) hx hb d_X5_36 (by decide) ?_
  refine ax_newI (cI := cI) (cL := cL) (N' := 7) (a0 := (7, .inl (fun _ => 0))) hx hb (htc _ cm_2) hK hP hD hS hA (fun _ => rfl) (by decide) rfl (Nat.le_of_ble_eq_true rfl) (Nat.le_of_ble_eq_true rfl) (Nat.le_of_ble_eq_true rfl) d_X5_38 (fun q38 H hP hD hS => ?_)
  have hP : va_P (dC, dI) ax_cl [(h0, .inr (4, [.int 0, .int 0, .int 0, .ref q22, .ref q30, .null, .null, .null, .null, .null, .null, .null, .null])), (q22, .inl (cI, 7, .inl (fun _ => 0))), (q30, .inl (cI, 7, .inl (fun _ => 0))), (q38, .inl (cI, 7, .inl (fun _ => 0)))] H := hP
  have hD : va_D A [(h0, .inr (4, [.int 0, .int 0, .int 0, .ref q22, .ref q30, .null, .null, .null, .null, .null, .null, .null, .null])), (q22, .inl (cI, 7, .inl (fun _ => 0))), (q30, .inl (cI, 7, .inl (fun _ => 0))), (q38, .inl (cI, 7, .inl (fun _ => 0)))] := hD
  refine W.widen (k := 3) (n := 21) (by omega) (by omega) ?_
  refine va_putF (D := (dC, dI)) (ci := 4) (v := .ref q38) (ty := .array .int) (C := RX5) (T := TX5) (N := 13) hx hb htc (cw_lay (ci := 4) (by decide)) tyX5 tyX5_ok nmX5 hown hK hP hD hS 0 rfl rfl 5 (by decide) (htc _ cm_21) (fun _ h9 => h9) rfl hin rfl (by decide +kernel) rfl rfl (Nat.le_of_ble_eq_true rfl) d_X5_40 (fun H locs hP hD hS => ?_)
  have hP : va_P (dC, dI) ax_cl [(h0, .inr (4, [.int 0, .int 0, .int 0, .ref q22, .ref q30, .ref q38, .null, .null, .null, .null, .null, .null, .null])), (q22, .inl (cI, 7, .inl (fun _ => 0))), (q30, .inl (cI, 7, .inl (fun _ => 0))), (q38, .inl (cI, 7, .inl (fun _ => 0)))] H := hP
  have hD : va_D A [(h0, .inr (4, [.int 0, .int 0, .int 0, .ref q22, .ref q30, .ref q38, .null, .null, .null, .null, .null, .null, .null])), (q22, .inl (cI, 7, .inl (fun _ => 0))), (q30, .inl (cI, 7, .inl (fun _ => 0))), (q38, .inl (cI, 7, .inl (fun _ => 0)))] := hD
  refine lv_aload_n hx hb d_X5_43 rfl (lv_at hl 0 rfl) ?_
  refine lv_bipush (v := 7) hx hb d_X5_44 (by decide) ?_
  refine ax_newI (cI := cI) (cL := cL) (N' := 7) (a0 := (7, .inl (fun _ => 0))) hx hb (htc _ cm_2) hK hP hD hS hA (fun _ => rfl) (by decide) rfl (Nat.le_of_ble_eq_true rfl) (Nat.le_of_ble_eq_true rfl) (Nat.le_of_ble_eq_true rfl) d_X5_46 (fun q46 H hP hD hS => ?_)
  have hP : va_P (dC, dI) ax_cl [(h0, .inr (4, [.int 0, .int 0, .int 0, .ref q22, .ref q30, .ref q38, .null, .null, .null, .null, .null, .null, .null])), (q22, .inl (cI, 7, .inl (fun _ => 0))), (q30, .inl (cI, 7, .inl (fun _ => 0))), (q38, .inl (cI, 7, .inl (fun _ => 0))), (q46, .inl (cI, 7, .inl (fun _ => 0)))] H := hP
  have hD : va_D A [(h0, .inr (4, [.int 0, .int 0, .int 0, .ref q22, .ref q30, .ref q38, .null, .null, .null, .null, .null, .null, .null])), (q22, .inl (cI, 7, .inl (fun _ => 0))), (q30, .inl (cI, 7, .inl (fun _ => 0))), (q38, .inl (cI, 7, .inl (fun _ => 0))), (q46, .inl (cI, 7, .inl (fun _ => 0)))] := hD
  refine W.widen (k := 4) (n := 28) (by omega) (by omega) ?_
  refine va_putF (D := (dC, dI)) (ci := 4) (v := .ref q46) (ty := .array .int) (C := RX5) (T := TX5) (N := 13) hx hb htc (cw_lay (ci := 4) (by decide)) tyX5 tyX5_ok nmX5 hown hK hP hD hS 0 rfl rfl 6 (by decide) (htc _ cm_22) (fun _ h9 => h9) rfl hin rfl (by decide +kernel) rfl rfl (Nat.le_of_ble_eq_true rfl) d_X5_48 (fun H locs hP hD hS => ?_)
  have hP : va_P (dC, dI) ax_cl [(h0, .inr (4, [.int 0, .int 0, .int 0, .ref q22, .ref q30, .ref q38, .ref q46, .null, .null, .null, .null, .null, .null])), (q22, .inl (cI, 7, .inl (fun _ => 0))), (q30, .inl (cI, 7, .inl (fun _ => 0))), (q38, .inl (cI, 7, .inl (fun _ => 0))), (q46, .inl (cI, 7, .inl (fun _ => 0)))] H := hP
  have hD : va_D A [(h0, .inr (4, [.int 0, .int 0, .int 0, .ref q22, .ref q30, .ref q38, .ref q46, .null, .null, .null, .null, .null, .null])), (q22, .inl (cI, 7, .inl (fun _ => 0))), (q30, .inl (cI, 7, .inl (fun _ => 0))), (q38, .inl (cI, 7, .inl (fun _ => 0))), (q46, .inl (cI, 7, .inl (fun _ => 0)))] := hD
  refine lv_aload_n hx hb d_X5_51 rfl (lv_at hl 0 rfl) ?_
  refine lv_bipush (v := 7) hx hb d_X5_52 (by decide) ?_
  refine ax_newI (cI := cI) (cL := cL) (N' := 7) (a0 := (7, .inl (fun _ => 0))) hx hb (htc _ cm_2) hK hP hD hS hA (fun _ => rfl) (by decide) rfl (Nat.le_of_ble_eq_true rfl) (Nat.le_of_ble_eq_true rfl) (Nat.le_of_ble_eq_true rfl) d_X5_54 (fun q54 H hP hD hS => ?_)
  have hP : va_P (dC, dI) ax_cl [(h0, .inr (4, [.int 0, .int 0, .int 0, .ref q22, .ref q30, .ref q38, .ref q46, .null, .null, .null, .null, .null, .null])), (q22, .inl (cI, 7, .inl (fun _ => 0))), (q30, .inl (cI, 7, .inl (fun _ => 0))), (q38, .inl (cI, 7, .inl (fun _ => 0))), (q46, .inl (cI, 7, .inl (fun _ => 0))), (q54, .inl (cI, 7, .inl (fun _ => 0)))] H := hP
  have hD : va_D A [(h0, .inr (4, [.int 0, .int 0, .int 0, .ref q22, .ref q30, .ref q38, .ref q46, .null, .null, .null, .null, .null, .null])), (q22, .inl (cI, 7, .inl (fun _ => 0))), (q30, .inl (cI, 7, .inl (fun _ => 0))), (q38, .inl (cI, 7, .inl (fun _ => 0))), (q46, .inl (cI, 7, .inl (fun _ => 0))), (q54, .inl (cI, 7, .inl (fun _ => 0)))] := hD
  refine W.widen (k := 5) (n := 35) (by omega) (by omega) ?_
  refine va_putF (D := (dC, dI)) (ci := 4) (v := .ref q54) (ty := .array .int) (C := RX5) (T := TX5) (N := 13) hx hb htc (cw_lay (ci := 4) (by decide)) tyX5 tyX5_ok nmX5 hown hK hP hD hS 0 rfl rfl 7 (by decide) (htc _ cm_23) (fun _ h9 => h9) rfl hin rfl (by decide +kernel) rfl rfl (Nat.le_of_ble_eq_true rfl) d_X5_56 (fun H locs hP hD hS => ?_)
  have hP : va_P (dC, dI) ax_cl [(h0, .inr (4, [.int 0, .int 0, .int 0, .ref q22, .ref q30, .ref q38, .ref q46, .ref q54, .null, .null, .null, .null, .null])), (q22, .inl (cI, 7, .inl (fun _ => 0))), (q30, .inl (cI, 7, .inl (fun _ => 0))), (q38, .inl (cI, 7, .inl (fun _ => 0))), (q46, .inl (cI, 7, .inl (fun _ => 0))), (q54, .inl (cI, 7, .inl (fun _ => 0)))] H := hP
  have hD : va_D A [(h0, .inr (4, [.int 0, .int 0, .int 0, .ref q22, .ref q30, .ref q38, .ref q46, .ref q54, .null, .null, .null, .null, .null])), (q22, .inl (cI, 7, .inl (fun _ => 0))), (q30, .inl (cI, 7, .inl (fun _ => 0))), (q38, .inl (cI, 7, .inl (fun _ => 0))), (q46, .inl (cI, 7, .inl (fun _ => 0))), (q54, .inl (cI, 7, .inl (fun _ => 0)))] := hD
  refine lv_aload_n hx hb d_X5_59 rfl (lv_at hl 0 rfl) ?_
  refine lv_bipush (v := 7) hx hb d_X5_60 (by decide) ?_
  refine ax_newI (cI := cI) (cL := cL) (N' := 7) (a0 := (7, .inl (fun _ => 0))) hx hb (htc _ cm_2) hK hP hD hS hA (fun _ => rfl) (by decide) rfl (Nat.le_of_ble_eq_true rfl) (Nat.le_of_ble_eq_true rfl) (Nat.le_of_ble_eq_true rfl) d_X5_62 (fun q62 H hP hD hS => ?_)
  have hP : va_P (dC, dI) ax_cl [(h0, .inr (4, [.int 0, .int 0, .int 0, .ref q22, .ref q30, .ref q38, .ref q46, .ref q54, .null, .null, .null, .null, .null])), (q22, .inl (cI, 7, .inl (fun _ => 0))), (q30, .inl (cI, 7, .inl (fun _ => 0))), (q38, .inl (cI, 7, .inl (fun _ => 0))), (q46, .inl (cI, 7, .inl (fun _ => 0))), (q54, .inl (cI, 7, .inl (fun _ => 0))), (q62, .inl (cI, 7, .inl (fun _ => 0)))] H := hP
  have hD : va_D A [(h0, .inr (4, [.int 0, .int 0, .int 0, .ref q22, .ref q30, .ref q38, .ref q46, .ref q54, .null, .null, .null, .null, .null])), (q22, .inl (cI, 7, .inl (fun _ => 0))), (q30, .inl (cI, 7, .inl (fun _ => 0))), (q38, .inl (cI, 7, .inl (fun _ => 0))), (q46, .inl (cI, 7, .inl (fun _ => 0))), (q54, .inl (cI, 7, .inl (fun _ => 0))), (q62, .inl (cI, 7, .inl (fun _ => 0)))] := hD
  refine W.widen (k := 6) (n := 42) (by omega) (by omega) ?_
  refine va_putF (D := (dC, dI)) (ci := 4) (v := .ref q62) (ty := .array .int) (C := RX5) (T := TX5) (N := 13) hx hb htc (cw_lay (ci := 4) (by decide)) tyX5 tyX5_ok nmX5 hown hK hP hD hS 0 rfl rfl 8 (by decide) (htc _ cm_24) (fun _ h9 => h9) rfl hin rfl (by decide +kernel) rfl rfl (Nat.le_of_ble_eq_true rfl) d_X5_64 (fun H locs hP hD hS => ?_)
  have hP : va_P (dC, dI) ax_cl [(h0, .inr (4, [.int 0, .int 0, .int 0, .ref q22, .ref q30, .ref q38, .ref q46, .ref q54, .ref q62, .null, .null, .null, .null])), (q22, .inl (cI, 7, .inl (fun _ => 0))), (q30, .inl (cI, 7, .inl (fun _ => 0))), (q38, .inl (cI, 7, .inl (fun _ => 0))), (q46, .inl (cI, 7, .inl (fun _ => 0))), (q54, .inl (cI, 7, .inl (fun _ => 0))), (q62, .inl (cI, 7, .inl (fun _ => 0)))] H := hP
  have hD : va_D A [(h0, .inr (4, [.int 0, .int 0, .int 0, .ref q22, .ref q30, .ref q38, .ref q46, .ref q54, .ref q62, .null, .null, .null, .null])), (q22, .inl (cI, 7, .inl (fun _ => 0))), (q30, .inl (cI, 7, .inl (fun _ => 0))), (q38, .inl (cI, 7, .inl (fun _ => 0))), (q46, .inl (cI, 7, .inl (fun _ => 0))), (q54, .inl (cI, 7, .inl (fun _ => 0))), (q62, .inl (cI, 7, .inl (fun _ => 0)))] := hD
  refine lv_aload_n hx hb d_X5_67 rfl (lv_at hl 0 rfl) ?_
  refine lv_bipush (v := 48) hx hb d_X5_68 (by decide) ?_
  refine ax_newI (cI := cI) (cL := cL) (N' := 48) (a0 := (48, .inl (fun _ => 0))) hx hb (htc _ cm_2) hK hP hD hS hA (fun _ => rfl) (by decide) rfl (Nat.le_of_ble_eq_true rfl) (Nat.le_of_ble_eq_true rfl) (Nat.le_of_ble_eq_true rfl) d_X5_70 (fun q70 H hP hD hS => ?_)
  have hP : va_P (dC, dI) ax_cl [(h0, .inr (4, [.int 0, .int 0, .int 0, .ref q22, .ref q30, .ref q38, .ref q46, .ref q54, .ref q62, .null, .null, .null, .null])), (q22, .inl (cI, 7, .inl (fun _ => 0))), (q30, .inl (cI, 7, .inl (fun _ => 0))), (q38, .inl (cI, 7, .inl (fun _ => 0))), (q46, .inl (cI, 7, .inl (fun _ => 0))), (q54, .inl (cI, 7, .inl (fun _ => 0))), (q62, .inl (cI, 7, .inl (fun _ => 0))), (q70, .inl (cI, 48, .inl (fun _ => 0)))] H := hP
  have hD : va_D A [(h0, .inr (4, [.int 0, .int 0, .int 0, .ref q22, .ref q30, .ref q38, .ref q46, .ref q54, .ref q62, .null, .null, .null, .null])), (q22, .inl (cI, 7, .inl (fun _ => 0))), (q30, .inl (cI, 7, .inl (fun _ => 0))), (q38, .inl (cI, 7, .inl (fun _ => 0))), (q46, .inl (cI, 7, .inl (fun _ => 0))), (q54, .inl (cI, 7, .inl (fun _ => 0))), (q62, .inl (cI, 7, .inl (fun _ => 0))), (q70, .inl (cI, 48, .inl (fun _ => 0)))] := hD
  refine W.widen (k := 7) (n := 90) (by omega) (by omega) ?_
  refine va_putF (D := (dC, dI)) (ci := 4) (v := .ref q70) (ty := .array .int) (C := RX5) (T := TX5) (N := 13) hx hb htc (cw_lay (ci := 4) (by decide)) tyX5 tyX5_ok nmX5 hown hK hP hD hS 0 rfl rfl 9 (by decide) (htc _ cm_25) (fun _ h9 => h9) rfl hin rfl (by decide +kernel) rfl rfl (Nat.le_of_ble_eq_true rfl) d_X5_72 (fun H locs hP hD hS => ?_)
  have hP : va_P (dC, dI) ax_cl [(h0, .inr (4, [.int 0, .int 0, .int 0, .ref q22, .ref q30, .ref q38, .ref q46, .ref q54, .ref q62, .ref q70, .null, .null, .null])), (q22, .inl (cI, 7, .inl (fun _ => 0))), (q30, .inl (cI, 7, .inl (fun _ => 0))), (q38, .inl (cI, 7, .inl (fun _ => 0))), (q46, .inl (cI, 7, .inl (fun _ => 0))), (q54, .inl (cI, 7, .inl (fun _ => 0))), (q62, .inl (cI, 7, .inl (fun _ => 0))), (q70, .inl (cI, 48, .inl (fun _ => 0)))] H := hP
  have hD : va_D A [(h0, .inr (4, [.int 0, .int 0, .int 0, .ref q22, .ref q30, .ref q38, .ref q46, .ref q54, .ref q62, .ref q70, .null, .null, .null])), (q22, .inl (cI, 7, .inl (fun _ => 0))), (q30, .inl (cI, 7, .inl (fun _ => 0))), (q38, .inl (cI, 7, .inl (fun _ => 0))), (q46, .inl (cI, 7, .inl (fun _ => 0))), (q54, .inl (cI, 7, .inl (fun _ => 0))), (q62, .inl (cI, 7, .inl (fun _ => 0))), (q70, .inl (cI, 48, .inl (fun _ => 0)))] := hD
  refine lv_aload_n hx hb d_X5_75 rfl (lv_at hl 0 rfl) ?_
  refine lv_bipush (v := 8) hx hb d_X5_76 (by decide) ?_
  refine ax_newI (cI := cI) (cL := cL) (N' := 8) (a0 := (8, .inl (fun _ => 0))) hx hb (htc _ cm_2) hK hP hD hS hA (fun _ => rfl) (by decide) rfl (Nat.le_of_ble_eq_true rfl) (Nat.le_of_ble_eq_true rfl) (Nat.le_of_ble_eq_true rfl) d_X5_78 (fun q78 H hP hD hS => ?_)
  have hP : va_P (dC, dI) ax_cl [(h0, .inr (4, [.int 0, .int 0, .int 0, .ref q22, .ref q30, .ref q38, .ref q46, .ref q54, .ref q62, .ref q70, .null, .null, .null])), (q22, .inl (cI, 7, .inl (fun _ => 0))), (q30, .inl (cI, 7, .inl (fun _ => 0))), (q38, .inl (cI, 7, .inl (fun _ => 0))), (q46, .inl (cI, 7, .inl (fun _ => 0))), (q54, .inl (cI, 7, .inl (fun _ => 0))), (q62, .inl (cI, 7, .inl (fun _ => 0))), (q70, .inl (cI, 48, .inl (fun _ => 0))), (q78, .inl (cI, 8, .inl (fun _ => 0)))] H := hP
  have hD : va_D A [(h0, .inr (4, [.int 0, .int 0, .int 0, .ref q22, .ref q30, .ref q38, .ref q46, .ref q54, .ref q62, .ref q70, .null, .null, .null])), (q22, .inl (cI, 7, .inl (fun _ => 0))), (q30, .inl (cI, 7, .inl (fun _ => 0))), (q38, .inl (cI, 7, .inl (fun _ => 0))), (q46, .inl (cI, 7, .inl (fun _ => 0))), (q54, .inl (cI, 7, .inl (fun _ => 0))), (q62, .inl (cI, 7, .inl (fun _ => 0))), (q70, .inl (cI, 48, .inl (fun _ => 0))), (q78, .inl (cI, 8, .inl (fun _ => 0)))] := hD
  refine W.widen (k := 8) (n := 98) (by omega) (by omega) ?_
  refine va_putF (D := (dC, dI)) (ci := 4) (v := .ref q78) (ty := .array .int) (C := RX5) (T := TX5) (N := 13) hx hb htc (cw_lay (ci := 4) (by decide)) tyX5 tyX5_ok nmX5 hown hK hP hD hS 0 rfl rfl 10 (by decide) (htc _ cm_26) (fun _ h9 => h9) rfl hin rfl (by decide +kernel) rfl rfl (Nat.le_of_ble_eq_true rfl) d_X5_80 (fun H locs hP hD hS => ?_)
  have hP : va_P (dC, dI) ax_cl [(h0, .inr (4, [.int 0, .int 0, .int 0, .ref q22, .ref q30, .ref q38, .ref q46, .ref q54, .ref q62, .ref q70, .ref q78, .null, .null])), (q22, .inl (cI, 7, .inl (fun _ => 0))), (q30, .inl (cI, 7, .inl (fun _ => 0))), (q38, .inl (cI, 7, .inl (fun _ => 0))), (q46, .inl (cI, 7, .inl (fun _ => 0))), (q54, .inl (cI, 7, .inl (fun _ => 0))), (q62, .inl (cI, 7, .inl (fun _ => 0))), (q70, .inl (cI, 48, .inl (fun _ => 0))), (q78, .inl (cI, 8, .inl (fun _ => 0)))] H := hP
  have hD : va_D A [(h0, .inr (4, [.int 0, .int 0, .int 0, .ref q22, .ref q30, .ref q38, .ref q46, .ref q54, .ref q62, .ref q70, .ref q78, .null, .null])), (q22, .inl (cI, 7, .inl (fun _ => 0))), (q30, .inl (cI, 7, .inl (fun _ => 0))), (q38, .inl (cI, 7, .inl (fun _ => 0))), (q46, .inl (cI, 7, .inl (fun _ => 0))), (q54, .inl (cI, 7, .inl (fun _ => 0))), (q62, .inl (cI, 7, .inl (fun _ => 0))), (q70, .inl (cI, 48, .inl (fun _ => 0))), (q78, .inl (cI, 8, .inl (fun _ => 0)))] := hD
  refine lv_aload_n hx hb d_X5_83 rfl (lv_at hl 0 rfl) ?_
  refine lv_bipush (v := 7) hx hb d_X5_84 (by decide) ?_
  refine ax_newI (cI := cI) (cL := cL) (N' := 7) (a0 := (7, .inl (fun _ => 0))) hx hb (htc _ cm_2) hK hP hD hS hA (fun _ => rfl) (by decide) rfl (Nat.le_of_ble_eq_true rfl) (Nat.le_of_ble_eq_true rfl) (Nat.le_of_ble_eq_true rfl) d_X5_86 (fun q86 H hP hD hS => ?_)
  have hP : va_P (dC, dI) ax_cl [(h0, .inr (4, [.int 0, .int 0, .int 0, .ref q22, .ref q30, .ref q38, .ref q46, .ref q54, .ref q62, .ref q70, .ref q78, .null, .null])), (q22, .inl (cI, 7, .inl (fun _ => 0))), (q30, .inl (cI, 7, .inl (fun _ => 0))), (q38, .inl (cI, 7, .inl (fun _ => 0))), (q46, .inl (cI, 7, .inl (fun _ => 0))), (q54, .inl (cI, 7, .inl (fun _ => 0))), (q62, .inl (cI, 7, .inl (fun _ => 0))), (q70, .inl (cI, 48, .inl (fun _ => 0))), (q78, .inl (cI, 8, .inl (fun _ => 0))), (q86, .inl (cI, 7, .inl (fun _ => 0)))] H := hP
  have hD : va_D A [(h0, .inr (4, [.int 0, .int 0, .int 0, .ref q22, .ref q30, .ref q38, .ref q46, .ref q54, .ref q62, .ref q70, .ref q78, .null, .null])), (q22, .inl (cI, 7, .inl (fun _ => 0))), (q30, .inl (cI, 7, .inl (fun _ => 0))), (q38, .inl (cI, 7, .inl (fun _ => 0))), (q46, .inl (cI, 7, .inl (fun _ => 0))), (q54, .inl (cI, 7, .inl (fun _ => 0))), (q62, .inl (cI, 7, .inl (fun _ => 0))), (q70, .inl (cI, 48, .inl (fun _ => 0))), (q78, .inl (cI, 8, .inl (fun _ => 0))), (q86, .inl (cI, 7, .inl (fun _ => 0)))] := hD
  refine W.widen (k := 9) (n := 105) (by omega) (by omega) ?_
  refine va_putF (D := (dC, dI)) (ci := 4) (v := .ref q86) (ty := .array .int) (C := RX5) (T := TX5) (N := 13) hx hb htc (cw_lay (ci := 4) (by decide)) tyX5 tyX5_ok nmX5 hown hK hP hD hS 0 rfl rfl 11 (by decide) (htc _ cm_27) (fun _ h9 => h9) rfl hin rfl (by decide +kernel) rfl rfl (Nat.le_of_ble_eq_true rfl) d_X5_88 (fun H locs hP hD hS => ?_)
  have hP : va_P (dC, dI) ax_cl [(h0, .inr (4, [.int 0, .int 0, .int 0, .ref q22, .ref q30, .ref q38, .ref q46, .ref q54, .ref q62, .ref q70, .ref q78, .ref q86, .null])), (q22, .inl (cI, 7, .inl (fun _ => 0))), (q30, .inl (cI, 7, .inl (fun _ => 0))), (q38, .inl (cI, 7, .inl (fun _ => 0))), (q46, .inl (cI, 7, .inl (fun _ => 0))), (q54, .inl (cI, 7, .inl (fun _ => 0))), (q62, .inl (cI, 7, .inl (fun _ => 0))), (q70, .inl (cI, 48, .inl (fun _ => 0))), (q78, .inl (cI, 8, .inl (fun _ => 0))), (q86, .inl (cI, 7, .inl (fun _ => 0)))] H := hP
  have hD : va_D A [(h0, .inr (4, [.int 0, .int 0, .int 0, .ref q22, .ref q30, .ref q38, .ref q46, .ref q54, .ref q62, .ref q70, .ref q78, .ref q86, .null])), (q22, .inl (cI, 7, .inl (fun _ => 0))), (q30, .inl (cI, 7, .inl (fun _ => 0))), (q38, .inl (cI, 7, .inl (fun _ => 0))), (q46, .inl (cI, 7, .inl (fun _ => 0))), (q54, .inl (cI, 7, .inl (fun _ => 0))), (q62, .inl (cI, 7, .inl (fun _ => 0))), (q70, .inl (cI, 48, .inl (fun _ => 0))), (q78, .inl (cI, 8, .inl (fun _ => 0))), (q86, .inl (cI, 7, .inl (fun _ => 0)))] := hD
  refine lv_aload_n hx hb d_X5_91 rfl (lv_at hl 0 rfl) ?_
  refine lv_bipush (v := 8) hx hb d_X5_92 (by decide) ?_
  refine ax_newI (cI := cI) (cL := cL) (N' := 8) (a0 := (8, .inl (fun _ => 0))) hx hb (htc _ cm_2) hK hP hD hS hA (fun _ => rfl) (by decide) rfl (Nat.le_of_ble_eq_true rfl) (Nat.le_of_ble_eq_true rfl) (Nat.le_of_ble_eq_true rfl) d_X5_94 (fun q94 H hP hD hS => ?_)
  have hP : va_P (dC, dI) ax_cl [(h0, .inr (4, [.int 0, .int 0, .int 0, .ref q22, .ref q30, .ref q38, .ref q46, .ref q54, .ref q62, .ref q70, .ref q78, .ref q86, .null])), (q22, .inl (cI, 7, .inl (fun _ => 0))), (q30, .inl (cI, 7, .inl (fun _ => 0))), (q38, .inl (cI, 7, .inl (fun _ => 0))), (q46, .inl (cI, 7, .inl (fun _ => 0))), (q54, .inl (cI, 7, .inl (fun _ => 0))), (q62, .inl (cI, 7, .inl (fun _ => 0))), (q70, .inl (cI, 48, .inl (fun _ => 0))), (q78, .inl (cI, 8, .inl (fun _ => 0))), (q86, .inl (cI, 7, .inl (fun _ => 0))), (q94, .inl (cI, 8, .inl (fun _ => 0)))] H := hP
  have hD : va_D A [(h0, .inr (4, [.int 0, .int 0, .int 0, .ref q22, .ref q30, .ref q38, .ref q46, .ref q54, .ref q62, .ref q70, .ref q78, .ref q86, .null])), (q22, .inl (cI, 7, .inl (fun _ => 0))), (q30, .inl (cI, 7, .inl (fun _ => 0))), (q38, .inl (cI, 7, .inl (fun _ => 0))), (q46, .inl (cI, 7, .inl (fun _ => 0))), (q54, .inl (cI, 7, .inl (fun _ => 0))), (q62, .inl (cI, 7, .inl (fun _ => 0))), (q70, .inl (cI, 48, .inl (fun _ => 0))), (q78, .inl (cI, 8, .inl (fun _ => 0))), (q86, .inl (cI, 7, .inl (fun _ => 0))), (q94, .inl (cI, 8, .inl (fun _ => 0)))] := hD
  refine W.widen (k := 10) (n := 113) (by omega) (by omega) ?_
  refine va_putF (D := (dC, dI)) (ci := 4) (v := .ref q94) (ty := .array .int) (C := RX5) (T := TX5) (N := 13) hx hb htc (cw_lay (ci := 4) (by decide)) tyX5 tyX5_ok nmX5 hown hK hP hD hS 0 rfl rfl 12 (by decide) (htc _ cm_28) (fun _ h9 => h9) rfl hin rfl (by decide +kernel) rfl rfl (Nat.le_of_ble_eq_true rfl) d_X5_96 (fun H locs hP hD hS => ?_)
  have hP : va_P (dC, dI) ax_cl [(h0, .inr (4, [.int 0, .int 0, .int 0, .ref q22, .ref q30, .ref q38, .ref q46, .ref q54, .ref q62, .ref q70, .ref q78, .ref q86, .ref q94])), (q22, .inl (cI, 7, .inl (fun _ => 0))), (q30, .inl (cI, 7, .inl (fun _ => 0))), (q38, .inl (cI, 7, .inl (fun _ => 0))), (q46, .inl (cI, 7, .inl (fun _ => 0))), (q54, .inl (cI, 7, .inl (fun _ => 0))), (q62, .inl (cI, 7, .inl (fun _ => 0))), (q70, .inl (cI, 48, .inl (fun _ => 0))), (q78, .inl (cI, 8, .inl (fun _ => 0))), (q86, .inl (cI, 7, .inl (fun _ => 0))), (q94, .inl (cI, 8, .inl (fun _ => 0)))] H := hP
  have hD : va_D A [(h0, .inr (4, [.int 0, .int 0, .int 0, .ref q22, .ref q30, .ref q38, .ref q46, .ref q54, .ref q62, .ref q70, .ref q78, .ref q86, .ref q94])), (q22, .inl (cI, 7, .inl (fun _ => 0))), (q30, .inl (cI, 7, .inl (fun _ => 0))), (q38, .inl (cI, 7, .inl (fun _ => 0))), (q46, .inl (cI, 7, .inl (fun _ => 0))), (q54, .inl (cI, 7, .inl (fun _ => 0))), (q62, .inl (cI, 7, .inl (fun _ => 0))), (q70, .inl (cI, 48, .inl (fun _ => 0))), (q78, .inl (cI, 8, .inl (fun _ => 0))), (q86, .inl (cI, 7, .inl (fun _ => 0))), (q94, .inl (cI, 8, .inl (fun _ => 0)))] := hD
  refine W.widen (k := 10) (n := 113) (by omega) (by omega) ?_
  exact W.vret hx hb hr (fun t ht hW => ⟨⟨(), rfl, trivial, q22, q30, q38, q46, q54, q62, q70, q78, q86, q94, by rw [ht]; exact hP, hD⟩, hS.F ht⟩) hS.2.2 d_X5_99
set_option maxHeartbeats 8000000 in
set_option maxRecDepth 100000 in
theorem mk_X6 (l : Launch) (dC : Nat → ClassId) (dI : Nat → Nat → Nat) (cI cL : ClassId) (h0 sz : Nat) : Met l yX6_init (.code yX6_init cX6_init 1 none :: cw) ({ frames := 2, cells := 13, slots := 134, locals := 32 }) (va_Pc [.ref h0] (fun U => U.heap.size = sz ∧ va_P (dC, dI) ax_cl [(h0, .inr (5, [.null, .null, .null]))] U.heap ∧ va_K (dC, dI) ax_cl (ax_tys cI cL) U ∧ va_D (fun _ => True) [(h0, .inr (5, [.null, .null, .null]))] ∧ va_Nw (.methodLinkNest RX6 11 yX5_init RX7) U)) (va_Qv (fun _ : Unit => True) (fun _ t => ∃ (q5 q5_1 q5_2 q5_3 q5_4 q5_5 q5_6 q5_7 q5_8 q5_9 q5_10 q17 q24 : Nat), va_P (dC, dI) ax_cl [(h0, .inr (5, [.ref q5, .ref q17, .ref q24])), (q5, .inr (4, [.int 0, .int 0, .int 0, .ref q5_1, .ref q5_2, .ref q5_3, .ref q5_4, .ref q5_5, .ref q5_6, .ref q5_7, .ref q5_8, .ref q5_9, .ref q5_10])), (q5_1, .inl (cI, 7, .inl (fun _ => 0))), (q5_2, .inl (cI, 7, .inl (fun _ => 0))), (q5_3, .inl (cI, 7, .inl (fun _ => 0))), (q5_4, .inl (cI, 7, .inl (fun _ => 0))), (q5_5, .inl (cI, 7, .inl (fun _ => 0))), (q5_6, .inl (cI, 7, .inl (fun _ => 0))), (q5_7, .inl (cI, 48, .inl (fun _ => 0))), (q5_8, .inl (cI, 8, .inl (fun _ => 0))), (q5_9, .inl (cI, 7, .inl (fun _ => 0))), (q5_10, .inl (cI, 8, .inl (fun _ => 0))), (q17, .inl (cI, 4, .inl (fun _ => 0))), (q24, .inl (cI, 4, .inl (fun _ => 0)))] t.heap ∧ va_D (va_A [(h0, .inr (5, [.null, .null, .null]))] sz) [(h0, .inr (5, [.ref q5, .ref q17, .ref q24])), (q5, .inr (4, [.int 0, .int 0, .int 0, .ref q5_1, .ref q5_2, .ref q5_3, .ref q5_4, .ref q5_5, .ref q5_6, .ref q5_7, .ref q5_8, .ref q5_9, .ref q5_10])), (q5_1, .inl (cI, 7, .inl (fun _ => 0))), (q5_2, .inl (cI, 7, .inl (fun _ => 0))), (q5_3, .inl (cI, 7, .inl (fun _ => 0))), (q5_4, .inl (cI, 7, .inl (fun _ => 0))), (q5_5, .inl (cI, 7, .inl (fun _ => 0))), (q5_6, .inl (cI, 7, .inl (fun _ => 0))), (q5_7, .inl (cI, 48, .inl (fun _ => 0))), (q5_8, .inl (cI, 8, .inl (fun _ => 0))), (q5_9, .inl (cI, 7, .inl (fun _ => 0))), (q5_10, .inl (cI, 8, .inl (fun _ => 0))), (q17, .inl (cI, 4, .inl (fun _ => 0))), (q24, .inl (cI, 4, .inl (fun _ => 0)))]) (va_A [(h0, .inr (5, [.null, .null, .null]))] sz)) 13 134 (va_A [(h0, .inr (5, [.null, .null, .null]))] sz) := by
  refine Met.ofW (cc := cX6_init) (maxL := 1) (ret := none) (by decide) rfl ?_
  intro p e s m args below meth c s₁ B hml hv
  obtain ⟨rfl, hsz, hP, hK, hD0, hn_0⟩ := hv
  have hx := B.exec
  have hb := B.bytes
  have hr := B.returns
  have hts := atoms_spec (ws := .code yX6_init cX6_init 1 none :: cw) B.pre
  have htc : ∀ w ∈ cw, w.before #[Value.ref h0] s = true := fun w hw => hts w (List.mem_cons_of_mem _ hw)
  have hown : s.vm.findClass RX6 = some m.cls := findClass_of_methodNamed B.named
  have hlocks := B.notSynchronized
  have hin : meth.name = "<init>" := (name_of_methodNamed B.named B.method).1
  subst hsz
  have hD := hD0.self (sz := s.heap.size)
  generalize hAe : va_A [(h0, .inr (5, [.null, .null, .null]))] s.heap.size = A at hD ⊢
  have hA : ∀ q : Nat, s.heap.size ≤ q → A q := fun q h => by rw [← hAe]; exact Or.inr h
  have hS : va_S A s.heap s.heap [] := va_S.rf
  have hP : va_P (dC, dI) ax_cl [(h0, .inr (5, [.null, .null, .null]))] s.heap := hP
  have hl := lv_entry ([.ref h0]) (n := 1) (Nat.le_of_ble_eq_true rfl)
  rw [lg_entry_eq]
  generalize (lg_sl ([.ref h0]) ++ List.replicate (1 - (lg_sl ([.ref h0])).length) Slot.unset).toArray = ls at hl ⊢
  have hl : lv_has ls 1 [(0, .ref h0)] := hl
  refine lv_aload_n hx hb d_X6_0 rfl (lv_at hl 0 rfl) ?_
  refine W.objInit hx hb hown (htc _ cm_29) (htc _ cm_0) (htc _ cm_1) rfl (by rw [hml]; exact hl.1) rfl d_X6_1 (Nat.le_of_ble_eq_true rfl) (Nat.le_of_ble_eq_true rfl) ?_
  refine W.eq (g2 := F0 m 4 ls []) rfl ?_
  refine lv_aload_n hx hb d_X6_4 rfl (lv_at hl 0 rfl) ?_
  refine va_new (ci := 4) (fs := [.int 0, .int 0, .int 0, .null, .null, .null, .null, .null, .null, .null, .null, .null, .null]) (C := RX5) (T := TX5) (N := 13) hx hb htc (cw_lay (ci := 4) (by decide)) tyX5 tyX5_ok hown (htc _ cm_30) (htc _ cm_31) (htc _ cm_32) hK hP hD hS hA rfl dfX5 (Nat.le_of_ble_eq_true rfl) (Nat.le_of_ble_eq_true rfl) d_X6_5 (fun q5 H hP hD hS => ?_)
  have hP : va_P (dC, dI) ax_cl [(h0, .inr (5, [.null, .null, .null])), (q5, .inr (4, [.int 0, .int 0, .int 0, .null, .null, .null, .null, .null, .null, .null, .null, .null, .null]))] H := hP
  have hD : va_D A [(h0, .inr (5, [.null, .null, .null])), (q5, .inr (4, [.int 0, .int 0, .int 0, .null, .null, .null, .null, .null, .null, .null, .null, .null, .null]))] := hD
  refine W.widen (k := 1) (n := 13) (by omega) (by omega) ?_
  refine lv_dup hx hb d_X6_8 rfl ?_
  have hPc := hP.sub (ws' := [(q5, .inr (4, [.int 0, .int 0, .int 0, .null, .null, .null, .null, .null, .null, .null, .null, .null, .null]))]) [1] rfl
  have hDc := hD.sub (ws' := [(q5, .inr (4, [.int 0, .int 0, .int 0, .null, .null, .null, .null, .null, .null, .null, .null, .null, .null]))]) [1] (by decide) rfl
  have hFc := va_free (wc := [(q5, .inr (4, [.int 0, .int 0, .int 0, .null, .null, .null, .null, .null, .null, .null, .null, .null, .null]))]) hD hS hA [1] rfl
  refine va_callv (va_runIN (As := []) (rest := [.ref q5, .ref h0]) ⟨hx, hb, hml, hown, hts⟩ (mk_X5 l dC dI cI cL q5 H.size) ⟨va_cnB 0 hts (cw_good cm_34) rfl rfl rfl hn_0 (htc _ cm_32) (by decide +kernel) ⟨Nat.le_of_ble_eq_true rfl, Nat.le_of_ble_eq_true rfl⟩, rfl, htc _ cm_33⟩ ⟨fun a U g mk q => by obtain ⟨q0, q1, qP, qK, qD⟩ := q; exact ⟨q0, q1, qP, va_K.moved (u := U) (U := U.calling g mk a) (Vm.Alike.refl U.vm) qK, qD⟩, fun U hU hW => ⟨rfl, by rw [hU], by rw [hU]; exact hPc, va_K.moved hW.alike hK, hDc.weaken (fun _ _ _ _ => trivial)⟩⟩ rfl rfl hl.1 rfl (lv_room (Nat.le_of_ble_eq_true rfl)) d_X6_9 ⟨Nat.le_of_ble_eq_true rfl, Nat.le_of_ble_eq_true rfl⟩) hS (fun q _ h => hFc q h) hFc (fun u t H1 locs ht hvm hw hB hz1 hk1 hS => ?_)
  obtain ⟨q5_1, q5_2, q5_3, q5_4, q5_5, q5_6, q5_7, q5_8, q5_9, q5_10, hP1, hD1⟩ := hB
  rw [ht] at hP1
  obtain ⟨hP, hD⟩ := va_join (wr := [(h0, .inr (5, [.null, .null, .null]))]) (w1 := [(q5, .inr (4, [.int 0, .int 0, .int 0, .ref q5_1, .ref q5_2, .ref q5_3, .ref q5_4, .ref q5_5, .ref q5_6, .ref q5_7, .ref q5_8, .ref q5_9, .ref q5_10])), (q5_1, .inl (cI, 7, .inl (fun _ => 0))), (q5_2, .inl (cI, 7, .inl (fun _ => 0))), (q5_3, .inl (cI, 7, .inl (fun _ => 0))), (q5_4, .inl (cI, 7, .inl (fun _ => 0))), (q5_5, .inl (cI, 7, .inl (fun _ => 0))), (q5_6, .inl (cI, 7, .inl (fun _ => 0))), (q5_7, .inl (cI, 48, .inl (fun _ => 0))), (q5_8, .inl (cI, 8, .inl (fun _ => 0))), (q5_9, .inl (cI, 7, .inl (fun _ => 0))), (q5_10, .inl (cI, 8, .inl (fun _ => 0)))]) hP hD [1] [0] rfl rfl (by decide) (by decide) hk1 hFc hP1 hD1
  generalize H1 = H at hP hS ⊢
  have hP : va_P (dC, dI) ax_cl [(h0, .inr (5, [.null, .null, .null])), (q5, .inr (4, [.int 0, .int 0, .int 0, .ref q5_1, .ref q5_2, .ref q5_3, .ref q5_4, .ref q5_5, .ref q5_6, .ref q5_7, .ref q5_8, .ref q5_9, .ref q5_10])), (q5_1, .inl (cI, 7, .inl (fun _ => 0))), (q5_2, .inl (cI, 7, .inl (fun _ => 0))), (q5_3, .inl (cI, 7, .inl (fun _ => 0))), (q5_4, .inl (cI, 7, .inl (fun _ => 0))), (q5_5, .inl (cI, 7, .inl (fun _ => 0))), (q5_6, .inl (cI, 7, .inl (fun _ => 0))), (q5_7, .inl (cI, 48, .inl (fun _ => 0))), (q5_8, .inl (cI, 8, .inl (fun _ => 0))), (q5_9, .inl (cI, 7, .inl (fun _ => 0))), (q5_10, .inl (cI, 8, .inl (fun _ => 0)))] H := hP
  have hD : va_D A [(h0, .inr (5, [.null, .null, .null])), (q5, .inr (4, [.int 0, .int 0, .int 0, .ref q5_1, .ref q5_2, .ref q5_3, .ref q5_4, .ref q5_5, .ref q5_6, .ref q5_7, .ref q5_8, .ref q5_9, .ref q5_10])), (q5_1, .inl (cI, 7, .inl (fun _ => 0))), (q5_2, .inl (cI, 7, .inl (fun _ => 0))), (q5_3, .inl (cI, 7, .inl (fun _ => 0))), (q5_4, .inl (cI, 7, .inl (fun _ => 0))), (q5_5, .inl (cI, 7, .inl (fun _ => 0))), (q5_6, .inl (cI, 7, .inl (fun _ => 0))), (q5_7, .inl (cI, 48, .inl (fun _ => 0))), (q5_8, .inl (cI, 8, .inl (fun _ => 0))), (q5_9, .inl (cI, 7, .inl (fun _ => 0))), (q5_10, .inl (cI, 8, .inl (fun _ => 0)))] := hD
  refine W.widen (k := 11) (n := 126) (by omega) (by omega) ?_
  refine va_putF (D := (dC, dI)) (ci := 5) (v := .ref q5) (ty := .object "WallsByTheHour$Street") (C := RX6) (T := TX6) (N := 3) hx hb htc (cw_lay (ci := 5) (by decide)) tyX6 tyX6_ok nmX6 hown hK hP hD hS 0 rfl rfl 0 (by decide) (htc _ cm_35) (fun _ h9 => h9) rfl hin rfl (by decide +kernel) rfl rfl (Nat.le_of_ble_eq_true rfl) d_X6_12 (fun H locs hP hD hS => ?_)
  have hP : va_P (dC, dI) ax_cl [(h0, .inr (5, [.ref q5, .null, .null])), (q5, .inr (4, [.int 0, .int 0, .int 0, .ref q5_1, .ref q5_2, .ref q5_3, .ref q5_4, .ref q5_5, .ref q5_6, .ref q5_7, .ref q5_8, .ref q5_9, .ref q5_10])), (q5_1, .inl (cI, 7, .inl (fun _ => 0))), (q5_2, .inl (cI, 7, .inl (fun _ => 0))), (q5_3, .inl (cI, 7, .inl (fun _ => 0))), (q5_4, .inl (cI, 7, .inl (fun _ => 0))), (q5_5, .inl (cI, 7, .inl (fun _ => 0))), (q5_6, .inl (cI, 7, .inl (fun _ => 0))), (q5_7, .inl (cI, 48, .inl (fun _ => 0))), (q5_8, .inl (cI, 8, .inl (fun _ => 0))), (q5_9, .inl (cI, 7, .inl (fun _ => 0))), (q5_10, .inl (cI, 8, .inl (fun _ => 0)))] H := hP
  have hD : va_D A [(h0, .inr (5, [.ref q5, .null, .null])), (q5, .inr (4, [.int 0, .int 0, .int 0, .ref q5_1, .ref q5_2, .ref q5_3, .ref q5_4, .ref q5_5, .ref q5_6, .ref q5_7, .ref q5_8, .ref q5_9, .ref q5_10])), (q5_1, .inl (cI, 7, .inl (fun _ => 0))), (q5_2, .inl (cI, 7, .inl (fun _ => 0))), (q5_3, .inl (cI, 7, .inl (fun _ => 0))), (q5_4, .inl (cI, 7, .inl (fun _ => 0))), (q5_5, .inl (cI, 7, .inl (fun _ => 0))), (q5_6, .inl (cI, 7, .inl (fun _ => 0))), (q5_7, .inl (cI, 48, .inl (fun _ => 0))), (q5_8, .inl (cI, 8, .inl (fun _ => 0))), (q5_9, .inl (cI, 7, .inl (fun _ => 0))), (q5_10, .inl (cI, 8, .inl (fun _ => 0)))] := hD
  refine lv_aload_n hx hb d_X6_15 rfl (lv_at hl 0 rfl) ?_
  refine lv_iconst (v := 4) hx hb d_X6_16 (by decide) ?_
  refine ax_newI (cI := cI) (cL := cL) (N' := 4) (a0 := (4, .inl (fun _ => 0))) hx hb (htc _ cm_2) hK hP hD hS hA (fun _ => rfl) (by decide) rfl (Nat.le_of_ble_eq_true rfl) (Nat.le_of_ble_eq_true rfl) (Nat.le_of_ble_eq_true rfl) d_X6_17 (fun q17 H hP hD hS => ?_)
  have hP : va_P (dC, dI) ax_cl [(h0, .inr (5, [.ref q5, .null, .null])), (q5, .inr (4, [.int 0, .int 0, .int 0, .ref q5_1, .ref q5_2, .ref q5_3, .ref q5_4, .ref q5_5, .ref q5_6, .ref q5_7, .ref q5_8, .ref q5_9, .ref q5_10])), (q5_1, .inl (cI, 7, .inl (fun _ => 0))), (q5_2, .inl (cI, 7, .inl (fun _ => 0))), (q5_3, .inl (cI, 7, .inl (fun _ => 0))), (q5_4, .inl (cI, 7, .inl (fun _ => 0))), (q5_5, .inl (cI, 7, .inl (fun _ => 0))), (q5_6, .inl (cI, 7, .inl (fun _ => 0))), (q5_7, .inl (cI, 48, .inl (fun _ => 0))), (q5_8, .inl (cI, 8, .inl (fun _ => 0))), (q5_9, .inl (cI, 7, .inl (fun _ => 0))), (q5_10, .inl (cI, 8, .inl (fun _ => 0))), (q17, .inl (cI, 4, .inl (fun _ => 0)))] H := hP
  have hD : va_D A [(h0, .inr (5, [.ref q5, .null, .null])), (q5, .inr (4, [.int 0, .int 0, .int 0, .ref q5_1, .ref q5_2, .ref q5_3, .ref q5_4, .ref q5_5, .ref q5_6, .ref q5_7, .ref q5_8, .ref q5_9, .ref q5_10])), (q5_1, .inl (cI, 7, .inl (fun _ => 0))), (q5_2, .inl (cI, 7, .inl (fun _ => 0))), (q5_3, .inl (cI, 7, .inl (fun _ => 0))), (q5_4, .inl (cI, 7, .inl (fun _ => 0))), (q5_5, .inl (cI, 7, .inl (fun _ => 0))), (q5_6, .inl (cI, 7, .inl (fun _ => 0))), (q5_7, .inl (cI, 48, .inl (fun _ => 0))), (q5_8, .inl (cI, 8, .inl (fun _ => 0))), (q5_9, .inl (cI, 7, .inl (fun _ => 0))), (q5_10, .inl (cI, 8, .inl (fun _ => 0))), (q17, .inl (cI, 4, .inl (fun _ => 0)))] := hD
  refine W.widen (k := 12) (n := 130) (by omega) (by omega) ?_
  refine va_putF (D := (dC, dI)) (ci := 5) (v := .ref q17) (ty := .array .int) (C := RX6) (T := TX6) (N := 3) hx hb htc (cw_lay (ci := 5) (by decide)) tyX6 tyX6_ok nmX6 hown hK hP hD hS 0 rfl rfl 1 (by decide) (htc _ cm_36) (fun _ h9 => h9) rfl hin rfl (by decide +kernel) rfl rfl (Nat.le_of_ble_eq_true rfl) d_X6_19 (fun H locs hP hD hS => ?_)
  have hP : va_P (dC, dI) ax_cl [(h0, .inr (5, [.ref q5, .ref q17, .null])), (q5, .inr (4, [.int 0, .int 0, .int 0, .ref q5_1, .ref q5_2, .ref q5_3, .ref q5_4, .ref q5_5, .ref q5_6, .ref q5_7, .ref q5_8, .ref q5_9, .ref q5_10])), (q5_1, .inl (cI, 7, .inl (fun _ => 0))), (q5_2, .inl (cI, 7, .inl (fun _ => 0))), (q5_3, .inl (cI, 7, .inl (fun _ => 0))), (q5_4, .inl (cI, 7, .inl (fun _ => 0))), (q5_5, .inl (cI, 7, .inl (fun _ => 0))), (q5_6, .inl (cI, 7, .inl (fun _ => 0))), (q5_7, .inl (cI, 48, .inl (fun _ => 0))), (q5_8, .inl (cI, 8, .inl (fun _ => 0))), (q5_9, .inl (cI, 7, .inl (fun _ => 0))), (q5_10, .inl (cI, 8, .inl (fun _ => 0))), (q17, .inl (cI, 4, .inl (fun _ => 0)))] H := hP
  have hD : va_D A [(h0, .inr (5, [.ref q5, .ref q17, .null])), (q5, .inr (4, [.int 0, .int 0, .int 0, .ref q5_1, .ref q5_2, .ref q5_3, .ref q5_4, .ref q5_5, .ref q5_6, .ref q5_7, .ref q5_8, .ref q5_9, .ref q5_10])), (q5_1, .inl (cI, 7, .inl (fun _ => 0))), (q5_2, .inl (cI, 7, .inl (fun _ => 0))), (q5_3, .inl (cI, 7, .inl (fun _ => 0))), (q5_4, .inl (cI, 7, .inl (fun _ => 0))), (q5_5, .inl (cI, 7, .inl (fun _ => 0))), (q5_6, .inl (cI, 7, .inl (fun _ => 0))), (q5_7, .inl (cI, 48, .inl (fun _ => 0))), (q5_8, .inl (cI, 8, .inl (fun _ => 0))), (q5_9, .inl (cI, 7, .inl (fun _ => 0))), (q5_10, .inl (cI, 8, .inl (fun _ => 0))), (q17, .inl (cI, 4, .inl (fun _ => 0)))] := hD
  refine lv_aload_n hx hb d_X6_22 rfl (lv_at hl 0 rfl) ?_
  refine lv_iconst (v := 4) hx hb d_X6_23 (by decide) ?_
  refine ax_newI (cI := cI) (cL := cL) (N' := 4) (a0 := (4, .inl (fun _ => 0))) hx hb (htc _ cm_2) hK hP hD hS hA (fun _ => rfl) (by decide) rfl (Nat.le_of_ble_eq_true rfl) (Nat.le_of_ble_eq_true rfl) (Nat.le_of_ble_eq_true rfl) d_X6_24 (fun q24 H hP hD hS => ?_)
  have hP : va_P (dC, dI) ax_cl [(h0, .inr (5, [.ref q5, .ref q17, .null])), (q5, .inr (4, [.int 0, .int 0, .int 0, .ref q5_1, .ref q5_2, .ref q5_3, .ref q5_4, .ref q5_5, .ref q5_6, .ref q5_7, .ref q5_8, .ref q5_9, .ref q5_10])), (q5_1, .inl (cI, 7, .inl (fun _ => 0))), (q5_2, .inl (cI, 7, .inl (fun _ => 0))), (q5_3, .inl (cI, 7, .inl (fun _ => 0))), (q5_4, .inl (cI, 7, .inl (fun _ => 0))), (q5_5, .inl (cI, 7, .inl (fun _ => 0))), (q5_6, .inl (cI, 7, .inl (fun _ => 0))), (q5_7, .inl (cI, 48, .inl (fun _ => 0))), (q5_8, .inl (cI, 8, .inl (fun _ => 0))), (q5_9, .inl (cI, 7, .inl (fun _ => 0))), (q5_10, .inl (cI, 8, .inl (fun _ => 0))), (q17, .inl (cI, 4, .inl (fun _ => 0))), (q24, .inl (cI, 4, .inl (fun _ => 0)))] H := hP
  have hD : va_D A [(h0, .inr (5, [.ref q5, .ref q17, .null])), (q5, .inr (4, [.int 0, .int 0, .int 0, .ref q5_1, .ref q5_2, .ref q5_3, .ref q5_4, .ref q5_5, .ref q5_6, .ref q5_7, .ref q5_8, .ref q5_9, .ref q5_10])), (q5_1, .inl (cI, 7, .inl (fun _ => 0))), (q5_2, .inl (cI, 7, .inl (fun _ => 0))), (q5_3, .inl (cI, 7, .inl (fun _ => 0))), (q5_4, .inl (cI, 7, .inl (fun _ => 0))), (q5_5, .inl (cI, 7, .inl (fun _ => 0))), (q5_6, .inl (cI, 7, .inl (fun _ => 0))), (q5_7, .inl (cI, 48, .inl (fun _ => 0))), (q5_8, .inl (cI, 8, .inl (fun _ => 0))), (q5_9, .inl (cI, 7, .inl (fun _ => 0))), (q5_10, .inl (cI, 8, .inl (fun _ => 0))), (q17, .inl (cI, 4, .inl (fun _ => 0))), (q24, .inl (cI, 4, .inl (fun _ => 0)))] := hD
  refine W.widen (k := 13) (n := 134) (by omega) (by omega) ?_
  refine va_putF (D := (dC, dI)) (ci := 5) (v := .ref q24) (ty := .array .int) (C := RX6) (T := TX6) (N := 3) hx hb htc (cw_lay (ci := 5) (by decide)) tyX6 tyX6_ok nmX6 hown hK hP hD hS 0 rfl rfl 2 (by decide) (htc _ cm_37) (fun _ h9 => h9) rfl hin rfl (by decide +kernel) rfl rfl (Nat.le_of_ble_eq_true rfl) d_X6_26 (fun H locs hP hD hS => ?_)
  have hP : va_P (dC, dI) ax_cl [(h0, .inr (5, [.ref q5, .ref q17, .ref q24])), (q5, .inr (4, [.int 0, .int 0, .int 0, .ref q5_1, .ref q5_2, .ref q5_3, .ref q5_4, .ref q5_5, .ref q5_6, .ref q5_7, .ref q5_8, .ref q5_9, .ref q5_10])), (q5_1, .inl (cI, 7, .inl (fun _ => 0))), (q5_2, .inl (cI, 7, .inl (fun _ => 0))), (q5_3, .inl (cI, 7, .inl (fun _ => 0))), (q5_4, .inl (cI, 7, .inl (fun _ => 0))), (q5_5, .inl (cI, 7, .inl (fun _ => 0))), (q5_6, .inl (cI, 7, .inl (fun _ => 0))), (q5_7, .inl (cI, 48, .inl (fun _ => 0))), (q5_8, .inl (cI, 8, .inl (fun _ => 0))), (q5_9, .inl (cI, 7, .inl (fun _ => 0))), (q5_10, .inl (cI, 8, .inl (fun _ => 0))), (q17, .inl (cI, 4, .inl (fun _ => 0))), (q24, .inl (cI, 4, .inl (fun _ => 0)))] H := hP
  have hD : va_D A [(h0, .inr (5, [.ref q5, .ref q17, .ref q24])), (q5, .inr (4, [.int 0, .int 0, .int 0, .ref q5_1, .ref q5_2, .ref q5_3, .ref q5_4, .ref q5_5, .ref q5_6, .ref q5_7, .ref q5_8, .ref q5_9, .ref q5_10])), (q5_1, .inl (cI, 7, .inl (fun _ => 0))), (q5_2, .inl (cI, 7, .inl (fun _ => 0))), (q5_3, .inl (cI, 7, .inl (fun _ => 0))), (q5_4, .inl (cI, 7, .inl (fun _ => 0))), (q5_5, .inl (cI, 7, .inl (fun _ => 0))), (q5_6, .inl (cI, 7, .inl (fun _ => 0))), (q5_7, .inl (cI, 48, .inl (fun _ => 0))), (q5_8, .inl (cI, 8, .inl (fun _ => 0))), (q5_9, .inl (cI, 7, .inl (fun _ => 0))), (q5_10, .inl (cI, 8, .inl (fun _ => 0))), (q17, .inl (cI, 4, .inl (fun _ => 0))), (q24, .inl (cI, 4, .inl (fun _ => 0)))] := hD
  refine W.widen (k := 13) (n := 134) (by omega) (by omega) ?_
  exact W.vret hx hb hr (fun t ht hW => ⟨⟨(), rfl, trivial, q5, q5_1, q5_2, q5_3, q5_4, q5_5, q5_6, q5_7, q5_8, q5_9, q5_10, q17, q24, by rw [ht]; exact hP, hD⟩, hS.F ht⟩) hS.2.2 d_X6_29
