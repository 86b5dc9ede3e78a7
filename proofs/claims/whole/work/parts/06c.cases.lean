/-! soundness of the plain instructions, a case each: by wip/whole/gen6.py -/
theorem ax_okv_at {own k pl : Nat} {x : Int32} {args : Array Value} {s : State} (h : ax_okv own k pl x = true) (hts : ∀ w ∈ ax_tb, w.before args s = true) : (Cond.constant (ax_nmC own) k x).before args s = true := by
  unfold ax_okv at h
  split at h
  · next o j c9 d9 hp =>
    simp only [Bool.and_eq_true, decide_eq_true_eq] at h
    obtain ⟨rfl, rfl, rfl⟩ := h
    exact hts _ (ax_word hp)
  · cases h
theorem ax_okw_at {own k pl : Nat} {x : Int64} {args : Array Value} {s : State} (h : ax_okw own k pl x = true) (hts : ∀ w ∈ ax_tb, w.before args s = true) : (Cond.constantLong (ax_nmC own) k x).before args s = true := by
  unfold ax_okw at h
  split at h
  · next o j c9 d9 hp =>
    simp only [Bool.and_eq_true, decide_eq_true_eq] at h
    obtain ⟨rfl, rfl, rfl⟩ := h
    exact hts _ (ax_word hp)
  · cases h
set_option maxRecDepth 100000 in
theorem ax_ci_lt0 : ∀ k, k < 69 → (ax_shp k).1 = 0 → (ax_shp k).2.1 < 8 := by decide +kernel
theorem ax_ci_lt (k : Nat) (h : (ax_shp k).1 = 0) (h98 : (ax_shp k).2.1 = 98) : False := by
  have h1 := ax_ci_lt0 k (ax_shp_69 (by rw [h]; exact Nat.zero_le 5)) h
  omega
theorem ax_sum_map {ad : Nat → Nat} : ∀ (r : List Value), ((r.map (ax_cv ad)).map fun v => v.category).sum = ax_sum r
  | [] => rfl
  | v :: r => by
    simp only [List.map_cons, List.sum_cons, ax_sum, ax_cv_cat]
    rw [← ax_sum_map (ad := ad) r]
set_option maxRecDepth 100000 in
theorem ax_len_31b : ∀ k, k < 69 → (ax_shp k).2.1 < 2000 := by decide +kernel
theorem ax_len_31 {k n : Nat} {fl : List (Option Nat)} (h : ax_shp k = (1, n, fl)) : n < 2 ^ 31 := by
  have h1 := ax_len_31b k (ax_shp_69 (by rw [h]; exact (by decide : (1 : Nat) ≤ 5)))
  rw [h] at h1
  exact Nat.lt_trans h1 (by decide)
theorem ax_arrV_congr {cA : ClassId} {n : Nat} {f g : Nat → Value} (h : ∀ j, j < n → f j = g j) : arrV cA n f = arrV cA n g := by
  unfold arrV
  congr 1
  apply Array.ext
  · simp
  · intro j h1 h2
    simp at h1 h2
    simp [h j h1]
theorem ax_cpy_cell {cA : ClassId} {n : Nat} {f g : Nat → Int32} : vp_cell cA (n, .inl (va_cpy f g (0 : Int32).toNatClampNeg (0 : Int32).toNatClampNeg n)) = vp_cell cA (n, .inl f) := by
  rw [vp_cell_i, vp_cell_i, sb_cl0]
  exact ax_arrV_congr (fun j hj => by rw [sb_cpy0 hj])
theorem ax_cpy_cellL {cA : ClassId} {n : Nat} {f g : Nat → Int64} : vp_cell cA (n, .inr (.inl (va_cpy f g (0 : Int32).toNatClampNeg (0 : Int32).toNatClampNeg n))) = vp_cell cA (n, .inr (.inl f)) := by
  rw [vp_cell_l, vp_cell_l, sb_cl0]
  exact ax_arrV_congr (fun j hj => by simp [va_cpy, hj])
theorem ax_len_31' {k n : Nat} {fl : List (Option Nat)} (h : ax_shp k = (2, n, fl)) : n < 2 ^ 31 := by
  have h1 := ax_len_31b k (ax_shp_69 (by rw [h]; exact (by decide : (2 : Nat) ≤ 5)))
  rw [h] at h1
  exact Nat.lt_trans h1 (by decide)
theorem ax_set_cell {D : va_G} {cl : List vw_C} {ws : va_W} {H : Heap} {k a : Nat} {cA : ClassId} {x x' : vp_A} (h : va_P D cl (ws.set k (a, .inl (cA, x))) H) (e : vp_cell cA x = vp_cell cA x') : va_P D cl (ws.set k (a, .inl (cA, x'))) H := by
  intro j q hq
  rw [List.getElem?_set] at hq
  by_cases hj : k = j
  · subst hj
    rw [if_pos rfl] at hq
    split at hq
    · next hl =>
      cases hq
      have h1 := h k (a, .inl (cA, x)) (by rw [List.getElem?_set, if_pos rfl, if_pos hl])
      show H[a]? = some (vp_cell cA x')
      rw [← e]
      exact h1
    · cases hq
  · rw [if_neg hj] at hq
    exact h j q (by rw [List.getElem?_set, if_neg hj]; exact hq)
theorem ax_set_D {A : Nat → Prop} {ws : va_W} {k a : Nat} {x x' : va_E} (h : va_D A (ws.set k (a, x))) : va_D A (ws.set k (a, x')) := by
  have key : ∀ {j : Nat} {q : Nat × va_E}, (ws.set k (a, x'))[j]? = some q → ∃ q', (ws.set k (a, x))[j]? = some q' ∧ q'.1 = q.1 := by
    intro j q hq
    rw [List.getElem?_set] at hq ⊢
    by_cases hj : k = j
    · subst hj
      rw [if_pos rfl] at hq ⊢
      by_cases hl : k < ws.length
      · rw [if_pos hl] at hq ⊢
        cases hq
        exact ⟨_, rfl, rfl⟩
      · rw [if_neg hl] at hq
        cases hq
    · rw [if_neg hj] at hq ⊢
      exact ⟨q, hq, rfl⟩
  refine ⟨fun i j p q hp hq he => ?_, fun j q hq => ?_⟩
  · obtain ⟨p', h1, h2⟩ := key hp
    obtain ⟨q', h3, h4⟩ := key hq
    exact h.1 i j p' q' h1 h3 (by rw [h2, h4]; exact he)
  · obtain ⟨q', h1, h2⟩ := key hq
    rw [← h2]
    exact h.2 j q' h1
set_option maxRecDepth 100000 in
theorem ax_pw_b : [(13, 0, 0, 0, 0), (11, 1, 0, 0, 0), (12, 1, 0, 0, 0), (11, 2, 0, 0, 0), (12, 2, 0, 0, 0), (11, 3, 0, 0, 0), (12, 3, 0, 0, 0), (14, 0, 0, 0, 0), (11, 4, 0, 0, 0), (15, 0, 0, 0, 0)].all (fun (d : ax_Ds) => ax_ds.any (fun q => decide (q = d))) = true := by decide +kernel
theorem ax_pw {d : ax_Ds} (h : ax_ds.any (fun q => decide (q = d)) = true) : ax_wrd d ∈ ax_tb := by
  obtain ⟨q, hq, he⟩ := List.any_eq_true.mp h
  rw [of_decide_eq_true he] at hq
  exact List.mem_map.mpr ⟨d, hq, rfl⟩
theorem ax_pwi (i : Nat) {d : ax_Ds} (h : [(13, 0, 0, 0, 0), (11, 1, 0, 0, 0), (12, 1, 0, 0, 0), (11, 2, 0, 0, 0), (12, 2, 0, 0, 0), (11, 3, 0, 0, 0), (12, 3, 0, 0, 0), (14, 0, 0, 0, 0), (11, 4, 0, 0, 0), (15, 0, 0, 0, 0)][i]? = some d) : ax_wrd d ∈ ax_tb := ax_pw (List.all_eq_true.mp ax_pw_b d (List.mem_of_getElem? h))
theorem ax_pw_ini : Cond.initialized "java/lang/Math" ∈ ax_tb := ax_pwi 0 (d := (13, 0, 0, 0, 0)) rfl
theorem ax_pw_s1 : Cond.static Lib.Math.max.name ∈ ax_tb := ax_pwi 1 (d := (11, 1, 0, 0, 0)) rfl
theorem ax_pw_c1 : Cond.code Lib.Math.max.name Lib.Math.max.code 2 (some .int) ∈ ax_tb := ax_pwi 2 (d := (12, 1, 0, 0, 0)) rfl
theorem ax_pw_s2 : Cond.static Lib.Math.min.name ∈ ax_tb := ax_pwi 3 (d := (11, 2, 0, 0, 0)) rfl
theorem ax_pw_c2 : Cond.code Lib.Math.min.name Lib.Math.min.code 2 (some .int) ∈ ax_tb := ax_pwi 4 (d := (12, 2, 0, 0, 0)) rfl
theorem ax_pw_s3 : Cond.static Lib.Math.abs.name ∈ ax_tb := ax_pwi 5 (d := (11, 3, 0, 0, 0)) rfl
theorem ax_pw_c3 : Cond.code Lib.Math.abs.name Lib.Math.abs.code 1 (some .int) ∈ ax_tb := ax_pwi 6 (d := (12, 3, 0, 0, 0)) rfl
theorem ax_pw_n4 : Cond.native arraycopyName ∈ ax_tb := ax_pwi 7 (d := (14, 0, 0, 0, 0)) rfl
theorem ax_pw_s4 : Cond.static arraycopyName ∈ ax_tb := ax_pwi 8 (d := (11, 4, 0, 0, 0)) rfl
theorem ax_pw_i4 : Cond.initialized "java/lang/System" ∈ ax_tb := ax_pwi 9 (d := (15, 0, 0, 0, 0)) rfl
set_option maxHeartbeats 4000000 in
theorem ax_stp_nil {p : Program} {l : Launch} {e : Env} {R : Room} {s : State} {m : MethodId} {args : Array Value} {below : List Frame} {meth : Method} {c : Code} {cells slots : Nat} {Q : State → Prop} {cc : ByteArray} {nL own fr lo pc len : Nat} {ad : Nat → Nat} {cI cL : ClassId} {dC : Nat → ClassId} {dI : Nat → Nat → Nat} {A : Nat → Prop} {h0 : ax_Hp} {ins : Instr} {ls ls' : ax_Lc} {st st' : List Value} {h h' : ax_Hp}
    (hG : ax_G p s m args c R cells slots own nL fr lo cc ad cI cL dC dI A h0) (hd : decode cc pc = .ok (ins, len)) (hok : ax_okI own nL fr lo pc ins len [] = true) (hs : ax_stp ins [] ls st h = some (true, ls', st', h'))
    (kk : ax_Go p l e R s m args below meth c cells slots Q nL ad cI cL dC dI A h0 (pc + len) ls' st' h') : ax_Go p l e R s m args below meth c cells slots Q nL ad cI cL dC dI A h0 pc ls st h := by
  intro H locs la hP hl
  obtain ⟨hx, hb, hml, hown, hts, hK, hA, hE, hfr, hlo, hcc, hss⟩ := hG
  cases ins with
  | iadd =>
    have e1 : len = 1 := by simpa [ax_okI] using hok
    subst e1
    simp only [ax_stp] at hs
    split at hs
    · cases hs
      exact lv_iadd hx hb hd (kk H locs la hP hl)
    · cases hs
  | isub =>
    have e1 : len = 1 := by simpa [ax_okI] using hok
    subst e1
    simp only [ax_stp] at hs
    split at hs
    · cases hs
      exact lv_isub hx hb hd (kk H locs la hP hl)
    · cases hs
  | imul =>
    have e1 : len = 1 := by simpa [ax_okI] using hok
    subst e1
    simp only [ax_stp] at hs
    split at hs
    · cases hs
      exact lv_imul hx hb hd (kk H locs la hP hl)
    · cases hs
  | iand =>
    have e1 : len = 1 := by simpa [ax_okI] using hok
    subst e1
    simp only [ax_stp] at hs
    split at hs
    · cases hs
      exact lv_iand hx hb hd (kk H locs la hP hl)
    · cases hs
  | ior =>
    have e1 : len = 1 := by simpa [ax_okI] using hok
    subst e1
    simp only [ax_stp] at hs
    split at hs
    · cases hs
      exact lv_ior hx hb hd (kk H locs la hP hl)
    · cases hs
  | ixor =>
    have e1 : len = 1 := by simpa [ax_okI] using hok
    subst e1
    simp only [ax_stp] at hs
    split at hs
    · cases hs
      exact lv_ixor hx hb hd (kk H locs la hP hl)
    · cases hs
  | ishl =>
    have e1 : len = 1 := by simpa [ax_okI] using hok
    subst e1
    simp only [ax_stp] at hs
    split at hs
    · cases hs
      exact lv_ishl hx hb hd (kk H locs la hP hl)
    · cases hs
  | ishr =>
    have e1 : len = 1 := by simpa [ax_okI] using hok
    subst e1
    simp only [ax_stp] at hs
    split at hs
    · cases hs
      exact lv_ishr hx hb hd (kk H locs la hP hl)
    · cases hs
  | ineg =>
    have e1 : len = 1 := by simpa [ax_okI] using hok
    subst e1
    simp only [ax_stp] at hs
    split at hs
    · cases hs
      exact lv_ineg hx hb hd (kk H locs la hP hl)
    · cases hs
  | ladd =>
    have e1 : len = 1 := by simpa [ax_okI] using hok
    subst e1
    simp only [ax_stp] at hs
    split at hs
    · cases hs
      exact lv_ladd hx hb hd (kk H locs la hP hl)
    · cases hs
  | lsub =>
    have e1 : len = 1 := by simpa [ax_okI] using hok
    subst e1
    simp only [ax_stp] at hs
    split at hs
    · cases hs
      exact lv_lsub hx hb hd (kk H locs la hP hl)
    · cases hs
  | lmul =>
    have e1 : len = 1 := by simpa [ax_okI] using hok
    subst e1
    simp only [ax_stp] at hs
    split at hs
    · cases hs
      exact lv_lmul hx hb hd (kk H locs la hP hl)
    · cases hs
  | iushr =>
    have e1 : len = 1 := by simpa [ax_okI] using hok
    subst e1
    simp only [ax_stp] at hs
    split at hs
    · cases hs
      exact lv_iushr hx hb hd rfl (kk H locs la hP hl)
    · cases hs
  | i2l =>
    have e1 : len = 1 := by simpa [ax_okI] using hok
    subst e1
    simp only [ax_stp] at hs
    split at hs
    · cases hs
      exact lv_i2l hx hb hd rfl (kk H locs la hP hl)
    · cases hs
  | l2i =>
    have e1 : len = 1 := by simpa [ax_okI] using hok
    subst e1
    simp only [ax_stp] at hs
    split at hs
    · cases hs
      exact lv_l2i hx hb hd rfl (kk H locs la hP hl)
    · cases hs
  | i2b =>
    have e1 : len = 1 := by simpa [ax_okI] using hok
    subst e1
    simp only [ax_stp] at hs
    split at hs
    · cases hs
      exact lv_i2b hx hb hd rfl (kk H locs la hP hl)
    · cases hs
  | i2c =>
    have e1 : len = 1 := by simpa [ax_okI] using hok
    subst e1
    simp only [ax_stp] at hs
    split at hs
    · cases hs
      exact lv_i2c hx hb hd rfl (kk H locs la hP hl)
    · cases hs
  | lcmp =>
    have e1 : len = 1 := by simpa [ax_okI] using hok
    subst e1
    simp only [ax_stp] at hs
    split at hs
    · cases hs
      exact W.lcmp hx hb hd (kk H locs la hP hl)
    · cases hs
  | idiv =>
    have e1 : len = 1 := by simpa [ax_okI] using hok
    subst e1
    simp only [ax_stp] at hs
    split at hs
    · simp only [Option.some.injEq, Prod.mk.injEq] at hs
      obtain ⟨hz, rfl, rfl, rfl⟩ := hs
      exact lv_idiv hx hb hd (by simpa using hz) (kk H locs la hP hl)
    · cases hs
  | irem =>
    have e1 : len = 1 := by simpa [ax_okI] using hok
    subst e1
    simp only [ax_stp] at hs
    split at hs
    · simp only [Option.some.injEq, Prod.mk.injEq] at hs
      obtain ⟨hz, rfl, rfl, rfl⟩ := hs
      exact lv_irem hx hb hd (by simpa using hz) (kk H locs la hP hl)
    · cases hs
  | ldiv =>
    have e1 : len = 1 := by simpa [ax_okI] using hok
    subst e1
    simp only [ax_stp] at hs
    split at hs
    · simp only [Option.some.injEq, Prod.mk.injEq] at hs
      obtain ⟨hz, rfl, rfl, rfl⟩ := hs
      exact lv_ldiv hx hb hd (by simpa using hz) (kk H locs la hP hl)
    · cases hs
  | lrem =>
    have e1 : len = 1 := by simpa [ax_okI] using hok
    subst e1
    simp only [ax_stp] at hs
    split at hs
    · simp only [Option.some.injEq, Prod.mk.injEq] at hs
      obtain ⟨hz, rfl, rfl, rfl⟩ := hs
      exact lv_lrem hx hb hd (by simpa using hz) (kk H locs la hP hl)
    · cases hs
  | dup =>
    have e1 : len = 1 := by simpa [ax_okI] using hok
    subst e1
    simp only [ax_stp] at hs
    split at hs
    · simp only [Option.some.injEq, Prod.mk.injEq] at hs
      obtain ⟨hz, rfl, rfl, rfl⟩ := hs
      exact lv_dup hx hb hd (by rw [ax_cv_cat]; exact beq_iff_eq.mp hz) (kk H locs la hP hl)
    · cases hs
  | pop =>
    have e1 : len = 1 := by simpa [ax_okI] using hok
    subst e1
    simp only [ax_stp] at hs
    split at hs
    · simp only [Option.some.injEq, Prod.mk.injEq] at hs
      obtain ⟨hz, rfl, rfl, rfl⟩ := hs
      exact lv_pop hx hb hd (by rw [ax_cv_cat]; exact beq_iff_eq.mp hz) (kk H locs la hP hl)
    · cases hs
  | dup2 =>
    have e1 : len = 1 := by simpa [ax_okI] using hok
    subst e1
    simp only [ax_stp] at hs
    split at hs
    · simp only [Option.some.injEq, Prod.mk.injEq, Bool.and_eq_true] at hs
      obtain ⟨⟨hz, hy⟩, rfl, rfl, rfl⟩ := hs
      exact lv_dup2_11 hx hb hd (by rw [ax_cv_cat]; exact beq_iff_eq.mp hz) (by rw [ax_cv_cat]; exact beq_iff_eq.mp hy) (kk H locs la hP hl)
    · cases hs
  | iaload =>
    have e1 : len = 1 := by simpa [ax_okI] using hok
    subst e1
    simp only [ax_stp] at hs
    split at hs
    · next i a r =>
      split at hs
      · next n fl hsh =>
        simp only [Option.some.injEq, Prod.mk.injEq] at hs
        obtain ⟨hz, rfl, rfl, rfl⟩ := hs
        exact va_iald hx hb hK hP.1 a 0 (ax_cellI hsh) rfl (ax_in_iff hz) hd (kk H locs la hP hl)
      · next n fl hsh =>
        simp only [Option.some.injEq, Prod.mk.injEq] at hs
        obtain ⟨hz, rfl, rfl, rfl⟩ := hs
        have ea : a = 66 := ax_shp_3 a (ax_shp_69 (by rw [hsh]; exact (by decide : (3 : Nat) ≤ 5))) (by rw [hsh])
        subst ea
        rw [hP.2.2.2] at hz
        have kk' := (kk H locs la hP hl)
        simp only [List.map_cons, ax_cv, hP.2.2.2] at kk'
        exact va_sld hx hb hE.1 hE.2.1 hE.2.2.1 hP.2.2.1 (ax_in_iff hz) hd kk'
      · cases hs
    · cases hs
  | baload =>
    have e1 : len = 1 := by simpa [ax_okI] using hok
    subst e1
    simp only [ax_stp] at hs
    split at hs
    · next i a r =>
      split at hs
      · next n fl hsh =>
        simp only [Option.some.injEq, Prod.mk.injEq] at hs
        obtain ⟨hz, rfl, rfl, rfl⟩ := hs
        obtain ⟨ea, en⟩ := ax_shp_5 a (ax_shp_69 (by rw [hsh]; exact (by decide : (5 : Nat) ≤ 5))) (by rw [hsh])
        subst ea
        have en' : n = 6 := by rw [hsh] at en; exact en
        subst en'
        obtain ⟨-, -, -, hT⟩ := hE.2.2.2.2.1.1 0 (by decide)
        exact va_tb hx hb hT hP.2.2.1 (ax_in_iff hz) rfl hd (kk H locs la hP hl)
      · cases hs
    · cases hs
  | iastore =>
    have e1 : len = 1 := by simpa [ax_okI] using hok
    subst e1
    simp only [ax_stp] at hs
    split at hs
    · next x i a r =>
      split at hs
      · next n fl hsh =>
        simp only [Option.some.injEq, Prod.mk.injEq] at hs
        obtain ⟨hz, rfl, rfl, rfl⟩ := hs
        obtain ⟨hP1, hP2, hP3, hP4⟩ := hP
        have ew := ax_wd_set (ad := ad) (cI := cI) (cL := cL) (h := h) (h' := sA h a (upd (h.1 a) i.toNatClampNeg x)) (k := a) (e := .inl (cI, n, .inl (upd (h.1 a) i.toNatClampNeg x))) (by simp only [ax_cell, hsh, sA, if_true]) (fun j hj => ax_cell_sA hj)
        refine va_iast hx hb hK hP1 hP2 hP3 a 0 (ax_cellI hsh) rfl (ax_in_iff hz) hd (fun H1 locs1 g1 g2 g3 => ?_)
        rw [ew] at g1 g2
        exact kk H1 locs1 la ⟨g1, g2, g3, hP4⟩ hl
      · cases hs
    · cases hs
  | laload =>
    have e1 : len = 1 := by simpa [ax_okI] using hok
    subst e1
    simp only [ax_stp] at hs
    split at hs
    · next i a r =>
      split at hs
      · next n fl hsh =>
        simp only [Option.some.injEq, Prod.mk.injEq] at hs
        obtain ⟨hz, rfl, rfl, rfl⟩ := hs
        exact va_lald hx hb hK hP.1 a 1 (ax_cellL hsh) rfl (ax_in_iff hz) hd (kk H locs la hP hl)
      · cases hs
    · cases hs
  | lastore =>
    have e1 : len = 1 := by simpa [ax_okI] using hok
    subst e1
    simp only [ax_stp] at hs
    split at hs
    · next x i a r =>
      split at hs
      · next n fl hsh =>
        simp only [Option.some.injEq, Prod.mk.injEq] at hs
        obtain ⟨hz, rfl, rfl, rfl⟩ := hs
        obtain ⟨hP1, hP2, hP3, hP4⟩ := hP
        have ew := ax_wd_set (ad := ad) (cI := cI) (cL := cL) (h := h) (h' := sL h a (vp_updL (h.2.1 a) i.toNatClampNeg x)) (k := a) (e := .inl (cL, n, .inr (.inl (vp_updL (h.2.1 a) i.toNatClampNeg x)))) (by simp only [ax_cell, hsh, sL, if_true]) (fun j hj => ax_cell_sL hj)
        refine va_last hx hb hK hP1 hP2 hP3 a 1 (ax_cellL hsh) rfl (ax_in_iff hz) hd (fun H1 locs1 g1 g2 g3 => ?_)
        rw [ew] at g1 g2
        exact kk H1 locs1 la ⟨g1, g2, g3, hP4⟩ hl
      · cases hs
    · cases hs
  | arraylength =>
    have e1 : len = 1 := by simpa [ax_okI] using hok
    subst e1
    simp only [ax_stp] at hs
    split at hs
    · next a r =>
      split at hs
      · next n fl hsh =>
        cases hs
        exact va_alen hx hb hK hP.1 a 0 (ax_cellI hsh) rfl rfl hd (kk H locs la hP hl)
      · next n fl hsh =>
        cases hs
        have ea : a = 66 := ax_shp_3 a (ax_shp_69 (by rw [hsh]; exact (by decide : (3 : Nat) ≤ 5))) (by rw [hsh])
        subst ea
        have kk' := (kk H locs la hP hl)
        simp only [List.map_cons, ax_cv, hP.2.2.2] at kk'
        exact va_slen hx hb hE.1 hE.2.1 hE.2.2.1 hP.2.2.1 hd kk'
      · next n fl hsh =>
        cases hs
        obtain ⟨ea, en⟩ := ax_shp_5 a (ax_shp_69 (by rw [hsh]; exact (by decide : (5 : Nat) ≤ 5))) (by rw [hsh])
        subst ea
        have en' : n = 6 := by rw [hsh] at en; exact en
        subst en'
        obtain ⟨-, -, -, hT⟩ := hE.2.2.2.2.1.1 0 (by decide)
        exact va_tlen hx hb hT hP.2.2.1 rfl hd (kk H locs la hP hl)
      · cases hs
    · cases hs
  | _ => simp only [ax_stp] at hs; cases hs
set_option maxHeartbeats 4000000 in
theorem ax_stp_cons {p : Program} {l : Launch} {e : Env} {R : Room} {s : State} {m : MethodId} {args : Array Value} {below : List Frame} {meth : Method} {c : Code} {cells slots : Nat} {Q : State → Prop} {cc : ByteArray} {nL own fr lo pc len : Nat} {ad : Nat → Nat} {cI cL : ClassId} {dC : Nat → ClassId} {dI : Nat → Nat → Nat} {A : Nat → Prop} {h0 : ax_Hp} {ins : Instr} {v : Value} {i : Nat} {a : List Nat} {q : ax_If} {ls ls' : ax_Lc} {st st' : List Value} {h h' : ax_Hp}
    (hG : ax_G p s m args c R cells slots own nL fr lo cc ad cI cL dC dI A h0) (hd : decode cc pc = .ok (ins, len)) (hna : a.length ≠ 5) (hok : ax_okI own nL fr lo pc ins len ((v, i, a) :: q) = true) (hs : ax_stp ins ((v, i, a) :: q) ls st h = some (true, ls', st', h'))
    (kk : ax_Go p l e R s m args below meth c cells slots Q nL ad cI cL dC dI A h0 (pc + len) ls' st' h') : ax_Go p l e R s m args below meth c cells slots Q nL ad cI cL dC dI A h0 pc ls st h := by
  intro H locs la hP hl
  obtain ⟨hx, hb, hml, hown, hts, hK, hA, hE, hfr, hlo, hcc, hss⟩ := hG
  cases ins with
  | iconst n =>
    cases hs
    cases v with
    | int x =>
      simp only [ax_okI, Bool.and_eq_true, decide_eq_true_eq] at hok
      obtain ⟨e1, e2⟩ := hok
      have e1 : len = 1 := beq_iff_eq.mp e1
      subst e1
      exact lv_iconst hx hb hd e2 (kk H locs la hP hl)
    | _ => simp [ax_okI] at hok
  | bipush n =>
    cases hs
    cases v with
    | int x =>
      simp only [ax_okI, Bool.and_eq_true, decide_eq_true_eq] at hok
      obtain ⟨e1, e2⟩ := hok
      have e1 : len = 2 := beq_iff_eq.mp e1
      subst e1
      exact lv_bipush hx hb hd e2 (kk H locs la hP hl)
    | _ => simp [ax_okI] at hok
  | sipush n =>
    cases hs
    cases v with
    | int x =>
      simp only [ax_okI, Bool.and_eq_true, decide_eq_true_eq] at hok
      obtain ⟨e1, e2⟩ := hok
      have e1 : len = 3 := beq_iff_eq.mp e1
      subst e1
      exact lv_sipush hx hb hd e2 (kk H locs la hP hl)
    | _ => simp [ax_okI] at hok
  | lconst n =>
    cases hs
    cases v with
    | long x =>
      simp only [ax_okI, Bool.and_eq_true, decide_eq_true_eq] at hok
      obtain ⟨e1, e2⟩ := hok
      have e1 : len = 1 := beq_iff_eq.mp e1
      subst e1
      exact lv_lconst hx hb hd e2 (kk H locs la hP hl)
    | _ => simp [ax_okI] at hok
  | ldc k =>
    cases hs
    cases v with
    | int x =>
      obtain ⟨pl, rfl⟩ : ∃ pl, a = [pl] := by
        cases a with
        | nil => simp [ax_okI] at hok
        | cons pl t => cases t with
          | nil => exact ⟨pl, rfl⟩
          | cons _ _ => simp [ax_okI] at hok
      simp only [ax_okI, Bool.and_eq_true] at hok
      obtain ⟨e1, e2⟩ := hok
      have e1 : len = 2 := beq_iff_eq.mp e1
      subst e1
      exact lv_ldc hx hb hown (ax_okv_at e2 hts) hd (kk H locs la hP hl)
    | ref k9 =>
      by_cases hk : k9 = 67
      · subst hk
        cases a with
        | nil =>
          simp only [ax_okI, Bool.and_eq_true, decide_eq_true_eq] at hok
          obtain ⟨e1, rfl, rfl⟩ := hok
          have e1 : len = 2 := beq_iff_eq.mp e1
          subst e1
          exact va_ldcS hx hb hown hE.2.2.2.1 hd (kk H locs la hP hl)
        | cons _ _ => simp [ax_okI] at hok
      · simp [ax_okI, hk] at hok
    | _ => simp [ax_okI] at hok
  | ldc_w k =>
    cases hs
    cases v with
    | int x =>
      obtain ⟨pl, rfl⟩ : ∃ pl, a = [pl] := by
        cases a with
        | nil => simp [ax_okI] at hok
        | cons pl t => cases t with
          | nil => exact ⟨pl, rfl⟩
          | cons _ _ => simp [ax_okI] at hok
      simp only [ax_okI, Bool.and_eq_true] at hok
      obtain ⟨e1, e2⟩ := hok
      have e1 : len = 3 := beq_iff_eq.mp e1
      subst e1
      exact lv_ldcw hx hb hown (ax_okv_at e2 hts) hd (kk H locs la hP hl)
    | _ => simp [ax_okI] at hok
  | ldc2_w k =>
    cases hs
    cases v with
    | long x =>
      obtain ⟨pl, rfl⟩ : ∃ pl, a = [pl] := by
        cases a with
        | nil => simp [ax_okI] at hok
        | cons pl t => cases t with
          | nil => exact ⟨pl, rfl⟩
          | cons _ _ => simp [ax_okI] at hok
      simp only [ax_okI, Bool.and_eq_true] at hok
      obtain ⟨e1, e2⟩ := hok
      have e1 : len = 3 := beq_iff_eq.mp e1
      subst e1
      exact lv_ldc2 hx hb hown (ax_okw_at e2 hts) hd (kk H locs la hP hl)
    | _ => simp [ax_okI] at hok
  | getstatic k =>
    cases hs
    cases v with
    | int x =>
      obtain ⟨pl, rfl⟩ : ∃ pl, a = [pl] := by
        cases a with
        | nil => simp [ax_okI] at hok
        | cons pl t => cases t with
          | nil => exact ⟨pl, rfl⟩
          | cons _ _ => simp [ax_okI] at hok
      simp only [ax_okI, Bool.and_eq_true, decide_eq_true_eq] at hok
      obtain ⟨e1, rfl, e2⟩ := hok
      have e1 : len = 3 := beq_iff_eq.mp e1
      subst e1
      exact va_gets hx hb hE.2.2.2.2.2.1 hP.2.2.1 hown (hts _ (ax_word e2)) (fun _ h9 => h9) hd (kk H locs la hP hl)
    | _ => simp [ax_okI] at hok
  | iload j =>
    simp only [ax_okI, Bool.and_eq_true, decide_eq_true_eq] at hok
    obtain ⟨e1, e2⟩ := hok
    have e1 : len = 2 := beq_iff_eq.mp e1
    subst e1
    simp only [ax_stp] at hs
    split at hs
    · next x hg =>
      cases hs
      exact lv_iload hx hb hd (by rw [e2]; exact ax_get_at hl hg) (kk H locs la hP hl)
    · cases hs
  | iload_n j =>
    simp only [ax_okI, Bool.and_eq_true, decide_eq_true_eq] at hok
    obtain ⟨e1, e2⟩ := hok
    have e1 : len = 1 := beq_iff_eq.mp e1
    subst e1
    simp only [ax_stp] at hs
    split at hs
    · next x hg =>
      cases hs
      exact lv_iload_n hx hb hd e2 (ax_get_at hl hg) (kk H locs la hP hl)
    · cases hs
  | lload j =>
    simp only [ax_okI, Bool.and_eq_true, decide_eq_true_eq] at hok
    obtain ⟨e1, e2⟩ := hok
    have e1 : len = 2 := beq_iff_eq.mp e1
    subst e1
    simp only [ax_stp] at hs
    split at hs
    · next x hg =>
      cases hs
      exact lv_lload hx hb hd (by rw [e2]; exact ax_get_at hl hg) (kk H locs la hP hl)
    · cases hs
  | lload_n j =>
    simp only [ax_okI, Bool.and_eq_true, decide_eq_true_eq] at hok
    obtain ⟨e1, e2⟩ := hok
    have e1 : len = 1 := beq_iff_eq.mp e1
    subst e1
    simp only [ax_stp] at hs
    split at hs
    · next x hg =>
      cases hs
      exact lv_lload_n hx hb hd e2 (ax_get_at hl hg) (kk H locs la hP hl)
    · cases hs
  | aload j =>
    simp only [ax_okI, Bool.and_eq_true, decide_eq_true_eq] at hok
    obtain ⟨e1, e2⟩ := hok
    have e1 : len = 2 := beq_iff_eq.mp e1
    subst e1
    simp only [ax_stp] at hs
    split at hs
    · next x hg =>
      cases hs
      exact lv_aload hx hb hd (by rw [e2]; exact ax_get_at hl hg) (kk H locs la hP hl)
    · cases hs
  | aload_n j =>
    simp only [ax_okI, Bool.and_eq_true, decide_eq_true_eq] at hok
    obtain ⟨e1, e2⟩ := hok
    have e1 : len = 1 := beq_iff_eq.mp e1
    subst e1
    simp only [ax_stp] at hs
    split at hs
    · next x hg =>
      cases hs
      exact lv_aload_n hx hb hd e2 (ax_get_at hl hg) (kk H locs la hP hl)
    · cases hs
  | istore j =>
    simp only [ax_okI, Bool.and_eq_true, decide_eq_true_eq] at hok
    obtain ⟨e1, e2, e3⟩ := hok
    have e1 : len = 2 := beq_iff_eq.mp e1
    subst e1
    simp only [ax_stp] at hs
    split at hs
    · cases hs
      exact lv_istore hx hb (by rw [← e2]; exact hd) hl e3 (ax_cls_st1 i (.int _) ls) (fun la2 hl2 => kk H locs la2 hP hl2)
    · cases hs
  | istore_n j =>
    simp only [ax_okI, Bool.and_eq_true, decide_eq_true_eq] at hok
    obtain ⟨e1, e2, e3⟩ := hok
    have e1 : len = 1 := beq_iff_eq.mp e1
    subst e1
    simp only [ax_stp] at hs
    split at hs
    · cases hs
      exact lv_istore_n hx hb hd e2 hl e3 (ax_cls_st1 i (.int _) ls) (fun la2 hl2 => kk H locs la2 hP hl2)
    · cases hs
  | lstore j =>
    simp only [ax_okI, Bool.and_eq_true, decide_eq_true_eq] at hok
    obtain ⟨e1, e2, e3⟩ := hok
    have e1 : len = 2 := beq_iff_eq.mp e1
    subst e1
    simp only [ax_stp] at hs
    split at hs
    · cases hs
      exact lv_lstore hx hb (by rw [← e2]; exact hd) hl e3 (ax_cls_st2 i (.long _) ls) (fun la2 hl2 => kk H locs la2 hP hl2)
    · cases hs
  | lstore_n j =>
    simp only [ax_okI, Bool.and_eq_true, decide_eq_true_eq] at hok
    obtain ⟨e1, e2, e3⟩ := hok
    have e1 : len = 1 := beq_iff_eq.mp e1
    subst e1
    simp only [ax_stp] at hs
    split at hs
    · cases hs
      exact lv_lstore_n hx hb hd e2 hl e3 (ax_cls_st2 i (.long _) ls) (fun la2 hl2 => kk H locs la2 hP hl2)
    · cases hs
  | iinc j n =>
    simp only [ax_stp] at hs
    split at hs
    · next x d hg =>
      cases hs
      simp only [ax_okI, Bool.and_eq_true, decide_eq_true_eq] at hok
      obtain ⟨e1, e2, e3, e4⟩ := hok
      have e1 : len = 3 := beq_iff_eq.mp e1
      subst e1
      obtain ⟨k9, hk9⟩ := List.getElem?_of_mem (ax_get_cls (ad := ad) hg)
      exact lv_iinc (by exact hx) hb (by rw [← e2]; exact hd) hl hk9 (by rw [e4]) e3 (ax_cls_st1 i (.int (x + d)) ls) (fun la2 hl2 => kk H locs la2 hP hl2)
    · cases hs
  | getfield k =>
    simp only [ax_stp] at hs
    split at hs
    · next f t c9 r =>
      obtain ⟨pl, rfl⟩ : ∃ pl, t = [pl] := by
        cases t with
        | nil => simp [ax_okI] at hok
        | cons pl t2 => cases t2 with
          | nil => exact ⟨pl, rfl⟩
          | cons _ _ => simp [ax_okI] at hok
      simp only [ax_okI, Bool.and_eq_true] at hok
      obtain ⟨e1, e2⟩ := hok
      have e1 : len = 3 := beq_iff_eq.mp e1
      subst e1
      split at hs
      · next ci fl hsh =>
        have key : ∀ {b : Bool} {x : Value}, b = Nat.beq ci i → b = true → (ax_fv ad (h.1 c9) fl 0)[f]? = some x → W p l e R s m args below meth c H locs cells slots Q (F0 m (pc + 3) la (x :: r.map (ax_cv ad))) → W p l e R s m args below meth c H locs cells slots Q (F0 m pc la (.ref (ad c9) :: r.map (ax_cv ad))) := by
          intro b x hb1 hb2 hx2 kk2
          have ei : ci = i := Nat.eq_of_beq_eq_true (hb1.symm.trans hb2)
          subst ei
          have hlt : ci ≠ 98 := by
            intro q98
            have h1 := ax_ci_lt c9 (by rw [hsh]) (by rw [hsh]; exact q98)
            exact h1
          rw [if_neg hlt] at e2
          simp only [Bool.and_eq_true, decide_eq_true_eq] at e2
          obtain ⟨e2, e3, e4⟩ := e2
          exact va_get hx hb hts (ax_lay_in e2) hown hK hP.1 c9 (ax_cellO hsh) (ax_cl_get e2) f e3 (hts _ (ax_word e4)) (fun _ h9 => h9) hx2 hd kk2
        split at hs
        · next j hj =>
          simp only [Option.some.injEq, Prod.mk.injEq] at hs
          obtain ⟨hz, rfl, rfl, rfl⟩ := hs
          exact key rfl hz (by rw [ax_fv_get, hj]; rfl) (kk H locs la hP hl)
        · next hj =>
          simp only [Option.some.injEq, Prod.mk.injEq] at hs
          obtain ⟨hz, rfl, rfl, rfl⟩ := hs
          exact key rfl hz (by rw [ax_fv_get, hj, Option.map_some, Nat.zero_add]; rfl) (kk H locs la hP hl)
        · cases hs
      · next ci fl hsh =>
        simp only [Option.some.injEq, Prod.mk.injEq] at hs
        obtain ⟨hz, rfl, rfl, rfl⟩ := hs
        have ei : i = 98 := Nat.eq_of_beq_eq_true hz
        subst ei
        rw [if_pos rfl] at e2
        have ea : c9 = 67 := ax_shp_4 c9 (ax_shp_69 (by rw [hsh]; exact (by decide : (4 : Nat) ≤ 5))) (by rw [hsh])
        subst ea
        obtain ⟨-, hC, hV, -⟩ := hE.2.2.2.2.1.1 0 (by decide)
        split at e2
        · simp only [decide_eq_true_eq] at e2
          exact vk_getf hx hb hV hP.2.2.1 hown (hts _ (ax_word e2)) (fun _ h9 => h9) hd (kk H locs la hP hl)
        · simp only [Bool.and_eq_true, decide_eq_true_eq] at e2
          obtain ⟨rfl, e3⟩ := e2
          exact vk_getf hx hb hC hP.2.2.1 hown (hts _ (ax_word e3)) (fun _ h9 => h9) hd (kk H locs la hP hl)
        · cases e2
      · cases hs
    · cases hs
  | putfield k =>
    simp only [ax_stp] at hs
    split at hs
    · next f t x c9 r =>
      obtain ⟨pl, rfl⟩ : ∃ pl, t = [pl] := by
        cases t with
        | nil => simp [ax_okI] at hok
        | cons pl t2 => cases t2 with
          | nil => exact ⟨pl, rfl⟩
          | cons _ _ => simp [ax_okI] at hok
      simp only [ax_okI, Bool.and_eq_true, decide_eq_true_eq] at hok
      obtain ⟨e1, e2, e3, e4, e5, e6⟩ := hok
      have e1 : len = 3 := beq_iff_eq.mp e1
      subst e1
      split at hs
      · next ci fl hsh =>
        split at hs
        · next hj =>
          obtain ⟨hP1, hP2, hP3, hP4⟩ := hP
          have ew := ax_wd_set (ad := ad) (cI := cI) (cL := cL) (h := h) (h' := sA h c9 (upd (h.1 c9) f x)) (k := c9) (e := .inr (ci, (ax_fv ad (h.1 c9) fl 0).set f (.int x))) (by simp only [ax_cell, hsh, sA, if_true]; rw [ax_fv_set ad _ x fl f hj]) (fun j hj => ax_cell_sA hj)
          obtain ⟨ty0, hty⟩ := ax_types i e2
          have hfl : f < (ax_fv ad (h.1 c9) fl 0).length := by rw [ax_fv_len]; exact (List.getElem?_eq_some_iff.mp hj).1
          have key : ∀ (ty : FieldType), parseFieldDescriptor ((ax_cd i).2.1 f).2.2.1 = some ty → narrow ty (.int x) = .int x → fits ty (.int x) = true → ci = i → ax_Go p l e R s m args below meth c cells slots Q nL ad cI cL dC dI A h0 (pc + 3) ls r (sA h c9 (upd (h.1 c9) f x)) → W p l e R s m args below meth c H locs cells slots Q (F0 m pc la (.int x :: .ref (ad c9) :: r.map (ax_cv ad))) := by
            intro ty g1 g2 g3 g4 kk2
            subst g4
            refine va_put hx hb hts (ax_lay_in e2) ty0 hty (ax_names ci e2) hown hK hP1 hP2 hP3 c9 (ax_cellO hsh) (ax_cl_get e2) f e3 (hts _ (ax_word e4)) (fun _ h9 => h9) e5 g1 g2 g3 hfl hd (fun H1 locs1 k1 k2 k3 => ?_)
            rw [ew] at k1 k2
            exact kk2 H1 locs1 la ⟨k1, k2, k3, hP4⟩ hl
          split at hs
          · simp only [Option.some.injEq, Prod.mk.injEq, Bool.and_eq_true, Bool.or_eq_true, decide_eq_true_eq] at hs
            obtain ⟨⟨hz, hy⟩, rfl, rfl, rfl⟩ := hs
            exact key .boolean e6 (by rcases hy with rfl | rfl <;> rfl) (by rcases hy with rfl | rfl <;> rfl) (Nat.eq_of_beq_eq_true hz) kk
          · next hv =>
            simp only [Option.some.injEq, Prod.mk.injEq] at hs
            obtain ⟨hz, rfl, rfl, rfl⟩ := hs
            have e7 : parseFieldDescriptor ((ax_cd i).2.1 f).2.2.1 = some .int := by
              rw [e6]
              cases v with
              | int x9 => exact absurd rfl (hv x9)
              | _ => rfl
            exact key .int e7 rfl rfl (Nat.eq_of_beq_eq_true hz) kk
        · cases hs
      · cases hs
    · cases hs
  | invokevirtual k =>
    have h5 : ¬ ∃ n r ci w pl, a = [n, r, ci, w, pl] := by
      rintro ⟨n, r, ci, w, pl, rfl⟩
      exact hna rfl
    simp only [ax_okI, Bool.and_eq_true] at hok
    obtain ⟨-, e2⟩ := hok
    split at e2
    · exact absurd ⟨_, _, _, _, _, rfl⟩ h5
    · cases e2
  | invokestatic k =>
    have h5 : ¬ ∃ n r ci w pl, a = [n, r, ci, w, pl] := by
      rintro ⟨n, r, ci, w, pl, rfl⟩
      exact hna rfl
    simp only [ax_okI, Bool.and_eq_true] at hok
    obtain ⟨e1, e2⟩ := hok
    have e1 : len = 3 := beq_iff_eq.mp e1
    subst e1
    split at e2
    · exact absurd ⟨_, _, _, _, _, rfl⟩ h5
    · next pl =>
      simp only [ax_okp, Bool.and_eq_true, decide_eq_true_eq] at e2
      obtain ⟨f1, f2, f3, f4, f5⟩ := e2
      have hml2 : c.maxLocals = la.size := hml.trans hl.1.symm
      have hR1 : 1 ≤ R.frames := Nat.le_trans f1 hfr
      have hlink : (Cond.methodLink (ax_nmC own) k (ax_pn i)).before args s = true := hts _ (ax_word f5)
      have hini : (Cond.initialized "java/lang/Math").before args s = true := hts _ (ax_pw_ini)
      simp only [ax_stp] at hs
      match i, hs, f3, f4, hlink with
      | 1, hs, _, _, hlink =>
        simp only [ax_prim] at hs
        split at hs
        · simp only [Option.some.injEq, Prod.mk.injEq, decide_eq_true_eq] at hs
          obtain ⟨hz, rfl, rfl, rfl⟩ := hs
          exact va_mmax hx hb hml2 hown hlink (hts _ ax_pw_s1) hini (hts _ ax_pw_c1) hR1 (by rw [ax_sum_map]; omega) hcc hss hd (kk H locs la hP hl)
        · cases hs
      | 2, hs, _, _, hlink =>
        simp only [ax_prim] at hs
        split at hs
        · simp only [Option.some.injEq, Prod.mk.injEq, decide_eq_true_eq] at hs
          obtain ⟨hz, rfl, rfl, rfl⟩ := hs
          exact va_mmin hx hb hml2 hown hlink (hts _ ax_pw_s2) hini (hts _ ax_pw_c2) hR1 (by rw [ax_sum_map]; omega) hcc hss hd (kk H locs la hP hl)
        · cases hs
      | 3, hs, _, _, hlink =>
        simp only [ax_prim] at hs
        split at hs
        · simp only [Option.some.injEq, Prod.mk.injEq, decide_eq_true_eq] at hs
          obtain ⟨hz, rfl, rfl, rfl⟩ := hs
          exact va_mabs hx hb hml2 hown hlink (hts _ ax_pw_s3) hini (hts _ ax_pw_c3) hR1 (by rw [ax_sum_map]; omega) hcc hss hd (kk H locs la hP hl)
        · cases hs
      | 4, hs, _, _, hlink =>
        simp only [ax_prim] at hs
        split at hs
        · next n dp d9 sp s9 r hz9 =>
          split at hs
          · next m1 fl1 m2 fl2 hs1 hs2 =>
            simp only [Option.some.injEq, Prod.mk.injEq, decide_eq_true_eq, Bool.and_eq_true] at hs
            obtain ⟨⟨hz, hn, hmm, rfl, rfl⟩, rfl, rfl, rfl⟩ := hs
            subst hmm
            obtain ⟨hP1, hP2, hP3, hP4⟩ := hP
            have hm31 : m1 < 2 ^ 31 := ax_len_31 hs1
            have en : n.toNatClampNeg = m1 := by rw [hn]; exact nI_clamp hm31
            have hnf : nativeFrameWords "java/lang/System" "arraycopy" 5 = 7 := by decide +kernel
            refine va_copyi hx hb hml2 hown hlink (hts _ ax_pw_n4) (hts _ ax_pw_s4) (hts _ ax_pw_i4) hK hP1 hP2 hP3 s9 d9 0 0 (ax_cellI hs1) (ax_cellI hs2) rfl rfl rfl (by decide) (by decide) (by rw [hn]; exact nI_pos hm31) (by rw [en]; exact Nat.le_of_eq (Nat.zero_add _)) (by rw [en]; exact Nat.le_of_eq (Nat.zero_add _)) (fun _ _ => rfl) hR1 (by rw [ax_sum_map, hnf]; omega) hd (fun H1 locs1 g1 g2 g3 => ?_)
            have ec : vp_cell cI (m1, .inl (va_cpy (h.1 s9) (h.1 d9) (0 : Int32).toNatClampNeg (0 : Int32).toNatClampNeg n.toNatClampNeg)) = vp_cell cI (m1, .inl (h.1 s9)) := by
              rw [en]
              exact ax_cpy_cell
            have g1' := ax_set_cell g1 (x' := (m1, .inl (h.1 s9))) ec
            have g2' : va_D A ((ax_wd ad cI cL h).set d9 (ad d9, .inl (cI, m1, .inl (h.1 s9)))) := ax_set_D g2
            rw [ax_wd_set (h' := sA h d9 (h.1 s9)) (by simp only [ax_cell, hs2, sA, if_true]) (fun j hj => ax_cell_sA hj)] at g1' g2'
            exact kk H1 locs1 la ⟨g1', g2', g3, hP4⟩ hl
          · next m1 fl1 m2 fl2 hs1 hs2 =>
            simp only [Option.some.injEq, Prod.mk.injEq, decide_eq_true_eq, Bool.and_eq_true] at hs
            obtain ⟨⟨hz, hn, hmm, rfl, rfl⟩, rfl, rfl, rfl⟩ := hs
            subst hmm
            obtain ⟨hP1, hP2, hP3, hP4⟩ := hP
            have hm31 : m1 < 2 ^ 31 := ax_len_31' hs1
            have en : n.toNatClampNeg = m1 := by rw [hn]; exact nI_clamp hm31
            have hnf : nativeFrameWords "java/lang/System" "arraycopy" 5 = 7 := by decide +kernel
            refine va_copyl hx hb hml2 hown hlink (hts _ ax_pw_n4) (hts _ ax_pw_s4) (hts _ ax_pw_i4) hK hP1 hP2 hP3 s9 d9 1 1 (ax_cellL hs1) (ax_cellL hs2) rfl rfl rfl (by decide) (by decide) (by rw [hn]; exact nI_pos hm31) (by rw [en]; exact Nat.le_of_eq (Nat.zero_add _)) (by rw [en]; exact Nat.le_of_eq (Nat.zero_add _)) (fun _ _ => rfl) hR1 (by rw [ax_sum_map, hnf]; omega) hd (fun H1 locs1 g1 g2 g3 => ?_)
            have ec : vp_cell cL (m1, .inr (.inl (va_cpy (h.2.1 s9) (h.2.1 d9) (0 : Int32).toNatClampNeg (0 : Int32).toNatClampNeg n.toNatClampNeg))) = vp_cell cL (m1, .inr (.inl (h.2.1 s9))) := by
              rw [en]
              exact ax_cpy_cellL
            have g1' := ax_set_cell g1 (x' := (m1, .inr (.inl (h.2.1 s9)))) ec
            have g2' : va_D A ((ax_wd ad cI cL h).set d9 (ad d9, .inl (cL, m1, .inr (.inl (h.2.1 s9))))) := ax_set_D g2
            rw [ax_wd_set (h' := sL h d9 (h.2.1 s9)) (by simp only [ax_cell, hs2, sL, if_true]) (fun j hj => ax_cell_sL hj)] at g1' g2'
            exact kk H1 locs1 la ⟨g1', g2', g3, hP4⟩ hl
          · cases hs
        · cases hs
      | 0, _, f3, _, _ => exact absurd f3 (by decide)
      | n + 5, _, _, f4, _ => exact absurd f4 (by omega)
    · cases e2
  | _ => simp only [ax_stp] at hs; cases hs
