/-! the exec's soundness, the run's -/
def ax_rd (cc : ByteArray) (rt pc : Nat) : Option Value → Prop
  | none => rt = 0 ∧ decode cc pc = .ok (.return_, 1)
  | some (.int x) => (rt = 1 ∨ (rt = 4 ∧ (x = 0 ∨ x = 1))) ∧ decode cc pc = .ok (.ireturn, 1)
  | some (.long _) => rt = 2 ∧ decode cc pc = .ok (.lreturn, 1)
  | some (.ref _) => rt = 3 ∧ decode cc pc = .ok (.areturn, 1)
  | _ => False
def ax_Rt (p : Program) (l : Launch) (e : Env) (R : Room) (s : State) (m : MethodId) (args : Array Value) (below : List Frame) (meth : Method) (c : Code) (cells slots : Nat) (Q : State → Prop) (cc : ByteArray) (ad : Nat → Nat) (cI cL : ClassId) (dC : Nat → ClassId) (dI : Nat → Nat → Nat) (A : Nat → Prop) (h0 : ax_Hp) (rt : Nat) (r : ax_Rs) : Prop :=
  ∀ (pc : Nat) (H : Heap) (locs : List Loc) (la : Array Slot), ax_P s ad cI cL dC dI A h0 r.2 H locs → ax_rd cc rt pc r.1 → W p l e R s m args below meth c H locs cells slots Q (F0 m pc la ((r.1.map (ax_cv ad)).toList))
theorem ax_nrm_sub : ∀ {is : List Nat} {ls l2 : ax_Lc}, ax_nrm is ls = some l2 → ∀ q ∈ l2, q ∈ ls
  | [], ls, l2, h, q, hq => by cases h; cases hq
  | i :: is, ls, l2, h, q, hq => by
    unfold ax_nrm at h
    split at h
    · cases h
    · next v hv =>
      split at h
      · cases h
      · next r hr =>
        cases h
        rcases List.mem_cons.mp hq with rfl | hq
        · exact ax_get_mem hv
        · exact ax_nrm_sub hr q hq
theorem ax_end_no {ins : Instr} (g1 : ∀ o, ins = .goto o → False) (g2 : ∀ a b c d, ins = .tableswitch a b c d → False) (g3 : ∀ a b, ins = .lookupswitch a b → False) (g4 : ins = .ireturn → False) (g5 : ins = .lreturn → False) (g6 : ins = .areturn → False) (g7 : ins = .return_ → False) : ax_end ins = false := by
  unfold ax_end
  split
  · exact (g1 _ rfl).elim
  · exact (g2 _ _ _ _ rfl).elim
  · exact (g3 _ _ rfl).elim
  · exact (g4 rfl).elim
  · exact (g5 rfl).elim
  · exact (g6 rfl).elim
  · exact (g7 rfl).elim
  · rfl
section
variable {p : Program} {l : Launch} {e : Env} {R : Room} {s : State} {m : MethodId} {args : Array Value} {below : List Frame} {meth : Method} {c : Code} {cells slots : Nat} {Q : State → Prop}
variable {cc : ByteArray} {nL own fr lo : Nat} {ad : Nat → Nat} {cI cL : ClassId} {dC : Nat → ClassId} {dI : Nat → Nat → Nat} {A : Nat → Prop} {h0 : ax_Hp} {R' : ax_Rn} {z rt : Nat} {r : ax_Rs}
theorem ax_jmp_ok {t : Nat × List Nat} {ls : ax_Lc} {st : List Value} {h : ax_Hp} (hj : ∀ pc ls st h, R' z pc ls st h = some r → ax_Go p l e R s m args below meth c cells slots Q nL ad cI cL dC dI A h0 pc ls st h) (he : ax_jmp R' z t ls st h = some r) : ax_Go p l e R s m args below meth c cells slots Q nL ad cI cL dC dI A h0 t.1 ls st h := by
  unfold ax_jmp at he
  split at he
  · next l2 hn =>
    intro H locs la hP hl
    refine hj _ _ _ _ he H locs la hP ⟨hl.1, hl.2.1, fun q hq => ?_⟩
    obtain ⟨q2, h2, rfl⟩ := List.mem_map.mp hq
    exact hl.2.2 _ (List.mem_map.mpr ⟨q2, ax_nrm_sub hn q2 h2, rfl⟩)
  · cases he
theorem ax_swT_ok {pc len : Nat} {d lo9 hi9 : Int} {offs : Array Int} {x : Int32} {ls : ax_Lc} {st : List Value} {h : ax_Hp} (hG : ax_G p s m args c R cells slots own nL fr lo cc ad cI cL dC dI A h0) (hd : decode cc pc = .ok (.tableswitch d lo9 hi9 offs, len)) (hj : ∀ pc ls st h, R' z pc ls st h = some r → ax_Go p l e R s m args below meth c cells slots Q nL ad cI cL dC dI A h0 pc ls st h) (hsz : offs.size = (hi9 - lo9 + 1).toNat) :
    ∀ (os : List Int) (inf : ax_If) (i : Nat), os = offs.toList.drop i → i ≤ offs.size → ¬ (lo9 ≤ x.toInt ∧ x.toInt < lo9 + i) → ax_okT pc d (lo9 + i) os inf = true → ax_sw R' z x ls st h inf = some r → ax_Go p l e R s m args below meth c cells slots Q nL ad cI cL dC dI A h0 pc ls (.int x :: st) h := by
  obtain ⟨hx, hb, hml, hown, hts, hK, hA, hE, hfr, hlo, hcc, hss⟩ := hG
  intro os
  induction os with
  | nil =>
    intro inf i hi hi2 hnot hok he
    have hlen : offs.size ≤ i := by
      have h1 : (offs.toList.drop i).length = 0 := by rw [← hi]; rfl
      rw [List.length_drop, Array.length_toList] at h1
      omega
    match inf, hok, he with
    | [(v, t, k9)], hok, he =>
      simp only [ax_okT, decide_eq_true_eq] at hok
      intro H locs la hP hl
      exact lv_tableOut hx hb hd (by omega) hok (ax_jmp_ok hj he H locs la hP hl)
    | [], hok, _ => cases hok
    | (v, t, k9) :: q :: qs, hok, _ => cases v <;> cases hok
  | cons o os ih =>
    intro inf i hi hi2 hnot hok he
    have hio : offs.toList[i]? = some o := by
      have h1 : (offs.toList.drop i)[0]? = some o := by rw [← hi]; rfl
      rwa [List.getElem?_drop, Nat.add_zero] at h1
    have hil : i < offs.size := by
      have := (List.getElem?_eq_some_iff.mp hio).1
      rwa [Array.length_toList] at this
    match inf, hok, he with
    | (.int w, t, k9) :: q :: qs, hok, he =>
      simp only [ax_okT, Bool.and_eq_true, decide_eq_true_eq] at hok
      obtain ⟨k1, k2, k3⟩ := hok
      have e0 : ax_sw R' z x ls st h ((.int w, t, k9) :: q :: qs) = if x = w then ax_jmp R' z (t, k9) ls st h else ax_sw R' z x ls st h (q :: qs) := rfl
      rw [e0] at he
      by_cases hxw : x = w
      · rw [if_pos hxw] at he
        intro H locs la hP hl
        have hxi : x.toInt = lo9 + i := by rw [hxw]; exact k1
        exact lv_tableIn hx hb hd (by omega) (by omega) (by rw [show (x.toInt - lo9).toNat = i by omega, ← Array.getElem?_toList]; exact hio) k2 (ax_jmp_ok hj he H locs la hP hl)
      · rw [if_neg hxw] at he
        refine ih (q :: qs) (i + 1) ?_ hil ?_ ?_ he
        · have h1 := congrArg (List.drop 1) hi
          rw [List.drop_drop] at h1
          simpa using h1
        · intro hn
          have hne : x.toInt ≠ w.toInt := fun q9 => hxw (Int32.toInt_inj.mp q9)
          rw [k1] at hne
          have h2 := hn.2
          push_cast at h2
          exact hnot ⟨hn.1, by omega⟩
        · have e3 : lo9 + ((i + 1 : Nat) : Int) = lo9 + (i : Int) + 1 := by push_cast; omega
          rw [e3]
          exact k3
    | [], hok, _ => cases hok
    | [(v, t, k9)], hok, _ => cases v <;> cases hok
    | (.long _, t, k9) :: q :: qs, hok, _ => cases hok
    | (.float _, t, k9) :: q :: qs, hok, _ => cases hok
    | (.double _, t, k9) :: q :: qs, hok, _ => cases hok
    | (.null, t, k9) :: q :: qs, hok, _ => cases hok
    | (.ref _, t, k9) :: q :: qs, hok, _ => cases hok
    | (.retAddr _, t, k9) :: q :: qs, hok, _ => cases hok
theorem ax_swL_ok {pc len : Nat} {d : Int} {ps : Array (Int × Int)} {x : Int32} {ls : ax_Lc} {st : List Value} {h : ax_Hp} (hG : ax_G p s m args c R cells slots own nL fr lo cc ad cI cL dC dI A h0) (hd : decode cc pc = .ok (.lookupswitch d ps, len)) (hp : (ps.toList.zip (ps.toList.drop 1)).all (fun (a, next) => a.1 < next.1) = true) (hj : ∀ pc ls st h, R' z pc ls st h = some r → ax_Go p l e R s m args below meth c cells slots Q nL ad cI cL dC dI A h0 pc ls st h) :
    ∀ (os : List (Int × Int)) (inf : ax_If), Op.lookupswitch.offset ps.toList d x.toInt = Op.lookupswitch.offset os d x.toInt → ax_okL pc d os inf = true → ax_sw R' z x ls st h inf = some r → ax_Go p l e R s m args below meth c cells slots Q nL ad cI cL dC dI A h0 pc ls (.int x :: st) h := by
  obtain ⟨hx, hb, hml, hown, hts, hK, hA, hE, hfr, hlo, hcc, hss⟩ := hG
  intro os
  induction os with
  | nil =>
    intro inf heq hok he
    match inf, hok, he with
    | [(v, t, k9)], hok, he =>
      simp only [ax_okL, decide_eq_true_eq] at hok
      intro H locs la hP hl
      exact lv_lookup hx hb hd hp (heq.trans (by rw [Op.lookupswitch.offset_nil])) hok (ax_jmp_ok hj he H locs la hP hl)
    | [], hok, _ => cases hok
    | (v, t, k9) :: q :: qs, hok, _ => cases v <;> cases hok
  | cons o os ih =>
    obtain ⟨a9, o9⟩ := o
    intro inf heq hok he
    match inf, hok, he with
    | (.int w, t, k9) :: q :: qs, hok, he =>
      simp only [ax_okL, Bool.and_eq_true, decide_eq_true_eq] at hok
      obtain ⟨k1, k2, k3⟩ := hok
      have e0 : ax_sw R' z x ls st h ((.int w, t, k9) :: q :: qs) = if x = w then ax_jmp R' z (t, k9) ls st h else ax_sw R' z x ls st h (q :: qs) := rfl
      rw [e0] at he
      by_cases hxw : x = w
      · rw [if_pos hxw] at he
        intro H locs la hP hl
        exact lv_lookup hx hb hd hp (heq.trans (by rw [Op.lookupswitch.offset_cons, hxw, k1, if_pos rfl])) k2 (ax_jmp_ok hj he H locs la hP hl)
      · rw [if_neg hxw] at he
        exact ih (q :: qs) (heq.trans (lv_osw hxw k1)) k3 he
    | [], hok, _ => cases hok
    | [(v, t, k9)], hok, _ => cases v <;> cases hok
    | (.long _, t, k9) :: q :: qs, hok, _ => cases hok
    | (.float _, t, k9) :: q :: qs, hok, _ => cases hok
    | (.double _, t, k9) :: q :: qs, hok, _ => cases hok
    | (.null, t, k9) :: q :: qs, hok, _ => cases hok
    | (.ref _, t, k9) :: q :: qs, hok, _ => cases hok
    | (.retAddr _, t, k9) :: q :: qs, hok, _ => cases hok
theorem ax_if_ok {c9 : ClassFile.Cond} {x y : Int32} {a b : Option ax_Rs} {Wt Wf : Prop} (e : ax_if c9 x y a b = some r) (ha : a = some r → Wt) (hb : b = some r → Wf) {G : Prop}
    (k : match c9 with
      | .eq => (x = y → Wt) → (¬ x = y → Wf) → G
      | .ne => (¬ x = y → Wt) → (x = y → Wf) → G
      | .lt => (x < y → Wt) → (¬ x < y → Wf) → G
      | .ge => (y ≤ x → Wt) → (¬ y ≤ x → Wf) → G
      | .gt => (y < x → Wt) → (¬ y < x → Wf) → G
      | .le => (x ≤ y → Wt) → (¬ x ≤ y → Wf) → G) : G := by
  cases c9 <;> simp only [ax_if] at e k <;> refine k (fun hc => ?_) (fun hc => ?_) <;> simp only [hc, if_true, if_false] at e <;> first | exact ha e | exact hb e
end
