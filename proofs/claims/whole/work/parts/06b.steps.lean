/-! soundness of the plain instructions -/
section
variable {p : Program} {l : Launch} {e : Env} {R : Room} {s : State} {m : MethodId} {args : Array Value} {below : List Frame} {meth : Method} {c : Code} {locs : List Loc} {cells slots : Nat} {Q : State → Prop}
variable {cc : ByteArray} {nL own pc len : Nat} {ad : Nat → Nat} {cI cL : ClassId} {dC : Nat → ClassId} {dI : Nat → Nat → Nat} {A : Nat → Prop}
/-- what holds all through a body -/
def ax_G (p : Program) (s : State) (m : MethodId) (args : Array Value) (c : Code) (R : Room) (cells slots : Nat) (own nL fr lo : Nat) (cc : ByteArray) (ad : Nat → Nat) (cI cL : ClassId) (dC : Nat → ClassId) (dI : Nat → Nat → Nat) (A : Nat → Prop) (h0 : ax_Hp) : Prop :=
  p.tables.exec = Jvm.exec ∧ c.code = cc ∧ c.maxLocals = nL ∧ s.vm.findClass (ax_nmC own) = some m.cls ∧ (∀ w ∈ ax_tb, w.before args s = true) ∧ va_K (dC, dI) ax_cl (ax_tys cI cL) s ∧ (∀ q : Nat, s.heap.size ≤ q → A q) ∧ ax_Ex ad h0 A s s.heap ∧ fr ≤ R.frames ∧ lo ≤ R.locals ∧ cells ≤ R.cells ∧ slots ≤ R.slots
/-- the world at a point of it -/
def ax_P (s : State) (ad : Nat → Nat) (cI cL : ClassId) (dC : Nat → ClassId) (dI : Nat → Nat → Nat) (A : Nat → Prop) (h0 h : ax_Hp) (H : Heap) (locs : List Loc) : Prop :=
  va_P (dC, dI) ax_cl (ax_wd ad cI cL h) H ∧ va_D A (ax_wd ad cI cL h) ∧ va_S A s.heap H locs ∧ h.2.2 = h0.2.2
theorem ax_cls_st1 (i : Nat) (v : Value) (ls : ax_Lc) : (i, ax_cv ad v) :: (ax_cls ad ls).filter (fun q => !(q.1 == i) && !(q.1 + 1 == i && q.2.category == 2)) = ax_cls ad (ax_st1 i v ls) := by
  simp only [ax_cls, ax_st1, List.map_cons, List.filter_map]
  congr 3
  funext q
  simp only [Function.comp, ax_cv_cat]
theorem ax_cls_st2 (i : Nat) (v : Value) (ls : ax_Lc) : (i, ax_cv ad v) :: (ax_cls ad ls).filter (fun q => !(q.1 == i) && (!(q.1 == i + 1) && !(q.1 + 1 == i && q.2.category == 2))) = ax_cls ad (ax_st2 i v ls) := by
  simp only [ax_cls, ax_st2, List.map_cons, List.filter_map]
  congr 3
  funext q
  simp only [Function.comp, ax_cv_cat]
theorem ax_get_mem {i : Nat} {v : Value} : ∀ {ls : ax_Lc}, ax_get i ls = some v → (i, v) ∈ ls
  | [], h => by cases h
  | q :: ls, h => by
    unfold ax_get at h
    split at h
    · next e =>
      cases h
      have : q.1 = i := Nat.eq_of_beq_eq_true e
      subst this
      exact List.mem_cons_self
    · exact List.mem_cons_of_mem _ (ax_get_mem h)
theorem ax_get_cls {i : Nat} {v : Value} {ls : ax_Lc} (h : ax_get i ls = some v) : (i, ax_cv ad v) ∈ ax_cls ad ls := List.mem_map.mpr ⟨_, ax_get_mem h, rfl⟩
theorem ax_get_at {i : Nat} {v : Value} {ls : ax_Lc} {la : Array Slot} (hl : lv_has la nL (ax_cls ad ls)) (h : ax_get i ls = some v) : la[i]? = some (.val (ax_cv ad v)) := hl.2.2 _ (ax_get_cls h)
set_option maxRecDepth 100000 in
theorem ax_lays_b : (List.range 8).all (fun ci => (List.range (ax_cd ci).2.2).all (fun d => ax_ds.any (fun q => decide (q = (7, ci, d, 0, 0))))) = true := by decide +kernel
theorem ax_lays (ci : Nat) (hc : ci < 8) (d : Nat) (hd : d < (ax_cd ci).2.2) : (7, ci, d, 0, 0) ∈ ax_ds := by
  have h := List.all_eq_true.mp (List.all_eq_true.mp ax_lays_b ci (List.mem_range.mpr hc)) d (List.mem_range.mpr hd)
  obtain ⟨q, hq, he⟩ := List.any_eq_true.mp h
  rw [of_decide_eq_true he] at hq
  exact hq
theorem ax_cl_get {ci : Nat} (h : ci < ax_cl.length) : ax_cl[ci]? = some ((ax_cd ci).1, (ax_cd ci).2.1, (ax_cd ci).2.2) := by
  unfold ax_cd
  rw [List.getD_eq_getElem?_getD, List.getElem?_eq_getElem h]
  rfl
theorem ax_lay_in {ci : Nat} (h : ci < ax_cl.length) : ∀ w ∈ u_ws (ax_cd ci).1 (ax_cd ci).2.1 (ax_cd ci).2.2, w ∈ ax_tb := by
  intro w hw
  obtain ⟨k, hk, rfl⟩ := List.mem_map.mp hw
  exact List.mem_map.mpr ⟨(7, ci, k, 0, 0), ax_lays ci h k (List.mem_range.mp hk), rfl⟩
theorem ax_names : ∀ ci, ci < 8 → ∀ a, a < (ax_cd ci).2.2 → ∀ b, b < (ax_cd ci).2.2 → a ≠ b → ((ax_cd ci).2.1 a).2.1 ≠ ((ax_cd ci).2.1 b).2.1
  | 0, _ => nmX0
  | 1, _ => nmX1
  | 2, _ => nmX3
  | 3, _ => nmX4
  | 4, _ => nmX5
  | 5, _ => nmX6
  | 6, _ => nmX7
  | 7, _ => nmX8
  | n + 8, h => absurd h (by omega)
theorem ax_types : ∀ ci, ci < 8 → ∃ ty : Nat → FieldType, ∀ k, k < (ax_cd ci).2.2 → parseFieldDescriptor ((ax_cd ci).2.1 k).2.2.1 = some (ty k)
  | 0, _ => ⟨_, tyX0_ok⟩
  | 1, _ => ⟨_, tyX1_ok⟩
  | 2, _ => ⟨_, tyX3_ok⟩
  | 3, _ => ⟨_, tyX4_ok⟩
  | 4, _ => ⟨_, tyX5_ok⟩
  | 5, _ => ⟨_, tyX6_ok⟩
  | 6, _ => ⟨_, tyX7_ok⟩
  | 7, _ => ⟨_, tyX8_ok⟩
  | n + 8, h => absurd h (by omega)
theorem ax_word {pl : Nat} {d : ax_Ds} (h : ax_ds[pl]? = some d) : ax_wrd d ∈ ax_tb := List.mem_map.mpr ⟨d, List.mem_of_getElem? h, rfl⟩
theorem ax_cellO {h : ax_Hp} {k ci : Nat} {fl : List (Option Nat)} (hs : ax_shp k = (0, ci, fl)) : (ax_wd ad cI cL h)[k]? = some (ad k, .inr (ci, ax_fv ad (h.1 k) fl 0)) := by
  rw [ax_wd_get (ax_shp_lt (by rw [hs]; exact Nat.zero_le 2))]
  simp only [ax_cell, hs]
theorem ax_cellI {h : ax_Hp} {k n : Nat} {fl : List (Option Nat)} (hs : ax_shp k = (1, n, fl)) : (ax_wd ad cI cL h)[k]? = some (ad k, .inl (cI, n, .inl (h.1 k))) := by
  rw [ax_wd_get (ax_shp_lt (by rw [hs]; exact (by decide : (1 : Nat) ≤ 2)))]
  simp only [ax_cell, hs]
theorem ax_cellL {h : ax_Hp} {k n : Nat} {fl : List (Option Nat)} (hs : ax_shp k = (2, n, fl)) : (ax_wd ad cI cL h)[k]? = some (ad k, .inl (cL, n, .inr (.inl (h.2.1 k)))) := by
  rw [ax_wd_get (ax_shp_lt (by rw [hs]; exact Nat.le_refl 2))]
  simp only [ax_cell, hs]
/-- an instruction without operand or one whose operand needs no table -/
def ax_Go (p : Program) (l : Launch) (e : Env) (R : Room) (s : State) (m : MethodId) (args : Array Value) (below : List Frame) (meth : Method) (c : Code) (cells slots : Nat) (Q : State → Prop) (nL : Nat) (ad : Nat → Nat) (cI cL : ClassId) (dC : Nat → ClassId) (dI : Nat → Nat → Nat) (A : Nat → Prop) (h0 : ax_Hp) (pc : Nat) (ls : ax_Lc) (st : List Value) (h : ax_Hp) : Prop :=
  ∀ (H : Heap) (locs : List Loc) (la : Array Slot), ax_P s ad cI cL dC dI A h0 h H locs → lv_has la nL (ax_cls ad ls) → W p l e R s m args below meth c H locs cells slots Q (F0 m pc la (st.map (ax_cv ad)))
end
