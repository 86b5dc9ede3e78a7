/-! SOUNDNESS: what the abstract machine answers, the machine does -/
theorem ax_lk_mem {pc : Nat} : ∀ {l : List (Nat × ax_Bl)} {b : ax_Bl}, ax_lk pc l = some b → (pc, b) ∈ l
  | [], b, h => by cases h
  | q :: l, b, h => by
    unfold ax_lk at h
    split at h
    · next e =>
      cases h
      have : q.1 = pc := Nat.eq_of_beq_eq_true e
      subst this
      exact List.mem_cons_self
    · exact List.mem_cons_of_mem _ (ax_lk_mem h)
def ax_cv (ad : Nat → Nat) : Value → Value
  | .ref k => .ref (ad k)
  | v => v
theorem ax_cv_cat (ad : Nat → Nat) (v : Value) : (ax_cv ad v).category = v.category := by cases v <;> rfl
def ax_cls (ad : Nat → Nat) (ls : ax_Lc) : List (Nat × Value) := ls.map (fun q => (q.1, ax_cv ad q.2))
def ax_fv (ad : Nat → Nat) (f : Nat → Int32) (fl : List (Option Nat)) (i : Nat) : List Value := match fl with
  | [] => []
  | none :: r => .int (f i) :: ax_fv ad f r (i + 1)
  | some j :: r => .ref (ad j) :: ax_fv ad f r (i + 1)
theorem ax_fv_len (ad : Nat → Nat) (f : Nat → Int32) : ∀ (fl : List (Option Nat)) (i : Nat), (ax_fv ad f fl i).length = fl.length
  | [], _ => rfl
  | none :: r, i => by simp only [ax_fv, List.length_cons, ax_fv_len ad f r (i + 1)]
  | some _ :: r, i => by simp only [ax_fv, List.length_cons, ax_fv_len ad f r (i + 1)]
theorem ax_fv_get (ad : Nat → Nat) (f : Nat → Int32) : ∀ (fl : List (Option Nat)) (i k : Nat), (ax_fv ad f fl i)[k]? = (fl[k]?).map (fun o => match o with | none => .int (f (i + k)) | some j => .ref (ad j))
  | [], _, _ => by simp [ax_fv]
  | none :: r, i, 0 => by simp [ax_fv]
  | some _ :: r, i, 0 => by simp [ax_fv]
  | none :: r, i, k + 1 => by
    simp only [ax_fv, List.getElem?_cons_succ, ax_fv_get ad f r (i + 1) k]
    rw [show i + 1 + k = i + (k + 1) by omega]
  | some _ :: r, i, k + 1 => by
    simp only [ax_fv, List.getElem?_cons_succ, ax_fv_get ad f r (i + 1) k]
    rw [show i + 1 + k = i + (k + 1) by omega]
theorem ax_fv_set (ad : Nat → Nat) (f : Nat → Int32) (x : Int32) (fl : List (Option Nat)) (k : Nat) (hk : fl[k]? = some none) : (ax_fv ad f fl 0).set k (.int x) = ax_fv ad (upd f k x) fl 0 := by
  apply List.ext_getElem?
  intro j
  rw [List.getElem?_set, ax_fv_len, ax_fv_get, ax_fv_get]
  have hl : k < fl.length := (List.getElem?_eq_some_iff.mp hk).1
  by_cases hj : k = j
  · subst hj
    rw [if_pos rfl, if_pos hl, hk]
    simp [upd]
  · simp only [if_neg hj, Nat.zero_add]
    cases fl[j]? with
    | none => rfl
    | some o => cases o with
      | some _ => rfl
      | none => simp [upd, Ne.symm hj]
def ax_cell (ad : Nat → Nat) (cI cL : ClassId) (h : ax_Hp) (k : Nat) : va_E := match ax_shp k with
  | (0, ci, fl) => .inr (ci, ax_fv ad (h.1 k) fl 0)
  | (1, n, _) => .inl (cI, n, .inl (h.1 k))
  | (_, n, _) => .inl (cL, n, .inr (.inl (h.2.1 k)))
def ax_wd (ad : Nat → Nat) (cI cL : ClassId) (h : ax_Hp) : va_W := (List.range 66).map (fun k => (ad k, ax_cell ad cI cL h k))
theorem ax_wd_get {ad : Nat → Nat} {cI cL : ClassId} {h : ax_Hp} {k : Nat} (hk : k < 66) : (ax_wd ad cI cL h)[k]? = some (ad k, ax_cell ad cI cL h k) := by
  simp [ax_wd, hk]
theorem ax_wd_set {ad : Nat → Nat} {cI cL : ClassId} {h h' : ax_Hp} {k : Nat} {e : va_E} (he : ax_cell ad cI cL h' k = e) (ho : ∀ j, j ≠ k → ax_cell ad cI cL h' j = ax_cell ad cI cL h j) : (ax_wd ad cI cL h).set k (ad k, e) = ax_wd ad cI cL h' := by
  apply List.ext_getElem?
  intro j
  rw [List.getElem?_set]
  by_cases hj : k = j
  · subst hj
    by_cases hk : k < 66
    · rw [ax_wd_get (h := h') hk, he]
      simp [ax_wd, hk]
    · simp [ax_wd, hk]
  · rw [if_neg hj]
    by_cases hk : j < 66
    · rw [ax_wd_get hk, ax_wd_get hk, ho j (fun q => hj q.symm)]
    · simp [ax_wd, hk]
theorem ax_cell_sA {ad : Nat → Nat} {cI cL : ClassId} {h : ax_Hp} {k : Nat} {f : Nat → Int32} {j : Nat} (hj : j ≠ k) : ax_cell ad cI cL (sA h k f) j = ax_cell ad cI cL h j := by
  simp only [ax_cell, sA, if_neg hj]
theorem ax_cell_sL {ad : Nat → Nat} {cI cL : ClassId} {h : ax_Hp} {k : Nat} {f : Nat → Int64} {j : Nat} (hj : j ≠ k) : ax_cell ad cI cL (sL h k f) j = ax_cell ad cI cL h j := by
  simp only [ax_cell, sL, if_neg hj]
set_option maxRecDepth 100000 in
theorem ax_shp_66 : ∀ k, k < 69 → (ax_shp k).1 ≤ 2 → k < 66 := by decide +kernel
theorem ax_shp_lt {k : Nat} (h : (ax_shp k).1 ≤ 2) : k < 66 := by
  by_cases hk : k < 69
  · exact ax_shp_66 k hk h
  · have : ax_shp k = (9, 0, []) := by
      unfold ax_shp
      rw [List.getD_eq_getElem?_getD, List.getElem?_eq_none (by show 69 ≤ k; omega)]
      rfl
    rw [this] at h
    exact absurd h (by decide)
set_option maxRecDepth 100000 in
theorem ax_shp_3 : ∀ k, k < 69 → (ax_shp k).1 = 3 → k = 66 := by decide +kernel
set_option maxRecDepth 100000 in
theorem ax_shp_4 : ∀ k, k < 69 → (ax_shp k).1 = 4 → k = 67 := by decide +kernel
set_option maxRecDepth 100000 in
theorem ax_shp_5 : ∀ k, k < 69 → (ax_shp k).1 = 5 → k = 68 ∧ (ax_shp k).2.1 = 6 := by decide +kernel
theorem ax_shp_69 {k : Nat} (h : (ax_shp k).1 ≤ 5) : k < 69 := by
  by_cases hk : k < 69
  · exact hk
  · have : ax_shp k = (9, 0, []) := by
      unfold ax_shp
      rw [List.getD_eq_getElem?_getD, List.getElem?_eq_none (by show 69 ≤ k; omega)]
      rfl
    rw [this] at h
    exact absurd h (by decide)
theorem ax_in_iff {i : Int32} {n : Nat} (h : ax_in i n = true) : vp_in i n := by
  unfold ax_in at h
  exact @of_decide_eq_true _ (Classical.propDecidable _) h
abbrev ax_tys (cI cL : ClassId) : List (ClassId × FieldType) := [(cI, .int), (cL, .long)]
/-- what is the same all through a method's body -/
def ax_Ex (ad : Nat → Nat) (h : ax_Hp) (A : Nat → Prop) (U : State) (H : Heap) : Prop :=
  va_X (ad 66) h.2.2.1 h.2.2.2 U H ∧ ad 66 < H.size ∧ ¬ A (ad 66) ∧ vk_R "WallsByTheHour$Letters" 23 "wobplf" (ad 67) U ∧ vk_S 1 [6] [ax_by] (fun _ => ad 67) (fun _ => ad 68) A U H ∧ va_Z "java/lang/String" "COMPACT_STRINGS" "Z" (.int 1) A U H ∧ ∀ w ∈ ax_tn, va_Nw w U
theorem ax_Ex.congr {ad : Nat → Nat} {h h' : ax_Hp} {A : Nat → Prop} {U : State} {H : Heap} (e : h'.2.2 = h.2.2) (hE : ax_Ex ad h A U H) : ax_Ex ad h' A U H := by
  unfold ax_Ex
  rw [e]
  exact hE
