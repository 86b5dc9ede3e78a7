/-! one hour of the class's street -/
def updN (f : Nat → Nat) (i x : Nat) : Nat → Nat := fun j => if j = i then x else f j
/-- one wall goes where it goes -/
def zgo (s : Sp) (w i : Nat) : Sp := if zto s w i = zP s i then s else (zW s, zT s, zK s, zF s, zO s, updN (zP s) i (zto s w i), zN s, zB s, upd (zL s) i (zL s i + 1))
def zgos (s : Sp) (w : Nat) : Nat → Sp
  | 0 => s
  | n + 1 => zgo (zgos s w n) w n
def zT1 (s : Sp) : Sp := (zW s, zT s + 1, zK s, zF s, zO s, zP s, zN s, zB s, zL s)
/-- an hour -/
def zhour (s : Sp) (w : Nat) : Sp := zgos (zT1 s) w (zW s)
theorem zgo_W (s : Sp) (w i : Nat) : zW (zgo s w i) = zW s := by unfold zgo; split <;> rfl
theorem zgo_T (s : Sp) (w i : Nat) : zT (zgo s w i) = zT s := by unfold zgo; split <;> rfl
theorem zgos_W (s : Sp) (w n : Nat) : zW (zgos s w n) = zW s := by
  induction n with
  | zero => rfl
  | succ n ih => exact (zgo_W _ _ _).trans ih
theorem zgos_T (s : Sp) (w n : Nat) : zT (zgos s w n) = zT s := by
  induction n with
  | zero => rfl
  | succ n ih => exact (zgo_T _ _ _).trans ih
theorem zhour_W (s : Sp) (w : Nat) : zW (zhour s w) = zW s := zgos_W _ _ _
theorem zhour_T (s : Sp) (w : Nat) : zT (zhour s w) = zT s + 1 := zgos_T _ _ _
theorem zgo_P {s : Sp} {w i j : Nat} (h : j ≠ i) : zP (zgo s w i) j = zP s j := by
  unfold zgo; split
  · rfl
  · show updN (zP s) i (zto s w i) j = zP s j
    exact if_neg h
theorem zgo_Pi (s : Sp) (w i : Nat) : zP (zgo s w i) i = zto s w i := by
  unfold zgo; split
  · rename_i q; exact q.symm
  · show updN (zP s) i (zto s w i) i = zto s w i
    exact if_pos rfl
theorem zgos_P {s : Sp} {w n j : Nat} (h : n ≤ j) : zP (zgos s w n) j = zP s j := by
  induction n with
  | zero => rfl
  | succ n ih => exact (zgo_P (by omega)).trans (ih (by omega))
theorem okS_go {s : Sp} {w i : Nat} (ok : okS s) (hi : i < 7) : okS (zgo s w i) := by
  unfold zgo
  split
  · exact ok
  · refine ⟨ok.1, ok.2.1, fun j hj => ⟨(ok.2.2.1 j hj).1, (ok.2.2.1 j hj).2.1, (ok.2.2.1 j hj).2.2.1, ?_⟩, ok.2.2.2⟩
    show updN (zP s) i (zto s w i) j < 8
    unfold updN
    split
    · exact zto_lt ok hi
    · exact (ok.2.2.1 j hj).2.2.2
theorem okS_gos {s : Sp} {w n : Nat} (ok : okS s) (hn : n ≤ 7) : okS (zgos s w n) := by
  induction n with
  | zero => exact ok
  | succ n ih => exact okS_go (ih (by omega)) (by omega)
theorem okS_T1 {s : Sp} (ok : okS s) (hT : zT s + 1 < 1000000) : okS (zT1 s) := ⟨ok.1, hT, ok.2.2.1, ok.2.2.2⟩
theorem okS_hour {s : Sp} {w : Nat} (ok : okS s) (hT : zT s + 1 < 1000000) : okS (zhour s w) := okS_gos (okS_T1 ok hT) ok.1
theorem zgo_cov (s : Sp) (w i j : Nat) : zcov (zgo s w i) j = zcov s j := by unfold zgo; split <;> rfl
theorem zgo_has_eq {s : Sp} {w i : Nat} (hi : i < zW s) (q : zto s w i ≠ zP s i) (j : Nat) :
    zhas (zgo s w i) j + (if zP s i = j then zcov s i else 0) = zhas s j + (if zto s w i = j then zcov s i else 0) := by
  have := smN_upd (n := zW s) (k := i) (f := fun k => if zP s k = j then zcov s k else 0) (g := fun k => if zP (zgo s w i) k = j then zcov (zgo s w i) k else 0) hi (fun m hm hmi => by
    show (if zP (zgo s w i) m = j then zcov (zgo s w i) m else 0) = _
    rw [zgo_P hmi, zgo_cov])
  rw [zgo_Pi, zgo_cov] at this
  unfold zhas
  rw [zgo_W]
  exact this
/-- a wall of the class goes -/
theorem goes_one {h : ax_Hp} {c : Nat} {s : Sp} {w i : Nat} (hc : isS c) (r : RC h c s w) (hi : i < zW s) :
    ∃ h', ax_run m_X5_passHour 16 [(0, .ref c), (1, .int (nI i))] [] h = ax_run m_X5_passHour 16 [(0, .ref c), (1, .int (nI (i + 1)))] [] h' ∧ RC h' c (zgo s w i) w ∧ Fr c h h' ∧ h'.1 (c + 6) = upd (h.1 (c + 6)) i (nI (zP s i)) := by
  have ok := r.1.1
  have hW := ok.1
  have okk := ok.2.2.1 i (by omega)
  have hto := zto_lt (w := w) ok (i := i) (by omega)
  have r' := r
  obtain ⟨⟨_, hw, r0, r1, r2, rr, rn, rb⟩, rc, rh⟩ := r'
  have ri := rr i (by omega)
  have st := e_X5_passHour_16 hc (nI i) h
  rw [r0, nextHouse_ hc r hi] at st
  simp (disch := omega) only [bnd, le_, g_in, cl_] at st
  rw [if_neg (by omega), ri.2.2.2.1] at st
  simp (disch := omega) only [eq_, l1, add_] at st
  by_cases q : zto s w i = zP s i
  · rw [if_pos q] at st
    refine ⟨_, st, ?_, (Fr.refl c h).wI (by omega), wI_at _ _ _ _⟩
    have hg : zgo s w i = s := if_pos q
    rw [hg]
    refine ⟨RB_of (fun k _ _ hk => wI_ne hk) r.1, ?_, ?_⟩
    · intro j hj; rw [wI_ne (by omega)]; exact rc j hj
    · intro j hj; rw [wI_ne (by omega)]; exact rh j hj
  · rw [if_neg q] at st
    simp (disch := omega) only [g_in, cl_, wI_ne, wI_at, upd_ne] at st
    rw [rh _ okk.2.2.2, rh _ hto, rc i hi, ri.2.2.2.2] at st
    refine ⟨_, st, ?_, (((((Fr.refl c h).wI (by omega)).wI (by omega)).wI (by omega)).wI (by omega)).wI (by omega), ?_⟩
    · have hg : zgo s w i = (zW s, zT s, zK s, zF s, zO s, updN (zP s) i (zto s w i), zN s, zB s, upd (zL s) i (zL s i + 1)) := if_neg q
      have okg := okS_go (w := w) ok (i := i) (by omega)
      have hh := zgo_has_eq hi q
      have hcov := zgo_cov s w i
      have hcl := zcov_has hi
      refine ⟨⟨okg, hw, ?_, ?_, ?_, ?_, ?_, ?_⟩, ?_, ?_⟩
      · simp (disch := omega) only [wI_ne]; rw [zgo_W]; exact r0
      · simp (disch := omega) only [wI_ne]; rw [zgo_T]; exact r1
      · simp (disch := omega) only [wI_ne]; exact r2
      · intro j hj
        have rj := rr j hj
        simp (disch := omega) only [wI_ne, wI_at]
        rw [hg]
        refine ⟨rj.1, rj.2.1, rj.2.2.1, ?_, ?_⟩
        · show upd (h.1 (c + 4)) i (nI (zto s w i)) j = nI (updN (zP s) i (zto s w i) j)
          unfold updN
          by_cases e : j = i
          · rw [e, upd_at, if_pos rfl]
          · rw [upd_ne e, if_neg e]; exact rj.2.2.2.1
        · show upd (h.1 (c + 5)) i (zL s i + 1) j = upd (zL s) i (zL s i + 1) j
          by_cases e : j = i
          · rw [e, upd_at, upd_at]
          · rw [upd_ne e, upd_ne e]; exact rj.2.2.2.2
      · intro j hj
        simp (disch := omega) only [wI_ne]
        rw [rn j hj, hg]
      · intro j hj
        simp (disch := omega) only [wI_ne]
        rw [rb j hj, hg]
      · intro j hj
        simp (disch := omega) only [wI_ne]
        rw [zgo_W] at hj
        rw [hcov, rc j hj]
      · intro j hj
        simp (disch := omega) only [wI_ne, wI_at]
        by_cases e1 : j = zto s w i
        · have hj' := hh (zto s w i)
          rw [e1, upd_at, add_]
          rw [if_neg (fun x => q x.symm), if_pos rfl] at hj'
          rw [show zhas (zgo s w i) (zto s w i) = zhas s (zto s w i) + zcov s i by omega]
        · rw [upd_ne e1]
          by_cases e2 : j = zP s i
          · have hj' := hh (zP s i)
            rw [e2, upd_at, sub_ hcl]
            rw [if_pos rfl, if_neg q] at hj'
            rw [show zhas (zgo s w i) (zP s i) = zhas s (zP s i) - zcov s i by omega]
          · have hj' := hh j
            rw [upd_ne e2, rh j hj]
            rw [if_neg (fun x => e2 x.symm), if_neg (fun x => e1 x.symm)] at hj'
            rw [show zhas (zgo s w i) j = zhas s j by omega]
    · simp (disch := omega) only [wI_ne, wI_at]
/-- an hour of the class -/
theorem passHour_ {h : ax_Hp} {c : Nat} {s : Sp} {w : Nat} (hc : isS c) (r : RC h c s w) (hT : zT s + 1 < 1000000) :
    ∃ h', rV m_X5_passHour [.ref c] h = some h' ∧ RC h' c (zhour s w) w ∧ Fr c h h' ∧ ∀ i, i < zW s → h'.1 (c + 6) i = nI (zP s i) := by
  have ok := r.1.1
  have hW := ok.1
  have okT := okS_T1 ok hT
  have rB1 : RB (wI h c 1 (nI (zT s + 1))) c (zT1 s) w := by
    obtain ⟨⟨_, hw, r0, r1, r2, rr, rn, rb⟩, rc, rh⟩ := r
    refine ⟨okT, hw, ?_, ?_, ?_, ?_, ?_, ?_⟩
    · rw [wI_at, upd_ne (by omega)]; exact r0
    · rw [wI_at, upd_at]; rfl
    · rw [wI_at, upd_ne (by omega)]; exact r2
    · intro i hi
      simp (disch := omega) only [wI_ne]
      exact rr i hi
    · intro i hi
      simp (disch := omega) only [wI_ne]
      exact rn i hi
    · intro i hi
      simp (disch := omega) only [wI_ne]
      exact rb i hi
  obtain ⟨h1, e1, r1, f1, c1⟩ := weigh_ hc rB1
  obtain ⟨h2, e2, r2, f2, c2⟩ := ex_loop (fun x h => ax_run m_X5_passHour 16 [(0, .ref c), (1, .int x)] [] h) (fun k h' => RC h' c (zgos (zT1 s) w k) w ∧ Fr c h1 h' ∧ ∀ i, i < k → h'.1 (c + 6) i = nI (zP s i)) (zW s) (by
    intro k a hk ⟨ra, fa, ca⟩
    obtain ⟨a', e', r', f', c'⟩ := goes_one hc ra (i := k) (by rw [zgos_W]; exact hk)
    refine ⟨a', e', r', fa.trans f', fun i hi => ?_⟩
    rw [c']
    by_cases q : i = k
    · rw [q, upd_at, zgos_P (by omega)]; rfl
    · rw [upd_ne q]; exact ca i (by omega)) h1 (k0 := 0) ⟨r1, Fr.refl c h1, fun i hi => by omega⟩ (by omega)
  refine ⟨h2, rV_of ((e_X5_passHour_0 hc h).trans ?_), r2, (((Fr.refl c h).wI (by omega)).trans f1).trans f2, c2⟩
  rw [r.1.2.2.2.1, l1, add_, e1, bnd]
  refine e2.trans ?_
  show ax_run m_X5_passHour 16 [(0, .ref c), (1, .int (nI (zW s)))] [] h2 = _
  rw [e_X5_passHour_16 hc, r2.1.2.2.1, zgos_W]
  exact if_pos ((le_ (a := zW s) (b := zW s) (by omega) (by omega)).mpr (Nat.le_refl _))
