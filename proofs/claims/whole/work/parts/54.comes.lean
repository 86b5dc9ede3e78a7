/-! letters: what is told comes to the reference -/
theorem RM_ad {h : ax_Hp} {s : Sp} {w k f o : Nat} (r : RM h s w) (hW : zW s < 7) (hk : k ≤ 5) (hf : f ≤ 9) (ho : o < 8) : RM (wI (wI (wI (wI (wI (wI h 49 (zW s) (nI k)) 50 (zW s) (nI f)) 51 (zW s) (nI o)) 52 (zW s) (nI o)) 53 (zW s) 0) 47 8 (nI (zW s + 1))) (zad s k f o) w := by
  obtain ⟨ok, hw, r0, r1, rr, rn, rb⟩ := r
  refine ⟨okS_ad ok hk hf ho hW, ?_, ?_, ?_, ?_, ?_, ?_⟩ <;> simp (disch := omega) only [wI_ne, wI_at, upd_ne, upd_at] <;> try assumption
  · rfl
  · intro j hj
    refine ⟨nI_upd (rr j hj).1, nI_upd (rr j hj).2.1, nI_upd (rr j hj).2.2.1, nI_upd (rr j hj).2.2.2.1, ?_⟩
    show upd (h.1 53) (zW s) 0 j = upd (zL s) (zW s) 0 j
    by_cases e : j = zW s
    · rw [e, upd_at, upd_at]
    · rw [upd_ne e, upd_ne e]; exact (rr j hj).2.2.2.2
/-- what a told statement changes -/
def KG (g g' : ax_Hp) : Prop := g'.2 = g.2 ∧ (∀ c, c ≠ 47 → (c < 49 ∨ 55 < c) → c ≠ 61 → g'.1 c = g.1 c) ∧ ∀ i, i ≠ 8 → i ≠ 9 → i ≠ 26 → g'.1 47 i = g.1 47 i
theorem KG.refl (g : ax_Hp) : KG g g := ⟨rfl, fun _ _ _ _ => rfl, fun _ _ _ _ => rfl⟩
theorem KG.trans {g g1 g2 : ax_Hp} (a : KG g g1) (b : KG g1 g2) : KG g g2 := ⟨b.1.trans a.1, fun c h1 h2 h3 => (b.2.1 c h1 h2 h3).trans (a.2.1 c h1 h2 h3), fun i h1 h2 h3 => (b.2.2 i h1 h2 h3).trans (a.2.2 i h1 h2 h3)⟩
theorem KG.gh {g g' : ax_Hp} (a : Gh g g') : KG g g' := ⟨a.1, fun c h1 h2 h3 => a.2.1 c h1 (by omega) (by omega) h3, fun i _ h2 h3 => a.2.2 i h2 h3⟩
theorem IM_kg {g g' : ax_Hp} {A : Ab} {s : Sp} (i : IM g A) (k : KG g g') (r : RM g' s 0) (hT : zT s = zT (bS A)) (e : g'.1 61 = g.1 61) : IM g' (bSet A s) := by
  refine IM_set i r hT (fun c hc => ?_) (fun j hj => k.2.2 j (by omega) (by omega) (by omega))
  by_cases q : c = 61
  · rw [q]; exact e
  · exact k.2.1 c (by omega) (by omega) q
theorem isWall_BM {g : ax_Hp} {s : Sp} {w a : Nat} (r : RM g s w) (ha : a ≤ 9) : rI m_X8_isWall [.ref 47, .int (nI a)] g = some (if a < zW s then 1 else 0, g) := by
  have hW := r.1.1
  rw [isWallM_ r]
  have e : (0 ≤ nI a ∧ nI a < nI (zW s)) ↔ a < zW s := by
    simp (disch := omega) only [lt_]
    exact ⟨fun h => h.2, fun h => ⟨nI_pos' (by omega), h⟩⟩
  simp only [e]
theorem comesWall_ {g : ax_Hp} {s : Sp} {w a b o : Nat} (r : RM g s w) (ho : o ≤ 9) : rI m_X8_comesWall [.ref 47, .int (nI a), .int (nI b), .int (nI o)] g =
    if zW s < 7 ∧ o < 8 then some (1, wI (wI (wI (wI (wI (wI g 49 (zW s) (nI a)) 50 (zW s) (nI b)) 51 (zW s) (nI o)) 52 (zW s) (nI o)) 53 (zW s) 0) 47 8 (nI (zW s + 1))) else some (0, g) := by
  have hW := r.1.1
  have r0 := r.2.2.1
  have E := e_X8_comesWall_0 (nI a) (nI b) (nI o) g
  rw [house_BM _ ho, bnd] at E
  by_cases q2 : o < 8
  · simp only [q2, if_true, ax_10, if_false] at E
    simp (disch := omega) only [wI_ne, r0, l7, eq_] at E
    by_cases q1 : zW s = 7
    · rw [if_pos q1] at E
      rw [if_neg (fun y => by omega)]
      exact rI_of E
    · rw [if_neg q1] at E
      simp (disch := omega) only [g_in, cl_, nI_1] at E
      rw [if_pos ⟨by omega, q2⟩]
      exact rI_of E
  · simp only [q2, if_false, if_true] at E
    rw [if_neg (fun y => q2 y.2)]
    exact rI_of E
theorem comesPut_ {g : ax_Hp} {s : Sp} {w a b : Nat} (r : RM g s w) (ha : a ≤ 9) (hb : b ≤ 9) : rI m_X8_comesPlace [.ref 47, .ref 52, .int (nI a), .int (nI b)] g = if a < zW s ∧ b < 8 then some (1, wI g 52 a (nI b)) else some (0, g) := by
  have hW := r.1.1
  have E := e_X8_comesPlace_0_k47_52 (nI a) (nI b) g
  rw [isWall_BM r ha, bnd] at E
  by_cases q1 : a < zW s
  · simp only [q1, if_true, ax_10, if_false] at E
    rw [house_BM _ hb, bnd] at E
    by_cases q2 : b < 8
    · simp only [q2, if_true, ax_10, if_false] at E
      simp (disch := omega) only [g_in, cl_] at E
      rw [if_pos ⟨q1, q2⟩]
      exact rI_of E
    · simp only [q2, if_false, if_true] at E
      rw [if_neg (fun y => q2 y.2)]
      exact rI_of E
  · simp only [q1, if_false, if_true] at E
    rw [if_neg (fun y => q1 y.1)]
    exact rI_of E
theorem comesSel_ {g : ax_Hp} {s : Sp} {w a b : Nat} (r : RM g s w) (ha : a ≤ 9) (hb : b ≤ 9) : rI m_X8_comesPlace [.ref 47, .ref 51, .int (nI a), .int (nI b)] g = if a < zW s ∧ b < 8 then some (1, wI g 51 a (nI b)) else some (0, g) := by
  have hW := r.1.1
  have E := e_X8_comesPlace_0_k47_51 (nI a) (nI b) g
  rw [isWall_BM r ha, bnd] at E
  by_cases q1 : a < zW s
  · simp only [q1, if_true, ax_10, if_false] at E
    rw [house_BM _ hb, bnd] at E
    by_cases q2 : b < 8
    · simp only [q2, if_true, ax_10, if_false] at E
      simp (disch := omega) only [g_in, cl_] at E
      rw [if_pos ⟨q1, q2⟩]
      exact rI_of E
    · simp only [q2, if_false, if_true] at E
      rw [if_neg (fun y => q2 y.2)]
      exact rI_of E
  · simp only [q1, if_false, if_true] at E
    rw [if_neg (fun y => q1 y.1)]
    exact rI_of E
theorem comesBar_ {g : ax_Hp} {s : Sp} {w a b : Nat} (r : RM g s w) (ha : a ≤ 9) (hb : b ≤ 9) : rI m_X8_comesBar [.ref 47, .int (nI a), .int (nI b)] g = if a < 8 ∧ b < 8 ∧ a ≠ b then some ((1 : Int32), wI g 55 a (zB s a ^^^ (1 <<< (nI b &&& 31)))) else some ((0 : Int32), g) := by
  have E := e_X8_comesBar_0 (nI a) (nI b) g
  rw [two_BM _ _ ha hb, bnd] at E
  by_cases q : a < 8 ∧ b < 8 ∧ a ≠ b
  · have p2 := r.2.2.2.2.2.2 a q.1
    simp only [if_pos q, ax_10, if_false] at E
    have ha8 := q.1
    simp (disch := omega) only [g_in, cl_, p2] at E
    rw [if_pos q]
    exact rI_of E
  · simp only [if_neg q, if_true] at E
    rw [if_neg q]
    exact rI_of E
theorem comesNeeds_ {g : ax_Hp} {s : Sp} {c : Nat → Nat} {p k : Nat} (r : RM g s 0) (hk : k < 31) (w : WF c p) (e : c p = 110) (dt : ∀ i, i < 7 → g.1 59 (7 * k + i) = nI (dv c (p + 1 + i))) :
    ∃ g', rI m_X8_comesNeeds [.ref 47, .int (nI (7 * k))] g = some (if dv c (p + 1) < 8 then 1 else 0, g') ∧ (dv c (p + 1) < 8 → RM g' (znn c s p 6) 0) ∧ KG g g' ∧ g'.1 61 = g.1 61 := by
  have d1 : dgt (c (p + 1)) = true := wf_dig w (by omega) (by rw [e]; decide) (by omega)
  have b1 := dv_le d1
  have t0 := dt 0 (by omega)
  have E := e_X8_comesNeeds_0 (nI (7 * k)) g
  simp (disch := omega) only [g_in, cl_] at E
  rw [show g.1 59 (7 * k) = nI (dv c (p + 1)) from t0, house_BM _ b1, bnd] at E
  by_cases q : dv c (p + 1) < 8
  · simp only [q, if_true, ax_10, if_false] at E
    obtain ⟨g2, e2, r2, f2, h61, h59⟩ := ex_loop (fun (x : Int32) (a : ax_Hp) => ax_run m_X8_comesNeeds 16 [(0, .ref 47), (1, .int (nI (7 * k))), (2, .int x)] [] a) (fun (i : Nat) (a : ax_Hp) => RM a (znn c s p i) 0 ∧ KG g a ∧ a.1 61 = g.1 61 ∧ a.1 59 = g.1 59) 6 (by
      intro i a hi ⟨ra, ka, h61, h59⟩
      have d : dgt (c (p + 2 + i)) = true := by
        have := wf_dig (i := 2 + i) w (by omega) (by rw [e]; show 2 + i + 1 < 9; omega) (by omega)
        rw [show p + (2 + i) = p + 2 + i by omega] at this
        exact this
      have t1 : a.1 59 (7 * k + 1 + i) = nI (dv c (p + 2 + i)) := by
        rw [h59, show 7 * k + 1 + i = 7 * k + (i + 1) by omega, dt (i + 1) (by omega), show p + 1 + (i + 1) = p + 2 + i by omega]
      have t2 : a.1 59 (7 * k) = nI (dv c (p + 1)) := by rw [h59]; exact t0
      refine ⟨wI a 54 (6 * dv c (p + 1) + i) (nI (dv c (p + 2 + i))), ?_, RM_nd ra (dv_le d), ka.trans ⟨rfl, fun c h1 h2 h3 => wI_ne (by omega), fun i _ _ _ => by rw [wI_ne (by omega)]⟩, ?_, ?_⟩
      · show ax_run m_X8_comesNeeds 16 _ [] a = _
        rw [e_X8_comesNeeds_16, if_neg (fun y => by
          have := (le_ (a := 6) (b := i) (by omega) (by omega)).mp y
          omega), nI_1, nI_1, add_]
        simp (disch := omega) only [g_in, cl_, t1, t2, l6, mul_, add_]
      · rw [wI_ne (by omega)]; exact h61
      · rw [wI_ne (by omega)]; exact h59) g (k0 := 0) ⟨r, KG.refl g, rfl, rfl⟩ (by omega)
    refine ⟨g2, ?_, fun _ => r2, f2, h61⟩
    rw [if_pos q]
    refine rI_of (E.trans (e2.trans ?_))
    show ax_run m_X8_comesNeeds 16 _ [] g2 = _
    rw [e_X8_comesNeeds_16, if_pos (by decide)]
  · simp only [q, if_false, if_true] at E
    refine ⟨g, ?_, fun y => absurd y q, KG.refl g, rfl⟩
    rw [if_neg q]
    exact rI_of E
theorem res_1 {o : Option (Int32 × ax_Hp)} {v : Int32} {g : ax_Hp} (e : o = some (v, g)) (hv : v = 0 ∨ v = 1) : (o.bind fun q1 => if q1.1 = 0 ∨ q1.1 = 1 then some (some (Value.int q1.1), q1.2) else none) = some (some (.int v), g) := by
  rw [e, bnd]
  exact if_pos hv
theorem comesHours_ {g : ax_Hp} {A : Ab} {v : Nat} (im : IM g A) (hv : v ≤ 99) : ∃ g', rI m_X8_comesHours [.ref 47, .int (nI v)] g = some (if 1 ≤ v ∧ v ≤ 60 ∧ zT (bS A) + v ≤ 999 then 1 else 0, g') ∧ (1 ≤ v ∧ v ≤ 60 ∧ zT (bS A) + v ≤ 999 → IM g' (bPass A v)) ∧ KG g g' ∧ (¬ (1 ≤ v ∧ v ≤ 60 ∧ zT (bS A) + v ≤ 999) → g'.1 61 = g.1 61) := by
  have hT := im.1.1.2.1
  have E := e_X8_comesHours_0 (nI v) g
  rw [isIn_, bnd, im.1.2.2.2.1] at E
  have l60' : (60 : Int32) = nI 60 := rfl
  have l999' : (999 : Int32) = nI 999 := rfl
  have c1 : ((1 : Int32) ≤ nI v ∧ nI v ≤ 60) ↔ (1 ≤ v ∧ v ≤ 60) := and_congr (le_ (a := 1) (b := v) (by omega) (by omega)) (le_ (a := v) (b := 60) (by omega) (by omega))
  by_cases q1 : 1 ≤ v ∧ v ≤ 60
  · simp only [if_pos (c1.mpr q1), ax_10, if_false] at E
    rw [l999', add_] at E
    by_cases q2 : zT (bS A) + v ≤ 999
    · rw [if_pos ((le_ (a := zT (bS A) + v) (b := 999) (by omega) (by omega)).mpr q2)] at E
      obtain ⟨g2, e2, i2, f2⟩ := passM_ im q2
      rw [e2, bnd] at E
      refine ⟨g2, ?_, fun _ => i2, KG.gh f2, fun y => absurd ⟨q1.1, q1.2, q2⟩ y⟩
      rw [if_pos ⟨q1.1, q1.2, q2⟩]
      exact rI_of E
    · rw [if_neg (fun y => q2 ((le_ (a := zT (bS A) + v) (b := 999) (by omega) (by omega)).mp y))] at E
      refine ⟨g, ?_, fun y => absurd y.2.2 q2, KG.refl g, fun _ => rfl⟩
      rw [if_neg (fun y => q2 y.2.2)]
      exact rI_of E
  · simp only [if_neg (fun y => q1 (c1.mp y)), if_true] at E
    refine ⟨g, ?_, fun y => absurd ⟨y.1, y.2.1⟩ q1, KG.refl g, fun _ => rfl⟩
    rw [if_neg (fun y => q1 ⟨y.1, y.2.1⟩)]
    exact rI_of E
theorem told_ {g : ax_Hp} {A : Ab} {c : Nat → Nat} {p k : Nat} (im : IM g A) (hk : k < 31) (hc : c p ≤ 256) (w : WF c p) (t57 : g.1 57 k = sI_ (c p)) (t59 : ∀ i, i < tn (c p) → g.1 59 (7 * k + i) = nI (td c p i)) :
    ∃ g', rI m_X8_comesTold [.ref 47, .int (nI k)] g = some (if snB c (zW (bS A)) (zT (bS A)) p = true then 1 else 0, g') ∧ (snB c (zW (bS A)) (zT (bS A)) p = true → IM g' (stA c A p)) ∧ KG g g' ∧ (¬ snB c (zW (bS A)) (zT (bS A)) p = true → g'.1 61 = g.1 61) := by
  obtain ⟨a1, a2, a3, a4, a5, a6, a7⟩ := sI_eq _ (show c p < 257 by omega)
  have r := im.1
  have hW := r.1.1
  have st := e_X8_comesTold_0 (nI k) g
  have c6 := sz6 w.1
  have d2 : dgt (c (p + 2)) = true := wf_dig w (by omega) (by rcases c6 with e | e | e | e | e | e <;> (rw [e]; decide)) (by omega)
  have b2 := dv_le d2
  simp (disch := omega) only [g_in, cl_, t57, a1, a3, a4, a5, a6, l7, mul_, nI_1, add_] at st
  have v01 : ∀ (b : Bool), (if b = true then (1 : Int32) else 0) = 0 ∨ (if b = true then (1 : Int32) else 0) = 1 := fun b => by cases b <;> decide
  unfold snB
  unfold stA
  rcases c6 with e | e | e | e | e | e <;> simp only [e, if_true, Nat.reduceEqDiff, if_false] at st ⊢
  · have d3 : dgt (c (p + 3)) = true := wf_dig w (by omega) (by rw [e]; decide) (by omega)
    have kk := kd5 (wf_kind w e)
    have u0 : g.1 59 (7 * k) = nI (kdN (c (p + 1))) := by
      have := t59 0 (by rw [e]; decide)
      rw [td, if_pos ⟨e, rfl⟩] at this
      exact this
    have u1 : g.1 59 (7 * k + 1) = nI (dv c (p + 2)) := by
      have := t59 1 (by rw [e]; decide)
      rw [td, if_neg (by omega), if_neg (by omega)] at this
      exact this
    have u2 : g.1 59 (7 * k + 2) = nI (dv c (p + 3)) := by
      have := t59 2 (by rw [e]; decide)
      rw [td, if_neg (by omega), if_neg (by omega)] at this
      exact this
    rw [show (2 : Int32) = nI 2 from rfl] at st
    simp (disch := omega) only [g_in, cl_, add_, u0, u1, u2] at st
    rw [comesWall_ r (dv_le d3)] at st
    by_cases q : zW (bS A) < 7 ∧ dv c (p + 3) < 8
    · rw [if_pos q, bnd, if_pos (Or.inr rfl)] at st
      have kg : KG g (wI (wI (wI (wI (wI (wI g 49 (zW (bS A)) (nI (kdN (c (p + 1))))) 50 (zW (bS A)) (nI (dv c (p + 2)))) 51 (zW (bS A)) (nI (dv c (p + 3)))) 52 (zW (bS A)) (nI (dv c (p + 3)))) 53 (zW (bS A)) 0) 47 8 (nI (zW (bS A) + 1))) := by
        refine ⟨rfl, fun c h1 h2 h3 => ?_, fun i h1 h2 h3 => ?_⟩ <;> simp (disch := omega) only [wI_ne, wI_at, upd_ne]
      refine ⟨_, (rI_of st).trans ?_, fun _ => IM_kg im kg (RM_ad r q.1 kk b2 q.2) rfl (by simp (disch := omega) only [wI_ne]), kg, fun y => absurd (decide_eq_true q) y⟩
      rw [if_pos (decide_eq_true q)]
    · rw [if_neg q, bnd, if_pos (Or.inl rfl)] at st
      refine ⟨g, (rI_of st).trans ?_, fun y => absurd (of_decide_eq_true y) q, KG.refl g, fun _ => rfl⟩
      rw [if_neg (fun y => q (of_decide_eq_true y))]
  · have d1 : dgt (c (p + 1)) = true := wf_dig w (by omega) (by rw [e]; decide) (by omega)
    have u0 : g.1 59 (7 * k) = nI (dv c (p + 1)) := by
      have := t59 0 (by rw [e]; decide)
      rw [td, if_neg (by omega), if_neg (by omega)] at this
      exact this
    have u1 : g.1 59 (7 * k + 1) = nI (dv c (p + 2)) := by
      have := t59 1 (by rw [e]; decide)
      rw [td, if_neg (by omega), if_neg (by omega)] at this
      exact this
    rw [u0, u1, comesPut_ r (dv_le d1) b2] at st
    by_cases q : dv c (p + 1) < zW (bS A) ∧ dv c (p + 2) < 8
    · rw [if_pos q, bnd, if_pos (Or.inr rfl)] at st
      have kg : KG g (wI g 52 (dv c (p + 1)) (nI (dv c (p + 2)))) := ⟨rfl, fun c h1 h2 h3 => wI_ne (by omega), fun i h1 h2 h3 => by rw [wI_ne (by omega)]⟩
      refine ⟨_, (rI_of st).trans ?_, fun _ => IM_kg im kg (RM_put r q.2) rfl (wI_ne (by omega)), kg, fun y => absurd (decide_eq_true q) y⟩
      rw [if_pos (decide_eq_true q)]
    · rw [if_neg q, bnd, if_pos (Or.inl rfl)] at st
      refine ⟨g, (rI_of st).trans ?_, fun y => absurd (of_decide_eq_true y) q, KG.refl g, fun _ => rfl⟩
      rw [if_neg (fun y => q (of_decide_eq_true y))]
  · have d1 : dgt (c (p + 1)) = true := wf_dig w (by omega) (by rw [e]; decide) (by omega)
    have u0 : g.1 59 (7 * k) = nI (dv c (p + 1)) := by
      have := t59 0 (by rw [e]; decide)
      rw [td, if_neg (by omega), if_neg (by omega)] at this
      exact this
    have u1 : g.1 59 (7 * k + 1) = nI (dv c (p + 2)) := by
      have := t59 1 (by rw [e]; decide)
      rw [td, if_neg (by omega), if_neg (by omega)] at this
      exact this
    rw [u0, u1, comesSel_ r (dv_le d1) b2] at st
    by_cases q : dv c (p + 1) < zW (bS A) ∧ dv c (p + 2) < 8
    · rw [if_pos q, bnd, if_pos (Or.inr rfl)] at st
      have kg : KG g (wI g 51 (dv c (p + 1)) (nI (dv c (p + 2)))) := ⟨rfl, fun c h1 h2 h3 => wI_ne (by omega), fun i h1 h2 h3 => by rw [wI_ne (by omega)]⟩
      refine ⟨_, (rI_of st).trans ?_, fun _ => IM_kg im kg (RM_sel r q.2) rfl (wI_ne (by omega)), kg, fun y => absurd (decide_eq_true q) y⟩
      rw [if_pos (decide_eq_true q)]
    · rw [if_neg q, bnd, if_pos (Or.inl rfl)] at st
      refine ⟨g, (rI_of st).trans ?_, fun y => absurd (of_decide_eq_true y) q, KG.refl g, fun _ => rfl⟩
      rw [if_neg (fun y => q (of_decide_eq_true y))]
  · have dt : ∀ i, i < 7 → g.1 59 (7 * k + i) = nI (dv c (p + 1 + i)) := fun i hi => by
      have := t59 i (by rw [e]; exact hi)
      rw [td, if_neg (by omega), if_neg (by omega)] at this
      exact this
    obtain ⟨g2, e2, r2, f2, h61⟩ := comesNeeds_ r hk w e dt
    rw [res_1 e2 (by split <;> simp)] at st
    refine ⟨g2, (rI_of st).trans ?_, fun y => IM_kg im f2 (r2 (of_decide_eq_true y)) (znn_T _ _ _ _) h61, f2, fun _ => h61⟩
    simp only [decide_eq_true_eq]
  · have d1 : dgt (c (p + 1)) = true := wf_dig w (by omega) (by rw [e]; decide) (by omega)
    have u0 : g.1 59 (7 * k) = nI (dv c (p + 1)) := by
      have := t59 0 (by rw [e]; decide)
      rw [td, if_neg (by omega), if_neg (by omega)] at this
      exact this
    have u1 : g.1 59 (7 * k + 1) = nI (dv c (p + 2)) := by
      have := t59 1 (by rw [e]; decide)
      rw [td, if_neg (by omega), if_neg (by omega)] at this
      exact this
    rw [u0, u1, comesBar_ r (dv_le d1) b2] at st
    by_cases q : dv c (p + 1) < 8 ∧ dv c (p + 2) < 8 ∧ dv c (p + 1) ≠ dv c (p + 2)
    · rw [if_pos q, bnd, if_pos (Or.inr rfl)] at st
      have kg : KG g (wI g 55 (dv c (p + 1)) (zB (bS A) (dv c (p + 1)) ^^^ (1 <<< (nI (dv c (p + 2)) &&& 31)))) := ⟨rfl, fun c h1 h2 h3 => wI_ne (by omega), fun i h1 h2 h3 => by rw [wI_ne (by omega)]⟩
      refine ⟨_, (rI_of st).trans ?_, fun _ => IM_kg im kg (RM_br r) rfl (wI_ne (by omega)), kg, fun y => absurd (decide_eq_true q) y⟩
      rw [if_pos (decide_eq_true q)]
    · rw [if_neg q, bnd, if_pos (Or.inl rfl)] at st
      refine ⟨g, (rI_of st).trans ?_, fun y => absurd (of_decide_eq_true y) q, KG.refl g, fun _ => rfl⟩
      rw [if_neg (fun y => q (of_decide_eq_true y))]
  · have d1 : dgt (c (p + 1)) = true := wf_dig w (by omega) (by rw [e]; decide) (by omega)
    have b1 := dv_le d1
    have u0 : g.1 59 (7 * k) = nI (10 * dv c (p + 1) + dv c (p + 2)) := by
      have := t59 0 (by rw [e]; decide)
      rw [td, if_neg (by omega), if_pos e] at this
      exact this
    rw [u0] at st
    obtain ⟨g2, e2, i2, f2, h61⟩ := comesHours_ (v := 10 * dv c (p + 1) + dv c (p + 2)) im (by omega)
    rw [res_1 e2 (by split <;> simp)] at st
    refine ⟨g2, (rI_of st).trans ?_, fun y => i2 (of_decide_eq_true y), f2, fun y => h61 (fun z => y (decide_eq_true z))⟩
    simp only [decide_eq_true_eq]
