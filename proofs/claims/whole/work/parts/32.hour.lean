/-! an hour of the reference -/
/-- goes between the two that cough -/
def zbtw (s : Sp) (w i : Nat) (x y : Int32) : Bool := decide (zto s w i ≠ zP s i ∧ ((nI (zP s i) = x ∧ nI (zto s w i) = y) ∨ (nI (zP s i) = y ∧ nI (zto s w i) = x)))
/-- what an hour may change of the reference -/
def Gh (h h' : ax_Hp) : Prop := h'.2 = h.2 ∧ (∀ k, k ≠ 47 → k ≠ 52 → k ≠ 53 → k ≠ 61 → h'.1 k = h.1 k) ∧ ∀ i, i ≠ 9 → i ≠ 26 → h'.1 47 i = h.1 47 i
theorem Gh.refl (h : ax_Hp) : Gh h h := ⟨rfl, fun _ _ _ _ _ => rfl, fun _ _ _ => rfl⟩
theorem Gh.trans {h h1 h2 : ax_Hp} (a : Gh h h1) (b : Gh h1 h2) : Gh h h2 := ⟨b.1.trans a.1, fun k p q r t => (b.2.1 k p q r t).trans (a.2.1 k p q r t), fun i p q => (b.2.2 i p q).trans (a.2.2 i p q)⟩
theorem btw_ite {α : Type} {A B C D : Prop} [Decidable A] [Decidable B] [Decidable C] [Decidable D] (x y : α) : (if A then if B then x else if C then if D then x else y else y else if C then if D then x else y else y) = if (A ∧ B) ∨ (C ∧ D) then x else y := by
  by_cases a : A <;> by_cases b : B <;> by_cases c : C <;> by_cases d : D <;> simp [a, b, c, d]
theorem goesWall_ {h : ax_Hp} {s : Sp} {w i : Nat} (r : RM h s w) (hi : i < zW s) :
    ∃ h', rV m_X8_goesWall [.ref 47, .int (nI i)] h = some h' ∧ RM h' (zgo s w i) w ∧ Gh h h' ∧ h'.1 61 = h.1 61 ∧
      h'.1 47 26 = h.1 47 26 + (if zbtw s w i (h.1 47 24) (h.1 47 25) = true then 1 else 0) := by
  have ok := r.1
  have hW := ok.1
  have hto := zto_lt (w := w) ok (i := i) (by omega)
  have hP := (ok.2.2.1 i (by omega)).2.2.2
  have rr := r.2.2.2.2.1 i (by omega)
  have st := e_X8_goesWall_0 (nI i) h
  rw [whereTo_ r hi, bnd] at st
  simp (disch := omega) only [g_in, cl_] at st
  rw [rr.2.2.2.1] at st
  simp (disch := omega) only [wI_ne, rr.2.2.2.2] at st
  by_cases q : zto s w i = zP s i
  · rw [if_pos (by rw [q])] at st
    refine ⟨h, rV_of st, ?_, Gh.refl h, rfl, ?_⟩
    · rw [show zgo s w i = s from if_pos q]; exact r
    · have : zbtw s w i (h.1 47 24) (h.1 47 25) = false := by
        unfold zbtw; exact decide_eq_false (fun x => x.1 q)
      rw [this]
      simp
  · have q' : ¬ nI (zP s i) = nI (zto s w i) := fun x => q ((eq_ (by omega) (by omega)).mp x).symm
    rw [if_neg q'] at st
    have st2 : ax_run m_X8_goesWall 0 [(0, .ref 47), (1, .int (nI i))] [] h = some (none, wI (wI (wI h 47 26 (h.1 47 26 + (if zbtw s w i (h.1 47 24) (h.1 47 25) = true then 1 else 0))) 52 i (nI (zto s w i))) 53 i (zL s i + 1)) := by
      refine st.trans ?_
      rw [btw_ite]
      unfold zbtw
      simp only [decide_eq_true_eq, ne_eq, q, not_false_eq_true, true_and]
      split <;> rfl
    refine ⟨_, rV_of st2, ?_, ?_, ?_, ?_⟩
    · have hg : zgo s w i = (zW s, zT s, zK s, zF s, zO s, updN (zP s) i (zto s w i), zN s, zB s, upd (zL s) i (zL s i + 1)) := if_neg q
      have okg := okS_go (w := w) ok (i := i) (by omega)
      refine ⟨okg, ?_, ?_, ?_, ?_, ?_, ?_⟩
      · simp (disch := omega) only [wI_ne, wI_at, upd_ne]; exact r.2.1
      · simp (disch := omega) only [wI_ne, wI_at, upd_ne]; rw [zgo_W]; exact r.2.2.1
      · simp (disch := omega) only [wI_ne, wI_at, upd_ne]; rw [zgo_T]; exact r.2.2.2.1
      · intro j hj
        have rj := r.2.2.2.2.1 j hj
        simp (disch := omega) only [wI_ne, wI_at]
        rw [hg]
        refine ⟨rj.1, rj.2.1, rj.2.2.1, ?_, ?_⟩
        · show upd (h.1 52) i (nI (zto s w i)) j = nI (updN (zP s) i (zto s w i) j)
          unfold updN
          by_cases e : j = i
          · rw [e, upd_at, if_pos rfl]
          · rw [upd_ne e, if_neg e]; exact rj.2.2.2.1
        · show upd (h.1 53) i (zL s i + 1) j = upd (zL s) i (zL s i + 1) j
          by_cases e : j = i
          · rw [e, upd_at, upd_at]
          · rw [upd_ne e, upd_ne e]; exact rj.2.2.2.2
      · intro j hj
        simp (disch := omega) only [wI_ne]
        rw [r.2.2.2.2.2.1 j hj, hg]
      · intro j hj
        simp (disch := omega) only [wI_ne]
        rw [r.2.2.2.2.2.2 j hj, hg]
    · refine ⟨rfl, fun k a b c d => ?_, fun j a b => ?_⟩
      · simp (disch := omega) only [wI_ne]
      · simp (disch := omega) only [wI_ne, wI_at, upd_ne]
    · simp (disch := omega) only [wI_ne]
    · simp (disch := omega) only [wI_ne, wI_at, upd_at]
theorem seenNow_ {h : ax_Hp} {s : Sp} {w : Nat} (r : RM h s w) : rI m_X8_seenNow [.ref 47] h = some (zseen s w, h) := by
  refine rI_of ((e_X8_seenNow_0 h).trans ?_)
  refine (lp (fun k x => ax_run m_X8_seenNow 4 [(0, .ref 47), (1, .int x), (2, .int k)] [] h) (bm (fun j => decide (0 < zlack s w j))) 8 (fun k hk => ?_)).trans ?_
  · show ax_run m_X8_seenNow 4 _ [] h = _
    have hl := zlack_le r.1 r.w hk
    rw [e_X8_seenNow_4]
    simp (disch := omega) only [l8, le_]
    rw [if_neg (by omega), lacks_ r (by omega), bnd]
    simp (disch := omega) only [le0, bm, decide_eq_true_eq, l1, add_]
    by_cases q : 0 < zlack s w k
    · rw [if_neg (by omega), if_pos q]
    · rw [if_pos (by omega), if_neg q, Int32.or_zero]
  · show ax_run m_X8_seenNow 4 _ [] h = _
    rw [e_X8_seenNow_4]
    exact if_pos (by decide)
/-- how many of the first n walls go between x and y in this hour -/
def zbtws (s : Sp) (w : Nat) (x y : Int32) : Nat → Int32
  | 0 => 0
  | n + 1 => zbtws s w x y n + (if zbtw (zgos s w n) w n x y = true then 1 else 0)
def zcou (s : Sp) (w : Nat) (x y : Int32) : Int32 := zbtws (zT1 s) w x y (zW s)
theorem goesHour_ {h : ax_Hp} {s : Sp} {w : Nat} (r : RM h s w) (hT : zT s + 1 < 1000000) :
    ∃ h', rV m_X8_goesHour [.ref 47] h = some h' ∧ RM h' (zhour s w) w ∧ Gh h h' ∧
      h'.1 61 = (if zT s + 1 ≤ 999 then upd (h.1 61) (zT s + 1) (zseen (zhour s w) w) else h.1 61) ∧
      h'.1 47 26 = h.1 47 26 + zcou s w (h.1 47 24) (h.1 47 25) := by
  have hW := r.1.1
  have r1 : RM (wI h 47 9 (nI (zT s + 1))) (zT1 s) w := by
    refine ⟨okS_T1 r.1 hT, ?_, ?_, ?_, ?_, ?_, ?_⟩
    · simp (disch := omega) only [wI_at, upd_ne]; exact r.2.1
    · simp (disch := omega) only [wI_at, upd_ne]; exact r.2.2.1
    · simp (disch := omega) only [wI_at, upd_at]; rfl
    · intro i hi; simp (disch := omega) only [wI_ne]; exact r.2.2.2.2.1 i hi
    · intro i hi; simp (disch := omega) only [wI_ne]; exact r.2.2.2.2.2.1 i hi
    · intro i hi; simp (disch := omega) only [wI_ne]; exact r.2.2.2.2.2.2 i hi
  obtain ⟨h2, e2, r2, g2, p2, c2⟩ := ex_loop (fun x h => ax_run m_X8_goesHour 12 [(0, .ref 47), (1, .int x)] [] h) (fun k h' => RM h' (zgos (zT1 s) w k) w ∧ Gh h h' ∧ h'.1 61 = h.1 61 ∧ h'.1 47 26 = h.1 47 26 + zbtws (zT1 s) w (h.1 47 24) (h.1 47 25) k) (zW s) (by
    intro k a hk ⟨ra, ga, pa, ca⟩
    obtain ⟨a', e', r', g', p', c'⟩ := goesWall_ ra (i := k) (by rw [zgos_W]; exact hk)
    refine ⟨a', ?_, r', ga.trans g', p'.trans pa, ?_⟩
    · show ax_run m_X8_goesHour 12 _ [] a = _
      rw [e_X8_goesHour_12, ra.2.2.1, zgos_W]
      rw [if_neg (fun x => by
        have := (le_ (a := zW s) (b := k) (by omega) (by omega)).mp x
        omega), e', bnd, l1, add_]
    · rw [c', ca, ga.2.2 24 (by omega) (by omega), ga.2.2 25 (by omega) (by omega)]
      simp only [zbtws]
      rw [Int32.add_assoc]) (wI h 47 9 (nI (zT s + 1))) (k0 := 0) ⟨r1, ⟨rfl, fun k a _ _ _ => wI_ne a, fun i a _ => by simp (disch := omega) only [wI_at, upd_ne]⟩, by simp (disch := omega) only [wI_ne], by simp (disch := omega) only [wI_at, upd_ne, zbtws, Int32.add_zero]⟩ (by omega)
  have rz : RM h2 (zhour s w) w := r2
  have st := e_X8_goesHour_0 h
  rw [r.2.2.2.1, l1, add_] at st
  have st2 := st.trans e2
  have st3 := e_X8_goesHour_12 (nI (zW s)) h2
  rw [rz.2.2.1, zhour_W, if_pos ((le_ (a := zW s) (b := zW s) (by omega) (by omega)).mpr (Nat.le_refl _)), rz.2.2.2.1, zhour_T, show (999 : Int32) = nI 999 from rfl, seenNow_ rz, bnd] at st3
  simp (disch := omega) only [lt_, cl_] at st3
  by_cases q : zT s + 1 ≤ 999
  · rw [if_neg (by omega), in_nI (by omega) (by omega), g_true] at st3
    refine ⟨_, rV_of (st2.trans st3), ?_, ?_, ?_, ?_⟩
    · refine ⟨rz.1, ?_, ?_, ?_, ?_, ?_, ?_⟩
      · simp (disch := omega) only [wI_ne]; exact rz.2.1
      · simp (disch := omega) only [wI_ne]; exact rz.2.2.1
      · simp (disch := omega) only [wI_ne]; exact rz.2.2.2.1
      · intro i hi; simp (disch := omega) only [wI_ne]; exact rz.2.2.2.2.1 i hi
      · intro i hi; simp (disch := omega) only [wI_ne]; exact rz.2.2.2.2.2.1 i hi
      · intro i hi; simp (disch := omega) only [wI_ne]; exact rz.2.2.2.2.2.2 i hi
    · exact g2.trans ⟨rfl, fun k _ _ _ a => wI_ne a, fun i _ _ => by simp (disch := omega) only [wI_ne]⟩
    · rw [wI_at, if_pos q, p2]
    · simp (disch := omega) only [wI_ne]; exact c2
  · rw [if_pos (by omega)] at st3
    refine ⟨h2, rV_of (st2.trans st3), rz, g2, ?_, c2⟩
    rw [if_neg q]; exact p2
