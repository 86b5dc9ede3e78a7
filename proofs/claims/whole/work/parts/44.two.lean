/-! operations: two; hours gone by (by wip/whole/gen44.py) -/
/-- the pair k of the two who may take theirs back -/
def zpr (s : Sp) (a b k : Nat) : Sp := zput (zput s a (if k / 2 = 1 then zO s a else zP s a)) b (if k % 2 = 1 then zO s b else zP s b)
def eA (s : Sp) (a b n k : Nat) : Nat := zlack (zit (zpr s a b k) 0 n) 0 (zO s a)
def eB (s : Sp) (a b n k : Nat) : Nat := zlack (zit (zpr s a b k) 0 n) 0 (zO s b)
theorem zgo_O (s : Sp) (w i : Nat) : zO (zgo s w i) = zO s := by unfold zgo; split <;> rfl
theorem zgos_O (s : Sp) (w n : Nat) : zO (zgos s w n) = zO s := by
  induction n with
  | zero => rfl
  | succ n ih => exact (zgo_O _ _ _).trans ih
theorem zit_O (s : Sp) (w n : Nat) : zO (zit s w n) = zO s := by
  induction n with
  | zero => rfl
  | succ n ih => exact (zgos_O _ _ _).trans ih
theorem okS_pr {s : Sp} (ok : okS s) {a b k : Nat} (ha : a < 7) (hb : b < 7) : okS (zpr s a b k) := by
  refine okS_put (okS_put ok ?_) ?_
  · split
    · exact (ok.2.2.1 a ha).2.2.1
    · exact (ok.2.2.1 a ha).2.2.2
  · split
    · exact (ok.2.2.1 b hb).2.2.1
    · exact (ok.2.2.1 b hb).2.2.2
theorem e_le {s : Sp} (ok : okS s) {a b n k : Nat} (ha : a < 7) (hb : b < 7) (hT : zT s + n < 1000000) : eA s a b n k ≤ 11 ∧ eB s a b n k ≤ 11 :=
  ⟨zlack_le (okS_it (okS_pr ok ha hb) hT) (by omega) (ok.2.2.1 a ha).2.2.1, zlack_le (okS_it (okS_pr ok ha hb) hT) (by omega) (ok.2.2.1 b hb).2.2.1⟩
theorem pair_tail {g : ax_Hp} {s t : Sp} {a b n k : Nat} (r1 : RC g 1 s 0) (r : RC g 23 t 0) (ha : a < zW s) (hb : b < zW s) (hk : k < 4) (hT : zT t + n < 1000000) :
    ∃ g', (rV m_X6_goOn [.ref 43, .int (nI n)] g).bind (fun q4 => ax_g (ax_in (nI a) 7) ((rI m_X5_lackOf [.ref 23, .int (q4.1 4 (nI a).toNatClampNeg)] q4).bind (fun q5 => ax_g (ax_in (nI k) 4) (ax_g (ax_in (nI b) 7) ((rI m_X5_lackOf [.ref 23, .int ((wI q5.2 44 (nI k).toNatClampNeg q5.1).1 4 (nI b).toNatClampNeg)] (wI q5.2 44 (nI k).toNatClampNeg q5.1)).bind (fun q6 => ax_g (ax_in (nI k) 4) (ax_run m_X6_settledPair 3 [(0, .ref 43), (1, .ref 1), (2, .int (nI a)), (3, .int (nI b)), (4, .int (nI n)), (5, .int (nI k + 1))] [] (wI q6.2 45 (nI k).toNatClampNeg q6.1)))))))) = ax_run m_X6_settledPair 3 [(0, .ref 43), (1, .ref 1), (2, .int (nI a)), (3, .int (nI b)), (4, .int (nI n)), (5, .int (nI (k + 1)))] [] g' ∧ QC g g' ∧ g'.1 44 = upd (g.1 44) k (nI (zlack (zit t 0 n) 0 (zO s a))) ∧ g'.1 45 = upd (g.1 45) k (nI (zlack (zit t 0 n) 0 (zO s b))) := by
  have hW := r1.1.1.1
  obtain ⟨h1, e1, r2, f1⟩ := goOn_ (n := n) r hT
  have okA := (r1.1.1.2.2.1 a (by omega)).2.2.1
  have okB := (r1.1.1.2.2.1 b (by omega)).2.2.1
  have o1 : h1.1 4 a = nI (zO s a) := by rw [f1.2 4 (by omega)]; exact (r1.1.2.2.2.2.2.1 a (by omega)).2.2.1
  have o2 : h1.1 4 b = nI (zO s b) := by rw [f1.2 4 (by omega)]; exact (r1.1.2.2.2.2.2.1 b (by omega)).2.2.1
  have r3 : RC (wI h1 44 k (nI (zlack (zit t 0 n) 0 (zO s a)))) 23 (zit t 0 n) 0 := RC_of (fun c _ _ => wI_ne (by omega)) r2
  refine ⟨wI (wI h1 44 k (nI (zlack (zit t 0 n) 0 (zO s a)))) 45 k (nI (zlack (zit t 0 n) 0 (zO s b))), ?_, ?_, ?_, ?_⟩
  · rw [e1, bnd]
    simp (disch := omega) only [g_in, cl_, o1]
    rw [lackOf_ is23 r2 okA, bnd]
    simp (disch := omega) only [wI_ne, o2]
    rw [lackOf_ is23 r3 okB, bnd, nI_1]
  · exact (QC.fr f1).trans ⟨rfl, fun c hc => by simp (disch := omega) only [wI_ne]⟩
  · simp (disch := omega) only [wI_ne, wI_at]; rw [f1.2 44 (by omega)]
  · simp (disch := omega) only [wI_ne, wI_at]; rw [f1.2 45 (by omega)]
theorem zpr0 (s : Sp) (a b : Nat) : zpr s a b 0 = s := by
  unfold zpr
  rw [if_neg (by decide), if_neg (by decide), zput_self, zput_self]
theorem zpr1 (s : Sp) (a b : Nat) : zpr s a b 1 = zput s b (zO s b) := by
  unfold zpr
  rw [if_neg (by decide), if_pos (by decide), zput_self]
theorem zpr2 (s : Sp) {a b : Nat} (hab : a ≠ b) : zpr s a b 2 = zput s a (zO s a) := by
  unfold zpr
  rw [if_pos (by decide), if_neg (by decide)]
  have : zP s b = zP (zput s a (zO s a)) b := (updN_ne (fun e => hab e.symm)).symm
  rw [this, zput_self]
theorem zpr3 (s : Sp) (a b : Nat) : zpr s a b 3 = zput (zput s a (zO s a)) b (zO s b) := by
  unfold zpr
  rw [if_pos (by decide), if_pos (by decide)]
def xN2 (k : Nat) : Nat := if k < 2 then k + 2 else k - 2
def xN1 (k : Nat) : Nat := if k % 2 = 0 then k + 1 else k - 1
theorem xor2_ : ∀ k, k < 4 → nI k ^^^ 2 = nI (xN2 k) := by decide
theorem xor1_ : ∀ k, k < 4 → nI k ^^^ 1 = nI (xN1 k) := by decide
theorem xN_lt : ∀ k, k < 4 → xN2 k < 4 ∧ xN1 k < 4 := by decide
def pPair (f g : Nat → Nat) (k : Nat) : Bool := decide (f k ≤ f (xN2 k) ∧ g k ≤ g (xN1 k))
def sec_ (p : Nat → Bool) : Nat → Nat → Int32
  | 0, _ => -9
  | f + 1, k => if p k = true then nI (10 * (k / 2) + k % 2) else sec_ p f (k + 1)
theorem bits4 : ∀ k, k < 4 → (bitB (nI k) 1 = decide (k / 2 = 1)) ∧ (bitB (nI k) 0 = decide (k % 2 = 1)) := by decide
theorem two_ {h : ax_Hp} {s : Sp} {a b n : Nat} (r : RC h 1 s 0) (ha : a < zW s) (hb : b < zW s) (hab : a ≠ b) (hT : zT s + n < 1000000) :
    ∃ h', rI m_X6_settledPair [.ref 43, .ref 1, .int (nI a), .int (nI b), .int (nI n)] h = some (sec_ (pPair (eA s a b n) (eB s a b n)) 4 0, h') ∧ QC h h' := by
  have hW := r.1.1.1
  have ok := r.1.1
  have okA := (ok.2.2.1 a (by omega)).2.2.1
  have okB := (ok.2.2.1 b (by omega)).2.2.1
  obtain ⟨h3, e3, q3, a3⟩ := ex_loop (fun (k : Int32) (h : ax_Hp) => ax_run m_X6_settledPair 3 [(0, .ref 43), (1, .ref 1), (2, .int (nI a)), (3, .int (nI b)), (4, .int (nI n)), (5, .int k)] [] h) (fun k h' => QC h h' ∧ ∀ j, j < k → h'.1 44 j = nI (eA s a b n j) ∧ h'.1 45 j = nI (eB s a b n j)) 4 (by
    intro k g hk ⟨qg, ag⟩
    have rg : RC g 1 s 0 := RC_of (fun c _ _ => qg.2 c (by omega)) r
    obtain ⟨h1, e1, r1, f1⟩ := begin_ rg
    have rg1 : RC h1 1 s 0 := RC_of (fun c _ _ => f1.2 c (by omega)) rg
    have oa1 : h1.1 4 a = nI (zO s a) := (rg1.1.2.2.2.2.2.1 a (by omega)).2.2.1
    have ob1 : h1.1 4 b = nI (zO s b) := (rg1.1.2.2.2.2.2.1 b (by omega)).2.2.1
    have st := e_X6_settledPair_3 (nI a) (nI b) (nI n) (nI k) g
    have b1 : ∀ h : ax_Hp, rI m_X7_hasBit [.int (nI k), .int 1] h = some (if bitB (nI k) 1 = true then 1 else 0, h) := fun h => hasBit_ _ 1 h
    have b0 : ∀ h : ax_Hp, rI m_X7_hasBit [.int (nI k), .int 0] h = some (if bitB (nI k) 0 = true then 1 else 0, h) := fun h => hasBit_ _ 0 h
    rw [if_neg (fun x => by
        have := (le_ (a := 4) (b := k) (by omega) (by omega)).mp x
        omega), e1, bnd] at st
    simp only [b1, b0, (bits4 k hk).1, (bits4 k hk).2, bnd, decide_eq_true_eq] at st
    suffices key : ∃ g2, ax_run m_X6_settledPair 3 [(0, .ref 43), (1, .ref 1), (2, .int (nI a)), (3, .int (nI b)), (4, .int (nI n)), (5, .int (nI k))] [] g = ax_run m_X6_settledPair 3 [(0, .ref 43), (1, .ref 1), (2, .int (nI a)), (3, .int (nI b)), (4, .int (nI n)), (5, .int (nI (k + 1)))] [] g2 ∧ QC g g2 ∧ g2.1 44 = upd (g.1 44) k (nI (eA s a b n k)) ∧ g2.1 45 = upd (g.1 45) k (nI (eB s a b n k)) by
      obtain ⟨g2, e2, q2, x2, y2⟩ := key
      refine ⟨g2, e2, qg.trans q2, fun j hj => ?_⟩
      by_cases e : j = k
      · rw [x2, y2, e, upd_at, upd_at]; exact ⟨rfl, rfl⟩
      · rw [x2, y2, upd_ne e, upd_ne e]; exact ag j (by omega)
    have fin : ∀ (g1 : ax_Hp), RC g1 23 (zpr s a b k) 0 → Fr 23 h1 g1 → ∃ g2, (rV m_X6_goOn [.ref 43, .int (nI n)] g1).bind (fun q4 => ax_g (ax_in (nI a) 7) ((rI m_X5_lackOf [.ref 23, .int (q4.1 4 (nI a).toNatClampNeg)] q4).bind (fun q5 => ax_g (ax_in (nI k) 4) (ax_g (ax_in (nI b) 7) ((rI m_X5_lackOf [.ref 23, .int ((wI q5.2 44 (nI k).toNatClampNeg q5.1).1 4 (nI b).toNatClampNeg)] (wI q5.2 44 (nI k).toNatClampNeg q5.1)).bind (fun q6 => ax_g (ax_in (nI k) 4) (ax_run m_X6_settledPair 3 [(0, .ref 43), (1, .ref 1), (2, .int (nI a)), (3, .int (nI b)), (4, .int (nI n)), (5, .int (nI k + 1))] [] (wI q6.2 45 (nI k).toNatClampNeg q6.1)))))))) = ax_run m_X6_settledPair 3 [(0, .ref 43), (1, .ref 1), (2, .int (nI a)), (3, .int (nI b)), (4, .int (nI n)), (5, .int (nI (k + 1)))] [] g2 ∧ QC g g2 ∧ g2.1 44 = upd (g.1 44) k (nI (eA s a b n k)) ∧ g2.1 45 = upd (g.1 45) k (nI (eB s a b n k)) := by
      intro g1 t1 f2
      obtain ⟨g2, e2, q2, x2, y2⟩ := pair_tail (RC_of (fun c _ _ => f2.2 c (by omega)) rg1) t1 ha hb hk (n := n) hT
      refine ⟨g2, e2, ((QC.fr f1).trans (QC.fr f2)).trans q2, ?_, ?_⟩
      · rw [x2, f2.2 44 (by omega), f1.2 44 (by omega)]; rfl
      · rw [y2, f2.2 45 (by omega), f1.2 45 (by omega)]; rfl
    by_cases u : k / 2 = 1 <;> by_cases v : k % 2 = 1
    · obtain ⟨h4, e4, r4, f4⟩ := takeTo_ is23 r1.1 ha okA
      have ob4 : h4.1 4 b = nI (zO s b) := by rw [f4.2 4 (by omega)]; exact ob1
      obtain ⟨h5, e5, r5, f5⟩ := takeTo_ is23 r4.1 (i := b) (j := zO s b) hb okB
      obtain ⟨g2, e2, c2⟩ := fin h5 (by unfold zpr; rw [if_pos u, if_pos v]; exact r5) (f4.trans f5)
      refine ⟨g2, st.trans ?_, c2⟩
      simp only [u, v, if_true, ax_10, if_false]
      simp (disch := omega) only [g_in, cl_, oa1]
      rw [e4, bnd, ob4, e5, bnd]
      simp (disch := omega) only [g_in, cl_] at e2 ⊢
      exact e2
    · obtain ⟨h4, e4, r4, f4⟩ := takeTo_ is23 r1.1 ha okA
      obtain ⟨g2, e2, c2⟩ := fin h4 (by
        have : zP s b = zP (zput s a (zO s a)) b := (updN_ne (fun e => hab e.symm)).symm
        unfold zpr; rw [if_pos u, if_neg v, this, zput_self]; exact r4) f4
      refine ⟨g2, st.trans ?_, c2⟩
      simp only [u, v, if_true, ax_10, if_false]
      simp (disch := omega) only [g_in, cl_, oa1]
      rw [e4, bnd]
      simp (disch := omega) only [g_in, cl_] at e2 ⊢
      exact e2
    · obtain ⟨h4, e4, r4, f4⟩ := takeTo_ is23 r1.1 hb okB
      obtain ⟨g2, e2, c2⟩ := fin h4 (by unfold zpr; rw [if_neg u, if_pos v, zput_self]; exact r4) f4
      refine ⟨g2, st.trans ?_, c2⟩
      simp only [u, v, if_true, ax_10, if_false]
      simp (disch := omega) only [g_in, cl_, ob1]
      rw [e4, bnd]
      simp (disch := omega) only [g_in, cl_] at e2 ⊢
      exact e2
    · obtain ⟨g2, e2, c2⟩ := fin h1 (by unfold zpr; rw [if_neg u, if_neg v, zput_self, zput_self]; exact r1) (Fr.refl 23 h1)
      refine ⟨g2, st.trans ?_, c2⟩
      simp only [u, v, if_true, if_false]
      exact e2) h (k0 := 0) ⟨QC.refl h, fun j hj => by omega⟩ (by omega)
  have key : ∀ f k, k + f = 4 → ax_run m_X6_settledPair 115 [(0, .ref 43), (5, .int (nI k))] [] h3 = some (some (.int (sec_ (pPair (eA s a b n) (eB s a b n)) f k)), h3) := by
    intro f
    induction f with
    | zero =>
      intro k hk
      rw [e_X6_settledPair_115, if_pos (show (4 : Int32) ≤ nI k from (le_ (a := 4) (b := k) (by omega) (by omega)).mpr (by omega))]
      rfl
    | succ f ih =>
      intro k hk
      have x := xN_lt k (by omega)
      have la : ∀ j, eA s a b n j ≤ 11 := fun j => (e_le ok (by omega) (by omega) hT).1
      have lb : ∀ j, eB s a b n j ≤ 11 := fun j => (e_le ok (by omega) (by omega) hT).2
      have := la k; have := lb k; have := la (xN2 k); have := lb (xN1 k)
      rw [e_X6_settledPair_115, if_neg (fun x => by
        have := (le_ (a := 4) (b := k) (by omega) (by omega)).mp x
        omega), xor2_ k (by omega), xor1_ k (by omega)]
      simp (disch := omega) only [g_in, cl_]
      rw [(a3 k (by omega)).1, (a3 _ x.1).1, (a3 k (by omega)).2, (a3 _ x.2).2]
      simp (disch := omega) only [lt_, nI_1]
      simp only [sec_, pPair, decide_eq_true_eq]
      by_cases q1 : eA s a b n (xN2 k) < eA s a b n k
      · rw [if_pos q1, if_neg (by omega)]; exact ih (k + 1) (by omega)
      · by_cases q2 : eB s a b n (xN1 k) < eB s a b n k
        · rw [if_neg q1, if_pos q2, if_neg (by omega)]; exact ih (k + 1) (by omega)
        · rw [if_neg q1, if_neg q2, if_pos (by omega), l2, rem_ (by omega) (by omega) (by omega), div_ (by omega) (by omega) (by omega), l10, mul_, add_]
  refine ⟨h3, rI_of ((e_X6_settledPair_0 _ _ _ h).trans (e3.trans ?_)), q3⟩
  show ax_run m_X6_settledPair 3 [(0, .ref 43), (1, .ref 1), (2, .int (nI a)), (3, .int (nI b)), (4, .int (nI n)), (5, .int (nI 4))] [] h3 = _
  rw [e_X6_settledPair_3, if_pos (by decide)]
  exact key 4 0 (by omega)
theorem QI_62 {h h1 : ax_Hp} {s t : Sp} {w i : Nat} {x : Int32} (q : QI h h1 s t w) : QI h (wI h1 62 i x) s t w := by
  obtain ⟨a1, a2, a3, a4, a5, a6, a7, a8, a9, a10, a11, a12⟩ := q
  refine ⟨a1, fun k hk => (wI_ne (by omega)).trans (a2 k hk), RM_of (fun c _ _ => wI_ne (by omega)) (by rw [wI_ne (by omega)]) (by rw [wI_ne (by omega)]) (by rw [wI_ne (by omega)]) a3, KP_of (fun p _ _ => by rw [wI_ne (by omega)]) a4, ?_, ?_, ?_, ?_, ?_, ?_, a11, a12⟩ <;> (rw [wI_ne (by omega)]; assumption)
theorem ends_tail {h g : ax_Hp} {s t : Sp} {a b n k : Nat} (q : QI h g s t 0) (hO : zO t = zO s) (ha : a < zW s) (hb : b < zW s) (hk : k < 4) (hT : zT t + n < 1000000) :
    ∃ g', (rV m_X8_goes_ [.ref 47, .int (nI n)] g).bind (fun q14 => ax_g (ax_in (nI a) 7) ((rI m_X8_lacks [.ref 47, .int (q14.1 51 (nI a).toNatClampNeg)] q14).bind (fun q15 => ax_g (ax_in (2 * nI k) 8) (ax_g (ax_in (nI b) 7) ((rI m_X8_lacks [.ref 47, .int ((wI q15.2 62 (2 * nI k).toNatClampNeg q15.1).1 51 (nI b).toNatClampNeg)] (wI q15.2 62 (2 * nI k).toNatClampNeg q15.1)).bind (fun q16 => ax_g (ax_in ((2 * nI k) + 1) 8) ((rV m_X8_forgets [.ref 47] (wI q16.2 62 ((2 * nI k) + 1).toNatClampNeg q16.1)).bind (fun q17 => ax_run m_X8_findEnds 3 [(0, .ref 47), (1, .int (nI a)), (2, .int (nI b)), (3, .int (nI n)), (4, .int (nI k + 1))] [] q17)))))))) = ax_run m_X8_findEnds 3 [(0, .ref 47), (1, .int (nI a)), (2, .int (nI b)), (3, .int (nI n)), (4, .int (nI (k + 1)))] [] g' ∧ QM h g' s ∧ g'.1 62 = upd (upd (g.1 62) (2 * k) (nI (zlack (zit t 0 n) 0 (zO s a)))) (2 * k + 1) (nI (zlack (zit t 0 n) 0 (zO s b))) := by
  have hW := q.2.2.2.2.2.2.2.2.2.2.2.1
  obtain ⟨h1, e1, q1, _, c1⟩ := QI_hours (n := n) q hT
  have ok := q.2.2.2.2.2.2.2.2.2.2.2
  have okA := (ok.2.2.1 a (by omega)).2.2.1
  have okB := (ok.2.2.1 b (by omega)).2.2.1
  have o1 : h1.1 51 a = nI (zO s a) := by rw [(q1.2.2.1.2.2.2.2.1 a (by omega)).2.2.1, zit_O, hO]
  have o2 : h1.1 51 b = nI (zO s b) := by rw [(q1.2.2.1.2.2.2.2.1 b (by omega)).2.2.1, zit_O, hO]
  have q2 : QI h (wI h1 62 (2 * k) (nI (zlack (zit t 0 n) 0 (zO s a)))) s (zit t 0 n) 0 := QI_62 q1
  have q3 : QI h (wI (wI h1 62 (2 * k) (nI (zlack (zit t 0 n) 0 (zO s a)))) 62 (2 * k + 1) (nI (zlack (zit t 0 n) 0 (zO s b)))) s (zit t 0 n) 0 := QI_62 q2
  obtain ⟨h4, e4, q4, _, c4⟩ := QI_forgets q3
  refine ⟨h4, ?_, q4, ?_⟩
  · rw [e1, bnd, l2, mul_, nI_1]
    simp (disch := omega) only [g_in, cl_, o1]
    rw [lacks_ q1.2.2.1 okA, bnd]
    simp (disch := omega) only [wI_ne, o2]
    rw [lacks_ q2.2.2.1 okB, bnd]
    simp only []
    rw [e4, bnd, nI_1]
  · rw [c4, wI_at, wI_at, c1]
theorem RM_same {h : ax_Hp} {s : Sp} {w i : Nat} (r : RM h s w) : h.1 52 i = h.1 52 i := rfl
theorem endsM_ {h : ax_Hp} {s : Sp} {a b n : Nat} (r : RM h s 0) (ha : a < zW s) (hb : b < zW s) (hab : a ≠ b) (hT : zT s + n < 1000000) :
    ∃ h', rV m_X8_findEnds [.ref 47, .int (nI a), .int (nI b), .int (nI n)] h = some h' ∧ QM h h' s ∧ ∀ j, j < 4 → h'.1 62 (2 * j) = nI (eA s a b n j) ∧ h'.1 62 (2 * j + 1) = nI (eB s a b n j) := by
  have hW := r.1.1
  have ok := r.1
  obtain ⟨h3, e3, q3, a3⟩ := ex_loop (fun (k : Int32) (h : ax_Hp) => ax_run m_X8_findEnds 3 [(0, .ref 47), (1, .int (nI a)), (2, .int (nI b)), (3, .int (nI n)), (4, .int k)] [] h) (fun k h' => QM h h' s ∧ ∀ j, j < k → h'.1 62 (2 * j) = nI (eA s a b n j) ∧ h'.1 62 (2 * j + 1) = nI (eB s a b n j)) 4 (by
    intro k g hk ⟨qg, ag⟩
    obtain ⟨h1, e1, q1, _, c1⟩ := QI_minds qg.2.2.1
    have pa := (q1.2.2.1.2.2.2.2.1 a (by omega))
    have pb := (q1.2.2.1.2.2.2.2.1 b (by omega))
    have va : (if k / 2 = 1 then zO s a else zP s a) < 8 := by
      split
      · exact (ok.2.2.1 a (by omega)).2.2.1
      · exact (ok.2.2.1 a (by omega)).2.2.2
    have vb : (if k % 2 = 1 then zO s b else zP s b) < 8 := by
      split
      · exact (ok.2.2.1 b (by omega)).2.2.1
      · exact (ok.2.2.1 b (by omega)).2.2.2
    have q2 : QI g (wI (wI h1 52 a (nI (if k / 2 = 1 then zO s a else zP s a))) 52 b (nI (if k % 2 = 1 then zO s b else zP s b))) s (zpr s a b k) 0 := QI_put (QI_put q1 va) vb
    obtain ⟨g2, e2, qm, x2⟩ := ends_tail q2 rfl ha hb hk (n := n) hT
    refine ⟨g2, ?_, qg.trans qm, fun j hj => ?_⟩
    · show ax_run m_X8_findEnds 3 [(0, .ref 47), (1, .int (nI a)), (2, .int (nI b)), (3, .int (nI n)), (4, .int (nI k))] [] g = _
      have p1 : (upd (h1.1 52) a (nI (zO s a))) b = nI (zP s b) := by rw [upd_ne (fun e => hab e.symm)]; exact pb.2.2.2.1
      have p2 : (upd (h1.1 52) a (nI (zP s a))) b = nI (zP s b) := by rw [upd_ne (fun e => hab e.symm)]; exact pb.2.2.2.1
      rw [e_X8_findEnds_3, if_neg (fun x => by
        have := (le_ (a := 4) (b := k) (by omega) (by omega)).mp x
        omega), e1, bnd]
      simp (disch := omega) only [g_in, cl_, wI_ne, wI_at, pa.2.2.1, pb.2.2.1, pa.2.2.2.1, p1, p2]
      have c1 : (nI k / 2 = 1) = (k / 2 = 1) := propext (by rw [show nI k / 2 = nI (k / 2) from div_ (d := 2) (by omega) (by omega) (by omega)]; exact eq_ (b := 1) (by omega) (by omega))
      have c2 : (nI k - nI k / 2 * 2 = 1) = (k % 2 = 1) := propext (by rw [show nI k - nI k / 2 * 2 = nI (k % 2) from rem_ (d := 2) (by omega) (by omega) (by omega)]; exact eq_ (b := 1) (by omega) (by omega))
      simp only [c1, c2]
      by_cases u : k / 2 = 1 <;> by_cases v : k % 2 = 1 <;> simp (disch := omega) only [u, v, if_true, if_false, g_in, cl_] at e2 ⊢ <;> exact e2
    · have c62 : ∀ j, j ≠ 2 * k → j ≠ 2 * k + 1 → g2.1 62 j = g.1 62 j := fun j h1 h2 => by
        rw [x2, upd_ne h2, upd_ne h1]
        simp (disch := omega) only [wI_ne]
        rw [c1]
      by_cases e : j = k
      · subst e
        rw [x2, upd_at, upd_ne (by omega), upd_at]; exact ⟨rfl, rfl⟩
      · rw [c62 _ (by omega) (by omega), c62 _ (by omega) (by omega)]; exact ag j (by omega)) h (k0 := 0) ⟨QM.refl r, fun j hj => by omega⟩ (by omega)
  refine ⟨h3, rV_of ((e_X8_findEnds_0 _ _ _ h).trans (e3.trans ?_)), q3, a3⟩
  show ax_run m_X8_findEnds 3 [(0, .ref 47), (1, .int (nI a)), (2, .int (nI b)), (3, .int (nI n)), (4, .int (nI 4))] [] h3 = _
  rw [e_X8_findEnds_3, if_pos (by decide)]
theorem twoM_ {h3 : ax_Hp} {s : Sp} {a b n : Nat} (ok : okS s) (ha : a < zW s) (hb : b < zW s) (hT : zT s + n < 1000000) (a3 : ∀ j, j < 4 → h3.1 62 (2 * j) = nI (eA s a b n j) ∧ h3.1 62 (2 * j + 1) = nI (eB s a b n j)) :
    ∀ f k, k + f = 4 → ax_run m_X8_two 56 [(0, .ref 47), (5, .int (nI k))] [] h3 = some (some (.int (sec_ (pPair (eA s a b n) (eB s a b n)) f k)), h3) := by
  have hW := ok.1
  intro f
  induction f with
  | zero =>
    intro k hk
    rw [e_X8_two_56, if_pos (show (4 : Int32) ≤ nI k from (le_ (a := 4) (b := k) (by omega) (by omega)).mpr (by omega))]
    rfl
  | succ f ih =>
    intro k hk
    have x := xN_lt k (by omega)
    have la : ∀ j, eA s a b n j ≤ 11 := fun j => (e_le ok (by omega) (by omega) hT).1
    have lb : ∀ j, eB s a b n j ≤ 11 := fun j => (e_le ok (by omega) (by omega) hT).2
    have := la k; have := lb k; have := la (xN2 k); have := lb (xN1 k)
    have st := e_X8_two_56 (nI k) h3
    rw [if_neg (fun x => by
        have := (le_ (a := 4) (b := k) (by omega) (by omega)).mp x
        omega), xor2_ k (by omega), xor1_ k (by omega)] at st
    have r1 : nI k - nI k / 2 * 2 = nI (k % 2) := rem_ (d := 2) (by omega) (by omega) (by omega)
    have r2 : nI k / 2 = nI (k / 2) := div_ (d := 2) (by omega) (by omega) (by omega)
    rw [r1, r2, l10, l2] at st
    simp (disch := omega) only [mul_, add_, nI_1, g_in, cl_] at st
    rw [(a3 k (by omega)).1, (a3 _ x.1).1, (a3 k (by omega)).2, (a3 _ x.2).2] at st
    simp (disch := omega) only [lt_] at st
    rw [st]
    simp only [sec_, pPair, decide_eq_true_eq]
    by_cases q1 : eA s a b n (xN2 k) < eA s a b n k
    · rw [if_pos q1, if_neg (by omega)]; exact ih (k + 1) (by omega)
    · by_cases q2 : eB s a b n (xN1 k) < eB s a b n k
      · rw [if_neg q1, if_pos q2, if_neg (by omega)]; exact ih (k + 1) (by omega)
      · rw [if_neg q1, if_neg q2, if_pos (by omega)]
theorem op_two {h : ax_Hp} {A : Ab} (oa : okA A) (ic : IC h A) (im : IM h A) (x1 x2 x3 : Int32) : OP m_X7_two m_X8_two [.int x1, .int x2, .int x3] h := by
  have hW := ic.1.1.1.1
  by_cases hw : 0 ≤ x1 ∧ x1 < nI (zW (bS A))
  · by_cases hx : 0 ≤ x2 ∧ x2 < nI (zW (bS A))
    · by_cases he : x1 = x2
      · subst he
        exact OP_no (x := -1) 1 (by omega) oa ic im (rI_of ((e_X7_two_0 _ _ _ h).trans (by simp only [isWall_ is1 ic.1.1, isHouse_, outs_, bnd, no1, no2, no3, no4, no6, lo1, lo2, lo4, lo6, if_true, if_false, ax_10, ax_n4, ax_n6, and_self, eq_self, hw, hx]))) (fun h1 m => rI_of ((e_X8_two_0 _ _ _ h1).trans (by simp only [isWallM_ m.1, isHouseM_, outsM_, isIn_, notH_, bnd, mo1, mo2, mo3, mo4, mo6, ml1, ml2, ml4, ml6, if_true, if_false, ax_10, ax_n4, ax_n6, and_self, eq_self, hw, hx])))
      · by_cases ha : 0 ≤ x3
        · by_cases hb : x3 ≤ 30
          · obtain ⟨a, ha1, rfl⟩ := of_in hw.1 hw.2 (by omega)
            obtain ⟨b, hb1, rfl⟩ := of_in hx.1 hx.2 (by omega)
            obtain ⟨n, _, hn, rfl⟩ := in_n (m := 0) (n := 30) rfl rfl ha hb (by omega) (by omega)
            have hab : a ≠ b := fun e => he (by rw [e])
            have hT : zT (bS A) + n < 1000000 := tbig oa.1 (by omega)
            refine OP_q (v := sec_ (pPair (eA (bS A) a b n) (eB (bS A) a b n)) 4 0) oa ic im ?_ (fun h1 m => ?_)
            · obtain ⟨h1, e1, q1⟩ := two_ (n := n) ic.1 ha1 hb1 hab hT
              refine ⟨h1, rI_of ((e_X7_two_0 _ _ _ h).trans ?_), q1⟩
              simp only [isWall_ is1 ic.1.1, hw, hx, he, and_self, outs_, ha, hb, if_true, ax_10, if_false, bnd, e1]
            · obtain ⟨h2, e2, q2, a2⟩ := endsM_ (n := n) m.1 ha1 hb1 hab hT
              refine ⟨h2, rI_of ((e_X8_two_0 _ _ _ h1).trans ?_), q2⟩
              simp only [isWallM_ m.1, hw, hx, he, and_self, outsM_, ha, hb, if_true, ax_10, if_false, bnd, e2]
              exact twoM_ m.1.1 ha1 hb1 hT a2 4 0 (by omega)
          · exact OP_no (x := -6) 6 (by omega) oa ic im (rI_of ((e_X7_two_0 _ _ _ h).trans (by simp only [isWall_ is1 ic.1.1, isHouse_, outs_, bnd, no1, no2, no3, no4, no6, lo1, lo2, lo4, lo6, if_true, if_false, ax_10, ax_n4, ax_n6, and_self, hw, hx, he, ha, hb]))) (fun h1 m => rI_of ((e_X8_two_0 _ _ _ h1).trans (by simp only [isWallM_ m.1, isHouseM_, outsM_, isIn_, notH_, bnd, mo1, mo2, mo3, mo4, mo6, ml1, ml2, ml4, ml6, if_true, if_false, ax_10, ax_n4, ax_n6, and_self, hw, hx, he, ha, hb])))
        · exact OP_no (x := -4) 4 (by omega) oa ic im (rI_of ((e_X7_two_0 _ _ _ h).trans (by simp only [isWall_ is1 ic.1.1, isHouse_, outs_, bnd, no1, no2, no3, no4, no6, lo1, lo2, lo4, lo6, if_true, if_false, ax_10, ax_n4, ax_n6, and_self, hw, hx, he, ha]))) (fun h1 m => rI_of ((e_X8_two_0 _ _ _ h1).trans (by simp only [isWallM_ m.1, isHouseM_, outsM_, isIn_, notH_, bnd, mo1, mo2, mo3, mo4, mo6, ml1, ml2, ml4, ml6, if_true, if_false, ax_10, ax_n4, ax_n6, and_self, hw, hx, he, ha])))
    · exact OP_no (x := -1) 1 (by omega) oa ic im (rI_of ((e_X7_two_0 _ _ _ h).trans (by simp only [isWall_ is1 ic.1.1, isHouse_, outs_, bnd, no1, no2, no3, no4, no6, lo1, lo2, lo4, lo6, if_true, if_false, ax_10, ax_n4, ax_n6, and_self, hw, hx]))) (fun h1 m => rI_of ((e_X8_two_0 _ _ _ h1).trans (by simp only [isWallM_ m.1, isHouseM_, outsM_, isIn_, notH_, bnd, mo1, mo2, mo3, mo4, mo6, ml1, ml2, ml4, ml6, if_true, if_false, ax_10, ax_n4, ax_n6, and_self, hw, hx])))
  · exact OP_no (x := -1) 1 (by omega) oa ic im (rI_of ((e_X7_two_0 _ _ _ h).trans (by simp only [isWall_ is1 ic.1.1, isHouse_, outs_, bnd, no1, no2, no3, no4, no6, lo1, lo2, lo4, lo6, if_true, if_false, ax_10, ax_n4, ax_n6, and_self, hw]))) (fun h1 m => rI_of ((e_X8_two_0 _ _ _ h1).trans (by simp only [isWallM_ m.1, isHouseM_, outsM_, isIn_, notH_, bnd, mo1, mo2, mo3, mo4, mo6, ml1, ml2, ml4, ml6, if_true, if_false, ax_10, ax_n4, ax_n6, and_self, hw])))
