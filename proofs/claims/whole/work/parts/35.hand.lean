/-! changes by hand, on the class's street at c and on the reference's; copies; hours on in mind -/
def zput (s : Sp) (i j : Nat) : Sp := (zW s, zT s, zK s, zF s, zO s, updN (zP s) i j, zN s, zB s, zL s)
def zsel (s : Sp) (i j : Nat) : Sp := (zW s, zT s, zK s, zF s, updN (zO s) i j, zP s, zN s, zB s, zL s)
def zkf (s : Sp) (i k f : Nat) : Sp := (zW s, zT s, updN (zK s) i k, updN (zF s) i f, zO s, zP s, zN s, zB s, zL s)
def znd (s : Sp) (j v : Nat) : Sp := (zW s, zT s, zK s, zF s, zO s, zP s, updN (zN s) j v, zB s, zL s)
def zbr (s : Sp) (a b : Nat) : Sp := (zW s, zT s, zK s, zF s, zO s, zP s, zN s, upd (zB s) a (zB s a ^^^ (1 <<< (nI b &&& 31))), zL s)
def zad (s : Sp) (k f o : Nat) : Sp := (zW s + 1, zT s, updN (zK s) (zW s) k, updN (zF s) (zW s) f, updN (zO s) (zW s) o, updN (zP s) (zW s) o, zN s, zB s, upd (zL s) (zW s) 0)
theorem nI_upd {f : Nat → Int32} {g : Nat → Nat} {i j x : Nat} (h : f j = nI (g j)) : upd f i (nI x) j = nI (updN g i x j) := by
  unfold updN
  by_cases e : j = i
  · rw [e, upd_at, if_pos rfl]
  · rw [upd_ne e, if_neg e]; exact h
theorem updN_le {g : Nat → Nat} {i x b j : Nat} (hx : x ≤ b) (h : g j ≤ b) : updN g i x j ≤ b := by
  unfold updN; split
  · exact hx
  · exact h
theorem updN_lt {g : Nat → Nat} {i x b j : Nat} (hx : x < b) (h : g j < b) : updN g i x j < b := by
  unfold updN; split
  · exact hx
  · exact h
theorem okS_put {s : Sp} (ok : okS s) {i j : Nat} (hj : j < 8) : okS (zput s i j) := ⟨ok.1, ok.2.1, fun k hk => ⟨(ok.2.2.1 k hk).1, (ok.2.2.1 k hk).2.1, (ok.2.2.1 k hk).2.2.1, updN_lt hj (ok.2.2.1 k hk).2.2.2⟩, ok.2.2.2⟩
theorem okS_sel {s : Sp} (ok : okS s) {i j : Nat} (hj : j < 8) : okS (zsel s i j) := ⟨ok.1, ok.2.1, fun k hk => ⟨(ok.2.2.1 k hk).1, (ok.2.2.1 k hk).2.1, updN_lt hj (ok.2.2.1 k hk).2.2.1, (ok.2.2.1 k hk).2.2.2⟩, ok.2.2.2⟩
theorem okS_kf {s : Sp} (ok : okS s) {i k f : Nat} (hk : k ≤ 5) (hf : f ≤ 9) : okS (zkf s i k f) := ⟨ok.1, ok.2.1, fun j hj => ⟨updN_le hk (ok.2.2.1 j hj).1, updN_le hf (ok.2.2.1 j hj).2.1, (ok.2.2.1 j hj).2.2.1, (ok.2.2.1 j hj).2.2.2⟩, ok.2.2.2⟩
theorem okS_nd {s : Sp} (ok : okS s) {j v : Nat} (hv : v ≤ 9) : okS (znd s j v) := ⟨ok.1, ok.2.1, ok.2.2.1, fun i hi => updN_le hv (ok.2.2.2 i hi)⟩
theorem okS_br {s : Sp} (ok : okS s) {a b : Nat} : okS (zbr s a b) := ⟨ok.1, ok.2.1, ok.2.2.1, ok.2.2.2⟩
theorem okS_ad {s : Sp} (ok : okS s) {k f o : Nat} (hk : k ≤ 5) (hf : f ≤ 9) (ho : o < 8) (hW : zW s < 7) : okS (zad s k f o) := ⟨hW, ok.2.1, fun j hj => ⟨updN_le hk (ok.2.2.1 j hj).1, updN_le hf (ok.2.2.1 j hj).2.1, updN_lt ho (ok.2.2.1 j hj).2.2.1, updN_lt ho (ok.2.2.1 j hj).2.2.2⟩, ok.2.2.2⟩
section
variable {h : ax_Hp} {c : Nat} {s : Sp} {w : Nat}
theorem takeTo_ {i j : Nat} (hc : isS c) (r : RB h c s w) (hi : i < zW s) (hj : j < 8) : ∃ h', rV m_X5_takeTo [.ref c, .int (nI i), .int (nI j)] h = some h' ∧ RC h' c (zput s i j) w ∧ Fr c h h' := by
  have E := e_X5_takeTo_0 hc (nI i) (nI j) h
  have hW := r.1.1
  simp (disch := omega) only [isWall_n hc r hi, isHouse_n hj, bnd, ax_10, if_false, g_in, cl_] at E
  have rb : RB (wI h (c + 4) i (nI j)) c (zput s i j) w := by
    obtain ⟨ok, hw, r0, r1, r2, rr, rn, rb⟩ := r
    refine ⟨okS_put ok hj, hw, ?_, ?_, ?_, ?_, ?_, ?_⟩ <;> simp (disch := omega) only [wI_ne, wI_at] <;> try assumption
    intro k hk
    exact ⟨(rr k hk).1, (rr k hk).2.1, (rr k hk).2.2.1, nI_upd (rr k hk).2.2.2.1, (rr k hk).2.2.2.2⟩
  obtain ⟨h', e, r', f', k'⟩ := weigh_ hc rb
  rw [e, bnd] at E
  exact ⟨h', rV_of E, r', ((Fr.refl c h).wI (by omega)).trans f'⟩
theorem sellTo_ {i j : Nat} (hc : isS c) (r : RC h c s w) (hi : i < zW s) (hj : j < 8) : ∃ h', rV m_X5_sellTo [.ref c, .int (nI i), .int (nI j)] h = some h' ∧ RC h' c (zsel s i j) w ∧ Fr c h h' := by
  have E := e_X5_sellTo_0 hc (nI i) (nI j) h
  have hW := r.1.1.1
  simp (disch := omega) only [isWall_n hc r.1 hi, isHouse_n hj, bnd, ax_10, if_false, g_in, cl_] at E
  refine ⟨_, rV_of E, ?_, (Fr.refl c h).wI (by omega)⟩
  obtain ⟨⟨ok, hw, r0, r1, r2, rr, rn, rb⟩, rc, rh⟩ := r
  refine ⟨⟨okS_sel ok hj, hw, ?_, ?_, ?_, ?_, ?_, ?_⟩, ?_, ?_⟩ <;> simp (disch := omega) only [wI_ne, wI_at] <;> try assumption
  intro k hk
  exact ⟨(rr k hk).1, (rr k hk).2.1, nI_upd (rr k hk).2.2.1, (rr k hk).2.2.2.1, (rr k hk).2.2.2.2⟩
theorem turnInto_ {i k f : Nat} (hc : isS c) (r : RB h c s w) (hi : i < zW s) (hk : k ≤ 5) (hf : f ≤ 9) : ∃ h', rV m_X5_turnInto [.ref c, .int (nI i), .int (nI k), .int (nI f)] h = some h' ∧ RC h' c (zkf s i k f) w ∧ Fr c h h' := by
  have E := e_X5_turnInto_0 hc (nI i) (nI k) (nI f) h
  have hW := r.1.1
  simp (disch := omega) only [isWall_n hc r hi, bnd, ax_10, if_false, g_in, cl_] at E
  have rb : RB (wI (wI h (c + 1) i (nI k)) (c + 2) i (nI f)) c (zkf s i k f) w := by
    obtain ⟨ok, hw, r0, r1, r2, rr, rn, rb⟩ := r
    refine ⟨okS_kf ok hk hf, hw, ?_, ?_, ?_, ?_, ?_, ?_⟩ <;> simp (disch := omega) only [wI_ne, wI_at] <;> try assumption
    intro j hj
    exact ⟨nI_upd (rr j hj).1, nI_upd (rr j hj).2.1, (rr j hj).2.2.1, (rr j hj).2.2.2.1, (rr j hj).2.2.2.2⟩
  obtain ⟨h', e, r', f', k'⟩ := weigh_ hc rb
  rw [e, bnd] at E
  exact ⟨h', rV_of E, r', (((Fr.refl c h).wI (by omega)).wI (by omega)).trans f'⟩
theorem setNeed_ {j p v : Nat} (hc : isS c) (r : RC h c s w) (hj : j < 8) (hp : p < 6) (hv : v ≤ 9) : ∃ h', rV m_X5_setNeed [.ref c, .int (nI j), .int (nI p), .int (nI v)] h = some h' ∧ RC h' c (znd s (6 * j + p) v) w ∧ Fr c h h' := by
  have E := e_X5_setNeed_0 hc (nI j) (nI p) (nI v) h
  simp (disch := omega) only [isHouse_n hj, bnd, ax_10, if_false, l6, mul_, add_] at E
  rw [if_neg (nI_pos (by omega)), if_neg (fun x => by
    have := (le_ (a := 6) (b := p) (by omega) (by omega)).mp x
    omega)] at E
  simp (disch := omega) only [g_in, cl_] at E
  rw [Nat.mul_comm j 6] at E
  refine ⟨_, rV_of E, ?_, (Fr.refl c h).wI (by omega)⟩
  obtain ⟨⟨ok, hw, r0, r1, r2, rr, rn, rb⟩, rc, rh⟩ := r
  refine ⟨⟨okS_nd ok hv, hw, ?_, ?_, ?_, ?_, ?_, ?_⟩, ?_, ?_⟩ <;> simp (disch := omega) only [wI_ne, wI_at] <;> try assumption
  intro k hk
  exact nI_upd (rn k hk)
theorem addWall_ {k f o : Nat} (hc : isS c) (r : RB h c s w) (hW7 : zW s < 7) (hk : k ≤ 5) (hf : f ≤ 9) (ho : o < 8) : ∃ h', rV m_X5_addWall [.ref c, .int (nI k), .int (nI f), .int (nI o)] h = some h' ∧ RC h' c (zad s k f o) w ∧ Fr c h h' := by
  have E := e_X5_addWall_0 hc (nI k) (nI f) (nI o) h
  obtain ⟨ok, hw, r0, r1, r2, rr, rn, rb⟩ := r
  simp (disch := omega) only [isHouse_n ho, bnd, ax_10, if_false, r0, g_in, cl_, l7, le_, l1, add_] at E
  rw [if_neg (by omega)] at E
  have rb : RB (wI (wI (wI (wI (wI (wI h c 0 (nI (zW s + 1))) (c + 1) (zW s) (nI k)) (c + 2) (zW s) (nI f)) (c + 3) (zW s) (nI o)) (c + 4) (zW s) (nI o)) (c + 5) (zW s) 0) c (zad s k f o) w := by
    refine ⟨okS_ad ok hk hf ho hW7, hw, ?_, ?_, ?_, ?_, ?_, ?_⟩ <;> simp (disch := omega) only [wI_ne, wI_at, upd_at, upd_ne] <;> try assumption
    · rfl
    · intro j hj
      refine ⟨nI_upd (rr j hj).1, nI_upd (rr j hj).2.1, nI_upd (rr j hj).2.2.1, nI_upd (rr j hj).2.2.2.1, ?_⟩
      show upd (h.1 (c + 5)) (zW s) 0 j = upd (zL s) (zW s) 0 j
      by_cases e : j = zW s
      · rw [e, upd_at, upd_at]
      · rw [upd_ne e, upd_ne e]; exact (rr j hj).2.2.2.2
  obtain ⟨h', e, r', f', k'⟩ := weigh_ hc rb
  rw [e, bnd] at E
  exact ⟨h', rV_of E, r', (((((((Fr.refl c h).wI (by omega)).wI (by omega)).wI (by omega)).wI (by omega)).wI (by omega)).wI (by omega)).trans f'⟩
end
theorem areTwo_n {a b : Nat} (ha : a < 8) (hb : b < 8) (hab : a ≠ b) (h : ax_Hp) : rI m_X7_areTwoHouses [.int (nI a), .int (nI b)] h = some (1, h) := by
  refine rI_of ((e_X7_areTwoHouses_0 _ _ h).trans ?_)
  simp (disch := omega) only [isHouse_n ha, isHouse_n hb, bnd, ax_10, if_false, eq_, hab]
theorem turnBar_ {h : ax_Hp} {c : Nat} {s : Sp} {w a b : Nat} (hc : isS c) (r : RC h c s w) (ha : a < 8) (hb : b < 8) (hab : a ≠ b) : ∃ h', rI m_X5_turnBar [.ref c, .int (nI a), .int (nI b)] h = some (if bitB (zB (zbr s a b) a) b = true then 1 else 0, h') ∧ RC h' c (zbr s a b) w ∧ Fr c h h' := by
  have E := e_X5_turnBar_0 hc (nI a) (nI b) h
  have hz : zB (zbr s a b) a = zB s a ^^^ (1 <<< (nI b &&& 31)) := upd_at _ _ _
  obtain ⟨⟨ok, hw, r0, r1, r2, rr, rn, rb⟩, rc, rh⟩ := r
  simp (disch := omega) only [areTwo_n ha hb hab, bnd, ax_10, if_false, g_in, cl_, wI_at, upd_at, rb a ha, hasBit_] at E
  refine ⟨_, rI_of (E.trans ?_), ?_, (Fr.refl c h).wI (k := c + 8) (i := a) (x := zB s a ^^^ (1 <<< (nI b &&& 31))) (by omega)⟩
  · rw [hz]
    cases bitB (zB s a ^^^ (1 <<< (nI b &&& 31))) b <;> simp [ax_10]
  · refine ⟨⟨okS_br ok, hw, ?_, ?_, ?_, ?_, ?_, ?_⟩, ?_, ?_⟩ <;> simp (disch := omega) only [wI_ne, wI_at] <;> try assumption
    intro k hk
    show upd (h.1 (c + 8)) a _ k = upd (zB s) a _ k
    by_cases e : k = a
    · rw [e, upd_at, upd_at]
    · rw [upd_ne e, upd_ne e]; exact rb k hk
/-! copies of streets -/
theorem RC_cp {h h' : ax_Hp} {a c : Nat} {s : Sp} {w : Nat} (e : ∀ j, 1 ≤ j → j ≤ 10 → h'.1 (c + j) = h.1 (a + j)) (e0 : h'.1 c 0 = h.1 a 0) (e1 : h'.1 c 1 = h.1 a 1) (e2 : h'.1 c 2 = h.1 a 2) (r : RC h a s w) : RC h' c s w := by
  unfold RC RB RK at r ⊢
  rw [e 1 (by omega) (by omega), e 2 (by omega) (by omega), e 3 (by omega) (by omega), e 4 (by omega) (by omega), e 5 (by omega) (by omega), e 7 (by omega) (by omega), e 8 (by omega) (by omega), e 9 (by omega) (by omega), e 10 (by omega) (by omega), e0, e1, e2]
  exact r
theorem cpA_ne {h : ax_Hp} {d s k : Nat} (hk : k ≠ d) : (cpA h d s).1 k = h.1 k := by simp [cpA, sA, hk]
theorem cpA_at (h : ax_Hp) (d s : Nat) : (cpA h d s).1 d = h.1 s := by simp [cpA, sA]
theorem copy_23_1 (h : ax_Hp) {s : Sp} {w : Nat} (r : RC h 1 s w) : ∃ h', rV m_X5_copyFrom [.ref 23, .ref 1] h = some h' ∧ RC h' 23 s w ∧ Fr 23 h h' := by
  refine ⟨_, rV_of (e_X5_copyFrom_0_k23_1 h), RC_cp ?_ ?_ ?_ ?_ r, rfl, ?_⟩
  · intro j h1 h2
    obtain rfl | rfl | rfl | rfl | rfl | rfl | rfl | rfl | rfl | rfl : j = 1 ∨ j = 2 ∨ j = 3 ∨ j = 4 ∨ j = 5 ∨ j = 6 ∨ j = 7 ∨ j = 8 ∨ j = 9 ∨ j = 10 := by omega
    all_goals simp (disch := omega) only [cpA_ne, cpA_at, wI_ne]
  · simp (disch := omega) only [cpA_ne, cpA_at, wI_ne, wI_at, upd_at, upd_ne]
  · simp (disch := omega) only [cpA_ne, cpA_at, wI_ne, wI_at, upd_at, upd_ne]
  · simp (disch := omega) only [cpA_ne, cpA_at, wI_ne, wI_at, upd_at, upd_ne]
  · intro k hk
    simp (disch := omega) only [cpA_ne, wI_ne]
theorem copy_12_1 (h : ax_Hp) {s : Sp} {w : Nat} (r : RC h 1 s w) : ∃ h', rV m_X5_copyFrom [.ref 12, .ref 1] h = some h' ∧ RC h' 12 s w ∧ Fr 12 h h' := by
  refine ⟨_, rV_of (e_X5_copyFrom_0_k12_1 h), RC_cp ?_ ?_ ?_ ?_ r, rfl, ?_⟩
  · intro j h1 h2
    obtain rfl | rfl | rfl | rfl | rfl | rfl | rfl | rfl | rfl | rfl : j = 1 ∨ j = 2 ∨ j = 3 ∨ j = 4 ∨ j = 5 ∨ j = 6 ∨ j = 7 ∨ j = 8 ∨ j = 9 ∨ j = 10 := by omega
    all_goals simp (disch := omega) only [cpA_ne, cpA_at, wI_ne]
  · simp (disch := omega) only [cpA_ne, cpA_at, wI_ne, wI_at, upd_at, upd_ne]
  · simp (disch := omega) only [cpA_ne, cpA_at, wI_ne, wI_at, upd_at, upd_ne]
  · simp (disch := omega) only [cpA_ne, cpA_at, wI_ne, wI_at, upd_at, upd_ne]
  · intro k hk
    simp (disch := omega) only [cpA_ne, wI_ne]
theorem copy_1_12 (h : ax_Hp) {s : Sp} {w : Nat} (r : RC h 12 s w) : ∃ h', rV m_X5_copyFrom [.ref 1, .ref 12] h = some h' ∧ RC h' 1 s w ∧ Fr 1 h h' := by
  refine ⟨_, rV_of (e_X5_copyFrom_0_k1_12 h), RC_cp ?_ ?_ ?_ ?_ r, rfl, ?_⟩
  · intro j h1 h2
    obtain rfl | rfl | rfl | rfl | rfl | rfl | rfl | rfl | rfl | rfl : j = 1 ∨ j = 2 ∨ j = 3 ∨ j = 4 ∨ j = 5 ∨ j = 6 ∨ j = 7 ∨ j = 8 ∨ j = 9 ∨ j = 10 := by omega
    all_goals simp (disch := omega) only [cpA_ne, cpA_at, wI_ne]
  · simp (disch := omega) only [cpA_ne, cpA_at, wI_ne, wI_at, upd_at, upd_ne]
  · simp (disch := omega) only [cpA_ne, cpA_at, wI_ne, wI_at, upd_at, upd_ne]
  · simp (disch := omega) only [cpA_ne, cpA_at, wI_ne, wI_at, upd_at, upd_ne]
  · intro k hk
    simp (disch := omega) only [cpA_ne, wI_ne]
theorem is23 : isS 23 := Or.inr rfl
theorem is1 : isS 1 := Or.inl rfl
theorem begin_ {h : ax_Hp} {s : Sp} {w : Nat} (r : RC h 1 s w) : ∃ h', rV m_X6_begin [.ref 43, .ref 1] h = some h' ∧ RC h' 23 s w ∧ Fr 23 h h' := by
  obtain ⟨h', e, r', f⟩ := copy_23_1 h r
  refine ⟨h', rV_of ((e_X6_begin_0 h).trans ?_), r', f⟩
  rw [e, bnd]
/-- n hours on -/
def zit (s : Sp) (w : Nat) : Nat → Sp
  | 0 => s
  | n + 1 => zhour (zit s w n) w
theorem zit_W (s : Sp) (w n : Nat) : zW (zit s w n) = zW s := by
  induction n with
  | zero => rfl
  | succ n ih => exact (zhour_W _ _).trans ih
theorem zit_T (s : Sp) (w n : Nat) : zT (zit s w n) = zT s + n := by
  induction n with
  | zero => rfl
  | succ n ih => rw [show zit s w (n + 1) = zhour (zit s w n) w from rfl, zhour_T, ih]; omega
theorem goOn_ {h : ax_Hp} {s : Sp} {w n : Nat} (r : RC h 23 s w) (hT : zT s + n < 1000000) : ∃ h', rV m_X6_goOn [.ref 43, .int (nI n)] h = some h' ∧ RC h' 23 (zit s w n) w ∧ Fr 23 h h' := by
  obtain ⟨h1, e1, r1, f1⟩ := ex_loop (fun x h => ax_run m_X6_goOn 2 [(0, .ref 43), (1, .int (nI n)), (2, .int x)] [] h) (fun k h' => RC h' 23 (zit s w k) w ∧ Fr 23 h h') n (by
    intro k a hk ⟨ra, fa⟩
    obtain ⟨a', e', r', f', _⟩ := passHour_ is23 ra (by rw [zit_T]; omega)
    refine ⟨a', ?_, r', fa.trans f'⟩
    show ax_run m_X6_goOn 2 _ [] a = _
    rw [e_X6_goOn_2, if_neg (fun x => by
      have := (le_ (a := n) (b := k) (by omega) (by omega)).mp x
      omega), e', bnd, l1, add_]) h (k0 := 0) ⟨r, Fr.refl 23 h⟩ (by omega)
  refine ⟨h1, rV_of ((e_X6_goOn_0 _ h).trans (e1.trans ?_)), r1, f1⟩
  show ax_run m_X6_goOn 2 _ [] h1 = _
  rw [e_X6_goOn_2]
  exact if_pos ((le_ (a := n) (b := n) (by omega) (by omega)).mpr (Nat.le_refl _))
theorem after_ {h : ax_Hp} {s : Sp} {w n : Nat} (r : RC h 1 s w) (hT : zT s + n < 1000000) : ∃ h', rA m_X6_after [.ref 43, .ref 1, .int (nI n)] h = some (23, h') ∧ RC h' 23 (zit s w n) w ∧ Fr 23 h h' := by
  obtain ⟨h1, e1, r1, f1⟩ := begin_ r
  obtain ⟨h2, e2, r2, f2⟩ := goOn_ r1 hT
  refine ⟨h2, rA_of ((e_X6_after_0 _ h).trans ?_), r2, f1.trans f2⟩
  rw [e1, bnd, e2, bnd]
/-- and of the reference -/
theorem goesN_ {h : ax_Hp} {s : Sp} {w : Nat} (r : RM h s w) (n : Nat) (hT : zT s + n < 1000000) :
    ∃ h', rV m_X8_goes_ [.ref 47, .int (nI n)] h = some h' ∧ RM h' (zit s w n) w ∧ Gh h h' ∧
      (∀ i, h'.1 61 i = if zT s < i ∧ i ≤ zT s + n ∧ i ≤ 999 then zseen (zit s w (i - zT s)) w else h.1 61 i) :=
  goesM_ r n hT (zit s w) rfl (fun _ => rfl)
theorem RM_put {h : ax_Hp} {s : Sp} {w i j : Nat} (r : RM h s w) (hj : j < 8) : RM (wI h 52 i (nI j)) (zput s i j) w := by
  obtain ⟨ok, hw, r0, r1, rr, rn, rb⟩ := r
  refine ⟨okS_put ok hj, ?_, ?_, ?_, ?_, ?_, ?_⟩ <;> simp (disch := omega) only [wI_ne, wI_at] <;> try assumption
  intro k hk
  exact ⟨(rr k hk).1, (rr k hk).2.1, (rr k hk).2.2.1, nI_upd (rr k hk).2.2.2.1, (rr k hk).2.2.2.2⟩
theorem RM_sel {h : ax_Hp} {s : Sp} {w i j : Nat} (r : RM h s w) (hj : j < 8) : RM (wI h 51 i (nI j)) (zsel s i j) w := by
  obtain ⟨ok, hw, r0, r1, rr, rn, rb⟩ := r
  refine ⟨okS_sel ok hj, ?_, ?_, ?_, ?_, ?_, ?_⟩ <;> simp (disch := omega) only [wI_ne, wI_at] <;> try assumption
  intro k hk
  exact ⟨(rr k hk).1, (rr k hk).2.1, nI_upd (rr k hk).2.2.1, (rr k hk).2.2.2.1, (rr k hk).2.2.2.2⟩
theorem RM_kf {h : ax_Hp} {s : Sp} {w i k f : Nat} (r : RM h s w) (hk : k ≤ 5) (hf : f ≤ 9) : RM (wI (wI h 49 i (nI k)) 50 i (nI f)) (zkf s i k f) w := by
  obtain ⟨ok, hw, r0, r1, rr, rn, rb⟩ := r
  refine ⟨okS_kf ok hk hf, ?_, ?_, ?_, ?_, ?_, ?_⟩ <;> simp (disch := omega) only [wI_ne, wI_at] <;> try assumption
  intro j hj
  exact ⟨nI_upd (rr j hj).1, nI_upd (rr j hj).2.1, (rr j hj).2.2.1, (rr j hj).2.2.2.1, (rr j hj).2.2.2.2⟩
theorem RM_nd {h : ax_Hp} {s : Sp} {w j v : Nat} (r : RM h s w) (hv : v ≤ 9) : RM (wI h 54 j (nI v)) (znd s j v) w := by
  obtain ⟨ok, hw, r0, r1, rr, rn, rb⟩ := r
  refine ⟨okS_nd ok hv, ?_, ?_, ?_, ?_, ?_, ?_⟩ <;> simp (disch := omega) only [wI_ne, wI_at] <;> try assumption
  intro k hk
  exact nI_upd (rn k hk)
theorem RM_br {h : ax_Hp} {s : Sp} {w a b : Nat} (r : RM h s w) : RM (wI h 55 a (zB s a ^^^ (1 <<< (nI b &&& 31)))) (zbr s a b) w := by
  obtain ⟨ok, hw, r0, r1, rr, rn, rb⟩ := r
  refine ⟨okS_br ok, ?_, ?_, ?_, ?_, ?_, ?_⟩ <;> simp (disch := omega) only [wI_ne, wI_at] <;> try assumption
  intro k hk
  show upd (h.1 55) a _ k = upd (zB s) a _ k
  by_cases e : k = a
  · rw [e, upd_at, upd_at]
  · rw [upd_ne e, upd_ne e]; exact rb k hk
