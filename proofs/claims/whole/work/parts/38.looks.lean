/-! bits as numbers; looks of the reference; hours go by in both -/
theorem sl_ : ∀ n, n < 32 → ((nI n &&& 31).toBitVec.smod 32).toNat = n := by decide +kernel
theorem shr_ {n k : Nat} (hn : n < 2147483648) (hk : k < 32) : nI n >>> (nI k &&& 31) = nI (n / 2 ^ k) := pk_shrN hn _ k (sl_ k hk)
theorem and1_ {n : Nat} (hn : n < 4294967296) : nI n &&& 1 = nI (n % 2) := pk_andN hn 1 rfl
/-- how many bits, of 8 -/
def pcN (n : Nat) : Nat := smN 8 (fun k => n / 2 ^ k % 2)
theorem pcN_31 : ∀ n, n < 256 → smN 31 (fun k => n / 2 ^ k % 2) = pcN n := by decide +kernel
theorem pcN_le (n : Nat) : pcN n ≤ 8 := smN_le (b := 1) (fun k _ => by omega)
set_option maxRecDepth 100000 in
theorem bc_ : ∀ n, n < 256 → (((((((((nI n) - ((((nI n).toUInt32 >>> ((1 : Int32).toUInt32 &&& Int32.toUInt32 31)).toInt32) &&& 1431655765)) &&& 858993459) + (((((nI n) - ((((nI n).toUInt32 >>> ((1 : Int32).toUInt32 &&& Int32.toUInt32 31)).toInt32) &&& 1431655765)).toUInt32 >>> ((2 : Int32).toUInt32 &&& Int32.toUInt32 31)).toInt32) &&& 858993459)) + ((((((nI n) - ((((nI n).toUInt32 >>> ((1 : Int32).toUInt32 &&& Int32.toUInt32 31)).toInt32) &&& 1431655765)) &&& 858993459) + (((((nI n) - ((((nI n).toUInt32 >>> ((1 : Int32).toUInt32 &&& Int32.toUInt32 31)).toInt32) &&& 1431655765)).toUInt32 >>> ((2 : Int32).toUInt32 &&& Int32.toUInt32 31)).toInt32) &&& 858993459)).toUInt32 >>> ((4 : Int32).toUInt32 &&& Int32.toUInt32 31)).toInt32)) &&& 252645135) + ((((((((nI n) - ((((nI n).toUInt32 >>> ((1 : Int32).toUInt32 &&& Int32.toUInt32 31)).toInt32) &&& 1431655765)) &&& 858993459) + (((((nI n) - ((((nI n).toUInt32 >>> ((1 : Int32).toUInt32 &&& Int32.toUInt32 31)).toInt32) &&& 1431655765)).toUInt32 >>> ((2 : Int32).toUInt32 &&& Int32.toUInt32 31)).toInt32) &&& 858993459)) + ((((((nI n) - ((((nI n).toUInt32 >>> ((1 : Int32).toUInt32 &&& Int32.toUInt32 31)).toInt32) &&& 1431655765)) &&& 858993459) + (((((nI n) - ((((nI n).toUInt32 >>> ((1 : Int32).toUInt32 &&& Int32.toUInt32 31)).toInt32) &&& 1431655765)).toUInt32 >>> ((2 : Int32).toUInt32 &&& Int32.toUInt32 31)).toInt32) &&& 858993459)).toUInt32 >>> ((4 : Int32).toUInt32 &&& Int32.toUInt32 31)).toInt32)) &&& 252645135).toUInt32 >>> ((8 : Int32).toUInt32 &&& Int32.toUInt32 31)).toInt32)) + (((((((((nI n) - ((((nI n).toUInt32 >>> ((1 : Int32).toUInt32 &&& Int32.toUInt32 31)).toInt32) &&& 1431655765)) &&& 858993459) + (((((nI n) - ((((nI n).toUInt32 >>> ((1 : Int32).toUInt32 &&& Int32.toUInt32 31)).toInt32) &&& 1431655765)).toUInt32 >>> ((2 : Int32).toUInt32 &&& Int32.toUInt32 31)).toInt32) &&& 858993459)) + ((((((nI n) - ((((nI n).toUInt32 >>> ((1 : Int32).toUInt32 &&& Int32.toUInt32 31)).toInt32) &&& 1431655765)) &&& 858993459) + (((((nI n) - ((((nI n).toUInt32 >>> ((1 : Int32).toUInt32 &&& Int32.toUInt32 31)).toInt32) &&& 1431655765)).toUInt32 >>> ((2 : Int32).toUInt32 &&& Int32.toUInt32 31)).toInt32) &&& 858993459)).toUInt32 >>> ((4 : Int32).toUInt32 &&& Int32.toUInt32 31)).toInt32)) &&& 252645135) + ((((((((nI n) - ((((nI n).toUInt32 >>> ((1 : Int32).toUInt32 &&& Int32.toUInt32 31)).toInt32) &&& 1431655765)) &&& 858993459) + (((((nI n) - ((((nI n).toUInt32 >>> ((1 : Int32).toUInt32 &&& Int32.toUInt32 31)).toInt32) &&& 1431655765)).toUInt32 >>> ((2 : Int32).toUInt32 &&& Int32.toUInt32 31)).toInt32) &&& 858993459)) + ((((((nI n) - ((((nI n).toUInt32 >>> ((1 : Int32).toUInt32 &&& Int32.toUInt32 31)).toInt32) &&& 1431655765)) &&& 858993459) + (((((nI n) - ((((nI n).toUInt32 >>> ((1 : Int32).toUInt32 &&& Int32.toUInt32 31)).toInt32) &&& 1431655765)).toUInt32 >>> ((2 : Int32).toUInt32 &&& Int32.toUInt32 31)).toInt32) &&& 858993459)).toUInt32 >>> ((4 : Int32).toUInt32 &&& Int32.toUInt32 31)).toInt32)) &&& 252645135).toUInt32 >>> ((8 : Int32).toUInt32 &&& Int32.toUInt32 31)).toInt32)).toUInt32 >>> ((16 : Int32).toUInt32 &&& Int32.toUInt32 31)).toInt32)) &&& 63) = nI (pcN n) := by decide +kernel
theorem bitsIn_n {n : Nat} (hn : n < 256) (h : ax_Hp) : rI m_X7_bitsIn [.int (nI n)] h = some (nI (pcN n), h) := by
  refine rI_of ((e_X7_bitsIn_0 _ h).trans ?_)
  have e : rI m_J6_bitCount_0f7a4 [.int (nI n)] h = some (nI (pcN n), h) := rI_of ((e_J6_bitCount_0 _ h).trans (by rw [bc_ n hn]))
  rw [e, bnd]
theorem bits_n {n : Nat} (hn : n < 256) (h : ax_Hp) : rI m_X8_bits [.int (nI n)] h = some (nI (pcN n), h) := by
  refine rI_of ((e_X8_bits_0 _ h).trans ?_)
  refine (lp (fun k x => ax_run m_X8_bits 4 [(0, .int (nI n)), (1, .int x), (2, .int k)] [] h) (fun m => nI (smN m (fun k => n / 2 ^ k % 2))) 31 (fun k hk => ?_)).trans ?_
  · show ax_run m_X8_bits 4 _ [] h = _
    have hq : n / 2 ^ k ≤ n := Nat.div_le_self _ _
    rw [e_X8_bits_4, shr_ (by omega) (by omega), and1_ (by omega), if_neg (fun x => by
      have := (le_ (a := 31) (b := k) (by omega) (by omega)).mp x
      omega), add_, l1, add_]
    rfl
  · show ax_run m_X8_bits 4 _ [] h = _
    rw [e_X8_bits_4, if_pos (by decide), pcN_31 n hn]
def bmN (p : Nat → Bool) : Nat → Nat
  | 0 => 0
  | n + 1 => if p n = true then bmN p n + 2 ^ n else bmN p n
theorem bmN_lt (p : Nat → Bool) (n : Nat) : bmN p n < 2 ^ n := by
  induction n with
  | zero => exact Nat.one_pos
  | succ n ih =>
    simp only [bmN, Nat.pow_succ]
    split <;> omega
theorem or_step : ∀ n, n < 8 → ∀ x, x < 2 ^ n → nI x ||| (1 <<< (nI n &&& 31)) = nI (x + 2 ^ n) := by decide +kernel
theorem bm_nI (p : Nat → Bool) {n : Nat} (hn : n ≤ 8) : bm p n = nI (bmN p n) := by
  induction n with
  | zero => rfl
  | succ n ih =>
    simp only [bm, bmN]
    rw [ih (by omega)]
    split
    · exact or_step n (by omega) _ (bmN_lt p n)
    · rfl
theorem bm_lt (p : Nat → Bool) {n : Nat} (hn : n ≤ 8) : bmN p n < 256 := by
  have := bmN_lt p n
  have h2 : 2 ^ n ≤ 2 ^ 8 := Nat.pow_le_pow_right (by omega) hn
  omega
/-- how many of the places below n -/
def cntB (p : Nat → Bool) (n : Nat) : Nat := pcN (bmN p n)
theorem bitsIn_bm (p : Nat → Bool) {n : Nat} (hn : n ≤ 8) (h : ax_Hp) : rI m_X7_bitsIn [.int (bm p n)] h = some (nI (cntB p n), h) := by
  rw [bm_nI p hn]; exact bitsIn_n (bm_lt p hn) h
theorem bits_bm (p : Nat → Bool) {n : Nat} (hn : n ≤ 8) (h : ax_Hp) : rI m_X8_bits [.int (bm p n)] h = some (nI (cntB p n), h) := by
  rw [bm_nI p hn]; exact bits_n (bm_lt p hn) h
theorem cntB_le (p : Nat → Bool) (n : Nat) : cntB p n ≤ 8 := pcN_le _
theorem pcN_0 : ∀ n, n < 256 → pcN n = 0 → n = 0 := by decide +kernel
/-! looks of the reference -/
section
variable {h : ax_Hp} {s : Sp} {w : Nat}
theorem allM_ (r : RM h s w) : rI m_X8_all [.ref 47] h = some (nI (zall s w), h) := by
  refine rI_of ((e_X8_all_0 h).trans ?_)
  refine (lp (fun k x => ax_run m_X8_all 4 [(0, .ref 47), (1, .int x), (2, .int k)] [] h) (fun k => nI (smN k (zlack s w))) 8 (fun k hk => ?_)).trans ?_
  · show ax_run m_X8_all 4 _ [] h = _
    rw [e_X8_all_4]
    simp (disch := omega) only [l8, le_]
    rw [if_neg (by omega), lacks_ r (by omega), bnd, l1, add_, add_]
    rfl
  · show ax_run m_X8_all 4 _ [] h = _
    rw [e_X8_all_4]
    exact if_pos (by decide)
theorem lentNow_ (r : RM h s w) : rI m_X8_lentNow [.ref 47] h = some (zlent s, h) := by
  have hW := r.1.1
  refine rI_of ((e_X8_lentNow_0 h).trans ?_)
  refine (lp (fun k x => ax_run m_X8_lentNow 4 [(0, .ref 47), (1, .int x), (2, .int k)] [] h) (bm (fun i => decide (zP s i ≠ zO s i))) (zW s) (fun k hk => ?_)).trans ?_
  · show ax_run m_X8_lentNow 4 _ [] h = _
    rw [e_X8_lentNow_4, r.2.2.1]
    simp (disch := omega) only [le_]
    rw [if_neg (by omega), isLentM_ r (by omega), bnd]
    simp (disch := omega) only [bm, decide_eq_true_eq, l1, add_, Int32.or_zero]
    by_cases q : zP s k = zO s k
    · simp only [q, if_true, ne_eq, not_true_eq_false, if_false]
    · simp only [q, if_false, ne_eq, not_false_eq_true, if_true, ← l1, ax_10]
  · show ax_run m_X8_lentNow 4 _ [] h = _
    rw [e_X8_lentNow_4, r.2.2.1]
    exact if_pos ((le_ (a := zW s) (b := zW s) (by omega) (by omega)).mpr (Nat.le_refl _))
theorem warmerM_ (r : RM h s w) : rI m_X8_warmer [.ref 47] h = some (zwarm s, h) := by
  have hW := r.1.1
  have hT := r.1.2.1
  refine rI_of ((e_X8_warmer_0 h).trans ?_)
  refine (lp (fun k x => ax_run m_X8_warmer 4 [(0, .ref 47), (1, .int x), (2, .int k)] [] h) (bm (fun i => decide (zcov s i < zcovT s i ((zT s + 1) % 6)))) (zW s) (fun k hk => ?_)).trans ?_
  · show ax_run m_X8_warmer 4 _ [] h = _
    have okk := r.1.2.2.1 k (by omega)
    have b1 : zcovT s k ((zT s + 1) % 6) ≤ 20 := covN_le okk.2.1
    have b2 : zcov s k ≤ 20 := covN_le okk.2.1
    rw [e_X8_warmer_4, r.2.2.1, r.2.2.2.1]
    simp (disch := omega) only [le_, l1, add_]
    rw [if_neg (by omega), nI_mod (by omega), coversAt_ r (by omega) (by omega), bnd, covers_ r (by omega), bnd]
    simp (disch := omega) only [le_, bm, decide_eq_true_eq, Int32.or_zero]
    by_cases q : zcov s k < zcovT s k ((zT s + 1) % 6)
    · rw [if_neg (by omega), if_pos q, ← l1]
    · rw [if_pos (by omega), if_neg q]
  · show ax_run m_X8_warmer 4 _ [] h = _
    rw [e_X8_warmer_4, r.2.2.1]
    exact if_pos ((le_ (a := zW s) (b := zW s) (by omega) (by omega)).mpr (Nat.le_refl _))
theorem allHolesM_ (r : RM h s w) : rI m_X8_allHoles [.ref 47] h = some (zholes s, h) := by
  have hW := r.1.1
  refine rI_of ((e_X8_allHoles_0 h).trans ?_)
  refine (lp (fun k x => ax_run m_X8_allHoles 4 [(0, .ref 47), (1, .int x), (2, .int k)] [] h) (sI (zL s)) (zW s) (fun k hk => ?_)).trans ?_
  · show ax_run m_X8_allHoles 4 _ [] h = _
    rw [e_X8_allHoles_4, r.2.2.1]
    simp (disch := omega) only [le_, g_in, cl_]
    rw [if_neg (by omega), (r.2.2.2.2.1 k (by omega)).2.2.2.2, l1, add_]
    rfl
  · show ax_run m_X8_allHoles 4 _ [] h = _
    rw [e_X8_allHoles_4, r.2.2.1]
    exact if_pos ((le_ (a := zW s) (b := zW s) (by omega) (by omega)).mpr (Nat.le_refl _))
theorem needAtM_ {p : Nat} (r : RM h s w) (hp : p < 6) : rI m_X8_needAt [.ref 47, .int (nI p)] h = some (nI (znp s p), h) := by
  refine rI_of ((e_X8_needAt_0 _ h).trans ?_)
  refine (lp (fun k x => ax_run m_X8_needAt 4 [(0, .ref 47), (1, .int (nI p)), (2, .int x), (3, .int k)] [] h) (fun k => nI (smN k (fun j => zN s (6 * j + p)))) 8 (fun k hk => ?_)).trans ?_
  · show ax_run m_X8_needAt 4 _ [] h = _
    rw [e_X8_needAt_4]
    simp (disch := omega) only [l8, l6, le_, mul_, add_, g_in, cl_]
    rw [if_neg (by omega), r.2.2.2.2.2.1 _ (by omega), l1, add_, add_]
    rfl
  · show ax_run m_X8_needAt 4 _ [] h = _
    rw [e_X8_needAt_4]
    exact if_pos (by decide)
/-- the first that covers most, or none: as the class has it -/
theorem zbest_is (s : Sp) (ok : okS s) : ∀ n, n ≤ zW s → (n = 0 ∧ zbest s n = (-9, -1)) ∨ (0 < n ∧ ∃ j, j < n ∧ zbest s n = (nI j, nI (zcov s j))) := by
  intro n
  have hW := ok.1
  induction n with
  | zero => intro _; exact Or.inl ⟨rfl, rfl⟩
  | succ n ih =>
    intro hn
    refine Or.inr ⟨by omega, ?_⟩
    have c1 := zcov_le ok (i := n) (by omega)
    simp only [zbest]
    rcases ih (by omega) with ⟨_, e⟩ | ⟨_, j, hj, e⟩
    · rw [e, if_pos]
      · exact ⟨n, by omega, rfl⟩
      · refine (fa_lt' _ _).mpr ?_
        rw [nI_toInt (by omega)]
        have : (-1 : Int32).toInt = -1 := rfl
        show (-1 : Int32).toInt < _
        omega
    · rw [e]
      split
      · exact ⟨n, by omega, rfl⟩
      · exact ⟨j, by omega, rfl⟩
theorem bestWallM_ (r : RM h s w) : rI m_X8_bestWall [.ref 47] h = some ((zbest s (zW s)).1, h) := by
  have hW := r.1.1
  refine rI_of ((e_X8_bestWall_0 h).trans ?_)
  refine (lp (fun k (x : Int32) => ax_run m_X8_bestWall 5 [(0, .ref 47), (1, .int x), (2, .int k)] [] h) (fun n => (zbest s n).1) (zW s) (fun k hk => ?_)).trans ?_
  · show ax_run m_X8_bestWall 5 _ [] h = _
    have c1 := zcov_le r.1 (i := k) (by omega)
    rw [e_X8_bestWall_5, r.2.2.1]
    simp (disch := omega) only [le_]
    rw [if_neg (by omega)]
    simp only [zbest]
    rcases zbest_is s r.1 k (by omega) with ⟨e0, e⟩ | ⟨_, j, hj, e⟩
    · rw [e]
      simp only []
      rw [if_pos (by decide), if_pos, l1, add_]
      refine (fa_lt' _ _).mpr ?_
      rw [nI_toInt (by omega)]
      have : (-1 : Int32).toInt = -1 := rfl
      omega
    · have c2 := zcov_le r.1 (i := j) (by omega)
      rw [e]
      simp only []
      rw [if_neg (nI_pos (by omega)), covers_ r (by omega), bnd, covers_ r (by omega), bnd]
      simp (disch := omega) only [le_, lt_, l1, add_]
      by_cases q : zcov s j < zcov s k
      · rw [if_neg (by omega), if_pos q]
      · rw [if_pos (by omega), if_neg q]
  · show ax_run m_X8_bestWall 5 _ [] h = _
    rw [e_X8_bestWall_5, r.2.2.1]
    exact if_pos ((le_ (a := zW s) (b := zW s) (by omega) (by omega)).mpr (Nat.le_refl _))
end
/-! hours go by -/
theorem write_ {h : ax_Hp} {t : Nat} (ht : t ≤ 999) (x : Int32) : rV m_X1_write [.ref 34, .int (nI t), .int x] h = some (wI h 35 t x) := by
  refine rV_of ((e_X1_write_0 _ _ h).trans ?_)
  rw [if_neg (nI_pos (by omega)), show (999 : Int32) = nI 999 from rfl]
  simp (disch := omega) only [lt_]
  rw [if_neg (by omega)]
  simp (disch := omega) only [in_nI, g_true, cl_]
/-- the history behind n hours -/
def hN (s : Sp) (n : Nat) (f : Nat → Int32) (i : Nat) : Int32 := if zT s < i ∧ i ≤ zT s + n then zseen (zit s 0 (i - zT s)) 0 else f i
def bPass (A : Ab) (n : Nat) : Ab := (zit (bS A) 0 n, A.2.1, hN (bS A) n (bH A), A.2.2.2)
theorem pass_ {h : ax_Hp} {A : Ab} {n : Nat} (ic : IC h A) (hT : zT (bS A) + n ≤ 999) : ∃ h', rV m_X7_pass [.ref 0, .int (nI n)] h = some h' ∧ IC h' (bPass A n) ∧ FC h h' := by
  obtain ⟨a1, a2, a3, a4, a5, a6, a7, a8, a9⟩ := ic
  obtain ⟨h1, e1, r1, p1, f1, g1⟩ := ex_loop (fun x h => ax_run m_X7_pass 2 [(0, .ref 0), (1, .int (nI n)), (2, .int x)] [] h) (fun k h' => RC h' 1 (zit (bS A) 0 k) 0 ∧ (∀ i, h'.1 35 i = hN (bS A) k (h.1 35) i) ∧ h'.2 = h.2 ∧ ∀ c, c = 0 ∨ 11 < c → c ≠ 35 → h'.1 c = h.1 c) n (by
    intro k a hk ⟨ra, pa, fa, ga⟩
    have hk9 : zT (zit (bS A) 0 k) + 1 = zT (bS A) + (k + 1) := by rw [zit_T]; omega
    obtain ⟨b, e, rb, fb, _⟩ := passHour_ is1 ra (by omega)
    have rT : b.1 1 1 = nI (zT (bS A) + (k + 1)) := by rw [rb.1.2.2.2.1, zhour_T, hk9]
    refine ⟨wI b 35 (zT (bS A) + (k + 1)) (zseen (zit (bS A) 0 (k + 1)) 0), ?_, RC_of (fun c _ _ => wI_ne (by omega)) rb, fun i => ?_, fb.1.trans fa, fun c h1 h2 => (wI_ne h2).trans ((fb.2 c (by omega)).trans (ga c h1 h2))⟩
    · show ax_run m_X7_pass 2 _ [] a = _
      rw [e_X7_pass_2, if_neg (fun x => by
        have := (le_ (a := n) (b := k) (by omega) (by omega)).mp x
        omega), e, bnd, seenBits_ is1 rb, bnd]
      simp only []
      rw [rT, write_ (by omega), bnd, l1, add_]
      rfl
    · rw [wI_at]
      unfold hN
      by_cases q : i = zT (bS A) + (k + 1)
      · rw [q, upd_at, if_pos (by omega), show zT (bS A) + (k + 1) - zT (bS A) = k + 1 by omega]
      · rw [upd_ne q, fb.2 35 (by omega), pa]
        unfold hN
        by_cases q2 : zT (bS A) < i ∧ i ≤ zT (bS A) + k
        · rw [if_pos q2, if_pos (by omega)]
        · rw [if_neg q2, if_neg (by omega)]) h (k0 := 0) ⟨a1, fun i => by unfold hN; rw [if_neg (by omega)], rfl, fun _ _ _ => rfl⟩ (by omega)
  refine ⟨h1, rV_of ((e_X7_pass_0 _ h).trans (e1.trans ?_)), ⟨r1, ?_, fun q => RC_of (fun c _ _ => g1 c (by omega) (by omega)) (a3 q), ?_, ?_, ?_, ?_, ?_, ?_⟩, by rw [f1], fun c hc => g1 c (by omega) (by omega)⟩
  · show ax_run m_X7_pass 2 _ [] h1 = _
    rw [e_X7_pass_2]
    exact if_pos ((le_ (a := n) (b := n) (by omega) (by omega)).mpr (Nat.le_refl _))
  · rw [g1 0 (by omega) (by omega)]; exact a2
  · intro i i1 i2
    have i3 : i ≤ zT (bS A) + n := by have := zit_T (bS A) 0 n; show i ≤ _; have : i ≤ zT (zit (bS A) 0 n) := i2; omega
    rw [p1]
    show hN _ _ _ _ = hN _ _ _ _
    unfold hN
    by_cases q : zT (bS A) < i ∧ i ≤ zT (bS A) + n
    · rw [if_pos q, if_pos q]
    · rw [if_neg q, if_neg q]; exact a4 i i1 (by omega)
  · rw [g1 36 (by omega) (by omega)]; exact a5
  · rw [g1 37 (by omega) (by omega)]; exact a6
  · rw [g1 38 (by omega) (by omega)]; exact a7
  · rw [g1 39 (by omega) (by omega)]; exact a8
  · rw [g1 46 (by omega) (by omega)]; exact a9
theorem passM_ {h : ax_Hp} {A : Ab} {n : Nat} (im : IM h A) (hT : zT (bS A) + n ≤ 999) : ∃ h', rV m_X8_goes_ [.ref 47, .int (nI n)] h = some h' ∧ IM h' (bPass A n) ∧ Gh h h' := by
  obtain ⟨a1, a2, a3, a4, a5, a6, a7, a8, a9⟩ := im
  obtain ⟨h', e, r, g, p⟩ := goesN_ a1 n (by omega)
  refine ⟨h', e, ⟨r, ?_, fun q => KP_of (fun p _ _ => by rw [g.2.1 60 (by omega) (by omega) (by omega) (by omega)]) (a3 q), ?_, ?_, ?_, ?_, ?_, ?_⟩, g⟩
  · rw [g.2.2 19 (by omega) (by omega)]; exact a2
  · intro i i1 i2
    have i3 : i ≤ zT (bS A) + n := by have := zit_T (bS A) 0 n; have : i ≤ zT (zit (bS A) 0 n) := i2; omega
    rw [p]
    show _ = hN _ _ _ _
    unfold hN
    by_cases q : zT (bS A) < i ∧ i ≤ zT (bS A) + n
    · rw [if_pos (by omega), if_pos q]
    · rw [if_neg (by omega), if_neg q]; exact a4 i i1 (by omega)
  · rw [g.2.2 14 (by omega) (by omega)]; exact a5
  · rw [g.2.1 56 (by omega) (by omega) (by omega) (by omega)]; exact a6
  · rw [g.2.2 34 (by omega) (by omega)]; exact a7
  · rw [g.2.1 65 (by omega) (by omega) (by omega) (by omega)]; exact a8
  · rw [g.2.1 48 (by omega) (by omega) (by omega) (by omega)]; exact a9
theorem FM_gh {h h' : ax_Hp} (g : Gh h h') : FM h h' := ⟨by rw [g.1], fun k hk => g.2.1 k (by omega) (by omega) (by omega) (by omega)⟩
theorem okA_pass {A : Ab} (oa : okA A) {n : Nat} (hT : zT (bS A) + n ≤ 999) : okA (bPass A n) := by
  obtain ⟨a1, a2, a3, a4, a5, a6, a7⟩ := oa
  have h1 : zT (bS (bPass A n)) = zT (bS A) + n := zit_T _ _ _
  exact ⟨by omega, a2, fun q => ⟨by have := (a3 q).1; show zT (bK A) ≤ _; omega, (a3 q).2⟩, a4, a5, a6, a7⟩
