/-! operations: fractions, mean, rain (by wip/whole/gen49.py) -/
theorem c_pos {x : Int64} (h : x = 0) : lg_cmp x 0 = 0 := by subst h; rfl
theorem c_neg {x : Int64} (q : ¬ x = 0) : ¬ lg_cmp x 0 = 0 := by
  unfold lg_cmp
  intro h
  split at h
  · exact absurd h (by decide)
  · exact absurd h (by decide)
theorem lz_ {a : Nat} (ha : a < 2 ^ 62) : lN a = 0 ↔ a = 0 := pk_lEQ (b := 0) (by omega) (by omega)
theorem lz_ne {a : Nat} (ha : a < 2 ^ 62) (h : 0 < a) : ¬ lN a = 0 := fun e => by
  have := (lz_ ha).mp e
  omega
theorem lnz {a : Nat} (ha : a < 2 ^ 62) (h : 0 < a) : (!decide (lN a = 0)) = true := by
  rw [decide_eq_false (lz_ne ha h)]; rfl
theorem lrem {a b : Nat} (ha : a < 2 ^ 62) (h0 : 0 < b) (hb : b < 2 ^ 62) : lN a - lN a / lN b * lN b = lN (a % b) := pk_lRem (by omega) h0 (by omega)
theorem l100 : (100 : Int32) = nI 100 := rfl
theorem cd_0 (a i : Nat) (hi : i < 100) (h : ax_Hp) : ax_run m_X7_commonDivisor 9 [(4, .long (lN a)), (6, .long (lN 0)), (8, .int (nI i))] [] h = some (some (.long (lN a)), h) := by
  rw [e_X7_commonDivisor_9, l100]
  simp (disch := omega) only [le_]
  rw [if_neg (by omega), if_pos (c_pos (x := lN 0) rfl)]
theorem cd_s {a b i : Nat} (hi : i < 100) (ha : a < 2 ^ 62) (h0 : 0 < b) (hb : b < 2 ^ 62) (h : ax_Hp) : ax_run m_X7_commonDivisor 9 [(4, .long (lN a)), (6, .long (lN b)), (8, .int (nI i))] [] h = ax_run m_X7_commonDivisor 9 [(4, .long (lN b)), (6, .long (lN (a % b))), (8, .int (nI (i + 1)))] [] h := by
  rw [e_X7_commonDivisor_9, l100]
  simp (disch := omega) only [le_]
  rw [if_neg (by omega), if_neg (c_neg (lz_ne hb h0)), g_nz (lnz hb h0), lrem ha h0 hb, nI_1]
theorem dv_0 (a : Nat) (h : ax_Hp) : ax_run m_X8_divisor 6 [(4, .long (lN a)), (6, .long (lN 0))] [] h = some (some (.long (lN a)), h) := by
  rw [e_X8_divisor_6, if_pos (c_pos (x := lN 0) rfl)]
theorem dv_s {a b : Nat} (ha : a < 2 ^ 62) (h0 : 0 < b) (hb : b < 2 ^ 62) (h : ax_Hp) : ax_run m_X8_divisor 6 [(4, .long (lN a)), (6, .long (lN b))] [] h = ax_run m_X8_divisor 6 [(4, .long (lN b)), (6, .long (lN (a % b)))] [] h := by
  rw [e_X8_divisor_6, if_neg (c_neg (lz_ne hb h0)), g_nz (lnz hb h0), lrem ha h0 hb]
/-- both come to one divisor -/
theorem gcd_ : ∀ k a b, b < 2 ^ k → b < 2 ^ 62 → a < 2 ^ 62 → 0 < a → ∃ g, 0 < g ∧ g < 2 ^ 62 ∧ (∀ h i, i + 2 * k < 100 → ax_run m_X7_commonDivisor 9 [(4, .long (lN a)), (6, .long (lN b)), (8, .int (nI i))] [] h = some (some (.long (lN g)), h)) ∧
    ∀ h, ax_run m_X8_divisor 6 [(4, .long (lN a)), (6, .long (lN b))] [] h = some (some (.long (lN g)), h) := by
  intro k
  induction k with
  | zero =>
    intro a b hb _ ha h0
    have : b = 0 := by omega
    subst this
    exact ⟨a, h0, ha, fun h i hi => cd_0 a i (by omega) h, fun h => dv_0 a h⟩
  | succ k ih =>
    intro a b hb hb2 ha h0
    by_cases q : b = 0
    · subst q
      exact ⟨a, h0, ha, fun h i hi => cd_0 a i (by omega) h, fun h => dv_0 a h⟩
    · have hr : a % b < b := Nat.mod_lt _ (by omega)
      by_cases q2 : a % b = 0
      · refine ⟨b, by omega, hb2, fun h i hi => ?_, fun h => ?_⟩
        · rw [cd_s (by omega) ha (by omega) hb2, q2]; exact cd_0 b (i + 1) (by omega) h
        · rw [dv_s ha (by omega) hb2, q2]; exact dv_0 b h
      · have hs : b % (a % b) < a % b := Nat.mod_lt _ (by omega)
        have hd := Nat.div_add_mod b (a % b)
        have hq : 1 ≤ b / (a % b) := (Nat.one_le_div_iff (by omega)).mpr (by omega)
        have hm : a % b ≤ a % b * (b / (a % b)) := Nat.le_mul_of_pos_right _ (by omega)
        have hk : b % (a % b) < 2 ^ k := by rw [Nat.pow_succ] at hb; omega
        obtain ⟨g, g0, g1, g2, g3⟩ := ih (a % b) (b % (a % b)) hk (by omega) (by omega) (by omega)
        refine ⟨g, g0, g1, fun h i hi => ?_, fun h => ?_⟩
        · rw [cd_s (by omega) ha (by omega) hb2, cd_s (by omega) hb2 (by omega) (by omega)]
          exact g2 h (i + 1 + 1) (by omega)
        · rw [dv_s ha (by omega) hb2, dv_s hb2 (by omega) (by omega)]
          exact g3 h
/-- fractions in least terms: both tell the same -/
theorem terms_ {a b q : Nat} (ha : a < 2 ^ 62) (hb : b < 2 ^ 40) (h0 : 0 < b) (hq : q ≤ 1) : ∃ v, (∀ h, rL m_X7_inLeastTerms [.long (lN a), .long (lN b), .int (nI q)] h = some (v, h)) ∧ ∀ h, rL m_X8_partOf [.long (lN a), .long (lN b), .int (nI q)] h = some (v, h) := by
  have ht : ∀ n, n ≤ 1 → (nI n).toInt64 = lN n := fun n hn => nI_l (by omega)
  by_cases qa : a = 0
  · subst qa
    refine ⟨lN q, fun h => rL_of ((e_X7_inLeastTerms_0 _ _ _ h).trans ?_), fun h => rL_of ((e_X8_partOf_0 _ _ _ h).trans ?_)⟩
    · rw [if_pos (c_pos (x := lN 0) rfl), ht q hq]
    · have e : rL m_X8_divisor [.long (lN 0), .long (lN b)] h = some (lN b, h) := by
        refine rL_of ((e_X8_divisor_0 _ _ h).trans ?_)
        rw [dv_s (by omega) h0 (by omega), Nat.zero_mod]
        exact dv_0 b h
      have nz := lnz (a := b) (by omega) h0
      rw [e, bnd, bnd, g_nz nz, g_nz nz, pk_lDiv (by omega) h0 (by omega), pk_lDiv (by omega) h0 (by omega), Nat.zero_div, Nat.div_self h0]
      have hq2 : q = 0 ∨ q = 1 := by omega
      rcases hq2 with rfl | rfl <;> rfl
  · obtain ⟨g, g0, g1, g2, g3⟩ := gcd_ 40 a b hb (by omega) ha (by omega)
    have nz := lnz g1 g0
    refine ⟨if q = 0 then lN (a / g) else lN (b / g), fun h => rL_of ((e_X7_inLeastTerms_0 _ _ _ h).trans ?_), fun h => rL_of ((e_X8_partOf_0 _ _ _ h).trans ?_)⟩
    · have e : rL m_X7_commonDivisor [.long (lN a), .long (lN b)] h = some (lN g, h) := rL_of ((e_X7_commonDivisor_0 _ _ h).trans (g2 h 0 (by omega)))
      rw [if_neg (c_neg (lz_ne ha (by omega))), if_neg (c_neg (lz_ne (a := b) (by omega) h0)), e, bnd]
      simp only []
      rw [if_neg (c_neg (lz_ne g1 g0)), g_nz nz, g_nz nz, pk_lDiv (by omega) g0 (by omega), pk_lDiv (by omega) g0 (by omega)]
      simp (disch := omega) only [eq0]
      split <;> rfl
    · have e : rL m_X8_divisor [.long (lN a), .long (lN b)] h = some (lN g, h) := rL_of ((e_X8_divisor_0 _ _ h).trans (g3 h))
      rw [e, bnd, bnd, g_nz nz, g_nz nz, pk_lDiv (by omega) g0 (by omega), pk_lDiv (by omega) g0 (by omega)]
      simp (disch := omega) only [eq0]
      split <;> rfl
theorem op_mean {h : ax_Hp} {A : Ab} (oa : okA A) (ic : IC h A) (im : IM h A) (x1 : Int32) : OPL m_X7_mean m_X8_mean [.int x1] h := by
  have hW := ic.1.1.1.1
  by_cases ha : x1 < 0
  · exact OPL_no (x := 4000000000000000000 - (-2 : Int32).toInt64) 2 (by omega) oa ic im (rL_of ((e_X7_mean_0 _ h).trans (by simp only [isWall_ is1 ic.1.1, isHouse_, outs_, bnd, no1, no2, no3, no4, no6, lo1, lo2, lo4, lo6, if_true, if_false, ax_10, ax_n4, ax_n6, and_self, ha]))) (fun h1 m => rL_of ((e_X8_mean_0 _ h1).trans (by simp only [isWallM_ m.1, isHouseM_, outsM_, isIn_, notH_, bnd, mo1, mo2, mo3, mo4, mo6, ml1, ml2, ml4, ml6, if_true, if_false, ax_10, ax_n4, ax_n6, and_self, lt0_of ha 1])))
  · by_cases hb : x1 ≤ 1
    · obtain ⟨q, _, hq, rfl⟩ := in_n (m := 0) (n := 1) rfl rfl (n0l ha) hb (by omega) (by omega)
      have hx : 0 ≤ nI q ∧ nI q ≤ 1 := ⟨n0l ha, hb⟩
      have ba := zall_le ic.1.1.1 (w := 0) (by omega)
      have c1 : ∀ h : ax_Hp, rI m_X7_bitsIn [.int (zseen (bS A) 0)] h = some (nI (cntB (fun j => decide (0 < zlack (bS A) 0 j)) 8), h) := fun h => bitsIn_bm _ (by omega) h
      have c2 : ∀ h : ax_Hp, rI m_X8_bits [.int (zseen (bS A) 0)] h = some (nI (cntB (fun j => decide (0 < zlack (bS A) 0 j)) 8), h) := fun h => bits_bm _ (by omega) h
      have bc := cntB_le (fun j => decide (0 < zlack (bS A) 0 j)) 8
      generalize cntB (fun j => decide (0 < zlack (bS A) 0 j)) 8 = c at c1 c2 bc
      generalize hz : zall (bS A) 0 = z at ba
      by_cases q0 : c = 0
      · subst q0
        refine OPL_q (v := (nI q).toInt64) oa ic im ⟨h, rL_of ((e_X7_mean_0 _ h).trans ?_), QC.refl h⟩ (fun h1 m => ⟨h1, rL_of ((e_X8_mean_0 _ h1).trans ?_), QM.refl m.1⟩)
        · have e : rL m_X7_inLeastTerms [.long (nI z).toInt64, .long (nI 0).toInt64, .int (nI q)] h = some ((nI q).toInt64, h) := by
            refine rL_of ((e_X7_inLeastTerms_0 _ _ _ h).trans ?_)
            by_cases u : lg_cmp (nI z).toInt64 0 = 0
            · rw [if_pos u]
            · rw [if_neg u, if_pos (c_pos (x := (nI 0).toInt64) rfl)]
          simp only [ha, hb, if_true, if_false, allLacking_ is1 ic.1, seenBits_ is1 ic.1, c1, bnd, hz, e]
        · simp only [isIn_, hx, and_self, ax_10, if_false, if_true, seenNow_ m.1, c2, bnd, show (nI 0 = 0) = True from eq_true rfl]
      · obtain ⟨v, v1, v2⟩ := terms_ (a := z) (b := c) (q := q) (by omega) (by omega) (by omega) hq
        refine OPL_q (v := v) oa ic im ⟨h, rL_of ((e_X7_mean_0 _ h).trans ?_), QC.refl h⟩ (fun h1 m => ⟨h1, rL_of ((e_X8_mean_0 _ h1).trans ?_), QM.refl m.1⟩)
        · simp (disch := omega) only [ha, hb, if_true, if_false, allLacking_ is1 ic.1, seenBits_ is1 ic.1, c1, bnd, hz, nI_l, v1]
        · have q1 : ¬ nI c = 0 := fun e => q0 ((eq0 (by omega)).mp e)
          simp (disch := omega) only [isIn_, hx, and_self, ax_10, if_false, if_true, seenNow_ m.1, c2, bnd, q1, allM_ m.1, hz, nI_l, v2]
    · have hx : ¬ (0 ≤ x1 ∧ x1 ≤ 1) := fun q => hb q.2
      exact OPL_no (x := 4000000000000000000 - (-2 : Int32).toInt64) 2 (by omega) oa ic im (rL_of ((e_X7_mean_0 _ h).trans (by simp only [isWall_ is1 ic.1.1, isHouse_, outs_, bnd, no1, no2, no3, no4, no6, lo1, lo2, lo4, lo6, if_true, if_false, ax_10, ax_n4, ax_n6, and_self, ha, hb]))) (fun h1 m => rL_of ((e_X8_mean_0 _ h1).trans (by simp only [isWallM_ m.1, isHouseM_, outsM_, isIn_, notH_, bnd, mo1, mo2, mo3, mo4, mo6, ml1, ml2, ml4, ml6, if_true, if_false, ax_10, ax_n4, ax_n6, and_self, hx])))
/-- n hours with rain by the bits of m -/
def zrn (s : Sp) (m : Nat) : Nat → Sp × Nat
  | 0 => (s, 0)
  | i + 1 => (zhour (zrn s m i).1 (if m.testBit i = true then 2 else 0), if m.testBit i = true then 2 else 0)
theorem zrn_T (s : Sp) (m i : Nat) : zT (zrn s m i).1 = zT s + i := by
  induction i with
  | zero => rfl
  | succ i ih => show zT (zhour _ _) = _; rw [zhour_T, ih]; omega
theorem zrn_w (s : Sp) (m i : Nat) : (zrn s m i).2 ≤ 2 := by
  cases i with
  | zero => exact Nat.zero_le _
  | succ i => show (if _ then 2 else 0) ≤ 2; split <;> omega
def wsm (s : Sp) (j n t : Nat) : Nat → Nat
  | 0 => 0
  | m + 1 => wsm s j n t m + (if 0 < zlack (zrn s m n).1 (zrn s m n).2 j then (t - 1) ^ (n - pcN m) else 0)
theorem pow20 {b e : Nat} (hb : b ≤ 20) (he : e ≤ 6) : b ^ e ≤ 64000000 := by
  have h1 : b ^ e ≤ 20 ^ e := Nat.pow_le_pow_left hb e
  have h2 : 20 ^ e ≤ 20 ^ 6 := Nat.pow_le_pow_right (by omega) he
  have h3 : (20 : Nat) ^ 6 = 64000000 := by decide
  omega
theorem wsm_K {s : Sp} {j n t K : Nat} (h : ∀ e, e ≤ n → (t - 1) ^ e ≤ K) (m : Nat) : wsm s j n t m ≤ m * K := by
  induction m with
  | zero => exact Nat.zero_le _
  | succ m ih =>
    have h1 := h (n - pcN m) (by omega)
    simp only [wsm, Nat.succ_mul]
    split
    · exact Nat.add_le_add ih h1
    · exact Nat.le_trans ih (Nat.le_add_right _ _)
theorem wsm_le {s : Sp} {j n t : Nat} (hn : n ≤ 6) (ht : t ≤ 20) (m : Nat) : wsm s j n t m ≤ m * 64000000 := wsm_K (fun e he => pow20 (by omega) (by omega)) m
def prd (t m : Nat) : Nat → Nat
  | 0 => 1
  | i + 1 => prd t m i * (if m.testBit i = true then 1 else t - 1)
theorem prd_is (t m i : Nat) : prd t m i = (t - 1) ^ smN i (fun k => if m.testBit k = true then 0 else 1) := by
  induction i with
  | zero => rfl
  | succ i ih =>
    simp only [prd, smN, ih]
    split
    · rw [Nat.mul_one, Nat.add_zero]
    · rw [Nat.pow_succ]
theorem zer_ : ∀ n, n ≤ 6 → ∀ m, m < 2 ^ n → smN n (fun k => if m.testBit k = true then 0 else 1) = n - pcN m ∧ pcN m ≤ n := by decide +kernel
theorem RC_wet {h : ax_Hp} {c : Nat} {s : Sp} {w w' : Nat} (r : RC h c s w) (hw : w' ≤ 2) : RC (wI h c 2 (nI w')) c s w' := by
  obtain ⟨⟨ok, hw, r0, r1, r2, rr, rn, rb⟩, rc, rh⟩ := r
  refine ⟨⟨ok, by omega, ?_, ?_, ?_, ?_, ?_, ?_⟩, ?_, ?_⟩ <;> simp (disch := omega) only [wI_ne, wI_at, upd_at, upd_ne] <;> assumption
theorem wet_ {m i : Nat} (hm : m < 2147483648) (hi : i < 31) (h : ax_Hp) : rI m_X7_hasBit [.int (nI m), .int (nI i)] h = some (if m.testBit i = true then 1 else 0, h) := by
  rw [hasBit_, bit_nI hm hi]
theorem wetM_ {m i : Nat} (hm : m < 2147483648) (hi : i < 31) (h : ax_Hp) : rI m_X8_has [.int (nI m), .int (nI i)] h = some (if m.testBit i = true then 1 else 0, h) := by
  rw [has_, bit_nI hm hi]
theorem pow64 {n : Nat} (h : n ≤ 6) : 2 ^ n ≤ 64 := show 2 ^ n ≤ 2 ^ 6 from Nat.pow_le_pow_right (by omega) h
theorem weight_ {h : ax_Hp} {s : Sp} {j n t : Nat} (r : RC h 1 s 0) (hT : zT s ≤ 999) (hj : j < 8) (hn : n ≤ 6) (ht : t ≤ 20) (ht2 : 2 ≤ t) :
    ∃ h', rL m_X6_seenWeight [.ref 43, .ref 1, .int (nI j), .int (nI n), .int (nI t)] h = some (lN (wsm s j n t (2 ^ n)), h') ∧ Fr 23 h h' := by
  have hp := pow64 hn
  have hp0 : 0 < 2 ^ n := Nat.two_pow_pos _
  obtain ⟨h2, e2, f2, c2⟩ := ex_loop (fun (m : Int32) (g : Int64 × ax_Hp) => ax_run m_X6_seenWeight 6 [(0, .ref 43), (1, .ref 1), (2, .int (nI j)), (3, .int (nI n)), (4, .int (nI t)), (5, .long g.1), (7, .int m)] [] g.2) (fun m g => Fr 23 h g.2 ∧ g.1 = lN (wsm s j n t m)) (2 ^ n) (by
    intro m g hm ⟨fg, cg⟩
    have rg : RC g.2 1 s 0 := RC_of (fun k _ _ => fg.2 k (by omega)) r
    obtain ⟨h1, e1, r1, f1⟩ := begin_ rg
    have r1' : ∃ w, w ≤ 2 ∧ RC h1 23 (zrn s m 0).1 w ∧ (zrn s m 0).2 = w := ⟨0, by omega, r1, rfl⟩
    obtain ⟨h3, e3, f3, r3⟩ := ex_loop (fun (i : Int32) (b : ax_Hp) => ax_run m_X6_seenWeight 22 [(0, .ref 43), (1, .ref 1), (2, .int (nI j)), (3, .int (nI n)), (4, .int (nI t)), (5, .long g.1), (7, .int (nI m)), (8, .int i)] [] b) (fun i b => Fr 23 h b ∧ RC b 23 (zrn s m i).1 (zrn s m i).2) n (by
      intro i b hi ⟨fb, rb⟩
      have st := e_X6_seenWeight_22 (nI j) (nI n) (nI t) g.1 (nI m) (nI i) b
      rw [if_neg (fun y => by
        have := (le_ (a := n) (b := i) (by omega) (by omega)).mp y
        omega), wet_ (by omega) (by omega), bnd, nI_1] at st
      by_cases q : m.testBit i = true
      · simp only [q, if_true, ax_10, if_false] at st
        have rw1 := RC_wet (w' := 2) rb (by omega)
        obtain ⟨b2, e2, r2, f2, _⟩ := passHour_ is23 rw1 (by rw [zrn_T]; omega)
        have e2' : rV m_X5_passHour [.ref 23] (wI b 23 2 2) = some b2 := e2
        rw [e2', bnd] at st
        refine ⟨b2, st, fb.trans ((Fr.refl 23 b).wI (by omega) |>.trans f2), ?_⟩
        simp only [zrn, q, if_true]
        exact r2
      · simp only [q, if_true, if_false, Bool.false_eq_true] at st
        have rw1 := RC_wet (w' := 0) rb (by omega)
        obtain ⟨b2, e2, r2, f2, _⟩ := passHour_ is23 rw1 (by rw [zrn_T]; omega)
        have e2' : rV m_X5_passHour [.ref 23] (wI b 23 2 0) = some b2 := e2
        rw [e2', bnd] at st
        refine ⟨b2, st, fb.trans ((Fr.refl 23 b).wI (by omega) |>.trans f2), ?_⟩
        simp only [zrn, q, if_false, Bool.false_eq_true]
        exact r2) h1 (k0 := 0) ⟨fg.trans f1, r1⟩ (by omega)
    have zz := zer_ n hn m hm
    have bl := zlack_le r3.1.1 r3.1.2.1 hj
    refine ⟨(lN (wsm s j n t (m + 1)), h3), ?_, f3, rfl⟩
    show ax_run m_X6_seenWeight 6 [(0, .ref 43), (1, .ref 1), (2, .int (nI j)), (3, .int (nI n)), (4, .int (nI t)), (5, .long g.1), (7, .int (nI m))] [] g.2 = ax_run m_X6_seenWeight 6 [(0, .ref 43), (1, .ref 1), (2, .int (nI j)), (3, .int (nI n)), (4, .int (nI t)), (5, .long (lN (wsm s j n t (m + 1)))), (7, .int (nI (m + 1)))] [] h3
    rw [e_X6_seenWeight_6, shl_W _ (by omega), if_neg (fun y => by
        have := (le_ (a := 2 ^ n) (b := m) (by omega) (by omega)).mp y
        omega), e1, bnd]
    refine e3.trans ?_
    show ax_run m_X6_seenWeight 22 [(0, .ref 43), (1, .ref 1), (2, .int (nI j)), (3, .int (nI n)), (4, .int (nI t)), (5, .long g.1), (7, .int (nI m)), (8, .int (nI n))] [] h3 = _
    rw [e_X6_seenWeight_22, if_pos ((le_ (a := n) (b := n) (by omega) (by omega)).mpr (Nat.le_refl _)), lackOf_ is23 r3 hj, bnd, nI_1, cg]
    simp (disch := omega) only [le0]
    simp only [wsm]
    by_cases q : 0 < zlack (zrn s m n).1 (zrn s m n).2 j
    · rw [if_neg (by omega), if_pos q, bitsIn_n (by omega), bnd]
      simp only []
      rw [show nI t - 1 = nI (t - 1) from sub_ (a := t) (b := 1) (by omega), sub_ zz.2, power_ (by omega) (by omega), bnd, lN_add]
    · rw [if_pos (by omega), if_neg q]
      rfl) (0, h) (k0 := 0) ⟨Fr.refl 23 h, rfl⟩ (by omega)
  refine ⟨h2.2, rL_of ((e_X6_seenWeight_0 _ _ _ h).trans (e2.trans ?_)), f2⟩
  show ax_run m_X6_seenWeight 6 [(0, .ref 43), (1, .ref 1), (2, .int (nI j)), (3, .int (nI n)), (4, .int (nI t)), (5, .long h2.1), (7, .int (nI (2 ^ n)))] [] h2.2 = _
  rw [e_X6_seenWeight_6, shl_W _ (by omega), if_pos ((le_ (a := 2 ^ n) (b := 2 ^ n) (by omega) (by omega)).mpr (Nat.le_refl _)), c2]
theorem RM_wet {h : ax_Hp} {s : Sp} {w : Nat} {m i : Nat} (r : RM h s w) : RM (wI h 47 22 (if m.testBit i = true then 1 else 0)) s (if m.testBit i = true then 2 else 0) := by
  obtain ⟨ok, hw, r0, r1, rr, rn, rb⟩ := r
  refine ⟨ok, ?_, ?_, ?_, ?_, ?_, ?_⟩ <;> simp (disch := omega) only [wI_ne, wI_at, upd_at, upd_ne] <;> try assumption
  split
  · exact Or.inr ⟨rfl, rfl⟩
  · exact Or.inl ⟨rfl, rfl⟩
theorem QI_wet {h h1 : ax_Hp} {s t : Sp} {w m i : Nat} (q : QI h h1 s t w) : QI h (wI h1 47 22 (if m.testBit i = true then 1 else 0)) s t (if m.testBit i = true then 2 else 0) := by
  obtain ⟨a1, a2, a3, a4, a5, a6, a7, a8, a9, a10, a11, a12⟩ := q
  refine ⟨a1, fun k hk => (wI_ne (by omega)).trans (a2 k hk), RM_wet a3, KP_of (fun p _ _ => by rw [wI_ne (by omega)]) a4, ?_, ?_, ?_, fun j hj => ?_, ?_, ?_, a11, a12⟩
  · rw [wI_ne (by omega)]; exact a5
  · rw [wI_ne (by omega)]; exact a6
  · rw [wI_ne (by omega)]; exact a7
  · simp (disch := omega) only [wI_at, upd_ne]; exact a8 j hj
  · rw [wI_ne (by omega)]; exact a9
  · rw [wI_ne (by omega)]; exact a10
theorem QI_dry {h h1 : ax_Hp} {s t : Sp} {w : Nat} (q : QI h h1 s t w) : QI h (wI h1 47 22 0) s t 0 := by
  have := QI_wet (m := 0) (i := 0) q
  simpa using this
theorem ax_gb (b : Bool) (o : Option ax_Rs) : ax_g (true && (decide ((if b = true then (1 : Int32) else 0) = 0) || decide ((if b = true then (1 : Int32) else 0) = 1))) o = o := by cases b <;> rfl
theorem rainM_ {h : ax_Hp} {s : Sp} {j n t q : Nat} (r : RM h s 0) (hT : zT s ≤ 999) (hj : j < 8) (hn : n ≤ 6) (ht : t ≤ 20) (ht2 : 2 ≤ t) {v : Int64} (hv : ∀ h, rL m_X8_partOf [.long (lN (wsm s j n t (2 ^ n))), .long (lN (t ^ n)), .int (nI q)] h = some (v, h)) :
    ∃ h', ax_run m_X8_rain 81 [(0, .ref 47), (1, .int (nI j)), (2, .int (nI n)), (3, .int (nI t)), (4, .int (nI q)), (6, .long 0), (8, .long 1), (10, .int 0)] [] h = some (some (.long v), h') ∧ QM h h' s := by
  have hp := pow64 hn
  have hp0 : 0 < 2 ^ n := Nat.two_pow_pos _
  have L := lp (fun k (v : Int64) => ax_run m_X8_rain 81 [(0, .ref 47), (1, .int (nI j)), (2, .int (nI n)), (3, .int (nI t)), (4, .int (nI q)), (6, .long 0), (8, .long v), (10, .int k)] [] h) (fun k => lN (t ^ k)) n (fun k hk => by
    show ax_run m_X8_rain 81 _ [] h = _
    rw [e_X8_rain_81, if_neg (fun y => by
      have := (le_ (a := n) (b := k) (by omega) (by omega)).mp y
      omega), nI_l (by omega), lN_mul, nI_1]
    rfl)
  obtain ⟨h2, e2, q2, c2⟩ := ex_loop (fun (m : Int32) (g : Int64 × ax_Hp) => ax_run m_X8_rain 103 [(0, .ref 47), (1, .int (nI j)), (2, .int (nI n)), (3, .int (nI t)), (4, .int (nI q)), (6, .long g.1), (8, .long (lN (t ^ n))), (10, .int m)] [] g.2) (fun m g => QM h g.2 s ∧ g.1 = lN (wsm s j n t m)) (2 ^ n) (by
    intro m g hm ⟨qg, cg⟩
    obtain ⟨h1, e1, q1, _⟩ := QI_minds qg.2.2.1
    obtain ⟨h3, e3, q3, p3⟩ := ex_loop (fun (i : Int32) (b : Int64 × ax_Hp) => ax_run m_X8_rain 121 [(0, .ref 47), (1, .int (nI j)), (2, .int (nI n)), (3, .int (nI t)), (4, .int (nI q)), (6, .long g.1), (8, .long (lN (t ^ n))), (10, .int (nI m)), (11, .long b.1), (13, .int i)] [] b.2) (fun i b => QI g.2 b.2 s (zrn s m i).1 (zrn s m i).2 ∧ b.1 = lN (prd t m i)) n (by
      intro i b hi ⟨qb, pb⟩
      have q4 := QI_wet (m := m) (i := i) qb
      obtain ⟨b2, e2, q5, _⟩ := QI_hour q4 (by rw [zrn_T]; omega)
      have st := e_X8_rain_121 (nI j) (nI n) (nI t) (nI q) g.1 (lN (t ^ n)) (nI m) b.1 (nI i) b.2
      rw [if_neg (fun y => by
        have := (le_ (a := n) (b := i) (by omega) (by omega)).mp y
        omega), wetM_ (by omega) (by omega), bnd, nI_1] at st
      simp only [ax_gb, wI_at, upd_at, e2, bnd] at st
      refine ⟨(lN (prd t m (i + 1)), b2), ?_, q5, rfl⟩
      show ax_run m_X8_rain 121 [(0, .ref 47), (1, .int (nI j)), (2, .int (nI n)), (3, .int (nI t)), (4, .int (nI q)), (6, .long g.1), (8, .long (lN (t ^ n))), (10, .int (nI m)), (11, .long b.1), (13, .int (nI i))] [] b.2 = ax_run m_X8_rain 121 [(0, .ref 47), (1, .int (nI j)), (2, .int (nI n)), (3, .int (nI t)), (4, .int (nI q)), (6, .long g.1), (8, .long (lN (t ^ n))), (10, .int (nI m)), (11, .long (lN (prd t m (i + 1)))), (13, .int (nI (i + 1)))] [] b2
      rw [st, pb]
      simp only [prd]
      by_cases u : m.testBit i = true
      · simp only [u, if_true, ax_10, if_false]
        rw [show (1 : Int64) = lN 1 from rfl, lN_mul]
      · simp only [u, if_true, if_false, Bool.false_eq_true]
        rw [show nI t - 1 = nI (t - 1) from sub_ (a := t) (b := 1) (by omega), nI_l (by omega), lN_mul]) (1, h1) (k0 := 0) ⟨q1, rfl⟩ (by omega)
    have zz := zer_ n hn m hm
    have bl := zlack_le q3.2.2.1.1 (zrn_w s m n) hj
    obtain ⟨h4, e4, q4, _⟩ := QI_forgets (QI_dry q3)
    refine ⟨(lN (wsm s j n t (m + 1)), h4), ?_, qg.trans q4, rfl⟩
    show ax_run m_X8_rain 103 [(0, .ref 47), (1, .int (nI j)), (2, .int (nI n)), (3, .int (nI t)), (4, .int (nI q)), (6, .long g.1), (8, .long (lN (t ^ n))), (10, .int (nI m))] [] g.2 = ax_run m_X8_rain 103 [(0, .ref 47), (1, .int (nI j)), (2, .int (nI n)), (3, .int (nI t)), (4, .int (nI q)), (6, .long (lN (wsm s j n t (m + 1)))), (8, .long (lN (t ^ n))), (10, .int (nI (m + 1)))] [] h4
    rw [e_X8_rain_103, shl_W _ (by omega), if_neg (fun y => by
        have := (le_ (a := 2 ^ n) (b := m) (by omega) (by omega)).mp y
        omega), e1, bnd]
    refine e3.trans ?_
    show ax_run m_X8_rain 121 [(0, .ref 47), (1, .int (nI j)), (2, .int (nI n)), (3, .int (nI t)), (4, .int (nI q)), (6, .long g.1), (8, .long (lN (t ^ n))), (10, .int (nI m)), (11, .long h3.1), (13, .int (nI n))] [] h3.2 = _
    rw [e_X8_rain_121, if_pos ((le_ (a := n) (b := n) (by omega) (by omega)).mpr (Nat.le_refl _)), lacks_ q3.2.2.1 hj, bnd]
    simp (disch := omega) only [le0, e4, bnd, nI_1, cg, p3]
    simp only [wsm]
    rw [prd_is, zz.1]
    by_cases u : 0 < zlack (zrn s m n).1 (zrn s m n).2 j
    · rw [if_neg (by omega), if_pos u, lN_add]
    · rw [if_pos (by omega), if_neg u, show (0 : Int64) = lN 0 from rfl, lN_add]) (0, h) (k0 := 0) ⟨QM.refl r, rfl⟩ (by omega)
  refine ⟨h2.2, ?_, q2⟩
  refine L.trans ?_
  show ax_run m_X8_rain 81 [(0, .ref 47), (1, .int (nI j)), (2, .int (nI n)), (3, .int (nI t)), (4, .int (nI q)), (6, .long 0), (8, .long (lN (t ^ n))), (10, .int (nI n))] [] h = _
  rw [e_X8_rain_81, if_pos ((le_ (a := n) (b := n) (by omega) (by omega)).mpr (Nat.le_refl _))]
  refine e2.trans ?_
  show ax_run m_X8_rain 103 [(0, .ref 47), (1, .int (nI j)), (2, .int (nI n)), (3, .int (nI t)), (4, .int (nI q)), (6, .long h2.1), (8, .long (lN (t ^ n))), (10, .int (nI (2 ^ n)))] [] h2.2 = _
  rw [e_X8_rain_103, shl_W _ (by omega), if_pos ((le_ (a := 2 ^ n) (b := 2 ^ n) (by omega) (by omega)).mpr (Nat.le_refl _)), c2, hv, bnd]
theorem op_rain {h : ax_Hp} {A : Ab} (oa : okA A) (ic : IC h A) (im : IM h A) (x1 x2 x3 x4 : Int32) : OPL m_X7_rain m_X8_rain [.int x1, .int x2, .int x3, .int x4] h := by
  have hW := ic.1.1.1.1
  by_cases hw : 0 ≤ x1 ∧ x1 < 8
  · by_cases ha : x2 < 0
    · exact OPL_no (x := 4000000000000000000 - (-4 : Int32).toInt64) 4 (by omega) oa ic im (rL_of ((e_X7_rain_0 _ _ _ _ h).trans (by simp only [isWall_ is1 ic.1.1, isHouse_, outs_, bnd, no1, no2, no3, no4, no6, lo1, lo2, lo4, lo6, if_true, if_false, ax_10, ax_n4, ax_n6, and_self, hw, ha]))) (fun h1 m => rL_of ((e_X8_rain_0 _ _ _ _ h1).trans (by simp only [isWallM_ m.1, isHouseM_, outsM_, isIn_, notH_, bnd, mo1, mo2, mo3, mo4, mo6, ml1, ml2, ml4, ml6, if_true, if_false, ax_10, ax_n4, ax_n6, and_self, hw, ha])))
    · by_cases hb : 2 ≤ x3
      · by_cases hc : 6 < x2
        · exact OPL_no (x := 4000000000000000000 - (-6 : Int32).toInt64) 6 (by omega) oa ic im (rL_of ((e_X7_rain_0 _ _ _ _ h).trans (by simp only [isWall_ is1 ic.1.1, isHouse_, outs_, bnd, no1, no2, no3, no4, no6, lo1, lo2, lo4, lo6, if_true, if_false, ax_10, ax_n4, ax_n6, and_self, hw, ha, hb, hc]))) (fun h1 m => rL_of ((e_X8_rain_0 _ _ _ _ h1).trans (by simp only [isWallM_ m.1, isHouseM_, outsM_, isIn_, notH_, bnd, mo1, mo2, mo3, mo4, mo6, ml1, ml2, ml4, ml6, if_true, if_false, ax_10, ax_n4, ax_n6, and_self, hw, ha, hb, hc])))
        · by_cases hd : x3 ≤ 20
          · by_cases he : x4 < 0
            · exact OPL_no (x := 4000000000000000000 - (-2 : Int32).toInt64) 2 (by omega) oa ic im (rL_of ((e_X7_rain_0 _ _ _ _ h).trans (by simp only [isWall_ is1 ic.1.1, isHouse_, outs_, bnd, no1, no2, no3, no4, no6, lo1, lo2, lo4, lo6, if_true, if_false, ax_10, ax_n4, ax_n6, and_self, hw, ha, hb, hc, hd, he]))) (fun h1 m => rL_of ((e_X8_rain_0 _ _ _ _ h1).trans (by simp only [isWallM_ m.1, isHouseM_, outsM_, isIn_, notH_, bnd, mo1, mo2, mo3, mo4, mo6, ml1, ml2, ml4, ml6, if_true, if_false, ax_10, ax_n4, ax_n6, and_self, hw, ha, hb, hc, hd, lt0_of he 1])))
            · by_cases hf : x4 ≤ 1
              · obtain ⟨j, hj, rfl⟩ := of_in hw.1 hw.2 (n := 8) (by omega)
                obtain ⟨n, _, hn, rfl⟩ := in_n (m := 0) (n := 6) rfl rfl (n0l ha) (nlt_le hc) (by omega) (by omega)
                obtain ⟨t, ht2, ht, rfl⟩ := in_n (m := 2) (n := 20) rfl rfl hb hd (by omega) (by omega)
                obtain ⟨q, _, hq, rfl⟩ := in_n (m := 0) (n := 1) rfl rfl (n0l he) hf (by omega) (by omega)
                have hx : 0 ≤ nI q ∧ nI q ≤ 1 := ⟨n0l he, hf⟩
                have b1 := wsm_le (s := bS A) (j := j) hn ht (2 ^ n)
                have b2 := pow64 hn
                have b3 : t ^ n ≤ 64000000 := pow20 ht hn
                have b4 : 0 < t ^ n := Nat.pos_of_ne_zero (fun e => by
                  have := Nat.pow_le_pow_left (show 1 ≤ t by omega) n
                  rw [Nat.one_pow, e] at this
                  omega)
                obtain ⟨v, v1, v2⟩ := terms_ (a := wsm (bS A) j n t (2 ^ n)) (b := t ^ n) (q := q) (by omega) (by omega) b4 hq
                refine OPL_q (v := v) oa ic im ?_ (fun h1 m => ?_)
                · obtain ⟨h1, e1, f1⟩ := weight_ ic.1 oa.1 hj hn ht ht2
                  refine ⟨h1, rL_of ((e_X7_rain_0 _ _ _ _ h).trans ?_), QC.fr f1⟩
                  simp (disch := omega) only [isHouse_, hw, and_self, ha, hb, hc, hd, he, hf, if_true, ax_10, if_false, bnd, e1, power_, v1]
                · obtain ⟨h2, e2, q2⟩ := rainM_ m.1 oa.1 hj hn ht ht2 v2
                  refine ⟨h2, rL_of ((e_X8_rain_0 _ _ _ _ h1).trans ?_), q2⟩
                  simp only [isHouseM_, isIn_, hw, hx, and_self, ha, hb, hc, hd, if_true, ax_10, if_false, bnd]
                  exact e2
              · have hx : ¬ (0 ≤ x4 ∧ x4 ≤ 1) := fun q => hf q.2
                exact OPL_no (x := 4000000000000000000 - (-2 : Int32).toInt64) 2 (by omega) oa ic im (rL_of ((e_X7_rain_0 _ _ _ _ h).trans (by simp only [isWall_ is1 ic.1.1, isHouse_, outs_, bnd, no1, no2, no3, no4, no6, lo1, lo2, lo4, lo6, if_true, if_false, ax_10, ax_n4, ax_n6, and_self, hw, ha, hb, hc, hd, he, hf]))) (fun h1 m => rL_of ((e_X8_rain_0 _ _ _ _ h1).trans (by simp only [isWallM_ m.1, isHouseM_, outsM_, isIn_, notH_, bnd, mo1, mo2, mo3, mo4, mo6, ml1, ml2, ml4, ml6, if_true, if_false, ax_10, ax_n4, ax_n6, and_self, hw, ha, hb, hc, hd, hx])))
          · exact OPL_no (x := 4000000000000000000 - (-6 : Int32).toInt64) 6 (by omega) oa ic im (rL_of ((e_X7_rain_0 _ _ _ _ h).trans (by simp only [isWall_ is1 ic.1.1, isHouse_, outs_, bnd, no1, no2, no3, no4, no6, lo1, lo2, lo4, lo6, if_true, if_false, ax_10, ax_n4, ax_n6, and_self, hw, ha, hb, hc, hd]))) (fun h1 m => rL_of ((e_X8_rain_0 _ _ _ _ h1).trans (by simp only [isWallM_ m.1, isHouseM_, outsM_, isIn_, notH_, bnd, mo1, mo2, mo3, mo4, mo6, ml1, ml2, ml4, ml6, if_true, if_false, ax_10, ax_n4, ax_n6, and_self, hw, ha, hb, hc, hd])))
      · exact OPL_no (x := 4000000000000000000 - (-4 : Int32).toInt64) 4 (by omega) oa ic im (rL_of ((e_X7_rain_0 _ _ _ _ h).trans (by simp only [isWall_ is1 ic.1.1, isHouse_, outs_, bnd, no1, no2, no3, no4, no6, lo1, lo2, lo4, lo6, if_true, if_false, ax_10, ax_n4, ax_n6, and_self, hw, ha, hb]))) (fun h1 m => rL_of ((e_X8_rain_0 _ _ _ _ h1).trans (by simp only [isWallM_ m.1, isHouseM_, outsM_, isIn_, notH_, bnd, mo1, mo2, mo3, mo4, mo6, ml1, ml2, ml4, ml6, if_true, if_false, ax_10, ax_n4, ax_n6, and_self, hw, ha, hb])))
  · exact OPL_no (x := 4000000000000000000 - (-1 : Int32).toInt64) 1 (by omega) oa ic im (rL_of ((e_X7_rain_0 _ _ _ _ h).trans (by simp only [isWall_ is1 ic.1.1, isHouse_, outs_, bnd, no1, no2, no3, no4, no6, lo1, lo2, lo4, lo6, if_true, if_false, ax_10, ax_n4, ax_n6, and_self, hw]))) (fun h1 m => rL_of ((e_X8_rain_0 _ _ _ _ h1).trans (by simp only [isWallM_ m.1, isHouseM_, outsM_, isIn_, notH_, bnd, mo1, mo2, mo3, mo4, mo6, ml1, ml2, ml4, ml6, if_true, if_false, ax_10, ax_n4, ax_n6, and_self, hw])))
