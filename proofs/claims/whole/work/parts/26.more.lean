/-! more looks of the class's street -/
theorem needAt_ {h : ax_Hp} {c : Nat} {s : Sp} {w j p : Nat} (hc : isS c) (r : RB h c s w) (hj : j < 8) (hp : p < 6) : rI m_X5_needAt [.ref c, .int (nI j), .int (nI p)] h = some (nI (zN s (6 * j + p)), h) := by
  refine rI_of ((e_X5_needAt_0 hc _ _ h).trans ?_)
  rw [l6]
  simp (disch := omega) only [mul_, add_, g_in, cl_]
  rw [Nat.mul_comm j 6, r.2.2.2.2.2.2.1 _ (by omega)]
def znp (s : Sp) (p : Nat) : Nat := smN 8 (fun j => zN s (6 * j + p))
theorem znp_le {s : Sp} (ok : okS s) {p : Nat} (hp : p < 6) : znp s p ≤ 72 := smN_le (b := 9) (fun k hk => ok.2.2.2 _ (by omega))
theorem needsAt_ {h : ax_Hp} {c : Nat} {s : Sp} {w p : Nat} (hc : isS c) (r : RB h c s w) (hp : p < 6) : rI m_X5_needsAt [.ref c, .int (nI p)] h = some (nI (znp s p), h) := by
  refine rI_of ((e_X5_needsAt_0 hc _ h).trans ?_)
  refine (lp (fun k x => ax_run m_X5_needsAt 4 [(0, .ref c), (1, .int (nI p)), (2, .int x), (3, .int k)] [] h) (fun k => nI (smN k (fun j => zN s (6 * j + p)))) 8 (fun k hk => ?_)).trans ?_
  · show ax_run m_X5_needsAt 4 _ [] h = _
    rw [e_X5_needsAt_4 hc]
    simp (disch := omega) only [l8, le_]
    rw [if_neg (by omega), needAt_ hc r hk hp, bnd, l1, add_, add_]
    rfl
  · show ax_run m_X5_needsAt 4 _ [] h = _
    rw [e_X5_needsAt_4 hc]
    exact if_pos (by decide)
/-- the coldest of the parts below n (the first one is in) -/
def zcold (s : Sp) : Nat → Nat
  | 0 => 0
  | n + 1 => if znp s (zcold s n) < znp s n then n else zcold s n
theorem zcold_lt (s : Sp) {n : Nat} (hn : n ≤ 6) : zcold s n < 6 := by
  induction n with
  | zero => show (0:Nat) < 6; omega
  | succ n ih =>
    simp only [zcold]
    split
    · omega
    · exact ih (by omega)
theorem coldest_ {h : ax_Hp} {c : Nat} {s : Sp} {w : Nat} (hc : isS c) (r : RB h c s w) : rI m_X5_coldestPart [.ref c] h = some (nI (zcold s 6), h) := by
  refine rI_of ((e_X5_coldestPart_0 hc h).trans ?_)
  have h1 : zcold s 1 = 0 := by simp [zcold]
  have st : ∀ m, m ≤ 5 → ax_run m_X5_coldestPart 4 [(0, .ref c), (1, .int 0), (2, .int 1)] [] h = ax_run m_X5_coldestPart 4 [(0, .ref c), (1, .int (nI (zcold s (m + 1)))), (2, .int (nI (m + 1)))] [] h := by
    intro m
    induction m with
    | zero => intro _; rw [h1]; rfl
    | succ m ih =>
      intro hm
      refine (ih (by omega)).trans ?_
      have hl := zcold_lt s (n := m + 1) (by omega)
      have a1 := znp_le r.1 hl
      have a2 := znp_le r.1 (p := m + 1) (by omega)
      rw [e_X5_coldestPart_4 hc]
      simp (disch := omega) only [l6, le_]
      rw [if_neg (by omega), needsAt_ hc r (by omega), bnd, needsAt_ hc r hl, bnd]
      simp (disch := omega) only [l1, add_, le_]
      rw [show zcold s (m + 1 + 1) = if znp s (zcold s (m + 1)) < znp s (m + 1) then m + 1 else zcold s (m + 1) from rfl]
      by_cases q : znp s (m + 1) ≤ znp s (zcold s (m + 1))
      · rw [if_pos q, if_neg (by omega)]
      · rw [if_neg q, if_pos (by omega)]
  refine (st 5 (by omega)).trans ?_
  rw [e_X5_coldestPart_4 hc]
  exact if_pos (by decide)
/-- the first wall that covers most of those below n: its number and what it covers; nobody: none -/
def zbest (s : Sp) : Nat → Int32 × Int32
  | 0 => (-9, -1)
  | n + 1 => if (zbest s n).2 < nI (zcov s n) then (nI n, nI (zcov s n)) else zbest s n
theorem bestWall_ {h : ax_Hp} {c : Nat} {s : Sp} {w : Nat} (hc : isS c) (r : RC h c s w) : rI m_X5_bestWall [.ref c] h = some ((zbest s (zW s)).1, h) := by
  have hW := r.1.1.1
  refine rI_of ((e_X5_bestWall_0 hc h).trans ?_)
  refine (lp (fun k (x : Int32 × Int32) => ax_run m_X5_bestWall 7 [(0, .ref c), (1, .int x.1), (2, .int x.2), (3, .int k)] [] h) (zbest s) (zW s) (fun k hk => ?_)).trans ?_
  · show ax_run m_X5_bestWall 7 _ [] h = _
    rw [e_X5_bestWall_7 hc, r.1.2.2.1]
    simp (disch := omega) only [le_, g_in, cl_]
    rw [if_neg (by omega), r.2.1 k hk]
    simp only [zbest, l1, add_]
    by_cases q : (zbest s k).2 < nI (zcov s k)
    · rw [if_pos q, if_neg (fun x => by
        have a := (fa_lt' _ _).mp q
        have b := Int32.le_iff_toInt_le.mp x
        omega)]
    · rw [if_neg q, if_pos (by
        have a : ¬ (zbest s k).2.toInt < (nI (zcov s k)).toInt := fun x => q ((fa_lt' _ _).mpr x)
        exact Int32.le_iff_toInt_le.mpr (by omega))]
  · show ax_run m_X5_bestWall 7 _ [] h = _
    rw [e_X5_bestWall_7 hc, r.1.2.2.1]
    exact if_pos ((le_ (a := zW s) (b := zW s) (by omega) (by omega)).mpr (Nat.le_refl _))
def zcovT (s : Sp) (i p : Nat) : Nat := covN (zK s i) (zF s i) p
def zwarm (s : Sp) : Int32 := bm (fun i => decide (zcov s i < zcovT s i ((zT s + 1) % 6))) (zW s)
theorem warmer_ {h : ax_Hp} {c : Nat} {s : Sp} {w : Nat} (hc : isS c) (r : RC h c s w) : rI m_X5_warmerBits [.ref c] h = some (zwarm s, h) := by
  have hW := r.1.1.1
  have hT := r.1.1.2.1
  refine rI_of ((e_X5_warmerBits_0 hc h).trans ?_)
  refine (lp (fun k x => ax_run m_X5_warmerBits 4 [(0, .ref c), (1, .int x), (2, .int k)] [] h) (bm (fun i => decide (zcov s i < zcovT s i ((zT s + 1) % 6)))) (zW s) (fun k hk => ?_)).trans ?_
  · show ax_run m_X5_warmerBits 4 _ [] h = _
    have okk := r.1.1.2.2.1 k (by omega)
    have rr := r.1.2.2.2.2.2.1 k (by omega)
    have b1 : zcovT s k ((zT s + 1) % 6) ≤ 20 := covN_le okk.2.1
    have b2 : zcov s k ≤ 20 := covN_le okk.2.1
    rw [e_X5_warmerBits_4 hc, r.1.2.2.1, r.1.2.2.2.1]
    simp (disch := omega) only [le_, g_in, cl_, l1, add_]
    rw [if_neg (by omega), rr.1, rr.2.1, nI_mod (by omega), coverOf_ okk.1 okk.2.1 (by omega), bnd, r.2.1 k hk]
    have hz : covN (zK s k) (zF s k) ((zT s + 1) % 6) = zcovT s k ((zT s + 1) % 6) := rfl
    rw [hz]
    simp (disch := omega) only [le_, bm, decide_eq_true_eq]
    by_cases q : zcov s k < zcovT s k ((zT s + 1) % 6)
    · rw [if_neg (by omega), if_pos q, ← l1]
    · rw [if_pos (by omega), if_neg q]
  · show ax_run m_X5_warmerBits 4 _ [] h = _
    rw [e_X5_warmerBits_4 hc, r.1.2.2.1]
    exact if_pos ((le_ (a := zW s) (b := zW s) (by omega) (by omega)).mpr (Nat.le_refl _))
