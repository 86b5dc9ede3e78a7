/-! a street in natural numbers -/
abbrev Sp : Type := Nat × Nat × (Nat → Nat) × (Nat → Nat) × (Nat → Nat) × (Nat → Nat) × (Nat → Nat) × (Nat → Int32) × (Nat → Int32)
abbrev zW (s : Sp) : Nat := s.1
abbrev zT (s : Sp) : Nat := s.2.1
abbrev zK (s : Sp) : Nat → Nat := s.2.2.1
abbrev zF (s : Sp) : Nat → Nat := s.2.2.2.1
abbrev zO (s : Sp) : Nat → Nat := s.2.2.2.2.1
abbrev zP (s : Sp) : Nat → Nat := s.2.2.2.2.2.1
abbrev zN (s : Sp) : Nat → Nat := s.2.2.2.2.2.2.1
abbrev zB (s : Sp) : Nat → Int32 := s.2.2.2.2.2.2.2.1
abbrev zL (s : Sp) : Nat → Int32 := s.2.2.2.2.2.2.2.2
def covN (k f p : Nat) : Nat := if k = 1 then (if 2 < p then f + 1 else f + 4) else if k = 2 then (f + 1) / 2 else if k = 3 then f + 1 else if k = 4 then (f + 1) / 2 + 1 else if k = 5 then 2 * (f + 1) else f + 1
theorem covN_le {k f p : Nat} (hf : f ≤ 9) : covN k f p ≤ 20 := by
  unfold covN
  repeat' split
  all_goals omega
theorem coverOf_ {k f p : Nat} (hk : k ≤ 5) (hf : f ≤ 9) (hp : p < 6) (h : ax_Hp) : rI m_X2_coverOf [.int (nI k), .int (nI f), .int (nI p)] h = some (nI (covN k f p), h) := by
  refine rI_of ((e_X2_coverOf_0 _ _ _ h).trans ?_)
  unfold covN
  simp (disch := omega) only [l0, l1, l2, l3, l4, l5, eq_, lt_, add_, div_, mul_]
  repeat' split
  all_goals first | rfl | omega
def strN (k d : Nat) : Bool := if k = 2 then true else if k = 3 then d % 2 = 0 else if k = 4 then d = 1 else if k = 5 then d % 2 = 0 || d = 1 else d ≤ 3
theorem strides_ {k d : Nat} (hk : k ≤ 5) (hd : d < 8) (h : ax_Hp) : rI m_X2_strides [.int (nI k), .int (nI d)] h = some (if strN k d = true then 1 else 0, h) := by
  refine rI_of ((e_X2_strides_0 _ _ h).trans ?_)
  simp (disch := omega) only [l2, rem_]
  simp (disch := omega) only [l0, l1, l2, l3, l4, l5, eq_, lt_]
  by_cases k2 : k = 2
  · subst k2; simp [strN]; try rfl
  by_cases k3 : k = 3
  · subst k3; simp [strN]; try (split <;> rfl)
  by_cases k4 : k = 4
  · subst k4; simp [strN]; repeat' split
    all_goals rfl
  by_cases k5 : k = 5
  · subst k5; simp [strN]; repeat' split
    all_goals first | rfl | omega
  simp [strN, k2, k3, k4, k5]
  repeat' split
  all_goals first | rfl | omega
