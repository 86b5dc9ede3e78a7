/-! the law passes the check, block by block -/
def ax_bk0 : Nat × ax_Bl := (0, (0, []), [])
def ax_okN (i : Nat) : Bool := ax_okO 9 code 4 14 550 (kd_260.getD i ax_bk0).2.1.1 (kd_260.getD i ax_bk0).1 (kd_260.getD i ax_bk0).2.2
set_option maxRecDepth 100000 in
theorem ax_n_0 : (List.range' 0 3).all ax_okN = true := by decide +kernel
set_option maxRecDepth 100000 in
theorem ax_n_3 : (List.range' 3 2).all ax_okN = true := by decide +kernel
set_option maxRecDepth 100000 in
theorem ax_n_5 : (List.range' 5 2).all ax_okN = true := by decide +kernel
set_option maxRecDepth 100000 in
theorem ax_n_7 : (List.range' 7 1).all ax_okN = true := by decide +kernel
set_option maxRecDepth 100000 in
theorem ax_n_8 : (List.range' 8 1).all ax_okN = true := by decide +kernel
set_option maxRecDepth 100000 in
theorem ax_n_9 : (List.range' 9 2).all ax_okN = true := by decide +kernel
set_option maxRecDepth 100000 in
theorem ax_n_11 : (List.range' 11 2).all ax_okN = true := by decide +kernel
set_option maxRecDepth 100000 in
theorem ax_n_13 : (List.range' 13 2).all ax_okN = true := by decide +kernel
set_option maxRecDepth 100000 in
theorem ax_n_15 : (List.range' 15 2).all ax_okN = true := by decide +kernel
set_option maxRecDepth 100000 in
theorem ax_n_17 : (List.range' 17 2).all ax_okN = true := by decide +kernel
set_option maxRecDepth 100000 in
theorem ax_n_19 : (List.range' 19 1).all ax_okN = true := by decide +kernel
set_option maxRecDepth 100000 in
theorem ax_n_20 : (List.range' 20 2).all ax_okN = true := by decide +kernel
set_option maxRecDepth 100000 in
theorem ax_n_22 : (List.range' 22 2).all ax_okN = true := by decide +kernel
set_option maxRecDepth 100000 in
theorem ax_n_24 : (List.range' 24 3).all ax_okN = true := by decide +kernel
set_option maxRecDepth 100000 in
theorem ax_n_27 : (List.range' 27 2).all ax_okN = true := by decide +kernel
set_option maxRecDepth 100000 in
theorem ax_n_29 : (List.range' 29 1).all ax_okN = true := by decide +kernel
set_option maxRecDepth 100000 in
theorem ax_n_30 : (List.range' 30 1).all ax_okN = true := by decide +kernel
set_option maxRecDepth 100000 in
theorem ax_n_31 : (List.range' 31 1).all ax_okN = true := by decide +kernel
set_option maxRecDepth 100000 in
theorem ax_n_32 : (List.range' 32 1).all ax_okN = true := by decide +kernel
set_option maxRecDepth 100000 in
theorem ax_n_33 : (List.range' 33 2).all ax_okN = true := by decide +kernel
set_option maxRecDepth 100000 in
theorem ax_n_35 : (List.range' 35 2).all ax_okN = true := by decide +kernel
set_option maxRecDepth 100000 in
theorem ax_n_37 : (List.range' 37 4).all ax_okN = true := by decide +kernel
set_option maxRecDepth 100000 in
theorem ax_n_41 : (List.range' 41 3).all ax_okN = true := by decide +kernel
set_option maxRecDepth 100000 in
theorem ax_n_44 : (List.range' 44 3).all ax_okN = true := by decide +kernel
theorem ax_m_law : ax_okB 9 code 4 14 550 kd_260 = true := by
  have h : ∀ (a k i : Nat), (List.range' a k).all ax_okN = true → a ≤ i → i < a + k → ax_okN i = true := fun a k i h h1 h2 => List.all_eq_true.mp h i (List.mem_range'_1.mpr ⟨h1, h2⟩)
  refine List.all_eq_true.mpr fun b hb => ?_
  obtain ⟨i, hi, he⟩ := List.mem_iff_getElem.mp hb
  have hg : kd_260.getD i ax_bk0 = b := by rw [List.getD_eq_getElem?_getD, List.getElem?_eq_getElem hi, he]; rfl
  have hn : i < 47 := by simpa [kd_260] using hi
  have key : ax_okN i = true := by
    by_cases h0 : i < 3
    · exact h 0 3 i ax_n_0 (by omega) (by omega)
    by_cases h3 : i < 5
    · exact h 3 2 i ax_n_3 (by omega) (by omega)
    by_cases h5 : i < 7
    · exact h 5 2 i ax_n_5 (by omega) (by omega)
    by_cases h7 : i < 8
    · exact h 7 1 i ax_n_7 (by omega) (by omega)
    by_cases h8 : i < 9
    · exact h 8 1 i ax_n_8 (by omega) (by omega)
    by_cases h9 : i < 11
    · exact h 9 2 i ax_n_9 (by omega) (by omega)
    by_cases h11 : i < 13
    · exact h 11 2 i ax_n_11 (by omega) (by omega)
    by_cases h13 : i < 15
    · exact h 13 2 i ax_n_13 (by omega) (by omega)
    by_cases h15 : i < 17
    · exact h 15 2 i ax_n_15 (by omega) (by omega)
    by_cases h17 : i < 19
    · exact h 17 2 i ax_n_17 (by omega) (by omega)
    by_cases h19 : i < 20
    · exact h 19 1 i ax_n_19 (by omega) (by omega)
    by_cases h20 : i < 22
    · exact h 20 2 i ax_n_20 (by omega) (by omega)
    by_cases h22 : i < 24
    · exact h 22 2 i ax_n_22 (by omega) (by omega)
    by_cases h24 : i < 27
    · exact h 24 3 i ax_n_24 (by omega) (by omega)
    by_cases h27 : i < 29
    · exact h 27 2 i ax_n_27 (by omega) (by omega)
    by_cases h29 : i < 30
    · exact h 29 1 i ax_n_29 (by omega) (by omega)
    by_cases h30 : i < 31
    · exact h 30 1 i ax_n_30 (by omega) (by omega)
    by_cases h31 : i < 32
    · exact h 31 1 i ax_n_31 (by omega) (by omega)
    by_cases h32 : i < 33
    · exact h 32 1 i ax_n_32 (by omega) (by omega)
    by_cases h33 : i < 35
    · exact h 33 2 i ax_n_33 (by omega) (by omega)
    by_cases h35 : i < 37
    · exact h 35 2 i ax_n_35 (by omega) (by omega)
    by_cases h37 : i < 41
    · exact h 37 4 i ax_n_37 (by omega) (by omega)
    by_cases h41 : i < 44
    · exact h 41 3 i ax_n_41 (by omega) (by omega)
    by_cases h44 : i < 47
    · exact h 44 3 i ax_n_44 (by omega) (by omega)
    omega
  unfold ax_okN at key
  rw [hg] at key
  exact key
