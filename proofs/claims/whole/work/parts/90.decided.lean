/-! every method passes the check -/
set_option maxRecDepth 100000 in
theorem ax_m_0 : (List.range' 0 6).all ax_okM = true := by decide +kernel
set_option maxRecDepth 100000 in
theorem ax_m_6 : (List.range' 6 6).all ax_okM = true := by decide +kernel
set_option maxRecDepth 100000 in
theorem ax_m_12 : (List.range' 12 9).all ax_okM = true := by decide +kernel
set_option maxRecDepth 100000 in
theorem ax_m_21 : (List.range' 21 9).all ax_okM = true := by decide +kernel
set_option maxRecDepth 100000 in
theorem ax_m_30 : (List.range' 30 5).all ax_okM = true := by decide +kernel
set_option maxRecDepth 100000 in
theorem ax_m_35 : (List.range' 35 7).all ax_okM = true := by decide +kernel
set_option maxRecDepth 100000 in
theorem ax_m_42 : (List.range' 42 8).all ax_okM = true := by decide +kernel
set_option maxRecDepth 100000 in
theorem ax_m_50 : (List.range' 50 11).all ax_okM = true := by decide +kernel
set_option maxRecDepth 100000 in
theorem ax_m_61 : (List.range' 61 10).all ax_okM = true := by decide +kernel
set_option maxRecDepth 100000 in
theorem ax_m_71 : (List.range' 71 4).all ax_okM = true := by decide +kernel
set_option maxRecDepth 100000 in
theorem ax_m_75 : (List.range' 75 6).all ax_okM = true := by decide +kernel
set_option maxRecDepth 100000 in
theorem ax_m_81 : (List.range' 81 6).all ax_okM = true := by decide +kernel
set_option maxRecDepth 100000 in
theorem ax_m_87 : (List.range' 87 8).all ax_okM = true := by decide +kernel
set_option maxRecDepth 100000 in
theorem ax_m_95 : (List.range' 95 10).all ax_okM = true := by decide +kernel
set_option maxRecDepth 100000 in
theorem ax_m_105 : (List.range' 105 7).all ax_okM = true := by decide +kernel
set_option maxRecDepth 100000 in
theorem ax_m_112 : (List.range' 112 6).all ax_okM = true := by decide +kernel
set_option maxRecDepth 100000 in
theorem ax_m_118 : (List.range' 118 15).all ax_okM = true := by decide +kernel
set_option maxRecDepth 100000 in
theorem ax_m_133 : (List.range' 133 15).all ax_okM = true := by decide +kernel
set_option maxRecDepth 100000 in
theorem ax_m_148 : (List.range' 148 7).all ax_okM = true := by decide +kernel
set_option maxRecDepth 100000 in
theorem ax_m_155 : (List.range' 155 6).all ax_okM = true := by decide +kernel
set_option maxRecDepth 100000 in
theorem ax_m_161 : (List.range' 161 10).all ax_okM = true := by decide +kernel
set_option maxRecDepth 100000 in
theorem ax_m_171 : (List.range' 171 10).all ax_okM = true := by decide +kernel
set_option maxRecDepth 100000 in
theorem ax_m_181 : (List.range' 181 6).all ax_okM = true := by decide +kernel
set_option maxRecDepth 100000 in
theorem ax_m_187 : (List.range' 187 9).all ax_okM = true := by decide +kernel
set_option maxRecDepth 100000 in
theorem ax_m_196 : (List.range' 196 9).all ax_okM = true := by decide +kernel
set_option maxRecDepth 100000 in
theorem ax_m_205 : (List.range' 205 4).all ax_okM = true := by decide +kernel
set_option maxRecDepth 100000 in
theorem ax_m_209 : (List.range' 209 4).all ax_okM = true := by decide +kernel
set_option maxRecDepth 100000 in
theorem ax_m_213 : (List.range' 213 6).all ax_okM = true := by decide +kernel
set_option maxRecDepth 100000 in
theorem ax_m_219 : (List.range' 219 8).all ax_okM = true := by decide +kernel
set_option maxRecDepth 100000 in
theorem ax_m_227 : (List.range' 227 3).all ax_okM = true := by decide +kernel
set_option maxRecDepth 100000 in
theorem ax_m_230 : (List.range' 230 5).all ax_okM = true := by decide +kernel
set_option maxRecDepth 100000 in
theorem ax_m_235 : (List.range' 235 5).all ax_okM = true := by decide +kernel
set_option maxRecDepth 100000 in
theorem ax_m_240 : (List.range' 240 7).all ax_okM = true := by decide +kernel
set_option maxRecDepth 100000 in
theorem ax_m_247 : (List.range' 247 10).all ax_okM = true := by decide +kernel
set_option maxRecDepth 100000 in
theorem ax_m_257 : (List.range' 257 3).all ax_okM = true := by decide +kernel
def ax_nm : Nat := 260
theorem ax_m_ok (z : Nat) (hz : z < ax_nm) : ax_okM z = true := by
  have h : ∀ (a k : Nat), (List.range' a k).all ax_okM = true → a ≤ z → z < a + k → ax_okM z = true := fun a k h h1 h2 => List.all_eq_true.mp h z (List.mem_range'_1.mpr ⟨h1, h2⟩)
  unfold ax_nm at hz
  by_cases h0 : z < 6
  · exact h 0 6 ax_m_0 (by omega) (by omega)
  by_cases h6 : z < 12
  · exact h 6 6 ax_m_6 (by omega) (by omega)
  by_cases h12 : z < 21
  · exact h 12 9 ax_m_12 (by omega) (by omega)
  by_cases h21 : z < 30
  · exact h 21 9 ax_m_21 (by omega) (by omega)
  by_cases h30 : z < 35
  · exact h 30 5 ax_m_30 (by omega) (by omega)
  by_cases h35 : z < 42
  · exact h 35 7 ax_m_35 (by omega) (by omega)
  by_cases h42 : z < 50
  · exact h 42 8 ax_m_42 (by omega) (by omega)
  by_cases h50 : z < 61
  · exact h 50 11 ax_m_50 (by omega) (by omega)
  by_cases h61 : z < 71
  · exact h 61 10 ax_m_61 (by omega) (by omega)
  by_cases h71 : z < 75
  · exact h 71 4 ax_m_71 (by omega) (by omega)
  by_cases h75 : z < 81
  · exact h 75 6 ax_m_75 (by omega) (by omega)
  by_cases h81 : z < 87
  · exact h 81 6 ax_m_81 (by omega) (by omega)
  by_cases h87 : z < 95
  · exact h 87 8 ax_m_87 (by omega) (by omega)
  by_cases h95 : z < 105
  · exact h 95 10 ax_m_95 (by omega) (by omega)
  by_cases h105 : z < 112
  · exact h 105 7 ax_m_105 (by omega) (by omega)
  by_cases h112 : z < 118
  · exact h 112 6 ax_m_112 (by omega) (by omega)
  by_cases h118 : z < 133
  · exact h 118 15 ax_m_118 (by omega) (by omega)
  by_cases h133 : z < 148
  · exact h 133 15 ax_m_133 (by omega) (by omega)
  by_cases h148 : z < 155
  · exact h 148 7 ax_m_148 (by omega) (by omega)
  by_cases h155 : z < 161
  · exact h 155 6 ax_m_155 (by omega) (by omega)
  by_cases h161 : z < 171
  · exact h 161 10 ax_m_161 (by omega) (by omega)
  by_cases h171 : z < 181
  · exact h 171 10 ax_m_171 (by omega) (by omega)
  by_cases h181 : z < 187
  · exact h 181 6 ax_m_181 (by omega) (by omega)
  by_cases h187 : z < 196
  · exact h 187 9 ax_m_187 (by omega) (by omega)
  by_cases h196 : z < 205
  · exact h 196 9 ax_m_196 (by omega) (by omega)
  by_cases h205 : z < 209
  · exact h 205 4 ax_m_205 (by omega) (by omega)
  by_cases h209 : z < 213
  · exact h 209 4 ax_m_209 (by omega) (by omega)
  by_cases h213 : z < 219
  · exact h 213 6 ax_m_213 (by omega) (by omega)
  by_cases h219 : z < 227
  · exact h 219 8 ax_m_219 (by omega) (by omega)
  by_cases h227 : z < 230
  · exact h 227 3 ax_m_227 (by omega) (by omega)
  by_cases h230 : z < 235
  · exact h 230 5 ax_m_230 (by omega) (by omega)
  by_cases h235 : z < 240
  · exact h 235 5 ax_m_235 (by omega) (by omega)
  by_cases h240 : z < 247
  · exact h 240 7 ax_m_240 (by omega) (by omega)
  by_cases h247 : z < 257
  · exact h 247 10 ax_m_247 (by omega) (by omega)
  by_cases h257 : z < 260
  · exact h 257 3 ax_m_257 (by omega) (by omega)
  omega
