/-! the equations of the blocks: by wip/whole/gen8.py -/
set_option maxRecDepth 100000 in
theorem q_X5_sellTo_0 {c : Nat} (hc : isS c) (x1 : Int32) (x2 : Int32) (h : ax_Hp) : ax_run m_X5_sellTo 0 [(0, .ref c), (1, .int x1), (2, .int x2)] [] h = (rI m_X5_isWall [.ref c, .int x1] h).bind (fun q1 => if q1.1 = 0 then ax_run m_X5_sellTo 22 [] [] q1.2 else (rI m_X7_isHouse [.int x2] q1.2).bind (fun q2 => if q2.1 = 0 then ax_run m_X5_sellTo 22 [] [] q2.2 else ax_g (ax_in x1 7) (ax_run m_X5_sellTo 22 [] [] (wI q2.2 (c + 3) x1.toNatClampNeg x2)))) := by
  rcases hc with rfl | rfl
  · exact (ax_run_eq _ _ _ _ _).trans rfl
  · exact (ax_run_eq _ _ _ _ _).trans rfl
set_option maxRecDepth 100000 in
theorem q_X5_sellTo_22 {c : Nat} (hc : isS c)  (h : ax_Hp) : ax_run m_X5_sellTo 22 [] [] h = some (none, h) := by
  rcases hc with rfl | rfl
  · exact (ax_run_eq _ _ _ _ _).trans rfl
  · exact (ax_run_eq _ _ _ _ _).trans rfl
set_option maxRecDepth 100000 in
theorem q_X5_needOf_0 {c : Nat} (hc : isS c) (x1 : Int32) (h : ax_Hp) : ax_run m_X5_needOf 0 [(0, .ref c), (1, .int x1)] [] h = ax_g (ax_in ((x1 * 6) + ((h.1 c 1) - (h.1 c 1) / 6 * 6)) 48) (some (some (.int ((h.1 (c + 7) ((x1 * 6) + ((h.1 c 1) - (h.1 c 1) / 6 * 6)).toNatClampNeg) + (h.1 c 2))), h)) := by
  rcases hc with rfl | rfl
  · exact (ax_run_eq _ _ _ _ _).trans rfl
  · exact (ax_run_eq _ _ _ _ _).trans rfl
set_option maxRecDepth 100000 in
theorem q_X5_seenBits_0 {c : Nat} (hc : isS c)  (h : ax_Hp) : ax_run m_X5_seenBits 0 [(0, .ref c)] [] h = ax_run m_X5_seenBits 4 [(0, .ref c), (1, .int 0), (2, .int 0)] [] h := by
  rcases hc with rfl | rfl
  · exact (ax_run_eq _ _ _ _ _).trans rfl
  · exact (ax_run_eq _ _ _ _ _).trans rfl
set_option maxRecDepth 100000 in
theorem q_X5_seenBits_4 {c : Nat} (hc : isS c) (x1 : Int32) (x2 : Int32) (h : ax_Hp) : ax_run m_X5_seenBits 4 [(0, .ref c), (1, .int x1), (2, .int x2)] [] h = if 8 ≤ x2 then ax_run m_X5_seenBits 30 [(1, .int x1)] [] h else (rI m_X5_lackOf [.ref c, .int x2] h).bind (fun q1 => if q1.1 ≤ 0 then ax_run m_X5_seenBits 24 [(0, .ref c), (1, .int x1), (2, .int x2)] [] q1.2 else ax_run m_X5_seenBits 24 [(0, .ref c), (1, .int (x1 ||| (1 <<< (x2 &&& 31)))), (2, .int x2)] [] q1.2) := by
  rcases hc with rfl | rfl
  · exact (ax_run_eq _ _ _ _ _).trans rfl
  · exact (ax_run_eq _ _ _ _ _).trans rfl
set_option maxRecDepth 100000 in
theorem q_X5_seenBits_24 {c : Nat} (hc : isS c) (x1 : Int32) (x2 : Int32) (h : ax_Hp) : ax_run m_X5_seenBits 24 [(0, .ref c), (1, .int x1), (2, .int x2)] [] h = ax_run m_X5_seenBits 4 [(0, .ref c), (1, .int x1), (2, .int (x2 + 1))] [] h := by
  rcases hc with rfl | rfl
  · exact (ax_run_eq _ _ _ _ _).trans rfl
  · exact (ax_run_eq _ _ _ _ _).trans rfl
set_option maxRecDepth 100000 in
theorem q_X5_seenBits_30 {c : Nat} (hc : isS c) (x1 : Int32) (h : ax_Hp) : ax_run m_X5_seenBits 30 [(1, .int x1)] [] h = some (some (.int x1), h) := by
  rcases hc with rfl | rfl
  · exact (ax_run_eq _ _ _ _ _).trans rfl
  · exact (ax_run_eq _ _ _ _ _).trans rfl
set_option maxRecDepth 100000 in
theorem q_X5_wallsOwnedBy_0 {c : Nat} (hc : isS c) (x1 : Int32) (h : ax_Hp) : ax_run m_X5_wallsOwnedBy 0 [(0, .ref c), (1, .int x1)] [] h = ax_run m_X5_wallsOwnedBy 4 [(0, .ref c), (1, .int x1), (2, .int 0), (3, .int 0)] [] h := by
  rcases hc with rfl | rfl
  · exact (ax_run_eq _ _ _ _ _).trans rfl
  · exact (ax_run_eq _ _ _ _ _).trans rfl
set_option maxRecDepth 100000 in
theorem q_X5_wallsOwnedBy_4 {c : Nat} (hc : isS c) (x1 : Int32) (x2 : Int32) (x3 : Int32) (h : ax_Hp) : ax_run m_X5_wallsOwnedBy 4 [(0, .ref c), (1, .int x1), (2, .int x2), (3, .int x3)] [] h = if h.1 c 0 ≤ x3 then ax_run m_X5_wallsOwnedBy 34 [(2, .int x2)] [] h else ax_g (ax_in x3 7) (if h.1 (c + 3) x3.toNatClampNeg = x1 then ax_run m_X5_wallsOwnedBy 28 [(0, .ref c), (1, .int x1), (2, .int (x2 ||| (1 <<< (x3 &&& 31)))), (3, .int x3)] [] h else ax_run m_X5_wallsOwnedBy 28 [(0, .ref c), (1, .int x1), (2, .int x2), (3, .int x3)] [] h) := by
  rcases hc with rfl | rfl
  · exact (ax_run_eq _ _ _ _ _).trans rfl
  · exact (ax_run_eq _ _ _ _ _).trans rfl
set_option maxRecDepth 100000 in
theorem q_X5_wallsOwnedBy_28 {c : Nat} (hc : isS c) (x1 : Int32) (x2 : Int32) (x3 : Int32) (h : ax_Hp) : ax_run m_X5_wallsOwnedBy 28 [(0, .ref c), (1, .int x1), (2, .int x2), (3, .int x3)] [] h = ax_run m_X5_wallsOwnedBy 4 [(0, .ref c), (1, .int x1), (2, .int x2), (3, .int (x3 + 1))] [] h := by
  rcases hc with rfl | rfl
  · exact (ax_run_eq _ _ _ _ _).trans rfl
  · exact (ax_run_eq _ _ _ _ _).trans rfl
set_option maxRecDepth 100000 in
theorem q_X5_wallsOwnedBy_34 {c : Nat} (hc : isS c) (x2 : Int32) (h : ax_Hp) : ax_run m_X5_wallsOwnedBy 34 [(2, .int x2)] [] h = some (some (.int x2), h) := by
  rcases hc with rfl | rfl
  · exact (ax_run_eq _ _ _ _ _).trans rfl
  · exact (ax_run_eq _ _ _ _ _).trans rfl
set_option maxRecDepth 100000 in
theorem q_X5_allLacking_0 {c : Nat} (hc : isS c)  (h : ax_Hp) : ax_run m_X5_allLacking 0 [(0, .ref c)] [] h = ax_run m_X5_allLacking 4 [(0, .ref c), (1, .int 0), (2, .int 0)] [] h := by
  rcases hc with rfl | rfl
  · exact (ax_run_eq _ _ _ _ _).trans rfl
  · exact (ax_run_eq _ _ _ _ _).trans rfl
set_option maxRecDepth 100000 in
theorem q_X5_allLacking_4 {c : Nat} (hc : isS c) (x1 : Int32) (x2 : Int32) (h : ax_Hp) : ax_run m_X5_allLacking 4 [(0, .ref c), (1, .int x1), (2, .int x2)] [] h = if 8 ≤ x2 then ax_run m_X5_allLacking 24 [(1, .int x1)] [] h else (rI m_X5_lackOf [.ref c, .int x2] h).bind (fun q1 => ax_run m_X5_allLacking 4 [(0, .ref c), (1, .int (x1 + q1.1)), (2, .int (x2 + 1))] [] q1.2) := by
  rcases hc with rfl | rfl
  · exact (ax_run_eq _ _ _ _ _).trans rfl
  · exact (ax_run_eq _ _ _ _ _).trans rfl
set_option maxRecDepth 100000 in
theorem q_X5_allLacking_24 {c : Nat} (hc : isS c) (x1 : Int32) (h : ax_Hp) : ax_run m_X5_allLacking 24 [(1, .int x1)] [] h = some (some (.int x1), h) := by
  rcases hc with rfl | rfl
  · exact (ax_run_eq _ _ _ _ _).trans rfl
  · exact (ax_run_eq _ _ _ _ _).trans rfl
set_option maxRecDepth 100000 in
theorem q_X5_bestWall_0 {c : Nat} (hc : isS c)  (h : ax_Hp) : ax_run m_X5_bestWall 0 [(0, .ref c)] [] h = ax_run m_X5_bestWall 7 [(0, .ref c), (1, .int ((-9))), (2, .int ((-1))), (3, .int 0)] [] h := by
  rcases hc with rfl | rfl
  · exact (ax_run_eq _ _ _ _ _).trans rfl
  · exact (ax_run_eq _ _ _ _ _).trans rfl
set_option maxRecDepth 100000 in
theorem q_X5_bestWall_7 {c : Nat} (hc : isS c) (x1 : Int32) (x2 : Int32) (x3 : Int32) (h : ax_Hp) : ax_run m_X5_bestWall 7 [(0, .ref c), (1, .int x1), (2, .int x2), (3, .int x3)] [] h = if h.1 c 0 ≤ x3 then ax_run m_X5_bestWall 40 [(1, .int x1)] [] h else ax_g (ax_in x3 7) (if h.1 (c + 9) x3.toNatClampNeg ≤ x2 then ax_run m_X5_bestWall 34 [(0, .ref c), (1, .int x1), (2, .int x2), (3, .int x3)] [] h else ax_g (ax_in x3 7) (ax_run m_X5_bestWall 34 [(0, .ref c), (1, .int x3), (2, .int (h.1 (c + 9) x3.toNatClampNeg)), (3, .int x3)] [] h)) := by
  rcases hc with rfl | rfl
  · exact (ax_run_eq _ _ _ _ _).trans rfl
  · exact (ax_run_eq _ _ _ _ _).trans rfl
set_option maxRecDepth 100000 in
theorem q_X5_bestWall_34 {c : Nat} (hc : isS c) (x1 : Int32) (x2 : Int32) (x3 : Int32) (h : ax_Hp) : ax_run m_X5_bestWall 34 [(0, .ref c), (1, .int x1), (2, .int x2), (3, .int x3)] [] h = ax_run m_X5_bestWall 7 [(0, .ref c), (1, .int x1), (2, .int x2), (3, .int (x3 + 1))] [] h := by
  rcases hc with rfl | rfl
  · exact (ax_run_eq _ _ _ _ _).trans rfl
  · exact (ax_run_eq _ _ _ _ _).trans rfl
set_option maxRecDepth 100000 in
theorem q_X5_bestWall_40 {c : Nat} (hc : isS c) (x1 : Int32) (h : ax_Hp) : ax_run m_X5_bestWall 40 [(1, .int x1)] [] h = some (some (.int x1), h) := by
  rcases hc with rfl | rfl
  · exact (ax_run_eq _ _ _ _ _).trans rfl
  · exact (ax_run_eq _ _ _ _ _).trans rfl
set_option maxRecDepth 100000 in
theorem q_X5_looksAt_0 {c : Nat} (hc : isS c) (x1 : Int32) (x2 : Int32) (h : ax_Hp) : ax_run m_X5_looksAt 0 [(0, .ref c), (1, .int x1), (2, .int x2)] [] h = if x1 = x2 then ax_run m_X5_looksAt 13 [] [] h else (rI m_X5_lackOf [.ref c, .int x2] h).bind (fun q1 => if q1.1 = 0 then ax_run m_X5_looksAt 13 [] [] q1.2 else ax_run m_X5_looksAt 15 [(0, .ref c), (1, .int x1), (2, .int x2)] [] q1.2) := by
  rcases hc with rfl | rfl
  · exact (ax_run_eq _ _ _ _ _).trans rfl
  · exact (ax_run_eq _ _ _ _ _).trans rfl
set_option maxRecDepth 100000 in
theorem q_X5_looksAt_13 {c : Nat} (hc : isS c)  (h : ax_Hp) : ax_run m_X5_looksAt 13 [] [] h = some (some (.int 0), h) := by
  rcases hc with rfl | rfl
  · exact (ax_run_eq _ _ _ _ _).trans rfl
  · exact (ax_run_eq _ _ _ _ _).trans rfl
set_option maxRecDepth 100000 in
theorem q_X5_looksAt_15 {c : Nat} (hc : isS c) (x1 : Int32) (x2 : Int32) (h : ax_Hp) : ax_run m_X5_looksAt 15 [(0, .ref c), (1, .int x1), (2, .int x2)] [] h = ax_run m_X5_looksAt 23 [(0, .ref c), (1, .int x1), (2, .int x2), (3, .int ((if x2 < x1 then x2 else x1) + 1))] [] h := by
  rcases hc with rfl | rfl
  · exact (ax_run_eq _ _ _ _ _).trans rfl
  · exact (ax_run_eq _ _ _ _ _).trans rfl
set_option maxRecDepth 100000 in
theorem q_X5_looksAt_23 {c : Nat} (hc : isS c) (x1 : Int32) (x2 : Int32) (x3 : Int32) (h : ax_Hp) : ax_run m_X5_looksAt 23 [(0, .ref c), (1, .int x1), (2, .int x2), (3, .int x3)] [] h = if (if x1 < x2 then x2 else x1) ≤ x3 then ax_run m_X5_looksAt 48 [] [] h else (rI m_X5_wallsAt [.ref c, .int x3] h).bind (fun q1 => if q1.1 = 0 then ax_run m_X5_looksAt 42 [(0, .ref c), (1, .int x1), (2, .int x2), (3, .int x3)] [] q1.2 else some (some (.int 0), q1.2)) := by
  rcases hc with rfl | rfl
  · exact (ax_run_eq _ _ _ _ _).trans rfl
  · exact (ax_run_eq _ _ _ _ _).trans rfl
set_option maxRecDepth 100000 in
theorem q_X5_looksAt_42 {c : Nat} (hc : isS c) (x1 : Int32) (x2 : Int32) (x3 : Int32) (h : ax_Hp) : ax_run m_X5_looksAt 42 [(0, .ref c), (1, .int x1), (2, .int x2), (3, .int x3)] [] h = ax_run m_X5_looksAt 23 [(0, .ref c), (1, .int x1), (2, .int x2), (3, .int (x3 + 1))] [] h := by
  rcases hc with rfl | rfl
  · exact (ax_run_eq _ _ _ _ _).trans rfl
  · exact (ax_run_eq _ _ _ _ _).trans rfl
set_option maxRecDepth 100000 in
theorem q_X5_looksAt_48 {c : Nat} (hc : isS c)  (h : ax_Hp) : ax_run m_X5_looksAt 48 [] [] h = some (some (.int 1), h) := by
  rcases hc with rfl | rfl
  · exact (ax_run_eq _ _ _ _ _).trans rfl
  · exact (ax_run_eq _ _ _ _ _).trans rfl
set_option maxRecDepth 100000 in
theorem q_X5_copyFrom_0_k1_12  (h : ax_Hp) : ax_run m_X5_copyFrom 0 [(0, .ref 1), (1, .ref 12)] [] h = some (none, cpA (cpA (cpA (cpA (cpA (cpA (cpA (cpA (cpA (cpA (wI (wI (wI h 1 0 (h.1 12 0)) 1 1 ((wI h 1 0 (h.1 12 0)).1 12 1)) 1 2 ((wI (wI h 1 0 (h.1 12 0)) 1 1 ((wI h 1 0 (h.1 12 0)).1 12 1)).1 12 2)) 2 13) 3 14) 4 15) 5 16) 6 17) 7 18) 8 19) 9 20) 10 21) 11 22) := (ax_run_eq _ _ _ _ _).trans rfl
set_option maxRecDepth 100000 in
theorem q_X5_turnInto_0 {c : Nat} (hc : isS c) (x1 : Int32) (x2 : Int32) (x3 : Int32) (h : ax_Hp) : ax_run m_X5_turnInto 0 [(0, .ref c), (1, .int x1), (2, .int x2), (3, .int x3)] [] h = (rI m_X5_isWall [.ref c, .int x1] h).bind (fun q1 => if q1.1 = 0 then ax_run m_X5_turnInto 26 [] [] q1.2 else ax_g (ax_in x1 7) (ax_g (ax_in x1 7) ((rV m_X5_weigh [.ref c] (wI (wI q1.2 (c + 1) x1.toNatClampNeg x2) (c + 2) x1.toNatClampNeg x3)).bind (fun q2 => ax_run m_X5_turnInto 26 [] [] q2)))) := by
  rcases hc with rfl | rfl
  · exact (ax_run_eq _ _ _ _ _).trans rfl
  · exact (ax_run_eq _ _ _ _ _).trans rfl
set_option maxRecDepth 100000 in
theorem q_X5_turnInto_26 {c : Nat} (hc : isS c)  (h : ax_Hp) : ax_run m_X5_turnInto 26 [] [] h = some (none, h) := by
  rcases hc with rfl | rfl
  · exact (ax_run_eq _ _ _ _ _).trans rfl
  · exact (ax_run_eq _ _ _ _ _).trans rfl
set_option maxRecDepth 100000 in
theorem q_X5_takeTo_0 {c : Nat} (hc : isS c) (x1 : Int32) (x2 : Int32) (h : ax_Hp) : ax_run m_X5_takeTo 0 [(0, .ref c), (1, .int x1), (2, .int x2)] [] h = (rI m_X5_isWall [.ref c, .int x1] h).bind (fun q1 => if q1.1 = 0 then ax_run m_X5_takeTo 26 [] [] q1.2 else (rI m_X7_isHouse [.int x2] q1.2).bind (fun q2 => if q2.1 = 0 then ax_run m_X5_takeTo 26 [] [] q2.2 else ax_g (ax_in x1 7) ((rV m_X5_weigh [.ref c] (wI q2.2 (c + 4) x1.toNatClampNeg x2)).bind (fun q3 => ax_run m_X5_takeTo 26 [] [] q3)))) := by
  rcases hc with rfl | rfl
  · exact (ax_run_eq _ _ _ _ _).trans rfl
  · exact (ax_run_eq _ _ _ _ _).trans rfl
set_option maxRecDepth 100000 in
theorem q_X5_takeTo_26 {c : Nat} (hc : isS c)  (h : ax_Hp) : ax_run m_X5_takeTo 26 [] [] h = some (none, h) := by
  rcases hc with rfl | rfl
  · exact (ax_run_eq _ _ _ _ _).trans rfl
  · exact (ax_run_eq _ _ _ _ _).trans rfl
set_option maxRecDepth 100000 in
theorem q_X5_turnBar_0 {c : Nat} (hc : isS c) (x1 : Int32) (x2 : Int32) (h : ax_Hp) : ax_run m_X5_turnBar 0 [(0, .ref c), (1, .int x1), (2, .int x2)] [] h = (rI m_X7_areTwoHouses [.int x1, .int x2] h).bind (fun q1 => if q1.1 = 0 then some (some (.int 0), q1.2) else ax_run m_X5_turnBar 10 [(0, .ref c), (1, .int x1), (2, .int x2)] [] q1.2) := by
  rcases hc with rfl | rfl
  · exact (ax_run_eq _ _ _ _ _).trans rfl
  · exact (ax_run_eq _ _ _ _ _).trans rfl
set_option maxRecDepth 100000 in
theorem q_X5_turnBar_10 {c : Nat} (hc : isS c) (x1 : Int32) (x2 : Int32) (h : ax_Hp) : ax_run m_X5_turnBar 10 [(0, .ref c), (1, .int x1), (2, .int x2)] [] h = ax_g (ax_in x1 8) (ax_g (ax_in x1 8) (ax_g (ax_in x1 8) ((rI m_X7_hasBit [.int ((wI h (c + 8) x1.toNatClampNeg ((h.1 (c + 8) x1.toNatClampNeg) ^^^ (1 <<< (x2 &&& 31)))).1 (c + 8) x1.toNatClampNeg), .int x2] (wI h (c + 8) x1.toNatClampNeg ((h.1 (c + 8) x1.toNatClampNeg) ^^^ (1 <<< (x2 &&& 31))))).bind (fun q1 => if q1.1 = 0 then ax_run m_X5_turnBar 39 [] [] q1.2 else ax_run m_X5_turnBar 40 [] [.int 1] q1.2)))) := by
  rcases hc with rfl | rfl
  · exact (ax_run_eq _ _ _ _ _).trans rfl
  · exact (ax_run_eq _ _ _ _ _).trans rfl
set_option maxRecDepth 100000 in
theorem q_X5_turnBar_39 {c : Nat} (hc : isS c)  (h : ax_Hp) : ax_run m_X5_turnBar 39 [] [] h = ax_run m_X5_turnBar 40 [] [.int 0] h := by
  rcases hc with rfl | rfl
  · exact (ax_run_eq _ _ _ _ _).trans rfl
  · exact (ax_run_eq _ _ _ _ _).trans rfl
set_option maxRecDepth 100000 in
theorem q_X5_turnBar_40 {c : Nat} (hc : isS c) (s0 : Int32) (h : ax_Hp) : ax_run m_X5_turnBar 40 [] [.int s0] h = some (some (.int s0), h) := by
  rcases hc with rfl | rfl
  · exact (ax_run_eq _ _ _ _ _).trans rfl
  · exact (ax_run_eq _ _ _ _ _).trans rfl
set_option maxRecDepth 100000 in
theorem q_X5_lentBits_0 {c : Nat} (hc : isS c)  (h : ax_Hp) : ax_run m_X5_lentBits 0 [(0, .ref c)] [] h = ax_run m_X5_lentBits 4 [(0, .ref c), (1, .int 0), (2, .int 0)] [] h := by
  rcases hc with rfl | rfl
  · exact (ax_run_eq _ _ _ _ _).trans rfl
  · exact (ax_run_eq _ _ _ _ _).trans rfl
set_option maxRecDepth 100000 in
theorem q_X5_lentBits_4 {c : Nat} (hc : isS c) (x1 : Int32) (x2 : Int32) (h : ax_Hp) : ax_run m_X5_lentBits 4 [(0, .ref c), (1, .int x1), (2, .int x2)] [] h = if h.1 c 0 ≤ x2 then ax_run m_X5_lentBits 32 [(1, .int x1)] [] h else (rI m_X5_isLent [.ref c, .int x2] h).bind (fun q1 => if q1.1 = 0 then ax_run m_X5_lentBits 26 [(0, .ref c), (1, .int x1), (2, .int x2)] [] q1.2 else ax_run m_X5_lentBits 26 [(0, .ref c), (1, .int (x1 ||| (1 <<< (x2 &&& 31)))), (2, .int x2)] [] q1.2) := by
  rcases hc with rfl | rfl
  · exact (ax_run_eq _ _ _ _ _).trans rfl
  · exact (ax_run_eq _ _ _ _ _).trans rfl
set_option maxRecDepth 100000 in
theorem q_X5_lentBits_26 {c : Nat} (hc : isS c) (x1 : Int32) (x2 : Int32) (h : ax_Hp) : ax_run m_X5_lentBits 26 [(0, .ref c), (1, .int x1), (2, .int x2)] [] h = ax_run m_X5_lentBits 4 [(0, .ref c), (1, .int x1), (2, .int (x2 + 1))] [] h := by
  rcases hc with rfl | rfl
  · exact (ax_run_eq _ _ _ _ _).trans rfl
  · exact (ax_run_eq _ _ _ _ _).trans rfl
set_option maxRecDepth 100000 in
theorem q_X5_lentBits_32 {c : Nat} (hc : isS c) (x1 : Int32) (h : ax_Hp) : ax_run m_X5_lentBits 32 [(1, .int x1)] [] h = some (some (.int x1), h) := by
  rcases hc with rfl | rfl
  · exact (ax_run_eq _ _ _ _ _).trans rfl
  · exact (ax_run_eq _ _ _ _ _).trans rfl
set_option maxRecDepth 100000 in
theorem q_X5_lackOf_0 {c : Nat} (hc : isS c) (x1 : Int32) (h : ax_Hp) : ax_run m_X5_lackOf 0 [(0, .ref c), (1, .int x1)] [] h = (rI m_X5_needOf [.ref c, .int x1] h).bind (fun q1 => ax_g (ax_in x1 8) (some (some (.int (if 0 < q1.1 - (q1.2.1 (c + 10) x1.toNatClampNeg) then q1.1 - (q1.2.1 (c + 10) x1.toNatClampNeg) else 0)), q1.2))) := by
  rcases hc with rfl | rfl
  · exact (ax_run_eq _ _ _ _ _).trans rfl
  · exact (ax_run_eq _ _ _ _ _).trans rfl
set_option maxRecDepth 100000 in
theorem q_X5_needsAt_0 {c : Nat} (hc : isS c) (x1 : Int32) (h : ax_Hp) : ax_run m_X5_needsAt 0 [(0, .ref c), (1, .int x1)] [] h = ax_run m_X5_needsAt 4 [(0, .ref c), (1, .int x1), (2, .int 0), (3, .int 0)] [] h := by
  rcases hc with rfl | rfl
  · exact (ax_run_eq _ _ _ _ _).trans rfl
  · exact (ax_run_eq _ _ _ _ _).trans rfl
set_option maxRecDepth 100000 in
theorem q_X5_needsAt_4 {c : Nat} (hc : isS c) (x1 : Int32) (x2 : Int32) (x3 : Int32) (h : ax_Hp) : ax_run m_X5_needsAt 4 [(0, .ref c), (1, .int x1), (2, .int x2), (3, .int x3)] [] h = if 8 ≤ x3 then ax_run m_X5_needsAt 25 [(2, .int x2)] [] h else (rI m_X5_needAt [.ref c, .int x3, .int x1] h).bind (fun q1 => ax_run m_X5_needsAt 4 [(0, .ref c), (1, .int x1), (2, .int (x2 + q1.1)), (3, .int (x3 + 1))] [] q1.2) := by
  rcases hc with rfl | rfl
  · exact (ax_run_eq _ _ _ _ _).trans rfl
  · exact (ax_run_eq _ _ _ _ _).trans rfl
set_option maxRecDepth 100000 in
theorem q_X5_needsAt_25 {c : Nat} (hc : isS c) (x2 : Int32) (h : ax_Hp) : ax_run m_X5_needsAt 25 [(2, .int x2)] [] h = some (some (.int x2), h) := by
  rcases hc with rfl | rfl
  · exact (ax_run_eq _ _ _ _ _).trans rfl
  · exact (ax_run_eq _ _ _ _ _).trans rfl
set_option maxRecDepth 100000 in
theorem q_X5_needAt_0 {c : Nat} (hc : isS c) (x1 : Int32) (x2 : Int32) (h : ax_Hp) : ax_run m_X5_needAt 0 [(0, .ref c), (1, .int x1), (2, .int x2)] [] h = ax_g (ax_in ((x1 * 6) + x2) 48) (some (some (.int (h.1 (c + 7) ((x1 * 6) + x2).toNatClampNeg)), h)) := by
  rcases hc with rfl | rfl
  · exact (ax_run_eq _ _ _ _ _).trans rfl
  · exact (ax_run_eq _ _ _ _ _).trans rfl
set_option maxRecDepth 100000 in
theorem q_X5_warmerBits_0 {c : Nat} (hc : isS c)  (h : ax_Hp) : ax_run m_X5_warmerBits 0 [(0, .ref c)] [] h = ax_run m_X5_warmerBits 4 [(0, .ref c), (1, .int 0), (2, .int 0)] [] h := by
  rcases hc with rfl | rfl
  · exact (ax_run_eq _ _ _ _ _).trans rfl
  · exact (ax_run_eq _ _ _ _ _).trans rfl
set_option maxRecDepth 100000 in
theorem q_X5_warmerBits_4 {c : Nat} (hc : isS c) (x1 : Int32) (x2 : Int32) (h : ax_Hp) : ax_run m_X5_warmerBits 4 [(0, .ref c), (1, .int x1), (2, .int x2)] [] h = if h.1 c 0 ≤ x2 then ax_run m_X5_warmerBits 57 [(1, .int x1)] [] h else ax_g (ax_in x2 7) (ax_g (ax_in x2 7) ((rI m_X2_coverOf [.int (h.1 (c + 1) x2.toNatClampNeg), .int (h.1 (c + 2) x2.toNatClampNeg), .int (((h.1 c 1) + 1) - ((h.1 c 1) + 1) / 6 * 6)] h).bind (fun q1 => ax_g (ax_in x2 7) (if q1.1 ≤ q1.2.1 (c + 9) x2.toNatClampNeg then ax_run m_X5_warmerBits 51 [(0, .ref c), (1, .int x1), (2, .int x2)] [] q1.2 else ax_run m_X5_warmerBits 51 [(0, .ref c), (1, .int (x1 ||| (1 <<< (x2 &&& 31)))), (2, .int x2)] [] q1.2)))) := by
  rcases hc with rfl | rfl
  · exact (ax_run_eq _ _ _ _ _).trans rfl
  · exact (ax_run_eq _ _ _ _ _).trans rfl
set_option maxRecDepth 100000 in
theorem q_X5_warmerBits_51 {c : Nat} (hc : isS c) (x1 : Int32) (x2 : Int32) (h : ax_Hp) : ax_run m_X5_warmerBits 51 [(0, .ref c), (1, .int x1), (2, .int x2)] [] h = ax_run m_X5_warmerBits 4 [(0, .ref c), (1, .int x1), (2, .int (x2 + 1))] [] h := by
  rcases hc with rfl | rfl
  · exact (ax_run_eq _ _ _ _ _).trans rfl
  · exact (ax_run_eq _ _ _ _ _).trans rfl
set_option maxRecDepth 100000 in
theorem q_X5_warmerBits_57 {c : Nat} (hc : isS c) (x1 : Int32) (h : ax_Hp) : ax_run m_X5_warmerBits 57 [(1, .int x1)] [] h = some (some (.int x1), h) := by
  rcases hc with rfl | rfl
  · exact (ax_run_eq _ _ _ _ _).trans rfl
  · exact (ax_run_eq _ _ _ _ _).trans rfl
set_option maxRecDepth 100000 in
theorem q_X5_setNeed_0 {c : Nat} (hc : isS c) (x1 : Int32) (x2 : Int32) (x3 : Int32) (h : ax_Hp) : ax_run m_X5_setNeed 0 [(0, .ref c), (1, .int x1), (2, .int x2), (3, .int x3)] [] h = (rI m_X7_isHouse [.int x1] h).bind (fun q1 => if q1.1 = 0 then ax_run m_X5_setNeed 29 [] [] q1.2 else if x2 < 0 then ax_run m_X5_setNeed 29 [] [] q1.2 else if 6 ≤ x2 then ax_run m_X5_setNeed 29 [] [] q1.2 else ax_g (ax_in ((x1 * 6) + x2) 48) (ax_run m_X5_setNeed 29 [] [] (wI q1.2 (c + 7) ((x1 * 6) + x2).toNatClampNeg x3))) := by
  rcases hc with rfl | rfl
  · exact (ax_run_eq _ _ _ _ _).trans rfl
  · exact (ax_run_eq _ _ _ _ _).trans rfl
set_option maxRecDepth 100000 in
theorem q_X5_setNeed_29 {c : Nat} (hc : isS c)  (h : ax_Hp) : ax_run m_X5_setNeed 29 [] [] h = some (none, h) := by
  rcases hc with rfl | rfl
  · exact (ax_run_eq _ _ _ _ _).trans rfl
  · exact (ax_run_eq _ _ _ _ _).trans rfl
set_option maxRecDepth 100000 in
theorem q_X2_panesOf_0 (x0 : Int32) (x1 : Int32) (h : ax_Hp) : ax_run m_X2_panesOf 0 [(0, .int x0), (1, .int x1)] [] h = if x0 = 3 then some (some (.int (1 + (x1 / 2))), h) else ax_run m_X2_panesOf 13 [(0, .int x0), (2, .int (1 + (x1 / 2)))] [] h := (ax_run_eq _ _ _ _ _).trans rfl
set_option maxRecDepth 100000 in
theorem q_X2_panesOf_13 (x0 : Int32) (x2 : Int32) (h : ax_Hp) : ax_run m_X2_panesOf 13 [(0, .int x0), (2, .int x2)] [] h = if x0 = 5 then ax_run m_X2_panesOf 25 [] [.int (x2 + 3)] h else ax_run m_X2_panesOf 24 [] [] h := (ax_run_eq _ _ _ _ _).trans rfl
set_option maxRecDepth 100000 in
theorem q_X2_panesOf_24  (h : ax_Hp) : ax_run m_X2_panesOf 24 [] [] h = ax_run m_X2_panesOf 25 [] [.int 0] h := (ax_run_eq _ _ _ _ _).trans rfl
set_option maxRecDepth 100000 in
theorem q_X2_panesOf_25 (s0 : Int32) (h : ax_Hp) : ax_run m_X2_panesOf 25 [] [.int s0] h = some (some (.int s0), h) := (ax_run_eq _ _ _ _ _).trans rfl
set_option maxRecDepth 100000 in
theorem q_X5_wallsAt_0 {c : Nat} (hc : isS c) (x1 : Int32) (h : ax_Hp) : ax_run m_X5_wallsAt 0 [(0, .ref c), (1, .int x1)] [] h = ax_run m_X5_wallsAt 4 [(0, .ref c), (1, .int x1), (2, .int 0), (3, .int 0)] [] h := by
  rcases hc with rfl | rfl
  · exact (ax_run_eq _ _ _ _ _).trans rfl
  · exact (ax_run_eq _ _ _ _ _).trans rfl
set_option maxRecDepth 100000 in
theorem q_X5_wallsAt_4 {c : Nat} (hc : isS c) (x1 : Int32) (x2 : Int32) (x3 : Int32) (h : ax_Hp) : ax_run m_X5_wallsAt 4 [(0, .ref c), (1, .int x1), (2, .int x2), (3, .int x3)] [] h = if h.1 c 0 ≤ x3 then ax_run m_X5_wallsAt 34 [(2, .int x2)] [] h else ax_g (ax_in x3 7) (if h.1 (c + 4) x3.toNatClampNeg = x1 then ax_run m_X5_wallsAt 28 [(0, .ref c), (1, .int x1), (2, .int (x2 ||| (1 <<< (x3 &&& 31)))), (3, .int x3)] [] h else ax_run m_X5_wallsAt 28 [(0, .ref c), (1, .int x1), (2, .int x2), (3, .int x3)] [] h) := by
  rcases hc with rfl | rfl
  · exact (ax_run_eq _ _ _ _ _).trans rfl
  · exact (ax_run_eq _ _ _ _ _).trans rfl
set_option maxRecDepth 100000 in
theorem q_X5_wallsAt_28 {c : Nat} (hc : isS c) (x1 : Int32) (x2 : Int32) (x3 : Int32) (h : ax_Hp) : ax_run m_X5_wallsAt 28 [(0, .ref c), (1, .int x1), (2, .int x2), (3, .int x3)] [] h = ax_run m_X5_wallsAt 4 [(0, .ref c), (1, .int x1), (2, .int x2), (3, .int (x3 + 1))] [] h := by
  rcases hc with rfl | rfl
  · exact (ax_run_eq _ _ _ _ _).trans rfl
  · exact (ax_run_eq _ _ _ _ _).trans rfl
set_option maxRecDepth 100000 in
theorem q_X5_wallsAt_34 {c : Nat} (hc : isS c) (x2 : Int32) (h : ax_Hp) : ax_run m_X5_wallsAt 34 [(2, .int x2)] [] h = some (some (.int x2), h) := by
  rcases hc with rfl | rfl
  · exact (ax_run_eq _ _ _ _ _).trans rfl
  · exact (ax_run_eq _ _ _ _ _).trans rfl
set_option maxRecDepth 100000 in
theorem q_X5_isWall_0 {c : Nat} (hc : isS c) (x1 : Int32) (h : ax_Hp) : ax_run m_X5_isWall 0 [(0, .ref c), (1, .int x1)] [] h = if x1 < 0 then ax_run m_X5_isWall 16 [] [] h else if h.1 c 0 ≤ x1 then ax_run m_X5_isWall 16 [] [] h else ax_run m_X5_isWall 17 [] [.int 1] h := by
  rcases hc with rfl | rfl
  · exact (ax_run_eq _ _ _ _ _).trans rfl
  · exact (ax_run_eq _ _ _ _ _).trans rfl
set_option maxRecDepth 100000 in
theorem q_X5_isWall_16 {c : Nat} (hc : isS c)  (h : ax_Hp) : ax_run m_X5_isWall 16 [] [] h = ax_run m_X5_isWall 17 [] [.int 0] h := by
  rcases hc with rfl | rfl
  · exact (ax_run_eq _ _ _ _ _).trans rfl
  · exact (ax_run_eq _ _ _ _ _).trans rfl
set_option maxRecDepth 100000 in
theorem q_X5_isWall_17 {c : Nat} (hc : isS c) (s0 : Int32) (h : ax_Hp) : ax_run m_X5_isWall 17 [] [.int s0] h = if s0 = 0 ∨ s0 = 1 then some (some (.int s0), h) else none := by
  rcases hc with rfl | rfl
  · exact (ax_run_eq _ _ _ _ _).trans rfl
  · exact (ax_run_eq _ _ _ _ _).trans rfl
set_option maxRecDepth 100000 in
theorem q_X5_allHoles_0 {c : Nat} (hc : isS c)  (h : ax_Hp) : ax_run m_X5_allHoles 0 [(0, .ref c)] [] h = ax_run m_X5_allHoles 4 [(0, .ref c), (1, .int 0), (2, .int 0)] [] h := by
  rcases hc with rfl | rfl
  · exact (ax_run_eq _ _ _ _ _).trans rfl
  · exact (ax_run_eq _ _ _ _ _).trans rfl
set_option maxRecDepth 100000 in
theorem q_X5_allHoles_4 {c : Nat} (hc : isS c) (x1 : Int32) (x2 : Int32) (h : ax_Hp) : ax_run m_X5_allHoles 4 [(0, .ref c), (1, .int x1), (2, .int x2)] [] h = if h.1 c 0 ≤ x2 then ax_run m_X5_allHoles 27 [(1, .int x1)] [] h else ax_g (ax_in x2 7) (ax_run m_X5_allHoles 4 [(0, .ref c), (1, .int (x1 + (h.1 (c + 5) x2.toNatClampNeg))), (2, .int (x2 + 1))] [] h) := by
  rcases hc with rfl | rfl
  · exact (ax_run_eq _ _ _ _ _).trans rfl
  · exact (ax_run_eq _ _ _ _ _).trans rfl
set_option maxRecDepth 100000 in
theorem q_X5_allHoles_27 {c : Nat} (hc : isS c) (x1 : Int32) (h : ax_Hp) : ax_run m_X5_allHoles 27 [(1, .int x1)] [] h = some (some (.int x1), h) := by
  rcases hc with rfl | rfl
  · exact (ax_run_eq _ _ _ _ _).trans rfl
  · exact (ax_run_eq _ _ _ _ _).trans rfl
set_option maxRecDepth 100000 in
theorem q_X5_coldestPart_0 {c : Nat} (hc : isS c)  (h : ax_Hp) : ax_run m_X5_coldestPart 0 [(0, .ref c)] [] h = ax_run m_X5_coldestPart 4 [(0, .ref c), (1, .int 0), (2, .int 1)] [] h := by
  rcases hc with rfl | rfl
  · exact (ax_run_eq _ _ _ _ _).trans rfl
  · exact (ax_run_eq _ _ _ _ _).trans rfl
set_option maxRecDepth 100000 in
theorem q_X5_coldestPart_4 {c : Nat} (hc : isS c) (x1 : Int32) (x2 : Int32) (h : ax_Hp) : ax_run m_X5_coldestPart 4 [(0, .ref c), (1, .int x1), (2, .int x2)] [] h = if 6 ≤ x2 then ax_run m_X5_coldestPart 31 [(1, .int x1)] [] h else (rI m_X5_needsAt [.ref c, .int x2] h).bind (fun q1 => (rI m_X5_needsAt [.ref c, .int x1] q1.2).bind (fun q2 => if q1.1 ≤ q2.1 then ax_run m_X5_coldestPart 25 [(0, .ref c), (1, .int x1), (2, .int x2)] [] q2.2 else ax_run m_X5_coldestPart 25 [(0, .ref c), (1, .int x2), (2, .int x2)] [] q2.2)) := by
  rcases hc with rfl | rfl
  · exact (ax_run_eq _ _ _ _ _).trans rfl
  · exact (ax_run_eq _ _ _ _ _).trans rfl
set_option maxRecDepth 100000 in
theorem q_X5_coldestPart_25 {c : Nat} (hc : isS c) (x1 : Int32) (x2 : Int32) (h : ax_Hp) : ax_run m_X5_coldestPart 25 [(0, .ref c), (1, .int x1), (2, .int x2)] [] h = ax_run m_X5_coldestPart 4 [(0, .ref c), (1, .int x1), (2, .int (x2 + 1))] [] h := by
  rcases hc with rfl | rfl
  · exact (ax_run_eq _ _ _ _ _).trans rfl
  · exact (ax_run_eq _ _ _ _ _).trans rfl
set_option maxRecDepth 100000 in
theorem q_X5_coldestPart_31 {c : Nat} (hc : isS c) (x1 : Int32) (h : ax_Hp) : ax_run m_X5_coldestPart 31 [(1, .int x1)] [] h = some (some (.int x1), h) := by
  rcases hc with rfl | rfl
  · exact (ax_run_eq _ _ _ _ _).trans rfl
  · exact (ax_run_eq _ _ _ _ _).trans rfl
set_option maxRecDepth 100000 in
theorem q_X5_copyFrom_0_k12_1  (h : ax_Hp) : ax_run m_X5_copyFrom 0 [(0, .ref 12), (1, .ref 1)] [] h = some (none, cpA (cpA (cpA (cpA (cpA (cpA (cpA (cpA (cpA (cpA (wI (wI (wI h 12 0 (h.1 1 0)) 12 1 ((wI h 12 0 (h.1 1 0)).1 1 1)) 12 2 ((wI (wI h 12 0 (h.1 1 0)) 12 1 ((wI h 12 0 (h.1 1 0)).1 1 1)).1 1 2)) 13 2) 14 3) 15 4) 16 5) 17 6) 18 7) 19 8) 20 9) 21 10) 22 11) := (ax_run_eq _ _ _ _ _).trans rfl
set_option maxRecDepth 100000 in
theorem q_X5_addWall_0 {c : Nat} (hc : isS c) (x1 : Int32) (x2 : Int32) (x3 : Int32) (h : ax_Hp) : ax_run m_X5_addWall 0 [(0, .ref c), (1, .int x1), (2, .int x2), (3, .int x3)] [] h = if 7 ≤ h.1 c 0 then ax_run m_X5_addWall 16 [] [] h else (rI m_X7_isHouse [.int x3] h).bind (fun q1 => if q1.1 = 0 then ax_run m_X5_addWall 16 [] [] q1.2 else ax_run m_X5_addWall 17 [(0, .ref c), (1, .int x1), (2, .int x2), (3, .int x3)] [] q1.2) := by
  rcases hc with rfl | rfl
  · exact (ax_run_eq _ _ _ _ _).trans rfl
  · exact (ax_run_eq _ _ _ _ _).trans rfl
set_option maxRecDepth 100000 in
theorem q_X5_addWall_16 {c : Nat} (hc : isS c)  (h : ax_Hp) : ax_run m_X5_addWall 16 [] [] h = some (none, h) := by
  rcases hc with rfl | rfl
  · exact (ax_run_eq _ _ _ _ _).trans rfl
  · exact (ax_run_eq _ _ _ _ _).trans rfl
set_option maxRecDepth 100000 in
theorem q_X5_addWall_17 {c : Nat} (hc : isS c) (x1 : Int32) (x2 : Int32) (x3 : Int32) (h : ax_Hp) : ax_run m_X5_addWall 17 [(0, .ref c), (1, .int x1), (2, .int x2), (3, .int x3)] [] h = ax_g (ax_in (h.1 c 0) 7) (ax_g (ax_in (h.1 c 0) 7) (ax_g (ax_in (h.1 c 0) 7) (ax_g (ax_in (h.1 c 0) 7) (ax_g (ax_in (h.1 c 0) 7) ((rV m_X5_weigh [.ref c] (wI (wI (wI (wI (wI (wI h c 0 ((h.1 c 0) + 1)) (c + 1) (h.1 c 0).toNatClampNeg x1) (c + 2) (h.1 c 0).toNatClampNeg x2) (c + 3) (h.1 c 0).toNatClampNeg x3) (c + 4) (h.1 c 0).toNatClampNeg x3) (c + 5) (h.1 c 0).toNatClampNeg 0)).bind (fun q1 => some (none, q1))))))) := by
  rcases hc with rfl | rfl
  · exact (ax_run_eq _ _ _ _ _).trans rfl
  · exact (ax_run_eq _ _ _ _ _).trans rfl
set_option maxRecDepth 100000 in
theorem q_X5_lackWithout_0 {c : Nat} (hc : isS c) (x1 : Int32) (h : ax_Hp) : ax_run m_X5_lackWithout 0 [(0, .ref c), (1, .int x1)] [] h = ax_g (ax_in x1 7) ((rI m_X5_needOf [.ref c, .int (h.1 (c + 4) x1.toNatClampNeg)] h).bind (fun q1 => ax_g (ax_in (h.1 (c + 4) x1.toNatClampNeg) 8) (ax_g (ax_in x1 7) (some (some (.int (if 0 < (q1.1 - (q1.2.1 (c + 10) (h.1 (c + 4) x1.toNatClampNeg).toNatClampNeg)) + (q1.2.1 (c + 9) x1.toNatClampNeg) then (q1.1 - (q1.2.1 (c + 10) (h.1 (c + 4) x1.toNatClampNeg).toNatClampNeg)) + (q1.2.1 (c + 9) x1.toNatClampNeg) else 0)), q1.2))))) := by
  rcases hc with rfl | rfl
  · exact (ax_run_eq _ _ _ _ _).trans rfl
  · exact (ax_run_eq _ _ _ _ _).trans rfl
set_option maxRecDepth 100000 in
theorem q_X5_isLent_0 {c : Nat} (hc : isS c) (x1 : Int32) (h : ax_Hp) : ax_run m_X5_isLent 0 [(0, .ref c), (1, .int x1)] [] h = ax_g (ax_in x1 7) (ax_g (ax_in x1 7) (if h.1 (c + 4) x1.toNatClampNeg = h.1 (c + 3) x1.toNatClampNeg then ax_run m_X5_isLent 19 [] [] h else ax_run m_X5_isLent 20 [] [.int 1] h)) := by
  rcases hc with rfl | rfl
  · exact (ax_run_eq _ _ _ _ _).trans rfl
  · exact (ax_run_eq _ _ _ _ _).trans rfl
set_option maxRecDepth 100000 in
theorem q_X5_isLent_19 {c : Nat} (hc : isS c)  (h : ax_Hp) : ax_run m_X5_isLent 19 [] [] h = ax_run m_X5_isLent 20 [] [.int 0] h := by
  rcases hc with rfl | rfl
  · exact (ax_run_eq _ _ _ _ _).trans rfl
  · exact (ax_run_eq _ _ _ _ _).trans rfl
set_option maxRecDepth 100000 in
theorem q_X5_isLent_20 {c : Nat} (hc : isS c) (s0 : Int32) (h : ax_Hp) : ax_run m_X5_isLent 20 [] [.int s0] h = if s0 = 0 ∨ s0 = 1 then some (some (.int s0), h) else none := by
  rcases hc with rfl | rfl
  · exact (ax_run_eq _ _ _ _ _).trans rfl
  · exact (ax_run_eq _ _ _ _ _).trans rfl
set_option maxRecDepth 100000 in
theorem q_X5_weigh_0 {c : Nat} (hc : isS c)  (h : ax_Hp) : ax_run m_X5_weigh 0 [(0, .ref c)] [] h = ax_run m_X5_weigh 2 [(0, .ref c), (1, .int 0)] [] h := by
  rcases hc with rfl | rfl
  · exact (ax_run_eq _ _ _ _ _).trans rfl
  · exact (ax_run_eq _ _ _ _ _).trans rfl
set_option maxRecDepth 100000 in
theorem q_X5_weigh_2 {c : Nat} (hc : isS c) (x1 : Int32) (h : ax_Hp) : ax_run m_X5_weigh 2 [(0, .ref c), (1, .int x1)] [] h = if 8 ≤ x1 then ax_run m_X5_weigh 21 [(0, .ref c)] [] h else ax_g (ax_in x1 8) (ax_run m_X5_weigh 2 [(0, .ref c), (1, .int (x1 + 1))] [] (wI h (c + 10) x1.toNatClampNeg 0)) := by
  rcases hc with rfl | rfl
  · exact (ax_run_eq _ _ _ _ _).trans rfl
  · exact (ax_run_eq _ _ _ _ _).trans rfl
set_option maxRecDepth 100000 in
theorem q_X5_weigh_21 {c : Nat} (hc : isS c)  (h : ax_Hp) : ax_run m_X5_weigh 21 [(0, .ref c)] [] h = ax_run m_X5_weigh 23 [(0, .ref c), (1, .int 0)] [] h := by
  rcases hc with rfl | rfl
  · exact (ax_run_eq _ _ _ _ _).trans rfl
  · exact (ax_run_eq _ _ _ _ _).trans rfl
set_option maxRecDepth 100000 in
theorem q_X5_weigh_23 {c : Nat} (hc : isS c) (x1 : Int32) (h : ax_Hp) : ax_run m_X5_weigh 23 [(0, .ref c), (1, .int x1)] [] h = if h.1 c 0 ≤ x1 then ax_run m_X5_weigh 85 [] [] h else ax_g (ax_in x1 7) (ax_g (ax_in x1 7) ((rI m_X2_coverOf [.int (h.1 (c + 1) x1.toNatClampNeg), .int (h.1 (c + 2) x1.toNatClampNeg), .int ((h.1 c 1) - (h.1 c 1) / 6 * 6)] h).bind (fun q1 => ax_g (ax_in x1 7) (ax_g (ax_in x1 7) (ax_g (ax_in ((wI q1.2 (c + 9) x1.toNatClampNeg q1.1).1 (c + 4) x1.toNatClampNeg) 8) (ax_g (ax_in x1 7) (ax_g (ax_in ((wI q1.2 (c + 9) x1.toNatClampNeg q1.1).1 (c + 4) x1.toNatClampNeg) 8) (ax_run m_X5_weigh 23 [(0, .ref c), (1, .int (x1 + 1))] [] (wI (wI q1.2 (c + 9) x1.toNatClampNeg q1.1) (c + 10) ((wI q1.2 (c + 9) x1.toNatClampNeg q1.1).1 (c + 4) x1.toNatClampNeg).toNatClampNeg (((wI q1.2 (c + 9) x1.toNatClampNeg q1.1).1 (c + 10) ((wI q1.2 (c + 9) x1.toNatClampNeg q1.1).1 (c + 4) x1.toNatClampNeg).toNatClampNeg) + ((wI q1.2 (c + 9) x1.toNatClampNeg q1.1).1 (c + 9) x1.toNatClampNeg))))))))))) := by
  rcases hc with rfl | rfl
  · exact (ax_run_eq _ _ _ _ _).trans rfl
  · exact (ax_run_eq _ _ _ _ _).trans rfl
set_option maxRecDepth 100000 in
theorem q_X5_weigh_85 {c : Nat} (hc : isS c)  (h : ax_Hp) : ax_run m_X5_weigh 85 [] [] h = some (none, h) := by
  rcases hc with rfl | rfl
  · exact (ax_run_eq _ _ _ _ _).trans rfl
  · exact (ax_run_eq _ _ _ _ _).trans rfl
set_option maxRecDepth 100000 in
theorem q_X5_passHour_0 {c : Nat} (hc : isS c)  (h : ax_Hp) : ax_run m_X5_passHour 0 [(0, .ref c)] [] h = (rV m_X5_weigh [.ref c] (wI h c 1 ((h.1 c 1) + 1))).bind (fun q1 => ax_run m_X5_passHour 16 [(0, .ref c), (1, .int 0)] [] q1) := by
  rcases hc with rfl | rfl
  · exact (ax_run_eq _ _ _ _ _).trans rfl
  · exact (ax_run_eq _ _ _ _ _).trans rfl
set_option maxRecDepth 100000 in
theorem q_X5_passHour_16 {c : Nat} (hc : isS c) (x1 : Int32) (h : ax_Hp) : ax_run m_X5_passHour 16 [(0, .ref c), (1, .int x1)] [] h = if h.1 c 0 ≤ x1 then ax_run m_X5_passHour 102 [] [] h else ax_g (ax_in x1 7) ((rI m_X5_nextHouse [.ref c, .int x1] h).bind (fun q1 => ax_g (ax_in x1 7) (if q1.1 = h.1 (c + 4) x1.toNatClampNeg then ax_run m_X5_passHour 96 [(0, .ref c), (1, .int x1)] [] (wI q1.2 (c + 6) x1.toNatClampNeg (h.1 (c + 4) x1.toNatClampNeg)) else ax_g (ax_in (h.1 (c + 4) x1.toNatClampNeg) 8) (ax_g (ax_in x1 7) (ax_g (ax_in (h.1 (c + 4) x1.toNatClampNeg) 8) (ax_g (ax_in q1.1 8) (ax_g (ax_in x1 7) (ax_g (ax_in q1.1 8) (ax_g (ax_in x1 7) (ax_g (ax_in x1 7) (ax_g (ax_in x1 7) (ax_run m_X5_passHour 96 [(0, .ref c), (1, .int x1)] [] (wI (wI (wI (wI (wI q1.2 (c + 6) x1.toNatClampNeg (h.1 (c + 4) x1.toNatClampNeg)) (c + 10) (h.1 (c + 4) x1.toNatClampNeg).toNatClampNeg (((wI q1.2 (c + 6) x1.toNatClampNeg (h.1 (c + 4) x1.toNatClampNeg)).1 (c + 10) (h.1 (c + 4) x1.toNatClampNeg).toNatClampNeg) - ((wI q1.2 (c + 6) x1.toNatClampNeg (h.1 (c + 4) x1.toNatClampNeg)).1 (c + 9) x1.toNatClampNeg))) (c + 10) q1.1.toNatClampNeg (((wI (wI q1.2 (c + 6) x1.toNatClampNeg (h.1 (c + 4) x1.toNatClampNeg)) (c + 10) (h.1 (c + 4) x1.toNatClampNeg).toNatClampNeg (((wI q1.2 (c + 6) x1.toNatClampNeg (h.1 (c + 4) x1.toNatClampNeg)).1 (c + 10) (h.1 (c + 4) x1.toNatClampNeg).toNatClampNeg) - ((wI q1.2 (c + 6) x1.toNatClampNeg (h.1 (c + 4) x1.toNatClampNeg)).1 (c + 9) x1.toNatClampNeg))).1 (c + 10) q1.1.toNatClampNeg) + ((wI (wI q1.2 (c + 6) x1.toNatClampNeg (h.1 (c + 4) x1.toNatClampNeg)) (c + 10) (h.1 (c + 4) x1.toNatClampNeg).toNatClampNeg (((wI q1.2 (c + 6) x1.toNatClampNeg (h.1 (c + 4) x1.toNatClampNeg)).1 (c + 10) (h.1 (c + 4) x1.toNatClampNeg).toNatClampNeg) - ((wI q1.2 (c + 6) x1.toNatClampNeg (h.1 (c + 4) x1.toNatClampNeg)).1 (c + 9) x1.toNatClampNeg))).1 (c + 9) x1.toNatClampNeg))) (c + 4) x1.toNatClampNeg q1.1) (c + 5) x1.toNatClampNeg (((wI (wI (wI (wI q1.2 (c + 6) x1.toNatClampNeg (h.1 (c + 4) x1.toNatClampNeg)) (c + 10) (h.1 (c + 4) x1.toNatClampNeg).toNatClampNeg (((wI q1.2 (c + 6) x1.toNatClampNeg (h.1 (c + 4) x1.toNatClampNeg)).1 (c + 10) (h.1 (c + 4) x1.toNatClampNeg).toNatClampNeg) - ((wI q1.2 (c + 6) x1.toNatClampNeg (h.1 (c + 4) x1.toNatClampNeg)).1 (c + 9) x1.toNatClampNeg))) (c + 10) q1.1.toNatClampNeg (((wI (wI q1.2 (c + 6) x1.toNatClampNeg (h.1 (c + 4) x1.toNatClampNeg)) (c + 10) (h.1 (c + 4) x1.toNatClampNeg).toNatClampNeg (((wI q1.2 (c + 6) x1.toNatClampNeg (h.1 (c + 4) x1.toNatClampNeg)).1 (c + 10) (h.1 (c + 4) x1.toNatClampNeg).toNatClampNeg) - ((wI q1.2 (c + 6) x1.toNatClampNeg (h.1 (c + 4) x1.toNatClampNeg)).1 (c + 9) x1.toNatClampNeg))).1 (c + 10) q1.1.toNatClampNeg) + ((wI (wI q1.2 (c + 6) x1.toNatClampNeg (h.1 (c + 4) x1.toNatClampNeg)) (c + 10) (h.1 (c + 4) x1.toNatClampNeg).toNatClampNeg (((wI q1.2 (c + 6) x1.toNatClampNeg (h.1 (c + 4) x1.toNatClampNeg)).1 (c + 10) (h.1 (c + 4) x1.toNatClampNeg).toNatClampNeg) - ((wI q1.2 (c + 6) x1.toNatClampNeg (h.1 (c + 4) x1.toNatClampNeg)).1 (c + 9) x1.toNatClampNeg))).1 (c + 9) x1.toNatClampNeg))) (c + 4) x1.toNatClampNeg q1.1).1 (c + 5) x1.toNatClampNeg) + 1)))))))))))))) := by
  rcases hc with rfl | rfl
  · exact (ax_run_eq _ _ _ _ _).trans rfl
  · exact (ax_run_eq _ _ _ _ _).trans rfl
set_option maxRecDepth 100000 in
theorem q_X5_passHour_96 {c : Nat} (hc : isS c) (x1 : Int32) (h : ax_Hp) : ax_run m_X5_passHour 96 [(0, .ref c), (1, .int x1)] [] h = ax_run m_X5_passHour 16 [(0, .ref c), (1, .int (x1 + 1))] [] h := by
  rcases hc with rfl | rfl
  · exact (ax_run_eq _ _ _ _ _).trans rfl
  · exact (ax_run_eq _ _ _ _ _).trans rfl
set_option maxRecDepth 100000 in
theorem q_X5_passHour_102 {c : Nat} (hc : isS c)  (h : ax_Hp) : ax_run m_X5_passHour 102 [] [] h = some (none, h) := by
  rcases hc with rfl | rfl
  · exact (ax_run_eq _ _ _ _ _).trans rfl
  · exact (ax_run_eq _ _ _ _ _).trans rfl
set_option maxRecDepth 100000 in
theorem q_X2_coverOf_0 (x0 : Int32) (x1 : Int32) (x2 : Int32) (h : ax_Hp) : ax_run m_X2_coverOf 0 [(0, .int x0), (1, .int x1), (2, .int x2)] [] h = if x0 = 1 then ax_run m_X2_coverOf 40 [(2, .int x2), (3, .int (x1 + 1))] [] h else if x0 = 2 then ax_run m_X2_coverOf 53 [(3, .int (x1 + 1))] [] h else if x0 = 3 then ax_run m_X2_coverOf 67 [(3, .int (x1 + 1))] [] h else if x0 = 4 then ax_run m_X2_coverOf 57 [(3, .int (x1 + 1))] [] h else if x0 = 5 then ax_run m_X2_coverOf 63 [(3, .int (x1 + 1))] [] h else ax_run m_X2_coverOf 67 [(3, .int (x1 + 1))] [] h := (ax_run_eq _ _ _ _ _).trans rfl
set_option maxRecDepth 100000 in
theorem q_X2_coverOf_40 (x2 : Int32) (x3 : Int32) (h : ax_Hp) : ax_run m_X2_coverOf 40 [(2, .int x2), (3, .int x3)] [] h = if 2 < x2 then ax_run m_X2_coverOf 51 [(3, .int x3)] [] h else ax_run m_X2_coverOf 52 [] [.int (x3 + 3)] h := (ax_run_eq _ _ _ _ _).trans rfl
set_option maxRecDepth 100000 in
theorem q_X2_coverOf_51 (x3 : Int32) (h : ax_Hp) : ax_run m_X2_coverOf 51 [(3, .int x3)] [] h = ax_run m_X2_coverOf 52 [] [.int x3] h := (ax_run_eq _ _ _ _ _).trans rfl
set_option maxRecDepth 100000 in
theorem q_X2_coverOf_52 (s0 : Int32) (h : ax_Hp) : ax_run m_X2_coverOf 52 [] [.int s0] h = some (some (.int s0), h) := (ax_run_eq _ _ _ _ _).trans rfl
set_option maxRecDepth 100000 in
theorem q_X2_coverOf_53 (x3 : Int32) (h : ax_Hp) : ax_run m_X2_coverOf 53 [(3, .int x3)] [] h = some (some (.int (x3 / 2)), h) := (ax_run_eq _ _ _ _ _).trans rfl
set_option maxRecDepth 100000 in
theorem q_X2_coverOf_57 (x3 : Int32) (h : ax_Hp) : ax_run m_X2_coverOf 57 [(3, .int x3)] [] h = some (some (.int ((x3 / 2) + 1)), h) := (ax_run_eq _ _ _ _ _).trans rfl
set_option maxRecDepth 100000 in
theorem q_X2_coverOf_63 (x3 : Int32) (h : ax_Hp) : ax_run m_X2_coverOf 63 [(3, .int x3)] [] h = some (some (.int (2 * x3)), h) := (ax_run_eq _ _ _ _ _).trans rfl
set_option maxRecDepth 100000 in
theorem q_X2_coverOf_67 (x3 : Int32) (h : ax_Hp) : ax_run m_X2_coverOf 67 [(3, .int x3)] [] h = some (some (.int x3), h) := (ax_run_eq _ _ _ _ _).trans rfl
set_option maxRecDepth 100000 in
theorem q_X5_nextHouse_0 {c : Nat} (hc : isS c) (x1 : Int32) (h : ax_Hp) : ax_run m_X5_nextHouse 0 [(0, .ref c), (1, .int x1)] [] h = ax_g (ax_in x1 7) (ax_g (ax_in x1 7) (if h.1 (c + 3) x1.toNatClampNeg = h.1 (c + 4) x1.toNatClampNeg then ax_run m_X5_nextHouse 39 [(0, .ref c), (1, .int x1), (2, .int (h.1 (c + 4) x1.toNatClampNeg))] [] h else (rI m_X5_lackOf [.ref c, .int (h.1 (c + 3) x1.toNatClampNeg)] h).bind (fun q1 => if q1.1 ≤ 0 then ax_run m_X5_nextHouse 39 [(0, .ref c), (1, .int x1), (2, .int (h.1 (c + 4) x1.toNatClampNeg))] [] q1.2 else (rI m_X5_canGo [.ref c, .int x1, .int (h.1 (c + 4) x1.toNatClampNeg), .int (h.1 (c + 3) x1.toNatClampNeg)] q1.2).bind (fun q2 => if q2.1 = 0 then ax_run m_X5_nextHouse 39 [(0, .ref c), (1, .int x1), (2, .int (h.1 (c + 4) x1.toNatClampNeg))] [] q2.2 else some (some (.int (h.1 (c + 3) x1.toNatClampNeg)), q2.2))))) := by
  rcases hc with rfl | rfl
  · exact (ax_run_eq _ _ _ _ _).trans rfl
  · exact (ax_run_eq _ _ _ _ _).trans rfl
set_option maxRecDepth 100000 in
theorem q_X5_nextHouse_39 {c : Nat} (hc : isS c) (x1 : Int32) (x2 : Int32) (h : ax_Hp) : ax_run m_X5_nextHouse 39 [(0, .ref c), (1, .int x1), (2, .int x2)] [] h = (rI m_X5_lackWithout [.ref c, .int x1] h).bind (fun q1 => ax_run m_X5_nextHouse 52 [(0, .ref c), (1, .int x1), (2, .int x2), (4, .int x2), (5, .int q1.1), (6, .int 0)] [] q1.2) := by
  rcases hc with rfl | rfl
  · exact (ax_run_eq _ _ _ _ _).trans rfl
  · exact (ax_run_eq _ _ _ _ _).trans rfl
set_option maxRecDepth 100000 in
theorem q_X5_nextHouse_52 {c : Nat} (hc : isS c) (x1 : Int32) (x2 : Int32) (x4 : Int32) (x5 : Int32) (x6 : Int32) (h : ax_Hp) : ax_run m_X5_nextHouse 52 [(0, .ref c), (1, .int x1), (2, .int x2), (4, .int x4), (5, .int x5), (6, .int x6)] [] h = if 8 ≤ x6 then ax_run m_X5_nextHouse 99 [(4, .int x4)] [] h else (rI m_X5_lackOf [.ref c, .int x6] h).bind (fun q1 => if q1.1 ≤ x5 then ax_run m_X5_nextHouse 93 [(0, .ref c), (1, .int x1), (2, .int x2), (4, .int x4), (5, .int x5), (6, .int x6)] [] q1.2 else (rI m_X5_canGo [.ref c, .int x1, .int x2, .int x6] q1.2).bind (fun q2 => if q2.1 = 0 then ax_run m_X5_nextHouse 93 [(0, .ref c), (1, .int x1), (2, .int x2), (4, .int x4), (5, .int x5), (6, .int x6)] [] q2.2 else (rI m_X5_lackOf [.ref c, .int x6] q2.2).bind (fun q3 => ax_run m_X5_nextHouse 93 [(0, .ref c), (1, .int x1), (2, .int x2), (4, .int x6), (5, .int q3.1), (6, .int x6)] [] q3.2))) := by
  rcases hc with rfl | rfl
  · exact (ax_run_eq _ _ _ _ _).trans rfl
  · exact (ax_run_eq _ _ _ _ _).trans rfl
set_option maxRecDepth 100000 in
theorem q_X5_nextHouse_93 {c : Nat} (hc : isS c) (x1 : Int32) (x2 : Int32) (x4 : Int32) (x5 : Int32) (x6 : Int32) (h : ax_Hp) : ax_run m_X5_nextHouse 93 [(0, .ref c), (1, .int x1), (2, .int x2), (4, .int x4), (5, .int x5), (6, .int x6)] [] h = ax_run m_X5_nextHouse 52 [(0, .ref c), (1, .int x1), (2, .int x2), (4, .int x4), (5, .int x5), (6, .int (x6 + 1))] [] h := by
  rcases hc with rfl | rfl
  · exact (ax_run_eq _ _ _ _ _).trans rfl
  · exact (ax_run_eq _ _ _ _ _).trans rfl
set_option maxRecDepth 100000 in
theorem q_X5_nextHouse_99 {c : Nat} (hc : isS c) (x4 : Int32) (h : ax_Hp) : ax_run m_X5_nextHouse 99 [(4, .int x4)] [] h = some (some (.int x4), h) := by
  rcases hc with rfl | rfl
  · exact (ax_run_eq _ _ _ _ _).trans rfl
  · exact (ax_run_eq _ _ _ _ _).trans rfl
set_option maxRecDepth 100000 in
theorem q_X5_copyFrom_0_k23_1  (h : ax_Hp) : ax_run m_X5_copyFrom 0 [(0, .ref 23), (1, .ref 1)] [] h = some (none, cpA (cpA (cpA (cpA (cpA (cpA (cpA (cpA (cpA (cpA (wI (wI (wI h 23 0 (h.1 1 0)) 23 1 ((wI h 23 0 (h.1 1 0)).1 1 1)) 23 2 ((wI (wI h 23 0 (h.1 1 0)) 23 1 ((wI h 23 0 (h.1 1 0)).1 1 1)).1 1 2)) 24 2) 25 3) 26 4) 27 5) 28 6) 29 7) 30 8) 31 9) 32 10) 33 11) := (ax_run_eq _ _ _ _ _).trans rfl
set_option maxRecDepth 100000 in
theorem q_X5_canGo_0 {c : Nat} (hc : isS c) (x1 : Int32) (x2 : Int32) (x3 : Int32) (h : ax_Hp) : ax_run m_X5_canGo 0 [(0, .ref c), (1, .int x1), (2, .int x2), (3, .int x3)] [] h = if x2 = x3 then ax_run m_X5_canGo 39 [] [] h else ax_g (ax_in x2 8) ((rI m_X7_hasBit [.int (h.1 (c + 8) x2.toNatClampNeg), .int x3] h).bind (fun q1 => if q1.1 = 0 then ax_g (ax_in x1 7) ((rI m_X7_stepsBetween [.int x2, .int x3] q1.2).bind (fun q2 => (rI m_X2_strides [.int (q1.2.1 (c + 1) x1.toNatClampNeg), .int q2.1] q2.2).bind (fun q3 => if q3.1 = 0 then ax_run m_X5_canGo 39 [] [] q3.2 else ax_run m_X5_canGo 40 [] [.int 1] q3.2))) else ax_run m_X5_canGo 39 [] [] q1.2)) := by
  rcases hc with rfl | rfl
  · exact (ax_run_eq _ _ _ _ _).trans rfl
  · exact (ax_run_eq _ _ _ _ _).trans rfl
set_option maxRecDepth 100000 in
theorem q_X5_canGo_39 {c : Nat} (hc : isS c)  (h : ax_Hp) : ax_run m_X5_canGo 39 [] [] h = ax_run m_X5_canGo 40 [] [.int 0] h := by
  rcases hc with rfl | rfl
  · exact (ax_run_eq _ _ _ _ _).trans rfl
  · exact (ax_run_eq _ _ _ _ _).trans rfl
set_option maxRecDepth 100000 in
theorem q_X5_canGo_40 {c : Nat} (hc : isS c) (s0 : Int32) (h : ax_Hp) : ax_run m_X5_canGo 40 [] [.int s0] h = if s0 = 0 ∨ s0 = 1 then some (some (.int s0), h) else none := by
  rcases hc with rfl | rfl
  · exact (ax_run_eq _ _ _ _ _).trans rfl
  · exact (ax_run_eq _ _ _ _ _).trans rfl
set_option maxRecDepth 100000 in
theorem q_X2_strides_0 (x0 : Int32) (x1 : Int32) (h : ax_Hp) : ax_run m_X2_strides 0 [(0, .int x0), (1, .int x1)] [] h = if x1 - x1 / 2 * 2 = 0 then ax_run m_X2_strides 11 [(0, .int x0), (1, .int x1)] [.int 1] h else ax_run m_X2_strides 10 [(0, .int x0), (1, .int x1)] [] h := (ax_run_eq _ _ _ _ _).trans rfl
set_option maxRecDepth 100000 in
theorem q_X2_strides_10 (x0 : Int32) (x1 : Int32) (h : ax_Hp) : ax_run m_X2_strides 10 [(0, .int x0), (1, .int x1)] [] h = ax_run m_X2_strides 11 [(0, .int x0), (1, .int x1)] [.int 0] h := (ax_run_eq _ _ _ _ _).trans rfl
set_option maxRecDepth 100000 in
theorem q_X2_strides_11 (x0 : Int32) (x1 : Int32) (s0 : Int32) (h : ax_Hp) : ax_run m_X2_strides 11 [(0, .int x0), (1, .int x1)] [.int s0] h = if x0 = 2 then ax_run m_X2_strides 44 [] [] h else if x0 = 3 then ax_run m_X2_strides 46 [(2, .int s0)] [] h else if x0 = 4 then ax_run m_X2_strides 48 [(1, .int x1)] [] h else if x0 = 5 then ax_run m_X2_strides 59 [(1, .int x1), (2, .int s0)] [] h else ax_run m_X2_strides 74 [(1, .int x1)] [] h := (ax_run_eq _ _ _ _ _).trans rfl
set_option maxRecDepth 100000 in
theorem q_X2_strides_44  (h : ax_Hp) : ax_run m_X2_strides 44 [] [] h = some (some (.int 1), h) := (ax_run_eq _ _ _ _ _).trans rfl
set_option maxRecDepth 100000 in
theorem q_X2_strides_46 (x2 : Int32) (h : ax_Hp) : ax_run m_X2_strides 46 [(2, .int x2)] [] h = if x2 = 0 ∨ x2 = 1 then some (some (.int x2), h) else none := (ax_run_eq _ _ _ _ _).trans rfl
set_option maxRecDepth 100000 in
theorem q_X2_strides_48 (x1 : Int32) (h : ax_Hp) : ax_run m_X2_strides 48 [(1, .int x1)] [] h = if x1 = 1 then ax_run m_X2_strides 58 [] [.int 1] h else ax_run m_X2_strides 57 [] [] h := (ax_run_eq _ _ _ _ _).trans rfl
set_option maxRecDepth 100000 in
theorem q_X2_strides_57  (h : ax_Hp) : ax_run m_X2_strides 57 [] [] h = ax_run m_X2_strides 58 [] [.int 0] h := (ax_run_eq _ _ _ _ _).trans rfl
set_option maxRecDepth 100000 in
theorem q_X2_strides_58 (s0 : Int32) (h : ax_Hp) : ax_run m_X2_strides 58 [] [.int s0] h = if s0 = 0 ∨ s0 = 1 then some (some (.int s0), h) else none := (ax_run_eq _ _ _ _ _).trans rfl
set_option maxRecDepth 100000 in
theorem q_X2_strides_59 (x1 : Int32) (x2 : Int32) (h : ax_Hp) : ax_run m_X2_strides 59 [(1, .int x1), (2, .int x2)] [] h = if x2 = 0 then if x1 = 1 then ax_run m_X2_strides 68 [] [] h else ax_run m_X2_strides 72 [] [] h else ax_run m_X2_strides 68 [] [] h := (ax_run_eq _ _ _ _ _).trans rfl
set_option maxRecDepth 100000 in
theorem q_X2_strides_68  (h : ax_Hp) : ax_run m_X2_strides 68 [] [] h = ax_run m_X2_strides 73 [] [.int 1] h := (ax_run_eq _ _ _ _ _).trans rfl
set_option maxRecDepth 100000 in
theorem q_X2_strides_72  (h : ax_Hp) : ax_run m_X2_strides 72 [] [] h = ax_run m_X2_strides 73 [] [.int 0] h := (ax_run_eq _ _ _ _ _).trans rfl
set_option maxRecDepth 100000 in
theorem q_X2_strides_73 (s0 : Int32) (h : ax_Hp) : ax_run m_X2_strides 73 [] [.int s0] h = if s0 = 0 ∨ s0 = 1 then some (some (.int s0), h) else none := (ax_run_eq _ _ _ _ _).trans rfl
set_option maxRecDepth 100000 in
theorem q_X2_strides_74 (x1 : Int32) (h : ax_Hp) : ax_run m_X2_strides 74 [(1, .int x1)] [] h = if 3 < x1 then ax_run m_X2_strides 83 [] [] h else ax_run m_X2_strides 84 [] [.int 1] h := (ax_run_eq _ _ _ _ _).trans rfl
set_option maxRecDepth 100000 in
theorem q_X2_strides_83  (h : ax_Hp) : ax_run m_X2_strides 83 [] [] h = ax_run m_X2_strides 84 [] [.int 0] h := (ax_run_eq _ _ _ _ _).trans rfl
set_option maxRecDepth 100000 in
theorem q_X2_strides_84 (s0 : Int32) (h : ax_Hp) : ax_run m_X2_strides 84 [] [.int s0] h = if s0 = 0 ∨ s0 = 1 then some (some (.int s0), h) else none := (ax_run_eq _ _ _ _ _).trans rfl
