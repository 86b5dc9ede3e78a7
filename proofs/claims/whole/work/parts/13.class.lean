/-! the equations of the blocks: by wip/whole/gen8.py -/
set_option maxRecDepth 100000 in
theorem q_X7_whatIs_0 (x1 : Int32) (x2 : Int32) (h : ax_Hp) : ax_run m_X7_whatIs 0 [(0, .ref 0), (1, .int x1), (2, .int x2)] [] h = (rI m_X5_isWall [.ref 1, .int x1] h).bind (fun q1 => if q1.1 = 0 then (rI m_X7_refuse [.ref 0, .int ((-1))] q1.2).bind (fun q2 => some (some (.int q2.1), q2.2)) else ax_run m_X7_whatIs 17 [(0, .ref 0), (1, .int x1), (2, .int x2)] [] q1.2) := (ax_run_eq _ _ _ _ _).trans rfl
set_option maxRecDepth 100000 in
theorem q_X7_whatIs_17 (x1 : Int32) (x2 : Int32) (h : ax_Hp) : ax_run m_X7_whatIs 17 [(0, .ref 0), (1, .int x1), (2, .int x2)] [] h = if x2 < 0 then ax_run m_X7_whatIs 26 [(0, .ref 0)] [] h else if x2 ≤ 1 then ax_run m_X7_whatIs 33 [(0, .ref 0), (1, .int x1), (2, .int x2)] [] h else ax_run m_X7_whatIs 26 [(0, .ref 0)] [] h := (ax_run_eq _ _ _ _ _).trans rfl
set_option maxRecDepth 100000 in
theorem q_X7_whatIs_26  (h : ax_Hp) : ax_run m_X7_whatIs 26 [(0, .ref 0)] [] h = (rI m_X7_refuse [.ref 0, .int ((-2))] h).bind (fun q1 => some (some (.int q1.1), q1.2)) := (ax_run_eq _ _ _ _ _).trans rfl
set_option maxRecDepth 100000 in
theorem q_X7_whatIs_33 (x1 : Int32) (x2 : Int32) (h : ax_Hp) : ax_run m_X7_whatIs 33 [(0, .ref 0), (1, .int x1), (2, .int x2)] [] h = if x2 = 0 then (rI m_X6_fittingKinds [.ref 43, .ref 1, .int x1, .ref 38] h).bind (fun q1 => ax_run m_X7_whatIs 72 [] [.int q1.1] q1.2) else ax_run m_X7_whatIs 56 [(0, .ref 0), (1, .int x1)] [] h := (ax_run_eq _ _ _ _ _).trans rfl
set_option maxRecDepth 100000 in
theorem q_X7_whatIs_56 (x1 : Int32) (h : ax_Hp) : ax_run m_X7_whatIs 56 [(0, .ref 0), (1, .int x1)] [] h = (rI m_X6_fittingFigures [.ref 43, .ref 1, .int x1, .ref 38] h).bind (fun q1 => ax_run m_X7_whatIs 72 [] [.int q1.1] q1.2) := (ax_run_eq _ _ _ _ _).trans rfl
set_option maxRecDepth 100000 in
theorem q_X7_whatIs_72 (s0 : Int32) (h : ax_Hp) : ax_run m_X7_whatIs 72 [] [.int s0] h = some (some (.int s0), h) := (ax_run_eq _ _ _ _ _).trans rfl
set_option maxRecDepth 100000 in
theorem q_X7_hours_0 (x1 : Int32) (h : ax_Hp) : ax_run m_X7_hours 0 [(0, .ref 0), (1, .int x1)] [] h = (rI m_X7_outside [.int x1, .int 1, .int 60] h).bind (fun q1 => if q1.1 = 0 then ax_run m_X7_hours 18 [(0, .ref 0), (1, .int x1)] [] q1.2 else (rI m_X7_refuse [.ref 0, .int q1.1] q1.2).bind (fun q2 => some (some (.int q2.1), q2.2))) := (ax_run_eq _ _ _ _ _).trans rfl
set_option maxRecDepth 100000 in
theorem q_X7_hours_18 (x1 : Int32) (h : ax_Hp) : ax_run m_X7_hours 18 [(0, .ref 0), (1, .int x1)] [] h = if (h.1 1 1) + x1 ≤ 999 then ax_run m_X7_hours 40 [(0, .ref 0), (1, .int x1)] [] h else (rI m_X7_refuse [.ref 0, .int ((-6))] h).bind (fun q1 => some (some (.int q1.1), q1.2)) := (ax_run_eq _ _ _ _ _).trans rfl
set_option maxRecDepth 100000 in
theorem q_X7_hours_40 (x1 : Int32) (h : ax_Hp) : ax_run m_X7_hours 40 [(0, .ref 0), (1, .int x1)] [] h = (rV m_X7_pass [.ref 0, .int x1] h).bind (fun q1 => (rI m_X5_allLacking [.ref 1] q1).bind (fun q2 => some (some (.int q2.1), q2.2))) := (ax_run_eq _ _ _ _ _).trans rfl
set_option maxRecDepth 100000 in
theorem q_X7_spare_0  (h : ax_Hp) : ax_run m_X7_spare 0 [(0, .ref 0)] [] h = (rI m_X0_spareBits [.ref 40, .ref 1] h).bind (fun q1 => some (some (.int q1.1), q1.2)) := (ax_run_eq _ _ _ _ _).trans rfl
set_option maxRecDepth 100000 in
theorem q_X7_letter_0 (x1 : Int32) (h : ax_Hp) : ax_run m_X7_letter 0 [(0, .ref 0), (1, .int x1)] [] h = if 0 ≤ x1 then ax_run m_X7_letter 11 [(0, .ref 0), (1, .int x1)] [] h else (rI m_X7_refuse [.ref 0, .int ((-4))] h).bind (fun q1 => some (some (.int q1.1), q1.2)) := (ax_run_eq _ _ _ _ _).trans rfl
set_option maxRecDepth 100000 in
theorem q_X7_letter_11 (x1 : Int32) (h : ax_Hp) : ax_run m_X7_letter 11 [(0, .ref 0), (1, .int x1)] [] h = if 255 < x1 then ax_run m_X7_letter 30 [(0, .ref 0)] [] h else if h.1 36 1 < 96 then ax_run m_X7_letter 37 [(0, .ref 0), (1, .int x1)] [] h else ax_run m_X7_letter 30 [(0, .ref 0)] [] h := (ax_run_eq _ _ _ _ _).trans rfl
set_option maxRecDepth 100000 in
theorem q_X7_letter_30  (h : ax_Hp) : ax_run m_X7_letter 30 [(0, .ref 0)] [] h = (rI m_X7_refuse [.ref 0, .int ((-6))] h).bind (fun q1 => some (some (.int q1.1), q1.2)) := (ax_run_eq _ _ _ _ _).trans rfl
set_option maxRecDepth 100000 in
theorem q_X7_letter_37 (x1 : Int32) (h : ax_Hp) : ax_run m_X7_letter 37 [(0, .ref 0), (1, .int x1)] [] h = (rI m_X3_add [.ref 36, .int x1] h).bind (fun q1 => some (some (.int q1.1), q1.2)) := (ax_run_eq _ _ _ _ _).trans rfl
set_option maxRecDepth 100000 in
theorem q_X7_lacksThen_0 (x1 : Int32) (x2 : Int32) (h : ax_Hp) : ax_run m_X7_lacksThen 0 [(0, .ref 0), (1, .int x1), (2, .int x2)] [] h = (rI m_X7_isHouse [.int x1] h).bind (fun q1 => if q1.1 = 0 then (rI m_X7_refuse [.ref 0, .int ((-1))] q1.2).bind (fun q2 => some (some (.int q2.1), q2.2)) else ax_run m_X7_lacksThen 13 [(0, .ref 0), (1, .int x1), (2, .int x2)] [] q1.2) := (ax_run_eq _ _ _ _ _).trans rfl
set_option maxRecDepth 100000 in
theorem q_X7_lacksThen_13 (x1 : Int32) (x2 : Int32) (h : ax_Hp) : ax_run m_X7_lacksThen 13 [(0, .ref 0), (1, .int x1), (2, .int x2)] [] h = (rI m_X7_outside [.int x2, .int 0, .int 60] h).bind (fun q1 => if q1.1 = 0 then ax_run m_X7_lacksThen 31 [(0, .ref 0), (1, .int x1), (2, .int x2)] [] q1.2 else (rI m_X7_refuse [.ref 0, .int q1.1] q1.2).bind (fun q2 => some (some (.int q2.1), q2.2))) := (ax_run_eq _ _ _ _ _).trans rfl
set_option maxRecDepth 100000 in
theorem q_X7_lacksThen_31 (x1 : Int32) (x2 : Int32) (h : ax_Hp) : ax_run m_X7_lacksThen 31 [(0, .ref 0), (1, .int x1), (2, .int x2)] [] h = (rA m_X6_after [.ref 43, .ref 1, .int x2] h).bind (fun q1 => ax_exec ax_run m_X7_lacksThen 1 (0, []) [(43, .iload_n 1, 1, [(.null, 1, [])]), (44, .invokevirtual 160, 3, [(.null, 50, [2, 1, 4, 2, 366])]), (47, .ireturn, 1, [])] [(0, .ref 0), (1, .int x1), (2, .int x2)] [.ref q1.1] q1.2) := (ax_run_eq _ _ _ _ _).trans rfl
theorem q_X7_lacksThen_31_x (x1 : Int32) (x2 : Int32) (h : ax_Hp) : ax_exec ax_run m_X7_lacksThen 1 (0, []) [(43, .iload_n 1, 1, [(.null, 1, [])]), (44, .invokevirtual 160, 3, [(.null, 50, [2, 1, 4, 2, 366])]), (47, .ireturn, 1, [])] [(0, .ref 0), (1, .int x1), (2, .int x2)] [.ref 23] h = (rI m_X5_lackOf [.ref 23, .int x1] h).bind (fun q1 => some (some (.int q1.1), q1.2)) := rfl
set_option maxRecDepth 100000 in
theorem q_X7_row_0 (x1 : Int32) (h : ax_Hp) : ax_run m_X7_row 0 [(0, .ref 0), (1, .int x1)] [] h = if 0 ≤ x1 then ax_run m_X7_row 11 [(0, .ref 0), (1, .int x1)] [] h else (rI m_X7_refuse [.ref 0, .int ((-4))] h).bind (fun q1 => some (some (.int q1.1), q1.2)) := (ax_run_eq _ _ _ _ _).trans rfl
set_option maxRecDepth 100000 in
theorem q_X7_row_11 (x1 : Int32) (h : ax_Hp) : ax_run m_X7_row 11 [(0, .ref 0), (1, .int x1)] [] h = if 99 < x1 then ax_run m_X7_row 29 [(0, .ref 0)] [] h else if h.1 38 1 < 16 then ax_run m_X7_row 36 [(0, .ref 0), (1, .int x1)] [] h else ax_run m_X7_row 29 [(0, .ref 0)] [] h := (ax_run_eq _ _ _ _ _).trans rfl
set_option maxRecDepth 100000 in
theorem q_X7_row_29  (h : ax_Hp) : ax_run m_X7_row 29 [(0, .ref 0)] [] h = (rI m_X7_refuse [.ref 0, .int ((-6))] h).bind (fun q1 => some (some (.int q1.1), q1.2)) := (ax_run_eq _ _ _ _ _).trans rfl
set_option maxRecDepth 100000 in
theorem q_X7_row_36 (x1 : Int32) (h : ax_Hp) : ax_run m_X7_row 36 [(0, .ref 0), (1, .int x1)] [] h = (rI m_X4_add [.ref 38, .int x1] h).bind (fun q1 => some (some (.int q1.1), q1.2)) := (ax_run_eq _ _ _ _ _).trans rfl
set_option maxRecDepth 100000 in
theorem q_X7_asked_0  (h : ax_Hp) : ax_run m_X7_asked 0 [(0, .ref 0)] [] h = (rI m_X6_hoursToAllLent [.ref 43, .ref 1] h).bind (fun q1 => some (some (.int q1.1), q1.2)) := (ax_run_eq _ _ _ _ _).trans rfl
set_option maxRecDepth 100000 in
theorem q_X7_panes_0 (x1 : Int32) (h : ax_Hp) : ax_run m_X7_panes 0 [(0, .ref 0), (1, .int x1)] [] h = (rI m_X5_isWall [.ref 1, .int x1] h).bind (fun q1 => if q1.1 = 0 then (rI m_X7_refuse [.ref 0, .int ((-1))] q1.2).bind (fun q2 => some (some (.int q2.1), q2.2)) else ax_run m_X7_panes 17 [(0, .ref 0), (1, .int x1)] [] q1.2) := (ax_run_eq _ _ _ _ _).trans rfl
set_option maxRecDepth 100000 in
theorem q_X7_panes_17 (x1 : Int32) (h : ax_Hp) : ax_run m_X7_panes 17 [(0, .ref 0), (1, .int x1)] [] h = ax_g (ax_in x1 7) (ax_g (ax_in x1 7) ((rI m_X2_panesOf [.int (h.1 2 x1.toNatClampNeg), .int (h.1 3 x1.toNatClampNeg)] h).bind (fun q1 => if q1.1 = 0 then (rI m_X7_refuse [.ref 0, .int ((-3))] q1.2).bind (fun q2 => ax_run m_X7_panes 53 [] [.int q2.1] q2.2) else ax_run m_X7_panes 52 [(2, .int q1.1)] [] q1.2))) := (ax_run_eq _ _ _ _ _).trans rfl
set_option maxRecDepth 100000 in
theorem q_X7_panes_52 (x2 : Int32) (h : ax_Hp) : ax_run m_X7_panes 52 [(2, .int x2)] [] h = ax_run m_X7_panes 53 [] [.int x2] h := (ax_run_eq _ _ _ _ _).trans rfl
set_option maxRecDepth 100000 in
theorem q_X7_panes_53 (s0 : Int32) (h : ax_Hp) : ax_run m_X7_panes 53 [] [.int s0] h = some (some (.int s0), h) := (ax_run_eq _ _ _ _ _).trans rfl
set_option maxRecDepth 100000 in
theorem q_X7_image_0  (h : ax_Hp) : ax_run m_X7_image 0 [(0, .ref 0)] [] h = (rV m_X5_copyFrom [.ref 12, .ref 1] h).bind (fun q1 => some (some (.int ((wI q1 0 3 1).1 1 1)), wI q1 0 3 1)) := (ax_run_eq _ _ _ _ _).trans rfl
set_option maxRecDepth 100000 in
theorem q_X7_hide_0 (x1 : Int32) (x2 : Int32) (h : ax_Hp) : ax_run m_X7_hide 0 [(0, .ref 0), (1, .int x1), (2, .int x2)] [] h = (rI m_X7_areTwoHouses [.int x1, .int x2] h).bind (fun q1 => if q1.1 = 0 then (rI m_X7_refuse [.ref 0, .int ((-1))] q1.2).bind (fun q2 => some (some (.int q2.1), q2.2)) else ax_run m_X7_hide 14 [(0, .ref 0), (1, .int x1), (2, .int x2)] [] q1.2) := (ax_run_eq _ _ _ _ _).trans rfl
set_option maxRecDepth 100000 in
theorem q_X7_hide_14 (x1 : Int32) (x2 : Int32) (h : ax_Hp) : ax_run m_X7_hide 14 [(0, .ref 0), (1, .int x1), (2, .int x2)] [] h = (rI m_X5_looksAt [.ref 1, .int x1, .int x2] h).bind (fun q1 => if q1.1 = 0 then (rI m_X7_refuse [.ref 0, .int ((-3))] q1.2).bind (fun q2 => some (some (.int q2.1), q2.2)) else ax_run m_X7_hide 33 [(0, .ref 0), (1, .int x1), (2, .int x2)] [] q1.2) := (ax_run_eq _ _ _ _ _).trans rfl
set_option maxRecDepth 100000 in
theorem q_X7_hide_33 (x1 : Int32) (x2 : Int32) (h : ax_Hp) : ax_run m_X7_hide 33 [(0, .ref 0), (1, .int x1), (2, .int x2)] [] h = (rI m_X0_screen [.ref 40, .ref 1, .int x1, .int x2] h).bind (fun q1 => some (some (.int q1.1), q1.2)) := (ax_run_eq _ _ _ _ _).trans rfl
set_option maxRecDepth 100000 in
theorem q_X7_clear_0  (h : ax_Hp) : ax_run m_X7_clear 0 [(0, .ref 0)] [] h = some (some (.int (h.1 38 1)), wI h 38 1 0) := (ax_run_eq _ _ _ _ _).trans rfl
set_option maxRecDepth 100000 in
theorem q_X7_street_0  (h : ax_Hp) : ax_run m_X7_street 0 [(0, .ref 0)] [] h = (rI m_X3_fault [.ref 36, .int (h.1 1 0), .int (h.1 1 1)] h).bind (fun q1 => ax_run m_X7_street 29 [(0, .ref 0), (1, .int q1.1), (2, .int 0), (3, .int 0), (4, .int 0)] [] q1.2) := (ax_run_eq _ _ _ _ _).trans rfl
set_option maxRecDepth 100000 in
theorem q_X7_street_29 (x1 : Int32) (x2 : Int32) (x3 : Int32) (x4 : Int32) (h : ax_Hp) : ax_run m_X7_street 29 [(0, .ref 0), (1, .int x1), (2, .int x2), (3, .int x3), (4, .int x4)] [] h = if 96 ≤ x4 then ax_run m_X7_street 79 [(0, .ref 0), (1, .int x1), (2, .int x2)] [] h else if x1 = 0 then if h.1 36 1 ≤ x3 then ax_run m_X7_street 79 [(0, .ref 0), (1, .int x1), (2, .int x2)] [] h else (rV m_X7_tell [.ref 0, .int x3] h).bind (fun q1 => (rI m_X3_signAt [.ref 36, .int x3] q1).bind (fun q2 => (rI m_X3_sizeOf [.int q2.1] q2.2).bind (fun q3 => ax_run m_X7_street 29 [(0, .ref 0), (1, .int x1), (2, .int (x2 + 1)), (3, .int (x3 + q3.1)), (4, .int (x4 + 1))] [] q3.2))) else ax_run m_X7_street 79 [(0, .ref 0), (1, .int x1), (2, .int x2)] [] h := (ax_run_eq _ _ _ _ _).trans rfl
set_option maxRecDepth 100000 in
theorem q_X7_street_79 (x1 : Int32) (x2 : Int32) (h : ax_Hp) : ax_run m_X7_street 79 [(0, .ref 0), (1, .int x1), (2, .int x2)] [] h = if x1 = 0 then ax_run m_X7_street 96 [] [.int x2] (wI h 36 1 0) else ax_run m_X7_street 95 [(1, .int x1)] [] (wI h 36 1 0) := (ax_run_eq _ _ _ _ _).trans rfl
set_option maxRecDepth 100000 in
theorem q_X7_street_95 (x1 : Int32) (h : ax_Hp) : ax_run m_X7_street 95 [(1, .int x1)] [] h = ax_run m_X7_street 96 [] [.int x1] h := (ax_run_eq _ _ _ _ _).trans rfl
set_option maxRecDepth 100000 in
theorem q_X7_street_96 (s0 : Int32) (h : ax_Hp) : ax_run m_X7_street 96 [] [.int s0] h = some (some (.int s0), h) := (ax_run_eq _ _ _ _ _).trans rfl
set_option maxRecDepth 100000 in
theorem q_X7_count_0 (x1 : Int32) (h : ax_Hp) : ax_run m_X7_count 0 [(0, .ref 0), (1, .int x1)] [] h = if x1 = 0 then ax_run m_X7_count 48 [(0, .ref 0)] [] h else if x1 = 1 then ax_run m_X7_count 56 [(0, .ref 0)] [] h else if x1 = 2 then ax_run m_X7_count 64 [(0, .ref 0)] [] h else if x1 = 3 then ax_run m_X7_count 72 [(0, .ref 0)] [] h else if x1 = 4 then ax_run m_X7_count 80 [(0, .ref 0)] [] h else if x1 = 5 then ax_run m_X7_count 88 [(0, .ref 0)] [] h else if x1 = 6 then ax_run m_X7_count 96 [(0, .ref 0)] [] h else if x1 = 7 then ax_run m_X7_count 104 [(0, .ref 0)] [] h else ax_run m_X7_count 112 [(0, .ref 0), (1, .int x1)] [] h := (ax_run_eq _ _ _ _ _).trans rfl
set_option maxRecDepth 100000 in
theorem q_X7_count_48  (h : ax_Hp) : ax_run m_X7_count 48 [(0, .ref 0)] [] h = some (some (.int (h.1 1 0)), h) := (ax_run_eq _ _ _ _ _).trans rfl
set_option maxRecDepth 100000 in
theorem q_X7_count_56  (h : ax_Hp) : ax_run m_X7_count 56 [(0, .ref 0)] [] h = some (some (.int (h.1 1 1)), h) := (ax_run_eq _ _ _ _ _).trans rfl
set_option maxRecDepth 100000 in
theorem q_X7_count_64  (h : ax_Hp) : ax_run m_X7_count 64 [(0, .ref 0)] [] h = (rI m_X5_allLacking [.ref 1] h).bind (fun q1 => some (some (.int q1.1), q1.2)) := (ax_run_eq _ _ _ _ _).trans rfl
set_option maxRecDepth 100000 in
theorem q_X7_count_72  (h : ax_Hp) : ax_run m_X7_count 72 [(0, .ref 0)] [] h = (rI m_X5_seenBits [.ref 1] h).bind (fun q1 => some (some (.int q1.1), q1.2)) := (ax_run_eq _ _ _ _ _).trans rfl
set_option maxRecDepth 100000 in
theorem q_X7_count_80  (h : ax_Hp) : ax_run m_X7_count 80 [(0, .ref 0)] [] h = (rI m_X5_lentBits [.ref 1] h).bind (fun q1 => some (some (.int q1.1), q1.2)) := (ax_run_eq _ _ _ _ _).trans rfl
set_option maxRecDepth 100000 in
theorem q_X7_count_88  (h : ax_Hp) : ax_run m_X7_count 88 [(0, .ref 0)] [] h = (rI m_X5_allHoles [.ref 1] h).bind (fun q1 => some (some (.int q1.1), q1.2)) := (ax_run_eq _ _ _ _ _).trans rfl
set_option maxRecDepth 100000 in
theorem q_X7_count_96  (h : ax_Hp) : ax_run m_X7_count 96 [(0, .ref 0)] [] h = some (some (.int (h.1 38 1)), h) := (ax_run_eq _ _ _ _ _).trans rfl
set_option maxRecDepth 100000 in
theorem q_X7_count_104  (h : ax_Hp) : ax_run m_X7_count 104 [(0, .ref 0)] [] h = some (some (.int (h.1 36 1)), h) := (ax_run_eq _ _ _ _ _).trans rfl
set_option maxRecDepth 100000 in
theorem q_X7_count_112 (x1 : Int32) (h : ax_Hp) : ax_run m_X7_count 112 [(0, .ref 0), (1, .int x1)] [] h = if x1 < 11 then ax_run m_X7_count 136 [] [] h else if 16 < x1 then ax_run m_X7_count 136 [] [] h else ax_g (ax_in (x1 - 10) 7) (ax_run m_X7_count 138 [] [.int (h.1 46 (x1 - 10).toNatClampNeg)] h) := (ax_run_eq _ _ _ _ _).trans rfl
set_option maxRecDepth 100000 in
theorem q_X7_count_136  (h : ax_Hp) : ax_run m_X7_count 136 [] [] h = ax_run m_X7_count 138 [] [.int ((-9))] h := (ax_run_eq _ _ _ _ _).trans rfl
set_option maxRecDepth 100000 in
theorem q_X7_count_138 (s0 : Int32) (h : ax_Hp) : ax_run m_X7_count 138 [] [.int s0] h = some (some (.int s0), h) := (ax_run_eq _ _ _ _ _).trans rfl
set_option maxRecDepth 100000 in
theorem q_X7_sells_0 (x1 : Int32) (x2 : Int32) (h : ax_Hp) : ax_run m_X7_sells 0 [(0, .ref 0), (1, .int x1), (2, .int x2)] [] h = (rI m_X5_isWall [.ref 1, .int x1] h).bind (fun q1 => if q1.1 = 0 then ax_run m_X7_sells 18 [(0, .ref 0)] [] q1.2 else (rI m_X7_isHouse [.int x2] q1.2).bind (fun q2 => if q2.1 = 0 then ax_run m_X7_sells 18 [(0, .ref 0)] [] q2.2 else ax_run m_X7_sells 24 [(0, .ref 0), (1, .int x1), (2, .int x2)] [] q2.2)) := (ax_run_eq _ _ _ _ _).trans rfl
set_option maxRecDepth 100000 in
theorem q_X7_sells_18  (h : ax_Hp) : ax_run m_X7_sells 18 [(0, .ref 0)] [] h = (rI m_X7_refuse [.ref 0, .int ((-1))] h).bind (fun q1 => some (some (.int q1.1), q1.2)) := (ax_run_eq _ _ _ _ _).trans rfl
set_option maxRecDepth 100000 in
theorem q_X7_sells_24 (x1 : Int32) (x2 : Int32) (h : ax_Hp) : ax_run m_X7_sells 24 [(0, .ref 0), (1, .int x1), (2, .int x2)] [] h = ax_g (ax_in x1 7) ((rV m_X5_sellTo [.ref 1, .int x1, .int x2] h).bind (fun q1 => some (some (.int (h.1 4 x1.toNatClampNeg)), q1))) := (ax_run_eq _ _ _ _ _).trans rfl
set_option maxRecDepth 100000 in
theorem q_X7_coughs_0 (x1 : Int32) (x2 : Int32) (x3 : Int32) (h : ax_Hp) : ax_run m_X7_coughs 0 [(0, .ref 0), (1, .int x1), (2, .int x2), (3, .int x3)] [] h = (rI m_X7_areTwoHouses [.int x1, .int x2] h).bind (fun q1 => if q1.1 = 0 then (rI m_X7_refuse [.ref 0, .int ((-1))] q1.2).bind (fun q2 => some (some (.int q2.1), q2.2)) else ax_run m_X7_coughs 14 [(0, .ref 0), (1, .int x1), (2, .int x2), (3, .int x3)] [] q1.2) := (ax_run_eq _ _ _ _ _).trans rfl
set_option maxRecDepth 100000 in
theorem q_X7_coughs_14 (x1 : Int32) (x2 : Int32) (x3 : Int32) (h : ax_Hp) : ax_run m_X7_coughs 14 [(0, .ref 0), (1, .int x1), (2, .int x2), (3, .int x3)] [] h = (rI m_X7_outside [.int x3, .int 0, .int 60] h).bind (fun q1 => if q1.1 = 0 then ax_run m_X7_coughs 35 [(0, .ref 0), (1, .int x1), (2, .int x2), (3, .int x3)] [] q1.2 else (rI m_X7_refuse [.ref 0, .int q1.1] q1.2).bind (fun q2 => some (some (.int q2.1), q2.2))) := (ax_run_eq _ _ _ _ _).trans rfl
set_option maxRecDepth 100000 in
theorem q_X7_coughs_35 (x1 : Int32) (x2 : Int32) (x3 : Int32) (h : ax_Hp) : ax_run m_X7_coughs 35 [(0, .ref 0), (1, .int x1), (2, .int x2), (3, .int x3)] [] h = (rI m_X6_goingsBetween [.ref 43, .ref 1, .int x1, .int x2, .int x3] h).bind (fun q1 => some (some (.int q1.1), q1.2)) := (ax_run_eq _ _ _ _ _).trans rfl
set_option maxRecDepth 100000 in
theorem q_X7_bars_0 (x1 : Int32) (x2 : Int32) (h : ax_Hp) : ax_run m_X7_bars 0 [(0, .ref 0), (1, .int x1), (2, .int x2)] [] h = (rI m_X7_areTwoHouses [.int x1, .int x2] h).bind (fun q1 => if q1.1 = 0 then (rI m_X7_refuse [.ref 0, .int ((-1))] q1.2).bind (fun q2 => some (some (.int q2.1), q2.2)) else ax_run m_X7_bars 14 [(0, .ref 0), (1, .int x1), (2, .int x2)] [] q1.2) := (ax_run_eq _ _ _ _ _).trans rfl
set_option maxRecDepth 100000 in
theorem q_X7_bars_14 (x1 : Int32) (x2 : Int32) (h : ax_Hp) : ax_run m_X7_bars 14 [(0, .ref 0), (1, .int x1), (2, .int x2)] [] h = (rI m_X5_turnBar [.ref 1, .int x1, .int x2] h).bind (fun q1 => some (some (.int q1.1), q1.2)) := (ax_run_eq _ _ _ _ _).trans rfl
set_option maxRecDepth 100000 in
theorem q_X7_close_0 (x1 : Int32) (x2 : Int32) (h : ax_Hp) : ax_run m_X7_close 0 [(0, .ref 0), (1, .int x1), (2, .int x2)] [] h = (rI m_X7_isHouse [.int x1] h).bind (fun q1 => if q1.1 = 0 then (rI m_X7_refuse [.ref 0, .int ((-1))] q1.2).bind (fun q2 => some (some (.int q2.1), q2.2)) else ax_run m_X7_close 13 [(0, .ref 0), (1, .int x1), (2, .int x2)] [] q1.2) := (ax_run_eq _ _ _ _ _).trans rfl
set_option maxRecDepth 100000 in
theorem q_X7_close_13 (x1 : Int32) (x2 : Int32) (h : ax_Hp) : ax_run m_X7_close 13 [(0, .ref 0), (1, .int x1), (2, .int x2)] [] h = if x2 < 0 then ax_run m_X7_close 22 [(0, .ref 0)] [] h else if x2 ≤ 1 then ax_run m_X7_close 29 [(0, .ref 0), (1, .int x1), (2, .int x2)] [] h else ax_run m_X7_close 22 [(0, .ref 0)] [] h := (ax_run_eq _ _ _ _ _).trans rfl
set_option maxRecDepth 100000 in
theorem q_X7_close_22  (h : ax_Hp) : ax_run m_X7_close 22 [(0, .ref 0)] [] h = (rI m_X7_refuse [.ref 0, .int ((-2))] h).bind (fun q1 => some (some (.int q1.1), q1.2)) := (ax_run_eq _ _ _ _ _).trans rfl
set_option maxRecDepth 100000 in
theorem q_X7_close_29 (x1 : Int32) (x2 : Int32) (h : ax_Hp) : ax_run m_X7_close 29 [(0, .ref 0), (1, .int x1), (2, .int x2)] [] h = if x2 = 1 then ax_run m_X7_close 48 [] [.int 1, .int x1, .ref 1, .ref 40] h else ax_run m_X7_close 47 [] [.int x1, .ref 1, .ref 40] h := (ax_run_eq _ _ _ _ _).trans rfl
set_option maxRecDepth 100000 in
theorem q_X7_close_47 (s0 : Int32) (h : ax_Hp) : ax_run m_X7_close 47 [] [.int s0, .ref 1, .ref 40] h = ax_run m_X7_close 48 [] [.int 0, .int s0, .ref 1, .ref 40] h := (ax_run_eq _ _ _ _ _).trans rfl
set_option maxRecDepth 100000 in
theorem q_X7_close_48 (s0 : Int32) (s1 : Int32) (h : ax_Hp) : ax_run m_X7_close 48 [] [.int s0, .int s1, .ref 1, .ref 40] h = (rI m_X0_closeIn [.ref 40, .ref 1, .int s1, .int s0] h).bind (fun q1 => some (some (.int q1.1), q1.2)) := (ax_run_eq _ _ _ _ _).trans rfl
set_option maxRecDepth 100000 in
theorem q_X7_wasSeen_0 (x1 : Int32) (x2 : Int32) (x3 : Int32) (h : ax_Hp) : ax_run m_X7_wasSeen 0 [(0, .ref 0), (1, .int x1), (2, .int x2), (3, .int x3)] [] h = (rI m_X7_isHouse [.int x1] h).bind (fun q1 => if q1.1 = 0 then (rI m_X7_refuse [.ref 0, .int ((-1))] q1.2).bind (fun q2 => some (some (.int q2.1), q2.2)) else ax_run m_X7_wasSeen 13 [(0, .ref 0), (1, .int x1), (2, .int x2), (3, .int x3)] [] q1.2) := (ax_run_eq _ _ _ _ _).trans rfl
set_option maxRecDepth 100000 in
theorem q_X7_wasSeen_13 (x1 : Int32) (x2 : Int32) (x3 : Int32) (h : ax_Hp) : ax_run m_X7_wasSeen 13 [(0, .ref 0), (1, .int x1), (2, .int x2), (3, .int x3)] [] h = if x2 < 0 then ax_run m_X7_wasSeen 21 [(0, .ref 0)] [] h else if 0 ≤ x3 then ax_run m_X7_wasSeen 28 [(0, .ref 0), (1, .int x1), (2, .int x2), (3, .int x3)] [] h else ax_run m_X7_wasSeen 21 [(0, .ref 0)] [] h := (ax_run_eq _ _ _ _ _).trans rfl
set_option maxRecDepth 100000 in
theorem q_X7_wasSeen_21  (h : ax_Hp) : ax_run m_X7_wasSeen 21 [(0, .ref 0)] [] h = (rI m_X7_refuse [.ref 0, .int ((-4))] h).bind (fun q1 => some (some (.int q1.1), q1.2)) := (ax_run_eq _ _ _ _ _).trans rfl
set_option maxRecDepth 100000 in
theorem q_X7_wasSeen_28 (x1 : Int32) (x2 : Int32) (x3 : Int32) (h : ax_Hp) : ax_run m_X7_wasSeen 28 [(0, .ref 0), (1, .int x1), (2, .int x2), (3, .int x3)] [] h = if 999 < x2 then ax_run m_X7_wasSeen 42 [(0, .ref 0)] [] h else if x3 ≤ 999 then ax_run m_X7_wasSeen 49 [(0, .ref 0), (1, .int x1), (2, .int x2), (3, .int x3)] [] h else ax_run m_X7_wasSeen 42 [(0, .ref 0)] [] h := (ax_run_eq _ _ _ _ _).trans rfl
set_option maxRecDepth 100000 in
theorem q_X7_wasSeen_42  (h : ax_Hp) : ax_run m_X7_wasSeen 42 [(0, .ref 0)] [] h = (rI m_X7_refuse [.ref 0, .int ((-6))] h).bind (fun q1 => some (some (.int q1.1), q1.2)) := (ax_run_eq _ _ _ _ _).trans rfl
set_option maxRecDepth 100000 in
theorem q_X7_wasSeen_49 (x1 : Int32) (x2 : Int32) (x3 : Int32) (h : ax_Hp) : ax_run m_X7_wasSeen 49 [(0, .ref 0), (1, .int x1), (2, .int x2), (3, .int x3)] [] h = if x2 ≤ x3 then ax_run m_X7_wasSeen 61 [(0, .ref 0), (1, .int x1), (2, .int x2), (3, .int x3)] [] h else (rI m_X7_refuse [.ref 0, .int ((-3))] h).bind (fun q1 => some (some (.int q1.1), q1.2)) := (ax_run_eq _ _ _ _ _).trans rfl
set_option maxRecDepth 100000 in
theorem q_X7_wasSeen_61 (x1 : Int32) (x2 : Int32) (x3 : Int32) (h : ax_Hp) : ax_run m_X7_wasSeen 61 [(0, .ref 0), (1, .int x1), (2, .int x2), (3, .int x3)] [] h = (rI m_X1_hoursOf [.ref 34, .int x1, .int x2, .int (if h.1 1 1 < x3 then h.1 1 1 else x3)] h).bind (fun q1 => some (some (.int q1.1), q1.2)) := (ax_run_eq _ _ _ _ _).trans rfl
set_option maxRecDepth 100000 in
theorem q_X7_shares_0 (x1 : Int32) (x2 : Int32) (h : ax_Hp) : ax_run m_X7_shares 0 [(0, .ref 0), (1, .int x1), (2, .int x2)] [] h = (rI m_X7_areTwoHouses [.int x1, .int x2] h).bind (fun q1 => if q1.1 = 0 then (rI m_X7_refuse [.ref 0, .int ((-1))] q1.2).bind (fun q2 => some (some (.int q2.1), q2.2)) else ax_run m_X7_shares 14 [(0, .ref 0), (1, .int x1), (2, .int x2)] [] q1.2) := (ax_run_eq _ _ _ _ _).trans rfl
set_option maxRecDepth 100000 in
theorem q_X7_shares_14 (x1 : Int32) (x2 : Int32) (h : ax_Hp) : ax_run m_X7_shares 14 [(0, .ref 0), (1, .int x1), (2, .int x2)] [] h = (rI m_X0_fairShares [.ref 40, .ref 1, .int x1, .int x2] h).bind (fun q1 => some (some (.int q1.1), q1.2)) := (ax_run_eq _ _ _ _ _).trans rfl
set_option maxRecDepth 100000 in
theorem q_X7_together_0 (x1 : Int32) (x2 : Int32) (x3 : Int32) (h : ax_Hp) : ax_run m_X7_together 0 [(0, .ref 0), (1, .int x1), (2, .int x2), (3, .int x3)] [] h = (rI m_X7_areTwoHouses [.int x1, .int x2] h).bind (fun q1 => if q1.1 = 0 then (rI m_X7_refuse [.ref 0, .int ((-1))] q1.2).bind (fun q2 => some (some (.int q2.1), q2.2)) else ax_run m_X7_together 14 [(0, .ref 0), (1, .int x1), (2, .int x2), (3, .int x3)] [] q1.2) := (ax_run_eq _ _ _ _ _).trans rfl
set_option maxRecDepth 100000 in
theorem q_X7_together_14 (x1 : Int32) (x2 : Int32) (x3 : Int32) (h : ax_Hp) : ax_run m_X7_together 14 [(0, .ref 0), (1, .int x1), (2, .int x2), (3, .int x3)] [] h = if x3 < 0 then ax_run m_X7_together 23 [(0, .ref 0)] [] h else if x3 ≤ 2 then ax_run m_X7_together 30 [(0, .ref 0), (1, .int x1), (2, .int x2), (3, .int x3)] [] h else ax_run m_X7_together 23 [(0, .ref 0)] [] h := (ax_run_eq _ _ _ _ _).trans rfl
set_option maxRecDepth 100000 in
theorem q_X7_together_23  (h : ax_Hp) : ax_run m_X7_together 23 [(0, .ref 0)] [] h = (rI m_X7_refuse [.ref 0, .int ((-2))] h).bind (fun q1 => some (some (.int q1.1), q1.2)) := (ax_run_eq _ _ _ _ _).trans rfl
set_option maxRecDepth 100000 in
theorem q_X7_together_30 (x1 : Int32) (x2 : Int32) (x3 : Int32) (h : ax_Hp) : ax_run m_X7_together 30 [(0, .ref 0), (1, .int x1), (2, .int x2), (3, .int x3)] [] h = (rI m_X1_hoursOf [.ref 34, .int x1, .int 0, .int (h.1 1 1)] h).bind (fun q1 => (rI m_X1_hoursOf [.ref 34, .int x2, .int 0, .int (q1.2.1 1 1)] q1.2).bind (fun q2 => (rI m_X1_hoursOfBoth [.ref 34, .int x1, .int x2, .int (q2.2.1 1 1)] q2.2).bind (fun q3 => if x3 = 0 then some (some (.int q3.1), q3.2) else ax_run m_X7_together 91 [(3, .int x3), (4, .int q1.1), (5, .int q2.1), (6, .int q3.1)] [] q3.2))) := (ax_run_eq _ _ _ _ _).trans rfl
set_option maxRecDepth 100000 in
theorem q_X7_together_91 (x3 : Int32) (x4 : Int32) (x5 : Int32) (x6 : Int32) (h : ax_Hp) : ax_run m_X7_together 91 [(3, .int x3), (4, .int x4), (5, .int x5), (6, .int x6)] [] h = if x3 = 1 then ax_run m_X7_together 117 [] [.int ((x4 + x5) - x6)] h else ax_run m_X7_together 107 [(4, .int x4), (5, .int x5), (6, .int x6)] [] h := (ax_run_eq _ _ _ _ _).trans rfl
set_option maxRecDepth 100000 in
theorem q_X7_together_107 (x4 : Int32) (x5 : Int32) (x6 : Int32) (h : ax_Hp) : ax_run m_X7_together 107 [(4, .int x4), (5, .int x5), (6, .int x6)] [] h = ax_run m_X7_together 117 [] [.int ((x4 + x5) - (2 * x6))] h := (ax_run_eq _ _ _ _ _).trans rfl
set_option maxRecDepth 100000 in
theorem q_X7_together_117 (s0 : Int32) (h : ax_Hp) : ax_run m_X7_together 117 [] [.int s0] h = some (some (.int s0), h) := (ax_run_eq _ _ _ _ _).trans rfl
set_option maxRecDepth 100000 in
theorem q_X7_best_0 (x1 : Int32) (h : ax_Hp) : ax_run m_X7_best 0 [(0, .ref 0), (1, .int x1)] [] h = (rI m_X5_bestWall [.ref 1] h).bind (fun q1 => if x1 = 0 then ax_run m_X7_best 44 [(2, .int q1.1)] [] q1.2 else if x1 = 1 then ax_run m_X7_best 46 [(0, .ref 0), (2, .int q1.1)] [] q1.2 else if x1 = 2 then ax_run m_X7_best 72 [(0, .ref 0)] [] q1.2 else if x1 = 3 then ax_run m_X7_best 80 [(0, .ref 0)] [] q1.2 else if x1 = 4 then ax_run m_X7_best 88 [(0, .ref 0)] [] q1.2 else ax_run m_X7_best 96 [(0, .ref 0)] [] q1.2) := (ax_run_eq _ _ _ _ _).trans rfl
set_option maxRecDepth 100000 in
theorem q_X7_best_44 (x2 : Int32) (h : ax_Hp) : ax_run m_X7_best 44 [(2, .int x2)] [] h = some (some (.int x2), h) := (ax_run_eq _ _ _ _ _).trans rfl
set_option maxRecDepth 100000 in
theorem q_X7_best_46 (x2 : Int32) (h : ax_Hp) : ax_run m_X7_best 46 [(0, .ref 0), (2, .int x2)] [] h = (rI m_X5_isWall [.ref 1, .int x2] h).bind (fun q1 => if q1.1 = 0 then ax_run m_X7_best 69 [] [] q1.2 else ax_g (ax_in x2 7) (ax_run m_X7_best 71 [] [.int (q1.2.1 5 x2.toNatClampNeg)] q1.2)) := (ax_run_eq _ _ _ _ _).trans rfl
set_option maxRecDepth 100000 in
theorem q_X7_best_69  (h : ax_Hp) : ax_run m_X7_best 69 [] [] h = ax_run m_X7_best 71 [] [.int ((-9))] h := (ax_run_eq _ _ _ _ _).trans rfl
set_option maxRecDepth 100000 in
theorem q_X7_best_71 (s0 : Int32) (h : ax_Hp) : ax_run m_X7_best 71 [] [.int s0] h = some (some (.int s0), h) := (ax_run_eq _ _ _ _ _).trans rfl
set_option maxRecDepth 100000 in
theorem q_X7_best_72  (h : ax_Hp) : ax_run m_X7_best 72 [(0, .ref 0)] [] h = (rI m_X5_lentBits [.ref 1] h).bind (fun q1 => some (some (.int q1.1), q1.2)) := (ax_run_eq _ _ _ _ _).trans rfl
set_option maxRecDepth 100000 in
theorem q_X7_best_80  (h : ax_Hp) : ax_run m_X7_best 80 [(0, .ref 0)] [] h = (rI m_X5_seenBits [.ref 1] h).bind (fun q1 => some (some (.int q1.1), q1.2)) := (ax_run_eq _ _ _ _ _).trans rfl
set_option maxRecDepth 100000 in
theorem q_X7_best_88  (h : ax_Hp) : ax_run m_X7_best 88 [(0, .ref 0)] [] h = (rI m_X5_warmerBits [.ref 1] h).bind (fun q1 => some (some (.int q1.1), q1.2)) := (ax_run_eq _ _ _ _ _).trans rfl
set_option maxRecDepth 100000 in
theorem q_X7_best_96  (h : ax_Hp) : ax_run m_X7_best 96 [(0, .ref 0)] [] h = (rI m_X7_refuse [.ref 0, .int ((-2))] h).bind (fun q1 => some (some (.int q1.1), q1.2)) := (ax_run_eq _ _ _ _ _).trans rfl
set_option maxRecDepth 100000 in
theorem q_X7_turn_0 (x1 : Int32) (x2 : Int32) (x3 : Int32) (h : ax_Hp) : ax_run m_X7_turn 0 [(0, .ref 0), (1, .int x1), (2, .int x2), (3, .int x3)] [] h = (rI m_X5_isWall [.ref 1, .int x1] h).bind (fun q1 => if q1.1 = 0 then (rI m_X7_refuse [.ref 0, .int ((-1))] q1.2).bind (fun q2 => some (some (.int q2.1), q2.2)) else ax_run m_X7_turn 17 [(0, .ref 0), (1, .int x1), (2, .int x2), (3, .int x3)] [] q1.2) := (ax_run_eq _ _ _ _ _).trans rfl
set_option maxRecDepth 100000 in
theorem q_X7_turn_17 (x1 : Int32) (x2 : Int32) (x3 : Int32) (h : ax_Hp) : ax_run m_X7_turn 17 [(0, .ref 0), (1, .int x1), (2, .int x2), (3, .int x3)] [] h = if x2 < 0 then ax_run m_X7_turn 27 [(0, .ref 0)] [] h else if x2 < 6 then ax_run m_X7_turn 34 [(0, .ref 0), (1, .int x1), (2, .int x2), (3, .int x3)] [] h else ax_run m_X7_turn 27 [(0, .ref 0)] [] h := (ax_run_eq _ _ _ _ _).trans rfl
set_option maxRecDepth 100000 in
theorem q_X7_turn_27  (h : ax_Hp) : ax_run m_X7_turn 27 [(0, .ref 0)] [] h = (rI m_X7_refuse [.ref 0, .int ((-2))] h).bind (fun q1 => some (some (.int q1.1), q1.2)) := (ax_run_eq _ _ _ _ _).trans rfl
set_option maxRecDepth 100000 in
theorem q_X7_turn_34 (x1 : Int32) (x2 : Int32) (x3 : Int32) (h : ax_Hp) : ax_run m_X7_turn 34 [(0, .ref 0), (1, .int x1), (2, .int x2), (3, .int x3)] [] h = (rI m_X7_outside [.int x3, .int 0, .int 9] h).bind (fun q1 => if q1.1 = 0 then ax_run m_X7_turn 55 [(0, .ref 0), (1, .int x1), (2, .int x2), (3, .int x3)] [] q1.2 else (rI m_X7_refuse [.ref 0, .int q1.1] q1.2).bind (fun q2 => some (some (.int q2.1), q2.2))) := (ax_run_eq _ _ _ _ _).trans rfl
set_option maxRecDepth 100000 in
theorem q_X7_turn_55 (x1 : Int32) (x2 : Int32) (x3 : Int32) (h : ax_Hp) : ax_run m_X7_turn 55 [(0, .ref 0), (1, .int x1), (2, .int x2), (3, .int x3)] [] h = ax_g (ax_in x1 7) (ax_g (ax_in x1 7) ((rV m_X5_turnInto [.ref 1, .int x1, .int x2, .int x3] h).bind (fun q1 => some (some (.int ((10 * (h.1 2 x1.toNatClampNeg)) + (h.1 3 x1.toNatClampNeg))), q1)))) := (ax_run_eq _ _ _ _ _).trans rfl
set_option maxRecDepth 100000 in
theorem q_X7_allLack_0 (x1 : Int32) (h : ax_Hp) : ax_run m_X7_allLack 0 [(0, .ref 0), (1, .int x1)] [] h = (rI m_X7_outside [.int x1, .int 0, .int 60] h).bind (fun q1 => if q1.1 = 0 then ax_run m_X7_allLack 18 [(0, .ref 0), (1, .int x1)] [] q1.2 else (rI m_X7_refuse [.ref 0, .int q1.1] q1.2).bind (fun q2 => some (some (.int q2.1), q2.2))) := (ax_run_eq _ _ _ _ _).trans rfl
set_option maxRecDepth 100000 in
theorem q_X7_allLack_18 (x1 : Int32) (h : ax_Hp) : ax_run m_X7_allLack 18 [(0, .ref 0), (1, .int x1)] [] h = (rA m_X6_after [.ref 43, .ref 1, .int x1] h).bind (fun q1 => ax_exec ax_run m_X7_allLack 1 (0, []) [(30, .invokevirtual 186, 3, [(.null, 52, [1, 1, 4, 3, 409])]), (33, .ireturn, 1, [])] [(0, .ref 0), (1, .int x1)] [.ref q1.1] q1.2) := (ax_run_eq _ _ _ _ _).trans rfl
theorem q_X7_allLack_18_x (x1 : Int32) (h : ax_Hp) : ax_exec ax_run m_X7_allLack 1 (0, []) [(30, .invokevirtual 186, 3, [(.null, 52, [1, 1, 4, 3, 409])]), (33, .ireturn, 1, [])] [(0, .ref 0), (1, .int x1)] [.ref 23] h = (rI m_X5_allLacking [.ref 23] h).bind (fun q1 => some (some (.int q1.1), q1.2)) := rfl
set_option maxRecDepth 100000 in
theorem q_X7_house_0 (x1 : Int32) (x2 : Int32) (h : ax_Hp) : ax_run m_X7_house 0 [(0, .ref 0), (1, .int x1), (2, .int x2)] [] h = (rI m_X7_isHouse [.int x1] h).bind (fun q1 => if q1.1 = 0 then (rI m_X7_refuse [.ref 0, .int ((-1))] q1.2).bind (fun q2 => some (some (.int q2.1), q2.2)) else ax_run m_X7_house 13 [(0, .ref 0), (1, .int x1), (2, .int x2)] [] q1.2) := (ax_run_eq _ _ _ _ _).trans rfl
set_option maxRecDepth 100000 in
theorem q_X7_house_13 (x1 : Int32) (x2 : Int32) (h : ax_Hp) : ax_run m_X7_house 13 [(0, .ref 0), (1, .int x1), (2, .int x2)] [] h = if x2 = 0 then ax_run m_X7_house 52 [(0, .ref 0), (1, .int x1)] [] h else if x2 = 1 then ax_run m_X7_house 61 [(0, .ref 0), (1, .int x1)] [] h else if x2 = 2 then ax_run m_X7_house 71 [(0, .ref 0), (1, .int x1)] [] h else if x2 = 3 then ax_run m_X7_house 80 [(0, .ref 0), (1, .int x1)] [] h else if x2 = 4 then ax_run m_X7_house 89 [(0, .ref 0), (1, .int x1)] [] h else if x2 = 5 then ax_run m_X7_house 98 [(0, .ref 0), (1, .int x1)] [] h else ax_run m_X7_house 108 [(0, .ref 0)] [] h := (ax_run_eq _ _ _ _ _).trans rfl
set_option maxRecDepth 100000 in
theorem q_X7_house_52 (x1 : Int32) (h : ax_Hp) : ax_run m_X7_house 52 [(0, .ref 0), (1, .int x1)] [] h = (rI m_X5_needOf [.ref 1, .int x1] h).bind (fun q1 => some (some (.int q1.1), q1.2)) := (ax_run_eq _ _ _ _ _).trans rfl
set_option maxRecDepth 100000 in
theorem q_X7_house_61 (x1 : Int32) (h : ax_Hp) : ax_run m_X7_house 61 [(0, .ref 0), (1, .int x1)] [] h = ax_g (ax_in x1 8) (some (some (.int (h.1 11 x1.toNatClampNeg)), h)) := (ax_run_eq _ _ _ _ _).trans rfl
set_option maxRecDepth 100000 in
theorem q_X7_house_71 (x1 : Int32) (h : ax_Hp) : ax_run m_X7_house 71 [(0, .ref 0), (1, .int x1)] [] h = (rI m_X5_lackOf [.ref 1, .int x1] h).bind (fun q1 => some (some (.int q1.1), q1.2)) := (ax_run_eq _ _ _ _ _).trans rfl
set_option maxRecDepth 100000 in
theorem q_X7_house_80 (x1 : Int32) (h : ax_Hp) : ax_run m_X7_house 80 [(0, .ref 0), (1, .int x1)] [] h = (rI m_X5_wallsAt [.ref 1, .int x1] h).bind (fun q1 => some (some (.int q1.1), q1.2)) := (ax_run_eq _ _ _ _ _).trans rfl
set_option maxRecDepth 100000 in
theorem q_X7_house_89 (x1 : Int32) (h : ax_Hp) : ax_run m_X7_house 89 [(0, .ref 0), (1, .int x1)] [] h = (rI m_X5_wallsOwnedBy [.ref 1, .int x1] h).bind (fun q1 => some (some (.int q1.1), q1.2)) := (ax_run_eq _ _ _ _ _).trans rfl
set_option maxRecDepth 100000 in
theorem q_X7_house_98 (x1 : Int32) (h : ax_Hp) : ax_run m_X7_house 98 [(0, .ref 0), (1, .int x1)] [] h = ax_g (ax_in x1 8) (some (some (.int (h.1 9 x1.toNatClampNeg)), h)) := (ax_run_eq _ _ _ _ _).trans rfl
set_option maxRecDepth 100000 in
theorem q_X7_house_108  (h : ax_Hp) : ax_run m_X7_house 108 [(0, .ref 0)] [] h = (rI m_X7_refuse [.ref 0, .int ((-2))] h).bind (fun q1 => some (some (.int q1.1), q1.2)) := (ax_run_eq _ _ _ _ _).trans rfl
set_option maxRecDepth 100000 in
theorem q_X7_shown_0 (x1 : Int32) (h : ax_Hp) : ax_run m_X7_shown 0 [(0, .ref 0), (1, .int x1)] [] h = (rI m_X7_isHouse [.int x1] h).bind (fun q1 => if q1.1 = 0 then (rI m_X7_refuse [.ref 0, .int ((-1))] q1.2).bind (fun q2 => some (some (.int q2.1), q2.2)) else ax_run m_X7_shown 13 [(0, .ref 0), (1, .int x1)] [] q1.2) := (ax_run_eq _ _ _ _ _).trans rfl
set_option maxRecDepth 100000 in
theorem q_X7_shown_13 (x1 : Int32) (h : ax_Hp) : ax_run m_X7_shown 13 [(0, .ref 0), (1, .int x1)] [] h = (rI m_X6_hoursToSeen [.ref 43, .ref 1, .int x1] h).bind (fun q1 => some (some (.int q1.1), q1.2)) := (ax_run_eq _ _ _ _ _).trans rfl
set_option maxRecDepth 100000 in
theorem q_X7_each_0 (x1 : Int32) (h : ax_Hp) : ax_run m_X7_each 0 [(0, .ref 0), (1, .int x1)] [] h = (rI m_X7_isHouse [.int x1] h).bind (fun q1 => if q1.1 = 0 then (rI m_X7_refuse [.ref 0, .int ((-1))] q1.2).bind (fun q2 => some (some (.int q2.1), q2.2)) else ax_run m_X7_each 13 [(0, .ref 0), (1, .int x1)] [] q1.2) := (ax_run_eq _ _ _ _ _).trans rfl
set_option maxRecDepth 100000 in
theorem q_X7_each_13 (x1 : Int32) (h : ax_Hp) : ax_run m_X7_each 13 [(0, .ref 0), (1, .int x1)] [] h = (rI m_X5_wallsAt [.ref 1, .int x1] h).bind (fun q1 => (rI m_X7_bitsIn [.int q1.1] q1.2).bind (fun q2 => if q2.1 = 0 then (rI m_X7_refuse [.ref 0, .int ((-3))] q2.2).bind (fun q3 => ax_run m_X7_each 49 [] [.int q3.1] q3.2) else ax_run m_X7_each 38 [(0, .ref 0), (1, .int x1), (2, .int q2.1)] [] q2.2)) := (ax_run_eq _ _ _ _ _).trans rfl
set_option maxRecDepth 100000 in
theorem q_X7_each_38 (x1 : Int32) (x2 : Int32) (h : ax_Hp) : ax_run m_X7_each 38 [(0, .ref 0), (1, .int x1), (2, .int x2)] [] h = ax_g (ax_in x1 8) (ax_g (!(decide (x2 = 0))) (ax_run m_X7_each 49 [] [.int ((h.1 11 x1.toNatClampNeg) / x2)] h)) := (ax_run_eq _ _ _ _ _).trans rfl
set_option maxRecDepth 100000 in
theorem q_X7_each_49 (s0 : Int32) (h : ax_Hp) : ax_run m_X7_each 49 [] [.int s0] h = some (some (.int s0), h) := (ax_run_eq _ _ _ _ _).trans rfl
set_option maxRecDepth 100000 in
theorem q_X7_two_0 (x1 : Int32) (x2 : Int32) (x3 : Int32) (h : ax_Hp) : ax_run m_X7_two 0 [(0, .ref 0), (1, .int x1), (2, .int x2), (3, .int x3)] [] h = (rI m_X5_isWall [.ref 1, .int x1] h).bind (fun q1 => if q1.1 = 0 then ax_run m_X7_two 27 [(0, .ref 0)] [] q1.2 else (rI m_X5_isWall [.ref 1, .int x2] q1.2).bind (fun q2 => if q2.1 = 0 then ax_run m_X7_two 27 [(0, .ref 0)] [] q2.2 else if x1 = x2 then ax_run m_X7_two 27 [(0, .ref 0)] [] q2.2 else ax_run m_X7_two 33 [(0, .ref 0), (1, .int x1), (2, .int x2), (3, .int x3)] [] q2.2)) := (ax_run_eq _ _ _ _ _).trans rfl
set_option maxRecDepth 100000 in
theorem q_X7_two_27  (h : ax_Hp) : ax_run m_X7_two 27 [(0, .ref 0)] [] h = (rI m_X7_refuse [.ref 0, .int ((-1))] h).bind (fun q1 => some (some (.int q1.1), q1.2)) := (ax_run_eq _ _ _ _ _).trans rfl
set_option maxRecDepth 100000 in
theorem q_X7_two_33 (x1 : Int32) (x2 : Int32) (x3 : Int32) (h : ax_Hp) : ax_run m_X7_two 33 [(0, .ref 0), (1, .int x1), (2, .int x2), (3, .int x3)] [] h = (rI m_X7_outside [.int x3, .int 0, .int 30] h).bind (fun q1 => if q1.1 = 0 then ax_run m_X7_two 54 [(0, .ref 0), (1, .int x1), (2, .int x2), (3, .int x3)] [] q1.2 else (rI m_X7_refuse [.ref 0, .int q1.1] q1.2).bind (fun q2 => some (some (.int q2.1), q2.2))) := (ax_run_eq _ _ _ _ _).trans rfl
set_option maxRecDepth 100000 in
theorem q_X7_two_54 (x1 : Int32) (x2 : Int32) (x3 : Int32) (h : ax_Hp) : ax_run m_X7_two 54 [(0, .ref 0), (1, .int x1), (2, .int x2), (3, .int x3)] [] h = (rI m_X6_settledPair [.ref 43, .ref 1, .int x1, .int x2, .int x3] h).bind (fun q1 => some (some (.int q1.1), q1.2)) := (ax_run_eq _ _ _ _ _).trans rfl
set_option maxRecDepth 100000 in
theorem q_X7_sees_0 (x1 : Int32) (h : ax_Hp) : ax_run m_X7_sees 0 [(0, .ref 0), (1, .int x1)] [] h = (rI m_X7_isHouse [.int x1] h).bind (fun q1 => if q1.1 = 0 then (rI m_X7_refuse [.ref 0, .int ((-1))] q1.2).bind (fun q2 => some (some (.int q2.1), q2.2)) else ax_run m_X7_sees 13 [(0, .ref 0), (1, .int x1)] [] q1.2) := (ax_run_eq _ _ _ _ _).trans rfl
set_option maxRecDepth 100000 in
theorem q_X7_sees_13 (x1 : Int32) (h : ax_Hp) : ax_run m_X7_sees 13 [(0, .ref 0), (1, .int x1)] [] h = ax_run m_X7_sees 17 [(0, .ref 0), (1, .int x1), (2, .int 0), (3, .int 0)] [] h := (ax_run_eq _ _ _ _ _).trans rfl
set_option maxRecDepth 100000 in
theorem q_X7_sees_17 (x1 : Int32) (x2 : Int32) (x3 : Int32) (h : ax_Hp) : ax_run m_X7_sees 17 [(0, .ref 0), (1, .int x1), (2, .int x2), (3, .int x3)] [] h = if 8 ≤ x3 then ax_run m_X7_sees 47 [(2, .int x2)] [] h else (rI m_X5_looksAt [.ref 1, .int x3, .int x1] h).bind (fun q1 => if q1.1 = 0 then ax_run m_X7_sees 41 [(0, .ref 0), (1, .int x1), (2, .int x2), (3, .int x3)] [] q1.2 else ax_run m_X7_sees 41 [(0, .ref 0), (1, .int x1), (2, .int (x2 ||| (1 <<< (x3 &&& 31)))), (3, .int x3)] [] q1.2) := (ax_run_eq _ _ _ _ _).trans rfl
set_option maxRecDepth 100000 in
theorem q_X7_sees_41 (x1 : Int32) (x2 : Int32) (x3 : Int32) (h : ax_Hp) : ax_run m_X7_sees 41 [(0, .ref 0), (1, .int x1), (2, .int x2), (3, .int x3)] [] h = ax_run m_X7_sees 17 [(0, .ref 0), (1, .int x1), (2, .int x2), (3, .int (x3 + 1))] [] h := (ax_run_eq _ _ _ _ _).trans rfl
set_option maxRecDepth 100000 in
theorem q_X7_sees_47 (x2 : Int32) (h : ax_Hp) : ax_run m_X7_sees 47 [(2, .int x2)] [] h = some (some (.int x2), h) := (ax_run_eq _ _ _ _ _).trans rfl
set_option maxRecDepth 100000 in
theorem q_X7_rain_0 (x1 : Int32) (x2 : Int32) (x3 : Int32) (x4 : Int32) (h : ax_Hp) : ax_run m_X7_rain 0 [(0, .ref 0), (1, .int x1), (2, .int x2), (3, .int x3), (4, .int x4)] [] h = (rI m_X7_isHouse [.int x1] h).bind (fun q1 => if q1.1 = 0 then (rL m_X7_refuseLong [.ref 0, .int ((-1))] q1.2).bind (fun q2 => some (some (.long q2.1), q2.2)) else ax_run m_X7_rain 13 [(0, .ref 0), (1, .int x1), (2, .int x2), (3, .int x3), (4, .int x4)] [] q1.2) := (ax_run_eq _ _ _ _ _).trans rfl
set_option maxRecDepth 100000 in
theorem q_X7_rain_13 (x1 : Int32) (x2 : Int32) (x3 : Int32) (x4 : Int32) (h : ax_Hp) : ax_run m_X7_rain 13 [(0, .ref 0), (1, .int x1), (2, .int x2), (3, .int x3), (4, .int x4)] [] h = if x2 < 0 then ax_run m_X7_rain 22 [(0, .ref 0)] [] h else if 2 ≤ x3 then ax_run m_X7_rain 29 [(0, .ref 0), (1, .int x1), (2, .int x2), (3, .int x3), (4, .int x4)] [] h else ax_run m_X7_rain 22 [(0, .ref 0)] [] h := (ax_run_eq _ _ _ _ _).trans rfl
set_option maxRecDepth 100000 in
theorem q_X7_rain_22  (h : ax_Hp) : ax_run m_X7_rain 22 [(0, .ref 0)] [] h = (rL m_X7_refuseLong [.ref 0, .int ((-4))] h).bind (fun q1 => some (some (.long q1.1), q1.2)) := (ax_run_eq _ _ _ _ _).trans rfl
set_option maxRecDepth 100000 in
theorem q_X7_rain_29 (x1 : Int32) (x2 : Int32) (x3 : Int32) (x4 : Int32) (h : ax_Hp) : ax_run m_X7_rain 29 [(0, .ref 0), (1, .int x1), (2, .int x2), (3, .int x3), (4, .int x4)] [] h = if 6 < x2 then ax_run m_X7_rain 41 [(0, .ref 0)] [] h else if x3 ≤ 20 then ax_run m_X7_rain 48 [(0, .ref 0), (1, .int x1), (2, .int x2), (3, .int x3), (4, .int x4)] [] h else ax_run m_X7_rain 41 [(0, .ref 0)] [] h := (ax_run_eq _ _ _ _ _).trans rfl
set_option maxRecDepth 100000 in
theorem q_X7_rain_41  (h : ax_Hp) : ax_run m_X7_rain 41 [(0, .ref 0)] [] h = (rL m_X7_refuseLong [.ref 0, .int ((-6))] h).bind (fun q1 => some (some (.long q1.1), q1.2)) := (ax_run_eq _ _ _ _ _).trans rfl
set_option maxRecDepth 100000 in
theorem q_X7_rain_48 (x1 : Int32) (x2 : Int32) (x3 : Int32) (x4 : Int32) (h : ax_Hp) : ax_run m_X7_rain 48 [(0, .ref 0), (1, .int x1), (2, .int x2), (3, .int x3), (4, .int x4)] [] h = if x4 < 0 then ax_run m_X7_rain 59 [(0, .ref 0)] [] h else if x4 ≤ 1 then ax_run m_X7_rain 66 [(0, .ref 0), (1, .int x1), (2, .int x2), (3, .int x3), (4, .int x4)] [] h else ax_run m_X7_rain 59 [(0, .ref 0)] [] h := (ax_run_eq _ _ _ _ _).trans rfl
set_option maxRecDepth 100000 in
theorem q_X7_rain_59  (h : ax_Hp) : ax_run m_X7_rain 59 [(0, .ref 0)] [] h = (rL m_X7_refuseLong [.ref 0, .int ((-2))] h).bind (fun q1 => some (some (.long q1.1), q1.2)) := (ax_run_eq _ _ _ _ _).trans rfl
set_option maxRecDepth 100000 in
theorem q_X7_rain_66 (x1 : Int32) (x2 : Int32) (x3 : Int32) (x4 : Int32) (h : ax_Hp) : ax_run m_X7_rain 66 [(0, .ref 0), (1, .int x1), (2, .int x2), (3, .int x3), (4, .int x4)] [] h = (rL m_X6_seenWeight [.ref 43, .ref 1, .int x1, .int x2, .int x3] h).bind (fun q1 => (rL m_X7_power [.int x3, .int x2] q1.2).bind (fun q2 => (rL m_X7_inLeastTerms [.long q1.1, .long q2.1, .int x4] q2.2).bind (fun q3 => some (some (.long q3.1), q3.2)))) := (ax_run_eq _ _ _ _ _).trans rfl
set_option maxRecDepth 100000 in
theorem q_X7_on_0  (h : ax_Hp) : ax_run m_X7_on 0 [(0, .ref 0)] [] h = if h.1 0 3 = 0 then (rI m_X7_refuse [.ref 0, .int ((-3))] h).bind (fun q1 => some (some (.int q1.1), q1.2)) else ax_run m_X7_on 14 [(0, .ref 0)] [] h := (ax_run_eq _ _ _ _ _).trans rfl
set_option maxRecDepth 100000 in
theorem q_X7_on_14  (h : ax_Hp) : ax_run m_X7_on 14 [(0, .ref 0)] [] h = (rV m_X5_copyFrom [.ref 1, .ref 12] h).bind (fun q1 => some (some (.int (q1.1 1 1)), q1)) := (ax_run_eq _ _ _ _ _).trans rfl
set_option maxRecDepth 100000 in
theorem q_X7_takes_0 (x1 : Int32) (x2 : Int32) (h : ax_Hp) : ax_run m_X7_takes 0 [(0, .ref 0), (1, .int x1), (2, .int x2)] [] h = (rI m_X5_isWall [.ref 1, .int x1] h).bind (fun q1 => if q1.1 = 0 then ax_run m_X7_takes 18 [(0, .ref 0)] [] q1.2 else (rI m_X7_isHouse [.int x2] q1.2).bind (fun q2 => if q2.1 = 0 then ax_run m_X7_takes 18 [(0, .ref 0)] [] q2.2 else ax_run m_X7_takes 24 [(0, .ref 0), (1, .int x1), (2, .int x2)] [] q2.2)) := (ax_run_eq _ _ _ _ _).trans rfl
set_option maxRecDepth 100000 in
theorem q_X7_takes_18  (h : ax_Hp) : ax_run m_X7_takes 18 [(0, .ref 0)] [] h = (rI m_X7_refuse [.ref 0, .int ((-1))] h).bind (fun q1 => some (some (.int q1.1), q1.2)) := (ax_run_eq _ _ _ _ _).trans rfl
set_option maxRecDepth 100000 in
theorem q_X7_takes_24 (x1 : Int32) (x2 : Int32) (h : ax_Hp) : ax_run m_X7_takes 24 [(0, .ref 0), (1, .int x1), (2, .int x2)] [] h = ax_g (ax_in x1 7) ((rV m_X5_takeTo [.ref 1, .int x1, .int x2] h).bind (fun q1 => some (some (.int (h.1 5 x1.toNatClampNeg)), q1))) := (ax_run_eq _ _ _ _ _).trans rfl
set_option maxRecDepth 100000 in
theorem q_X7_needs_0 (x1 : Int32) (x2 : Int32) (x3 : Int32) (h : ax_Hp) : ax_run m_X7_needs 0 [(0, .ref 0), (1, .int x1), (2, .int x2), (3, .int x3)] [] h = (rI m_X7_isHouse [.int x1] h).bind (fun q1 => if q1.1 = 0 then (rI m_X7_refuse [.ref 0, .int ((-1))] q1.2).bind (fun q2 => some (some (.int q2.1), q2.2)) else ax_run m_X7_needs 13 [(0, .ref 0), (1, .int x1), (2, .int x2), (3, .int x3)] [] q1.2) := (ax_run_eq _ _ _ _ _).trans rfl
set_option maxRecDepth 100000 in
theorem q_X7_needs_13 (x1 : Int32) (x2 : Int32) (x3 : Int32) (h : ax_Hp) : ax_run m_X7_needs 13 [(0, .ref 0), (1, .int x1), (2, .int x2), (3, .int x3)] [] h = if x2 < 0 then ax_run m_X7_needs 23 [(0, .ref 0)] [] h else if x2 < 6 then ax_run m_X7_needs 30 [(0, .ref 0), (1, .int x1), (2, .int x2), (3, .int x3)] [] h else ax_run m_X7_needs 23 [(0, .ref 0)] [] h := (ax_run_eq _ _ _ _ _).trans rfl
set_option maxRecDepth 100000 in
theorem q_X7_needs_23  (h : ax_Hp) : ax_run m_X7_needs 23 [(0, .ref 0)] [] h = (rI m_X7_refuse [.ref 0, .int ((-2))] h).bind (fun q1 => some (some (.int q1.1), q1.2)) := (ax_run_eq _ _ _ _ _).trans rfl
set_option maxRecDepth 100000 in
theorem q_X7_needs_30 (x1 : Int32) (x2 : Int32) (x3 : Int32) (h : ax_Hp) : ax_run m_X7_needs 30 [(0, .ref 0), (1, .int x1), (2, .int x2), (3, .int x3)] [] h = (rI m_X7_outside [.int x3, .int 0, .int 9] h).bind (fun q1 => if q1.1 = 0 then ax_run m_X7_needs 51 [(0, .ref 0), (1, .int x1), (2, .int x2), (3, .int x3)] [] q1.2 else (rI m_X7_refuse [.ref 0, .int q1.1] q1.2).bind (fun q2 => some (some (.int q2.1), q2.2))) := (ax_run_eq _ _ _ _ _).trans rfl
set_option maxRecDepth 100000 in
theorem q_X7_needs_51 (x1 : Int32) (x2 : Int32) (x3 : Int32) (h : ax_Hp) : ax_run m_X7_needs 51 [(0, .ref 0), (1, .int x1), (2, .int x2), (3, .int x3)] [] h = (rI m_X5_needAt [.ref 1, .int x1, .int x2] h).bind (fun q1 => (rV m_X5_setNeed [.ref 1, .int x1, .int x2, .int x3] q1.2).bind (fun q2 => some (some (.int q1.1), q2))) := (ax_run_eq _ _ _ _ _).trans rfl
set_option maxRecDepth 100000 in
theorem q_X7_price_0 (x1 : Int32) (x2 : Int32) (h : ax_Hp) : ax_run m_X7_price 0 [(0, .ref 0), (1, .int x1), (2, .int x2)] [] h = (rI m_X5_isWall [.ref 1, .int x1] h).bind (fun q1 => if q1.1 = 0 then (rI m_X7_refuse [.ref 0, .int ((-1))] q1.2).bind (fun q2 => some (some (.int q2.1), q2.2)) else ax_run m_X7_price 17 [(0, .ref 0), (1, .int x1), (2, .int x2)] [] q1.2) := (ax_run_eq _ _ _ _ _).trans rfl
set_option maxRecDepth 100000 in
theorem q_X7_price_17 (x1 : Int32) (x2 : Int32) (h : ax_Hp) : ax_run m_X7_price 17 [(0, .ref 0), (1, .int x1), (2, .int x2)] [] h = if x2 < 0 then ax_run m_X7_price 26 [(0, .ref 0)] [] h else if x2 ≤ 1 then ax_run m_X7_price 33 [(0, .ref 0), (1, .int x1), (2, .int x2)] [] h else ax_run m_X7_price 26 [(0, .ref 0)] [] h := (ax_run_eq _ _ _ _ _).trans rfl
set_option maxRecDepth 100000 in
theorem q_X7_price_26  (h : ax_Hp) : ax_run m_X7_price 26 [(0, .ref 0)] [] h = (rI m_X7_refuse [.ref 0, .int ((-2))] h).bind (fun q1 => some (some (.int q1.1), q1.2)) := (ax_run_eq _ _ _ _ _).trans rfl
set_option maxRecDepth 100000 in
theorem q_X7_price_33 (x1 : Int32) (x2 : Int32) (h : ax_Hp) : ax_run m_X7_price 33 [(0, .ref 0), (1, .int x1), (2, .int x2)] [] h = (rI m_X0_mostGiving [.ref 40, .ref 1, .int x1, .int ((-9))] h).bind (fun q1 => if x2 = 0 then ax_run m_X7_price 58 [(2, .int x2), (3, .int q1.1)] [] q1.2 else if q1.1 = (-9) then ax_run m_X7_price 58 [(2, .int x2), (3, .int q1.1)] [] q1.2 else ax_run m_X7_price 68 [(0, .ref 0), (1, .int x1), (3, .int q1.1)] [] q1.2) := (ax_run_eq _ _ _ _ _).trans rfl
set_option maxRecDepth 100000 in
theorem q_X7_price_58 (x2 : Int32) (x3 : Int32) (h : ax_Hp) : ax_run m_X7_price 58 [(2, .int x2), (3, .int x3)] [] h = if x2 = 0 then ax_run m_X7_price 67 [] [.int x3] h else ax_run m_X7_price 66 [] [] h := (ax_run_eq _ _ _ _ _).trans rfl
set_option maxRecDepth 100000 in
theorem q_X7_price_66  (h : ax_Hp) : ax_run m_X7_price 66 [] [] h = ax_run m_X7_price 67 [] [.int 0] h := (ax_run_eq _ _ _ _ _).trans rfl
set_option maxRecDepth 100000 in
theorem q_X7_price_67 (s0 : Int32) (h : ax_Hp) : ax_run m_X7_price 67 [] [.int s0] h = some (some (.int s0), h) := (ax_run_eq _ _ _ _ _).trans rfl
set_option maxRecDepth 100000 in
theorem q_X7_price_68 (x1 : Int32) (x3 : Int32) (h : ax_Hp) : ax_run m_X7_price 68 [(0, .ref 0), (1, .int x1), (3, .int x3)] [] h = (rI m_X0_mostGiving [.ref 40, .ref 1, .int x1, .int x3] h).bind (fun q1 => if q1.1 = (-9) then ax_run m_X7_price 108 [] [.int 0] q1.2 else ax_run m_X7_price 94 [(0, .ref 0), (1, .int x1), (4, .int q1.1)] [] q1.2) := (ax_run_eq _ _ _ _ _).trans rfl
set_option maxRecDepth 100000 in
theorem q_X7_price_94 (x1 : Int32) (x4 : Int32) (h : ax_Hp) : ax_run m_X7_price 94 [(0, .ref 0), (1, .int x1), (4, .int x4)] [] h = (rI m_X0_gift [.ref 40, .ref 1, .int x4, .int x1] h).bind (fun q1 => ax_run m_X7_price 108 [] [.int q1.1] q1.2) := (ax_run_eq _ _ _ _ _).trans rfl
set_option maxRecDepth 100000 in
theorem q_X7_price_108 (s0 : Int32) (h : ax_Hp) : ax_run m_X7_price 108 [] [.int s0] h = some (some (.int s0), h) := (ax_run_eq _ _ _ _ _).trans rfl
set_option maxRecDepth 100000 in
theorem q_X7_atThen_0 (x1 : Int32) (x2 : Int32) (h : ax_Hp) : ax_run m_X7_atThen 0 [(0, .ref 0), (1, .int x1), (2, .int x2)] [] h = (rI m_X5_isWall [.ref 1, .int x1] h).bind (fun q1 => if q1.1 = 0 then (rI m_X7_refuse [.ref 0, .int ((-1))] q1.2).bind (fun q2 => some (some (.int q2.1), q2.2)) else ax_run m_X7_atThen 17 [(0, .ref 0), (1, .int x1), (2, .int x2)] [] q1.2) := (ax_run_eq _ _ _ _ _).trans rfl
set_option maxRecDepth 100000 in
theorem q_X7_atThen_17 (x1 : Int32) (x2 : Int32) (h : ax_Hp) : ax_run m_X7_atThen 17 [(0, .ref 0), (1, .int x1), (2, .int x2)] [] h = (rI m_X7_outside [.int x2, .int 0, .int 60] h).bind (fun q1 => if q1.1 = 0 then ax_run m_X7_atThen 35 [(0, .ref 0), (1, .int x1), (2, .int x2)] [] q1.2 else (rI m_X7_refuse [.ref 0, .int q1.1] q1.2).bind (fun q2 => some (some (.int q2.1), q2.2))) := (ax_run_eq _ _ _ _ _).trans rfl
set_option maxRecDepth 100000 in
theorem q_X7_atThen_35 (x1 : Int32) (x2 : Int32) (h : ax_Hp) : ax_run m_X7_atThen 35 [(0, .ref 0), (1, .int x1), (2, .int x2)] [] h = (rA m_X6_after [.ref 43, .ref 1, .int x2] h).bind (fun q1 => ax_exec ax_run m_X7_atThen 1 (0, []) [(47, .getfield 142, 3, [(.null, 4, [6, 115])]), (50, .iload_n 1, 1, [(.null, 1, [])]), (51, .iaload, 1, []), (52, .ireturn, 1, [])] [(0, .ref 0), (1, .int x1), (2, .int x2)] [.ref q1.1] q1.2) := (ax_run_eq _ _ _ _ _).trans rfl
theorem q_X7_atThen_35_x (x1 : Int32) (x2 : Int32) (h : ax_Hp) : ax_exec ax_run m_X7_atThen 1 (0, []) [(47, .getfield 142, 3, [(.null, 4, [6, 115])]), (50, .iload_n 1, 1, [(.null, 1, [])]), (51, .iaload, 1, []), (52, .ireturn, 1, [])] [(0, .ref 0), (1, .int x1), (2, .int x2)] [.ref 23] h = ax_g (ax_in x1 7) (some (some (.int (h.1 27 x1.toNatClampNeg)), h)) := rfl
set_option maxRecDepth 100000 in
theorem q_X7_longest_0 (x1 : Int32) (h : ax_Hp) : ax_run m_X7_longest 0 [(0, .ref 0), (1, .int x1)] [] h = (rI m_X7_isHouse [.int x1] h).bind (fun q1 => if q1.1 = 0 then (rI m_X7_refuse [.ref 0, .int ((-1))] q1.2).bind (fun q2 => some (some (.int q2.1), q2.2)) else ax_run m_X7_longest 13 [(0, .ref 0), (1, .int x1)] [] q1.2) := (ax_run_eq _ _ _ _ _).trans rfl
set_option maxRecDepth 100000 in
theorem q_X7_longest_13 (x1 : Int32) (h : ax_Hp) : ax_run m_X7_longest 13 [(0, .ref 0), (1, .int x1)] [] h = (rI m_X1_longestOf [.ref 34, .int x1, .int (h.1 1 1)] h).bind (fun q1 => some (some (.int q1.1), q1.2)) := (ax_run_eq _ _ _ _ _).trans rfl
set_option maxRecDepth 100000 in
theorem q_X7_coldest_0 (x1 : Int32) (h : ax_Hp) : ax_run m_X7_coldest 0 [(0, .ref 0), (1, .int x1)] [] h = if x1 < 0 then ax_run m_X7_coldest 9 [(0, .ref 0)] [] h else if x1 ≤ 1 then ax_run m_X7_coldest 16 [(0, .ref 0), (1, .int x1)] [] h else ax_run m_X7_coldest 9 [(0, .ref 0)] [] h := (ax_run_eq _ _ _ _ _).trans rfl
set_option maxRecDepth 100000 in
theorem q_X7_coldest_9  (h : ax_Hp) : ax_run m_X7_coldest 9 [(0, .ref 0)] [] h = (rI m_X7_refuse [.ref 0, .int ((-2))] h).bind (fun q1 => some (some (.int q1.1), q1.2)) := (ax_run_eq _ _ _ _ _).trans rfl
set_option maxRecDepth 100000 in
theorem q_X7_coldest_16 (x1 : Int32) (h : ax_Hp) : ax_run m_X7_coldest 16 [(0, .ref 0), (1, .int x1)] [] h = (rI m_X5_coldestPart [.ref 1] h).bind (fun q1 => if x1 = 0 then ax_run m_X7_coldest 40 [] [.int q1.1] q1.2 else ax_run m_X7_coldest 32 [(0, .ref 0), (2, .int q1.1)] [] q1.2) := (ax_run_eq _ _ _ _ _).trans rfl
set_option maxRecDepth 100000 in
theorem q_X7_coldest_32 (x2 : Int32) (h : ax_Hp) : ax_run m_X7_coldest 32 [(0, .ref 0), (2, .int x2)] [] h = (rI m_X5_needsAt [.ref 1, .int x2] h).bind (fun q1 => ax_run m_X7_coldest 40 [] [.int q1.1] q1.2) := (ax_run_eq _ _ _ _ _).trans rfl
set_option maxRecDepth 100000 in
theorem q_X7_coldest_40 (s0 : Int32) (h : ax_Hp) : ax_run m_X7_coldest 40 [] [.int s0] h = some (some (.int s0), h) := (ax_run_eq _ _ _ _ _).trans rfl
set_option maxRecDepth 100000 in
theorem q_X7_judge_0  (h : ax_Hp) : ax_run m_X7_judge 0 [(0, .ref 0)] [] h = (rI m_X6_firstNotSo [.ref 43, .ref 1, .ref 38] h).bind (fun q1 => some (some (.int q1.1), wI q1.2 38 1 0)) := (ax_run_eq _ _ _ _ _).trans rfl
set_option maxRecDepth 100000 in
theorem q_X7_lots_0 (x1 : Int32) (x2 : Int32) (x3 : Int32) (h : ax_Hp) : ax_run m_X7_lots 0 [(0, .ref 0), (1, .int x1), (2, .int x2), (3, .int x3)] [] h = (rI m_X7_outside [.int x1, .int 1, .int 20] h).bind (fun q1 => if q1.1 = 0 then ax_run m_X7_lots 21 [(0, .ref 0), (1, .int x1), (2, .int x2), (3, .int x3)] [] q1.2 else (rI m_X7_refuse [.ref 0, .int q1.1] q1.2).bind (fun q2 => some (some (.int q2.1), q2.2))) := (ax_run_eq _ _ _ _ _).trans rfl
set_option maxRecDepth 100000 in
theorem q_X7_lots_21 (x1 : Int32) (x2 : Int32) (x3 : Int32) (h : ax_Hp) : ax_run m_X7_lots 21 [(0, .ref 0), (1, .int x1), (2, .int x2), (3, .int x3)] [] h = if x3 < 0 then ax_run m_X7_lots 30 [(0, .ref 0)] [] h else if x3 ≤ 1 then ax_run m_X7_lots 37 [(0, .ref 0), (1, .int x1), (2, .int x2), (3, .int x3)] [] h else ax_run m_X7_lots 30 [(0, .ref 0)] [] h := (ax_run_eq _ _ _ _ _).trans rfl
set_option maxRecDepth 100000 in
theorem q_X7_lots_30  (h : ax_Hp) : ax_run m_X7_lots 30 [(0, .ref 0)] [] h = (rI m_X7_refuse [.ref 0, .int ((-2))] h).bind (fun q1 => some (some (.int q1.1), q1.2)) := (ax_run_eq _ _ _ _ _).trans rfl
set_option maxRecDepth 100000 in
theorem q_X7_lots_37 (x1 : Int32) (x2 : Int32) (x3 : Int32) (h : ax_Hp) : ax_run m_X7_lots 37 [(0, .ref 0), (1, .int x1), (2, .int x2), (3, .int x3)] [] h = if x3 = 1 then ax_run m_X7_lots 57 [] [.int 1, .int x2, .int x1, .ref 1, .ref 43] h else ax_run m_X7_lots 56 [] [.int x2, .int x1, .ref 1, .ref 43] h := (ax_run_eq _ _ _ _ _).trans rfl
set_option maxRecDepth 100000 in
theorem q_X7_lots_56 (s0 : Int32) (s1 : Int32) (h : ax_Hp) : ax_run m_X7_lots 56 [] [.int s0, .int s1, .ref 1, .ref 43] h = ax_run m_X7_lots 57 [] [.int 0, .int s0, .int s1, .ref 1, .ref 43] h := (ax_run_eq _ _ _ _ _).trans rfl
set_option maxRecDepth 100000 in
theorem q_X7_lots_57 (s0 : Int32) (s1 : Int32) (s2 : Int32) (h : ax_Hp) : ax_run m_X7_lots 57 [] [.int s0, .int s1, .int s2, .ref 1, .ref 43] h = (rI m_X6_overLots [.ref 43, .ref 1, .int s2, .int s1, .int s0] h).bind (fun q1 => some (some (.int q1.1), q1.2)) := (ax_run_eq _ _ _ _ _).trans rfl
set_option maxRecDepth 100000 in
theorem q_X7_wall_0 (x1 : Int32) (x2 : Int32) (h : ax_Hp) : ax_run m_X7_wall 0 [(0, .ref 0), (1, .int x1), (2, .int x2)] [] h = (rI m_X5_isWall [.ref 1, .int x1] h).bind (fun q1 => if q1.1 = 0 then (rI m_X7_refuse [.ref 0, .int ((-1))] q1.2).bind (fun q2 => some (some (.int q2.1), q2.2)) else ax_run m_X7_wall 17 [(0, .ref 0), (1, .int x1), (2, .int x2)] [] q1.2) := (ax_run_eq _ _ _ _ _).trans rfl
set_option maxRecDepth 100000 in
theorem q_X7_wall_17 (x1 : Int32) (x2 : Int32) (h : ax_Hp) : ax_run m_X7_wall 17 [(0, .ref 0), (1, .int x1), (2, .int x2)] [] h = if x2 = 0 then ax_run m_X7_wall 56 [(0, .ref 0), (1, .int x1)] [] h else if x2 = 1 then ax_run m_X7_wall 66 [(0, .ref 0), (1, .int x1)] [] h else if x2 = 2 then ax_run m_X7_wall 76 [(0, .ref 0), (1, .int x1)] [] h else if x2 = 3 then ax_run m_X7_wall 86 [(0, .ref 0), (1, .int x1)] [] h else if x2 = 4 then ax_run m_X7_wall 96 [(0, .ref 0), (1, .int x1)] [] h else if x2 = 5 then ax_run m_X7_wall 106 [(0, .ref 0), (1, .int x1)] [] h else ax_run m_X7_wall 116 [(0, .ref 0)] [] h := (ax_run_eq _ _ _ _ _).trans rfl
set_option maxRecDepth 100000 in
theorem q_X7_wall_56 (x1 : Int32) (h : ax_Hp) : ax_run m_X7_wall 56 [(0, .ref 0), (1, .int x1)] [] h = ax_g (ax_in x1 7) (some (some (.int (h.1 2 x1.toNatClampNeg)), h)) := (ax_run_eq _ _ _ _ _).trans rfl
set_option maxRecDepth 100000 in
theorem q_X7_wall_66 (x1 : Int32) (h : ax_Hp) : ax_run m_X7_wall 66 [(0, .ref 0), (1, .int x1)] [] h = ax_g (ax_in x1 7) (some (some (.int (h.1 3 x1.toNatClampNeg)), h)) := (ax_run_eq _ _ _ _ _).trans rfl
set_option maxRecDepth 100000 in
theorem q_X7_wall_76 (x1 : Int32) (h : ax_Hp) : ax_run m_X7_wall 76 [(0, .ref 0), (1, .int x1)] [] h = ax_g (ax_in x1 7) (some (some (.int (h.1 4 x1.toNatClampNeg)), h)) := (ax_run_eq _ _ _ _ _).trans rfl
set_option maxRecDepth 100000 in
theorem q_X7_wall_86 (x1 : Int32) (h : ax_Hp) : ax_run m_X7_wall 86 [(0, .ref 0), (1, .int x1)] [] h = ax_g (ax_in x1 7) (some (some (.int (h.1 5 x1.toNatClampNeg)), h)) := (ax_run_eq _ _ _ _ _).trans rfl
set_option maxRecDepth 100000 in
theorem q_X7_wall_96 (x1 : Int32) (h : ax_Hp) : ax_run m_X7_wall 96 [(0, .ref 0), (1, .int x1)] [] h = ax_g (ax_in x1 7) (some (some (.int (h.1 6 x1.toNatClampNeg)), h)) := (ax_run_eq _ _ _ _ _).trans rfl
set_option maxRecDepth 100000 in
theorem q_X7_wall_106 (x1 : Int32) (h : ax_Hp) : ax_run m_X7_wall 106 [(0, .ref 0), (1, .int x1)] [] h = ax_g (ax_in x1 7) (some (some (.int (h.1 10 x1.toNatClampNeg)), h)) := (ax_run_eq _ _ _ _ _).trans rfl
set_option maxRecDepth 100000 in
theorem q_X7_wall_116  (h : ax_Hp) : ax_run m_X7_wall 116 [(0, .ref 0)] [] h = (rI m_X7_refuse [.ref 0, .int ((-2))] h).bind (fun q1 => some (some (.int q1.1), q1.2)) := (ax_run_eq _ _ _ _ _).trans rfl
set_option maxRecDepth 100000 in
theorem q_X7_goes_0 (x1 : Int32) (x2 : Int32) (h : ax_Hp) : ax_run m_X7_goes 0 [(0, .ref 0), (1, .int x1), (2, .int x2)] [] h = (rI m_X5_isWall [.ref 1, .int x1] h).bind (fun q1 => if q1.1 = 0 then (rI m_X7_refuse [.ref 0, .int ((-1))] q1.2).bind (fun q2 => some (some (.int q2.1), q2.2)) else ax_run m_X7_goes 17 [(0, .ref 0), (1, .int x1), (2, .int x2)] [] q1.2) := (ax_run_eq _ _ _ _ _).trans rfl
set_option maxRecDepth 100000 in
theorem q_X7_goes_17 (x1 : Int32) (x2 : Int32) (h : ax_Hp) : ax_run m_X7_goes 17 [(0, .ref 0), (1, .int x1), (2, .int x2)] [] h = if x2 < 0 then ax_run m_X7_goes 26 [(0, .ref 0)] [] h else if x2 ≤ 1 then ax_run m_X7_goes 33 [(0, .ref 0), (1, .int x1), (2, .int x2)] [] h else ax_run m_X7_goes 26 [(0, .ref 0)] [] h := (ax_run_eq _ _ _ _ _).trans rfl
set_option maxRecDepth 100000 in
theorem q_X7_goes_26  (h : ax_Hp) : ax_run m_X7_goes 26 [(0, .ref 0)] [] h = (rI m_X7_refuse [.ref 0, .int ((-2))] h).bind (fun q1 => some (some (.int q1.1), q1.2)) := (ax_run_eq _ _ _ _ _).trans rfl
set_option maxRecDepth 100000 in
theorem q_X7_goes_33 (x1 : Int32) (x2 : Int32) (h : ax_Hp) : ax_run m_X7_goes 33 [(0, .ref 0), (1, .int x1), (2, .int x2)] [] h = if x2 = 0 then (rI m_X6_hoursToHome [.ref 43, .ref 1, .int x1] h).bind (fun q1 => ax_run m_X7_goes 64 [] [.int q1.1] q1.2) else ax_run m_X7_goes 52 [(0, .ref 0), (1, .int x1)] [] h := (ax_run_eq _ _ _ _ _).trans rfl
set_option maxRecDepth 100000 in
theorem q_X7_goes_52 (x1 : Int32) (h : ax_Hp) : ax_run m_X7_goes 52 [(0, .ref 0), (1, .int x1)] [] h = (rI m_X6_hoursToGone [.ref 43, .ref 1, .int x1] h).bind (fun q1 => ax_run m_X7_goes 64 [] [.int q1.1] q1.2) := (ax_run_eq _ _ _ _ _).trans rfl
set_option maxRecDepth 100000 in
theorem q_X7_goes_64 (s0 : Int32) (h : ax_Hp) : ax_run m_X7_goes 64 [] [.int s0] h = some (some (.int s0), h) := (ax_run_eq _ _ _ _ _).trans rfl
set_option maxRecDepth 100000 in
theorem q_X7_lend_0 (x1 : Int32) (h : ax_Hp) : ax_run m_X7_lend 0 [(0, .ref 0), (1, .int x1)] [] h = (rI m_X7_outside [.int x1, .int 0, .int 12] h).bind (fun q1 => if q1.1 = 0 then ax_run m_X7_lend 18 [(0, .ref 0), (1, .int x1)] [] q1.2 else (rI m_X7_refuse [.ref 0, .int q1.1] q1.2).bind (fun q2 => some (some (.int q2.1), q2.2))) := (ax_run_eq _ _ _ _ _).trans rfl
set_option maxRecDepth 100000 in
theorem q_X7_lend_18 (x1 : Int32) (h : ax_Hp) : ax_run m_X7_lend 18 [(0, .ref 0), (1, .int x1)] [] h = (rI m_X6_bestLoan [.ref 43, .ref 1, .int x1] h).bind (fun q1 => some (some (.int q1.1), q1.2)) := (ax_run_eq _ _ _ _ _).trans rfl
set_option maxRecDepth 100000 in
theorem q_X7_ways_0 (x1 : Int32) (x2 : Int32) (x3 : Int32) (h : ax_Hp) : ax_run m_X7_ways 0 [(0, .ref 0), (1, .int x1), (2, .int x2), (3, .int x3)] [] h = (rI m_X5_isWall [.ref 1, .int x1] h).bind (fun q1 => if q1.1 = 0 then ax_run m_X7_ways 18 [(0, .ref 0)] [] q1.2 else (rI m_X7_isHouse [.int x2] q1.2).bind (fun q2 => if q2.1 = 0 then ax_run m_X7_ways 18 [(0, .ref 0)] [] q2.2 else ax_run m_X7_ways 24 [(0, .ref 0), (1, .int x1), (2, .int x2), (3, .int x3)] [] q2.2)) := (ax_run_eq _ _ _ _ _).trans rfl
set_option maxRecDepth 100000 in
theorem q_X7_ways_18  (h : ax_Hp) : ax_run m_X7_ways 18 [(0, .ref 0)] [] h = (rL m_X7_refuseLong [.ref 0, .int ((-1))] h).bind (fun q1 => some (some (.long q1.1), q1.2)) := (ax_run_eq _ _ _ _ _).trans rfl
set_option maxRecDepth 100000 in
theorem q_X7_ways_24 (x1 : Int32) (x2 : Int32) (x3 : Int32) (h : ax_Hp) : ax_run m_X7_ways 24 [(0, .ref 0), (1, .int x1), (2, .int x2), (3, .int x3)] [] h = (rI m_X7_outside [.int x3, .int 0, .int 20] h).bind (fun q1 => if q1.1 = 0 then ax_run m_X7_ways 45 [(0, .ref 0), (1, .int x1), (2, .int x2), (3, .int x3)] [] q1.2 else (rL m_X7_refuseLong [.ref 0, .int q1.1] q1.2).bind (fun q2 => some (some (.long q2.1), q2.2))) := (ax_run_eq _ _ _ _ _).trans rfl
set_option maxRecDepth 100000 in
theorem q_X7_ways_45 (x1 : Int32) (x2 : Int32) (x3 : Int32) (h : ax_Hp) : ax_run m_X7_ways 45 [(0, .ref 0), (1, .int x1), (2, .int x2), (3, .int x3)] [] h = (rL m_X0_waysTo [.ref 40, .ref 1, .int x1, .int x2, .int x3] h).bind (fun q1 => some (some (.long q1.1), q1.2)) := (ax_run_eq _ _ _ _ _).trans rfl
set_option maxRecDepth 100000 in
theorem q_X7_split_0 (x1 : Int32) (x2 : Int32) (x3 : Int32) (h : ax_Hp) : ax_run m_X7_split 0 [(0, .ref 0), (1, .int x1), (2, .int x2), (3, .int x3)] [] h = (rI m_X7_areTwoHouses [.int x1, .int x2] h).bind (fun q1 => if q1.1 = 0 then (rI m_X7_refuse [.ref 0, .int ((-1))] q1.2).bind (fun q2 => some (some (.int q2.1), q2.2)) else ax_run m_X7_split 14 [(0, .ref 0), (1, .int x1), (2, .int x2), (3, .int x3)] [] q1.2) := (ax_run_eq _ _ _ _ _).trans rfl
set_option maxRecDepth 100000 in
theorem q_X7_split_14 (x1 : Int32) (x2 : Int32) (x3 : Int32) (h : ax_Hp) : ax_run m_X7_split 14 [(0, .ref 0), (1, .int x1), (2, .int x2), (3, .int x3)] [] h = if x3 < 0 then ax_run m_X7_split 23 [(0, .ref 0)] [] h else if x3 ≤ 2 then ax_run m_X7_split 30 [(0, .ref 0), (1, .int x1), (2, .int x2), (3, .int x3)] [] h else ax_run m_X7_split 23 [(0, .ref 0)] [] h := (ax_run_eq _ _ _ _ _).trans rfl
set_option maxRecDepth 100000 in
theorem q_X7_split_23  (h : ax_Hp) : ax_run m_X7_split 23 [(0, .ref 0)] [] h = (rI m_X7_refuse [.ref 0, .int ((-2))] h).bind (fun q1 => some (some (.int q1.1), q1.2)) := (ax_run_eq _ _ _ _ _).trans rfl
set_option maxRecDepth 100000 in
theorem q_X7_split_30 (x1 : Int32) (x2 : Int32) (x3 : Int32) (h : ax_Hp) : ax_run m_X7_split 30 [(0, .ref 0), (1, .int x1), (2, .int x2), (3, .int x3)] [] h = (rI m_X0_closeBoth [.ref 40, .ref 1, .int x1, .int x2, .int x3] h).bind (fun q1 => some (some (.int q1.1), q1.2)) := (ax_run_eq _ _ _ _ _).trans rfl
set_option maxRecDepth 100000 in
theorem q_X7_mean_0 (x1 : Int32) (h : ax_Hp) : ax_run m_X7_mean 0 [(0, .ref 0), (1, .int x1)] [] h = if x1 < 0 then ax_run m_X7_mean 9 [(0, .ref 0)] [] h else if x1 ≤ 1 then ax_run m_X7_mean 16 [(0, .ref 0), (1, .int x1)] [] h else ax_run m_X7_mean 9 [(0, .ref 0)] [] h := (ax_run_eq _ _ _ _ _).trans rfl
set_option maxRecDepth 100000 in
theorem q_X7_mean_9  (h : ax_Hp) : ax_run m_X7_mean 9 [(0, .ref 0)] [] h = (rL m_X7_refuseLong [.ref 0, .int ((-2))] h).bind (fun q1 => some (some (.long q1.1), q1.2)) := (ax_run_eq _ _ _ _ _).trans rfl
set_option maxRecDepth 100000 in
theorem q_X7_mean_16 (x1 : Int32) (h : ax_Hp) : ax_run m_X7_mean 16 [(0, .ref 0), (1, .int x1)] [] h = (rI m_X5_allLacking [.ref 1] h).bind (fun q1 => (rI m_X5_seenBits [.ref 1] q1.2).bind (fun q2 => (rI m_X7_bitsIn [.int q2.1] q2.2).bind (fun q3 => (rL m_X7_inLeastTerms [.long q1.1.toInt64, .long q3.1.toInt64, .int x1] q3.2).bind (fun q4 => some (some (.long q4.1), q4.2))))) := (ax_run_eq _ _ _ _ _).trans rfl
set_option maxRecDepth 100000 in
theorem q_X7_bitsIn_0 (x0 : Int32) (h : ax_Hp) : ax_run m_X7_bitsIn 0 [(0, .int x0)] [] h = (rI m_J6_bitCount_0f7a4 [.int x0] h).bind (fun q1 => some (some (.int q1.1), q1.2)) := (ax_run_eq _ _ _ _ _).trans rfl
set_option maxRecDepth 100000 in
theorem q_X7_inLeastTerms_0 (x0 : Int64) (x2 : Int64) (x4 : Int32) (h : ax_Hp) : ax_run m_X7_inLeastTerms 0 [(0, .long x0), (2, .long x2), (4, .int x4)] [] h = if lg_cmp x0 0 = 0 then ax_run m_X7_inLeastTerms 12 [(4, .int x4)] [] h else if lg_cmp x2 0 = 0 then ax_run m_X7_inLeastTerms 12 [(4, .int x4)] [] h else ax_run m_X7_inLeastTerms 16 [(0, .long x0), (2, .long x2), (4, .int x4)] [] h := (ax_run_eq _ _ _ _ _).trans rfl
set_option maxRecDepth 100000 in
theorem q_X7_inLeastTerms_12 (x4 : Int32) (h : ax_Hp) : ax_run m_X7_inLeastTerms 12 [(4, .int x4)] [] h = some (some (.long x4.toInt64), h) := (ax_run_eq _ _ _ _ _).trans rfl
set_option maxRecDepth 100000 in
theorem q_X7_inLeastTerms_16 (x0 : Int64) (x2 : Int64) (x4 : Int32) (h : ax_Hp) : ax_run m_X7_inLeastTerms 16 [(0, .long x0), (2, .long x2), (4, .int x4)] [] h = (rL m_X7_commonDivisor [.long x0, .long x2] h).bind (fun q1 => if lg_cmp q1.1 0 = 0 then some (some (.long x4.toInt64), q1.2) else ax_run m_X7_inLeastTerms 34 [(0, .long x0), (2, .long x2), (4, .int x4), (5, .long q1.1)] [] q1.2) := (ax_run_eq _ _ _ _ _).trans rfl
set_option maxRecDepth 100000 in
theorem q_X7_inLeastTerms_34 (x0 : Int64) (x2 : Int64) (x4 : Int32) (x5 : Int64) (h : ax_Hp) : ax_run m_X7_inLeastTerms 34 [(0, .long x0), (2, .long x2), (4, .int x4), (5, .long x5)] [] h = if x4 = 0 then ax_run m_X7_inLeastTerms 44 [(5, .long x5)] [.long x0] h else ax_run m_X7_inLeastTerms 43 [(2, .long x2), (5, .long x5)] [] h := (ax_run_eq _ _ _ _ _).trans rfl
set_option maxRecDepth 100000 in
theorem q_X7_inLeastTerms_43 (x2 : Int64) (x5 : Int64) (h : ax_Hp) : ax_run m_X7_inLeastTerms 43 [(2, .long x2), (5, .long x5)] [] h = ax_run m_X7_inLeastTerms 44 [(5, .long x5)] [.long x2] h := (ax_run_eq _ _ _ _ _).trans rfl
set_option maxRecDepth 100000 in
theorem q_X7_inLeastTerms_44 (x5 : Int64) (s0 : Int64) (h : ax_Hp) : ax_run m_X7_inLeastTerms 44 [(5, .long x5)] [.long s0] h = ax_g (!(decide (x5 = 0))) (some (some (.long (s0 / x5)), h)) := (ax_run_eq _ _ _ _ _).trans rfl
set_option maxRecDepth 100000 in
theorem q_X7_areTwoHouses_0 (x0 : Int32) (x1 : Int32) (h : ax_Hp) : ax_run m_X7_areTwoHouses 0 [(0, .int x0), (1, .int x1)] [] h = (rI m_X7_isHouse [.int x0] h).bind (fun q1 => if q1.1 = 0 then ax_run m_X7_areTwoHouses 23 [] [] q1.2 else (rI m_X7_isHouse [.int x1] q1.2).bind (fun q2 => if q2.1 = 0 then ax_run m_X7_areTwoHouses 23 [] [] q2.2 else if x0 = x1 then ax_run m_X7_areTwoHouses 23 [] [] q2.2 else ax_run m_X7_areTwoHouses 24 [] [.int 1] q2.2)) := (ax_run_eq _ _ _ _ _).trans rfl
set_option maxRecDepth 100000 in
theorem q_X7_areTwoHouses_23  (h : ax_Hp) : ax_run m_X7_areTwoHouses 23 [] [] h = ax_run m_X7_areTwoHouses 24 [] [.int 0] h := (ax_run_eq _ _ _ _ _).trans rfl
set_option maxRecDepth 100000 in
theorem q_X7_areTwoHouses_24 (s0 : Int32) (h : ax_Hp) : ax_run m_X7_areTwoHouses 24 [] [.int s0] h = if s0 = 0 ∨ s0 = 1 then some (some (.int s0), h) else none := (ax_run_eq _ _ _ _ _).trans rfl
set_option maxRecDepth 100000 in
theorem q_X7_pass_0 (x1 : Int32) (h : ax_Hp) : ax_run m_X7_pass 0 [(0, .ref 0), (1, .int x1)] [] h = ax_run m_X7_pass 2 [(0, .ref 0), (1, .int x1), (2, .int 0)] [] h := (ax_run_eq _ _ _ _ _).trans rfl
set_option maxRecDepth 100000 in
theorem q_X7_pass_2 (x1 : Int32) (x2 : Int32) (h : ax_Hp) : ax_run m_X7_pass 2 [(0, .ref 0), (1, .int x1), (2, .int x2)] [] h = if x1 ≤ x2 then ax_run m_X7_pass 41 [] [] h else (rV m_X5_passHour [.ref 1] h).bind (fun q1 => (rI m_X5_seenBits [.ref 1] q1).bind (fun q2 => (rV m_X1_write [.ref 34, .int (q1.1 1 1), .int q2.1] q2.2).bind (fun q3 => ax_run m_X7_pass 2 [(0, .ref 0), (1, .int x1), (2, .int (x2 + 1))] [] q3))) := (ax_run_eq _ _ _ _ _).trans rfl
set_option maxRecDepth 100000 in
theorem q_X7_pass_41  (h : ax_Hp) : ax_run m_X7_pass 41 [] [] h = some (none, h) := (ax_run_eq _ _ _ _ _).trans rfl
set_option maxRecDepth 100000 in
theorem q_X7_isHouse_0 (x0 : Int32) (h : ax_Hp) : ax_run m_X7_isHouse 0 [(0, .int x0)] [] h = if x0 < 0 then ax_run m_X7_isHouse 14 [] [] h else if 8 ≤ x0 then ax_run m_X7_isHouse 14 [] [] h else ax_run m_X7_isHouse 15 [] [.int 1] h := (ax_run_eq _ _ _ _ _).trans rfl
set_option maxRecDepth 100000 in
theorem q_X7_isHouse_14  (h : ax_Hp) : ax_run m_X7_isHouse 14 [] [] h = ax_run m_X7_isHouse 15 [] [.int 0] h := (ax_run_eq _ _ _ _ _).trans rfl
set_option maxRecDepth 100000 in
theorem q_X7_isHouse_15 (s0 : Int32) (h : ax_Hp) : ax_run m_X7_isHouse 15 [] [.int s0] h = if s0 = 0 ∨ s0 = 1 then some (some (.int s0), h) else none := (ax_run_eq _ _ _ _ _).trans rfl
set_option maxRecDepth 100000 in
theorem q_X7_refuse_0 (x1 : Int32) (h : ax_Hp) : ax_run m_X7_refuse 0 [(0, .ref 0), (1, .int x1)] [] h = if -x1 < 0 then ax_run m_X7_refuse 26 [(1, .int x1)] [] h else if 7 ≤ -x1 then ax_run m_X7_refuse 26 [(1, .int x1)] [] h else ax_g (ax_in (-x1) 7) (ax_g (ax_in (-x1) 7) (ax_run m_X7_refuse 26 [(1, .int x1)] [] (wI h 46 (-x1).toNatClampNeg ((h.1 46 (-x1).toNatClampNeg) + 1)))) := (ax_run_eq _ _ _ _ _).trans rfl
set_option maxRecDepth 100000 in
theorem q_X7_refuse_26 (x1 : Int32) (h : ax_Hp) : ax_run m_X7_refuse 26 [(1, .int x1)] [] h = some (some (.int x1), h) := (ax_run_eq _ _ _ _ _).trans rfl
set_option maxRecDepth 100000 in
theorem q_X7_power_0 (x0 : Int32) (x1 : Int32) (h : ax_Hp) : ax_run m_X7_power 0 [(0, .int x0), (1, .int x1)] [] h = ax_run m_X7_power 5 [(0, .int x0), (1, .int x1), (2, .long 1), (4, .int 0)] [] h := (ax_run_eq _ _ _ _ _).trans rfl
set_option maxRecDepth 100000 in
theorem q_X7_power_5 (x0 : Int32) (x1 : Int32) (x2 : Int64) (x4 : Int32) (h : ax_Hp) : ax_run m_X7_power 5 [(0, .int x0), (1, .int x1), (2, .long x2), (4, .int x4)] [] h = if x1 ≤ x4 then ax_run m_X7_power 22 [(2, .long x2)] [] h else ax_run m_X7_power 5 [(0, .int x0), (1, .int x1), (2, .long (x2 * x0.toInt64)), (4, .int (x4 + 1))] [] h := (ax_run_eq _ _ _ _ _).trans rfl
set_option maxRecDepth 100000 in
theorem q_X7_power_22 (x2 : Int64) (h : ax_Hp) : ax_run m_X7_power 22 [(2, .long x2)] [] h = some (some (.long x2), h) := (ax_run_eq _ _ _ _ _).trans rfl
set_option maxRecDepth 100000 in
theorem q_X7_tell_0 (x1 : Int32) (h : ax_Hp) : ax_run m_X7_tell 0 [(0, .ref 0), (1, .int x1)] [] h = (rI m_X3_digitAt [.ref 36, .int (x1 + 1)] h).bind (fun q1 => (rI m_X3_digitAt [.ref 36, .int (x1 + 2)] q1.2).bind (fun q2 => (rI m_X3_signAt [.ref 36, .int x1] q2.2).bind (fun q3 => if q3.1 = 98 then ax_run m_X7_tell 177 [(0, .ref 0), (2, .int q1.1), (3, .int q2.1)] [] q3.2 else if q3.1 = 109 then ax_run m_X7_tell 111 [(0, .ref 0), (2, .int q1.1), (3, .int q2.1)] [] q3.2 else if q3.1 = 110 then ax_run m_X7_tell 135 [(0, .ref 0), (1, .int x1), (2, .int q1.1)] [] q3.2 else if q3.1 = 115 then ax_run m_X7_tell 123 [(0, .ref 0), (2, .int q1.1), (3, .int q2.1)] [] q3.2 else if q3.1 = 119 then ax_run m_X7_tell 80 [(0, .ref 0), (1, .int x1), (3, .int q2.1)] [] q3.2 else ax_run m_X7_tell 190 [(0, .ref 0), (2, .int q1.1), (3, .int q2.1)] [] q3.2))) := (ax_run_eq _ _ _ _ _).trans rfl
set_option maxRecDepth 100000 in
theorem q_X7_tell_80 (x1 : Int32) (x3 : Int32) (h : ax_Hp) : ax_run m_X7_tell 80 [(0, .ref 0), (1, .int x1), (3, .int x3)] [] h = (rI m_X3_kindAt [.ref 36, .int (x1 + 1)] h).bind (fun q1 => (rI m_X3_digitAt [.ref 36, .int (x1 + 3)] q1.2).bind (fun q2 => (rV m_X5_addWall [.ref 1, .int q1.1, .int x3, .int q2.1] q2.2).bind (fun q3 => ax_run m_X7_tell 200 [] [] q3))) := (ax_run_eq _ _ _ _ _).trans rfl
set_option maxRecDepth 100000 in
theorem q_X7_tell_111 (x2 : Int32) (x3 : Int32) (h : ax_Hp) : ax_run m_X7_tell 111 [(0, .ref 0), (2, .int x2), (3, .int x3)] [] h = (rV m_X5_takeTo [.ref 1, .int x2, .int x3] h).bind (fun q1 => ax_run m_X7_tell 200 [] [] q1) := (ax_run_eq _ _ _ _ _).trans rfl
set_option maxRecDepth 100000 in
theorem q_X7_tell_123 (x2 : Int32) (x3 : Int32) (h : ax_Hp) : ax_run m_X7_tell 123 [(0, .ref 0), (2, .int x2), (3, .int x3)] [] h = (rV m_X5_sellTo [.ref 1, .int x2, .int x3] h).bind (fun q1 => ax_run m_X7_tell 200 [] [] q1) := (ax_run_eq _ _ _ _ _).trans rfl
set_option maxRecDepth 100000 in
theorem q_X7_tell_135 (x1 : Int32) (x2 : Int32) (h : ax_Hp) : ax_run m_X7_tell 135 [(0, .ref 0), (1, .int x1), (2, .int x2)] [] h = ax_run m_X7_tell 138 [(0, .ref 0), (1, .int x1), (2, .int x2), (4, .int 0)] [] h := (ax_run_eq _ _ _ _ _).trans rfl
set_option maxRecDepth 100000 in
theorem q_X7_tell_138 (x1 : Int32) (x2 : Int32) (x4 : Int32) (h : ax_Hp) : ax_run m_X7_tell 138 [(0, .ref 0), (1, .int x1), (2, .int x2), (4, .int x4)] [] h = if 6 ≤ x4 then ax_run m_X7_tell 174 [] [] h else (rI m_X3_digitAt [.ref 36, .int ((x1 + 2) + x4)] h).bind (fun q1 => (rV m_X5_setNeed [.ref 1, .int x2, .int x4, .int q1.1] q1.2).bind (fun q2 => ax_run m_X7_tell 138 [(0, .ref 0), (1, .int x1), (2, .int x2), (4, .int (x4 + 1))] [] q2)) := (ax_run_eq _ _ _ _ _).trans rfl
set_option maxRecDepth 100000 in
theorem q_X7_tell_174  (h : ax_Hp) : ax_run m_X7_tell 174 [] [] h = ax_run m_X7_tell 200 [] [] h := (ax_run_eq _ _ _ _ _).trans rfl
set_option maxRecDepth 100000 in
theorem q_X7_tell_177 (x2 : Int32) (x3 : Int32) (h : ax_Hp) : ax_run m_X7_tell 177 [(0, .ref 0), (2, .int x2), (3, .int x3)] [] h = (rI m_X5_turnBar [.ref 1, .int x2, .int x3] h).bind (fun q1 => ax_run m_X7_tell 200 [] [] q1.2) := (ax_run_eq _ _ _ _ _).trans rfl
set_option maxRecDepth 100000 in
theorem q_X7_tell_190 (x2 : Int32) (x3 : Int32) (h : ax_Hp) : ax_run m_X7_tell 190 [(0, .ref 0), (2, .int x2), (3, .int x3)] [] h = (rV m_X7_pass [.ref 0, .int ((10 * x2) + x3)] h).bind (fun q1 => ax_run m_X7_tell 200 [] [] q1) := (ax_run_eq _ _ _ _ _).trans rfl
set_option maxRecDepth 100000 in
theorem q_X7_tell_200  (h : ax_Hp) : ax_run m_X7_tell 200 [] [] h = some (none, h) := (ax_run_eq _ _ _ _ _).trans rfl
set_option maxRecDepth 100000 in
theorem q_X7_outside_0 (x0 : Int32) (x1 : Int32) (x2 : Int32) (h : ax_Hp) : ax_run m_X7_outside 0 [(0, .int x0), (1, .int x1), (2, .int x2)] [] h = if x1 ≤ x0 then ax_run m_X7_outside 8 [(0, .int x0), (2, .int x2)] [] h else some (some (.int ((-4))), h) := (ax_run_eq _ _ _ _ _).trans rfl
set_option maxRecDepth 100000 in
theorem q_X7_outside_8 (x0 : Int32) (x2 : Int32) (h : ax_Hp) : ax_run m_X7_outside 8 [(0, .int x0), (2, .int x2)] [] h = if x0 ≤ x2 then ax_run m_X7_outside 18 [] [] h else ax_run m_X7_outside 19 [] [.int ((-6))] h := (ax_run_eq _ _ _ _ _).trans rfl
set_option maxRecDepth 100000 in
theorem q_X7_outside_18  (h : ax_Hp) : ax_run m_X7_outside 18 [] [] h = ax_run m_X7_outside 19 [] [.int 0] h := (ax_run_eq _ _ _ _ _).trans rfl
set_option maxRecDepth 100000 in
theorem q_X7_outside_19 (s0 : Int32) (h : ax_Hp) : ax_run m_X7_outside 19 [] [.int s0] h = some (some (.int s0), h) := (ax_run_eq _ _ _ _ _).trans rfl
set_option maxRecDepth 100000 in
theorem q_X7_refuseLong_0 (x1 : Int32) (h : ax_Hp) : ax_run m_X7_refuseLong 0 [(0, .ref 0), (1, .int x1)] [] h = (rI m_X7_refuse [.ref 0, .int x1] h).bind (fun q1 => some (some (.long (4000000000000000000 - q1.1.toInt64)), q1.2)) := (ax_run_eq _ _ _ _ _).trans rfl
set_option maxRecDepth 100000 in
theorem q_J6_bitCount_0 (x0 : Int32) (h : ax_Hp) : ax_run m_J6_bitCount_0f7a4 0 [(0, .int x0)] [] h = some (some (.int ((((((((x0 - (((x0.toUInt32 >>> ((1 : Int32).toUInt32 &&& Int32.toUInt32 31)).toInt32) &&& 1431655765)) &&& 858993459) + ((((x0 - (((x0.toUInt32 >>> ((1 : Int32).toUInt32 &&& Int32.toUInt32 31)).toInt32) &&& 1431655765)).toUInt32 >>> ((2 : Int32).toUInt32 &&& Int32.toUInt32 31)).toInt32) &&& 858993459)) + (((((x0 - (((x0.toUInt32 >>> ((1 : Int32).toUInt32 &&& Int32.toUInt32 31)).toInt32) &&& 1431655765)) &&& 858993459) + ((((x0 - (((x0.toUInt32 >>> ((1 : Int32).toUInt32 &&& Int32.toUInt32 31)).toInt32) &&& 1431655765)).toUInt32 >>> ((2 : Int32).toUInt32 &&& Int32.toUInt32 31)).toInt32) &&& 858993459)).toUInt32 >>> ((4 : Int32).toUInt32 &&& Int32.toUInt32 31)).toInt32)) &&& 252645135) + (((((((x0 - (((x0.toUInt32 >>> ((1 : Int32).toUInt32 &&& Int32.toUInt32 31)).toInt32) &&& 1431655765)) &&& 858993459) + ((((x0 - (((x0.toUInt32 >>> ((1 : Int32).toUInt32 &&& Int32.toUInt32 31)).toInt32) &&& 1431655765)).toUInt32 >>> ((2 : Int32).toUInt32 &&& Int32.toUInt32 31)).toInt32) &&& 858993459)) + (((((x0 - (((x0.toUInt32 >>> ((1 : Int32).toUInt32 &&& Int32.toUInt32 31)).toInt32) &&& 1431655765)) &&& 858993459) + ((((x0 - (((x0.toUInt32 >>> ((1 : Int32).toUInt32 &&& Int32.toUInt32 31)).toInt32) &&& 1431655765)).toUInt32 >>> ((2 : Int32).toUInt32 &&& Int32.toUInt32 31)).toInt32) &&& 858993459)).toUInt32 >>> ((4 : Int32).toUInt32 &&& Int32.toUInt32 31)).toInt32)) &&& 252645135).toUInt32 >>> ((8 : Int32).toUInt32 &&& Int32.toUInt32 31)).toInt32)) + ((((((((x0 - (((x0.toUInt32 >>> ((1 : Int32).toUInt32 &&& Int32.toUInt32 31)).toInt32) &&& 1431655765)) &&& 858993459) + ((((x0 - (((x0.toUInt32 >>> ((1 : Int32).toUInt32 &&& Int32.toUInt32 31)).toInt32) &&& 1431655765)).toUInt32 >>> ((2 : Int32).toUInt32 &&& Int32.toUInt32 31)).toInt32) &&& 858993459)) + (((((x0 - (((x0.toUInt32 >>> ((1 : Int32).toUInt32 &&& Int32.toUInt32 31)).toInt32) &&& 1431655765)) &&& 858993459) + ((((x0 - (((x0.toUInt32 >>> ((1 : Int32).toUInt32 &&& Int32.toUInt32 31)).toInt32) &&& 1431655765)).toUInt32 >>> ((2 : Int32).toUInt32 &&& Int32.toUInt32 31)).toInt32) &&& 858993459)).toUInt32 >>> ((4 : Int32).toUInt32 &&& Int32.toUInt32 31)).toInt32)) &&& 252645135) + (((((((x0 - (((x0.toUInt32 >>> ((1 : Int32).toUInt32 &&& Int32.toUInt32 31)).toInt32) &&& 1431655765)) &&& 858993459) + ((((x0 - (((x0.toUInt32 >>> ((1 : Int32).toUInt32 &&& Int32.toUInt32 31)).toInt32) &&& 1431655765)).toUInt32 >>> ((2 : Int32).toUInt32 &&& Int32.toUInt32 31)).toInt32) &&& 858993459)) + (((((x0 - (((x0.toUInt32 >>> ((1 : Int32).toUInt32 &&& Int32.toUInt32 31)).toInt32) &&& 1431655765)) &&& 858993459) + ((((x0 - (((x0.toUInt32 >>> ((1 : Int32).toUInt32 &&& Int32.toUInt32 31)).toInt32) &&& 1431655765)).toUInt32 >>> ((2 : Int32).toUInt32 &&& Int32.toUInt32 31)).toInt32) &&& 858993459)).toUInt32 >>> ((4 : Int32).toUInt32 &&& Int32.toUInt32 31)).toInt32)) &&& 252645135).toUInt32 >>> ((8 : Int32).toUInt32 &&& Int32.toUInt32 31)).toInt32)).toUInt32 >>> ((16 : Int32).toUInt32 &&& Int32.toUInt32 31)).toInt32)) &&& 63)), h) := (ax_run_eq _ _ _ _ _).trans rfl
set_option maxRecDepth 100000 in
theorem q_X7_stepsBetween_0 (x0 : Int32) (x1 : Int32) (h : ax_Hp) : ax_run m_X7_stepsBetween 0 [(0, .int x0), (1, .int x1)] [] h = some (some (.int (if 0 ≤ x0 - x1 then x0 - x1 else 0 - (x0 - x1))), h) := (ax_run_eq _ _ _ _ _).trans rfl
set_option maxRecDepth 100000 in
theorem q_X7_hasBit_0 (x0 : Int32) (x1 : Int32) (h : ax_Hp) : ax_run m_X7_hasBit 0 [(0, .int x0), (1, .int x1)] [] h = if (x0 >>> (x1 &&& 31)) &&& 1 = 1 then ax_run m_X7_hasBit 14 [] [.int 1] h else ax_run m_X7_hasBit 13 [] [] h := (ax_run_eq _ _ _ _ _).trans rfl
set_option maxRecDepth 100000 in
theorem q_X7_hasBit_13  (h : ax_Hp) : ax_run m_X7_hasBit 13 [] [] h = ax_run m_X7_hasBit 14 [] [.int 0] h := (ax_run_eq _ _ _ _ _).trans rfl
set_option maxRecDepth 100000 in
theorem q_X7_hasBit_14 (s0 : Int32) (h : ax_Hp) : ax_run m_X7_hasBit 14 [] [.int s0] h = if s0 = 0 ∨ s0 = 1 then some (some (.int s0), h) else none := (ax_run_eq _ _ _ _ _).trans rfl
set_option maxRecDepth 100000 in
theorem q_X7_commonDivisor_0 (x0 : Int64) (x2 : Int64) (h : ax_Hp) : ax_run m_X7_commonDivisor 0 [(0, .long x0), (2, .long x2)] [] h = ax_run m_X7_commonDivisor 9 [(4, .long x0), (6, .long x2), (8, .int 0)] [] h := (ax_run_eq _ _ _ _ _).trans rfl
set_option maxRecDepth 100000 in
theorem q_X7_commonDivisor_9 (x4 : Int64) (x6 : Int64) (x8 : Int32) (h : ax_Hp) : ax_run m_X7_commonDivisor 9 [(4, .long x4), (6, .long x6), (8, .int x8)] [] h = if 100 ≤ x8 then ax_run m_X7_commonDivisor 44 [(4, .long x4)] [] h else if lg_cmp x6 0 = 0 then ax_run m_X7_commonDivisor 44 [(4, .long x4)] [] h else ax_g (!(decide (x6 = 0))) (ax_run m_X7_commonDivisor 9 [(4, .long x6), (6, .long (x4 - x4 / x6 * x6)), (8, .int (x8 + 1))] [] h) := (ax_run_eq _ _ _ _ _).trans rfl
set_option maxRecDepth 100000 in
theorem q_X7_commonDivisor_44 (x4 : Int64) (h : ax_Hp) : ax_run m_X7_commonDivisor 44 [(4, .long x4)] [] h = some (some (.long x4), h) := (ax_run_eq _ _ _ _ _).trans rfl
set_option maxRecDepth 100000 in
theorem q_J0_indexOf_0 (x1 : Int32) (h : ax_Hp) : ax_run m_J0_indexOf_0f7a4 0 [(0, .ref 67), (1, .int x1)] [] h = (rI m_J0_indexOf_7cf53 [.ref 67, .int x1, .int 0] h).bind (fun q1 => some (some (.int q1.1), q1.2)) := (ax_run_eq _ _ _ _ _).trans rfl
set_option maxRecDepth 100000 in
theorem q_J0_indexOf_7cf53_0 (x1 : Int32) (x2 : Int32) (h : ax_Hp) : ax_run m_J0_indexOf_7cf53 0 [(0, .ref 67), (1, .int x1), (2, .int x2)] [] h = (rI m_J0_isLatin1_aae02 [.ref 67] h).bind (fun q1 => if q1.1 = 0 then ax_run m_J0_indexOf_7cf53 23 [(0, .ref 67), (1, .int x1), (2, .int x2)] [] q1.2 else (rI m_J0_length_8abf5 [.ref 67] q1.2).bind (fun q2 => (rI m_J1_indexOf_4cfef [.ref 68, .int x1, .int x2, .int q2.1] q2.2).bind (fun q3 => ax_run m_J0_indexOf_7cf53 36 [] [.int q3.1] q3.2))) := (ax_run_eq _ _ _ _ _).trans rfl
set_option maxRecDepth 100000 in
theorem q_J0_indexOf_7cf53_36 (s0 : Int32) (h : ax_Hp) : ax_run m_J0_indexOf_7cf53 36 [] [.int s0] h = some (some (.int s0), h) := (ax_run_eq _ _ _ _ _).trans rfl
set_option maxRecDepth 100000 in
theorem q_J1_indexOf1_0 (x1 : Int32) (x2 : Int32) (x3 : Int32) (h : ax_Hp) : ax_run m_J1_indexOf_4cfef 0 [(0, .ref 68), (1, .int x1), (2, .int x2), (3, .int x3)] [] h = (rI m_J1_canEncode_9a6ad [.int x1] h).bind (fun q1 => if q1.1 = 0 then some (some (.int ((-1))), q1.2) else ax_run m_J1_indexOf_4cfef 9 [(0, .ref 68), (1, .int x1), (2, .int x2), (3, .int x3)] [] q1.2) := (ax_run_eq _ _ _ _ _).trans rfl
set_option maxRecDepth 100000 in
theorem q_J1_indexOf1_9 (x1 : Int32) (x2 : Int32) (x3 : Int32) (h : ax_Hp) : ax_run m_J1_indexOf_4cfef 9 [(0, .ref 68), (1, .int x1), (2, .int x2), (3, .int x3)] [] h = if (if x2 < 0 then 0 else x2) < (if 6 < x3 then 6 else x3) then ax_run m_J1_indexOf_4cfef 29 [(0, .ref 68), (1, .int x1), (2, .int (if x2 < 0 then 0 else x2)), (3, .int (if 6 < x3 then 6 else x3))] [] h else some (some (.int ((-1))), h) := (ax_run_eq _ _ _ _ _).trans rfl
set_option maxRecDepth 100000 in
theorem q_J1_indexOf1_29 (x1 : Int32) (x2 : Int32) (x3 : Int32) (h : ax_Hp) : ax_run m_J1_indexOf_4cfef 29 [(0, .ref 68), (1, .int x1), (2, .int x2), (3, .int x3)] [] h = (rI m_J1_indexOfChar_4cfef [.ref 68, .int x1, .int x2, .int x3] h).bind (fun q1 => some (some (.int q1.1), q1.2)) := (ax_run_eq _ _ _ _ _).trans rfl
set_option maxRecDepth 100000 in
theorem q_J0_length_8abf5_0  (h : ax_Hp) : ax_run m_J0_length_8abf5 0 [(0, .ref 67)] [] h = (rI m_J0_coder_7d493 [.ref 67] h).bind (fun q1 => some (some (.int (6 >>> (q1.1 &&& 31))), q1.2)) := (ax_run_eq _ _ _ _ _).trans rfl
set_option maxRecDepth 100000 in
theorem q_J0_isLatin1_aae02_0  (h : ax_Hp) : ax_run m_J0_isLatin1_aae02 0 [(0, .ref 67)] [] h = if (1 : Int32) = 0 then ax_run m_J0_isLatin1_aae02 17 [] [] h else if (0 : Int32) = 0 then ax_run m_J0_isLatin1_aae02 18 [] [.int 1] h else ax_run m_J0_isLatin1_aae02 17 [] [] h := (ax_run_eq _ _ _ _ _).trans rfl
set_option maxRecDepth 100000 in
theorem q_J0_isLatin1_aae02_17  (h : ax_Hp) : ax_run m_J0_isLatin1_aae02 17 [] [] h = ax_run m_J0_isLatin1_aae02 18 [] [.int 0] h := (ax_run_eq _ _ _ _ _).trans rfl
set_option maxRecDepth 100000 in
theorem q_J0_isLatin1_aae02_18 (s0 : Int32) (h : ax_Hp) : ax_run m_J0_isLatin1_aae02 18 [] [.int s0] h = if s0 = 0 ∨ s0 = 1 then some (some (.int s0), h) else none := (ax_run_eq _ _ _ _ _).trans rfl
set_option maxRecDepth 100000 in
theorem q_J1_canEncode_9a6ad_0 (x0 : Int32) (h : ax_Hp) : ax_run m_J1_canEncode_9a6ad 0 [(0, .int x0)] [] h = if x0 < 0 then ax_run m_J1_canEncode_9a6ad 15 [] [] h else if 255 < x0 then ax_run m_J1_canEncode_9a6ad 15 [] [] h else ax_run m_J1_canEncode_9a6ad 16 [] [.int 1] h := (ax_run_eq _ _ _ _ _).trans rfl
set_option maxRecDepth 100000 in
theorem q_J1_canEncode_9a6ad_15  (h : ax_Hp) : ax_run m_J1_canEncode_9a6ad 15 [] [] h = ax_run m_J1_canEncode_9a6ad 16 [] [.int 0] h := (ax_run_eq _ _ _ _ _).trans rfl
set_option maxRecDepth 100000 in
theorem q_J1_canEncode_9a6ad_16 (s0 : Int32) (h : ax_Hp) : ax_run m_J1_canEncode_9a6ad 16 [] [.int s0] h = if s0 = 0 ∨ s0 = 1 then some (some (.int s0), h) else none := (ax_run_eq _ _ _ _ _).trans rfl
set_option maxRecDepth 100000 in
theorem q_J0_coder_7d493_0  (h : ax_Hp) : ax_run m_J0_coder_7d493 0 [(0, .ref 67)] [] h = if (1 : Int32) = 0 then ax_run m_J0_coder_7d493 13 [] [] h else ax_run m_J0_coder_7d493 14 [] [.int 0] h := (ax_run_eq _ _ _ _ _).trans rfl
set_option maxRecDepth 100000 in
theorem q_J0_coder_7d493_13  (h : ax_Hp) : ax_run m_J0_coder_7d493 13 [] [] h = ax_run m_J0_coder_7d493 14 [] [.int 1] h := (ax_run_eq _ _ _ _ _).trans rfl
set_option maxRecDepth 100000 in
theorem q_J0_coder_7d493_14 (s0 : Int32) (h : ax_Hp) : ax_run m_J0_coder_7d493 14 [] [.int s0] h = if s0 = 0 ∨ s0 = 1 then some (some (.int s0), h) else none := (ax_run_eq _ _ _ _ _).trans rfl
set_option maxRecDepth 100000 in
theorem q_J1_indexOfChar1_0 (x1 : Int32) (x2 : Int32) (x3 : Int32) (h : ax_Hp) : ax_run m_J1_indexOfChar_4cfef 0 [(0, .ref 68), (1, .int x1), (2, .int x2), (3, .int x3)] [] h = ax_run m_J1_indexOfChar_4cfef 7 [(0, .ref 68), (3, .int x3), (4, .int x1.toInt8.toInt32), (5, .int x2)] [] h := (ax_run_eq _ _ _ _ _).trans rfl
set_option maxRecDepth 100000 in
theorem q_J1_indexOfChar1_7 (x3 : Int32) (x4 : Int32) (x5 : Int32) (h : ax_Hp) : ax_run m_J1_indexOfChar_4cfef 7 [(0, .ref 68), (3, .int x3), (4, .int x4), (5, .int x5)] [] h = if x3 ≤ x5 then ax_run m_J1_indexOfChar_4cfef 31 [] [] h else ax_g (ax_in x5 6) (if ax_by.getD x5.toNatClampNeg 0 = x4 then some (some (.int x5), h) else ax_run m_J1_indexOfChar_4cfef 25 [(0, .ref 68), (3, .int x3), (4, .int x4), (5, .int x5)] [] h) := (ax_run_eq _ _ _ _ _).trans rfl
set_option maxRecDepth 100000 in
theorem q_J1_indexOfChar1_25 (x3 : Int32) (x4 : Int32) (x5 : Int32) (h : ax_Hp) : ax_run m_J1_indexOfChar_4cfef 25 [(0, .ref 68), (3, .int x3), (4, .int x4), (5, .int x5)] [] h = ax_run m_J1_indexOfChar_4cfef 7 [(0, .ref 68), (3, .int x3), (4, .int x4), (5, .int (x5 + 1))] [] h := (ax_run_eq _ _ _ _ _).trans rfl
set_option maxRecDepth 100000 in
theorem q_J1_indexOfChar1_31  (h : ax_Hp) : ax_run m_J1_indexOfChar_4cfef 31 [] [] h = some (some (.int ((-1))), h) := (ax_run_eq _ _ _ _ _).trans rfl
