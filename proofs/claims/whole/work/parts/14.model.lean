/-! the equations of the blocks: by wip/whole/gen8.py -/
set_option maxRecDepth 100000 in
theorem q_X8_house_0 (x1 : Int32) (x2 : Int32) (h : ax_Hp) : ax_run m_X8_house 0 [(0, .ref 47), (1, .int x1), (2, .int x2)] [] h = (rI m_X8_isHouse [.int x1] h).bind (fun q1 => if q1.1 = 0 then (rI m_X8_no [.ref 47, .int ((-1))] q1.2).bind (fun q2 => some (some (.int q2.1), q2.2)) else ax_run m_X8_house 13 [(0, .ref 47), (1, .int x1), (2, .int x2)] [] q1.2) := (ax_run_eq _ _ _ _ _).trans rfl
set_option maxRecDepth 100000 in
theorem q_X8_house_13 (x1 : Int32) (x2 : Int32) (h : ax_Hp) : ax_run m_X8_house 13 [(0, .ref 47), (1, .int x1), (2, .int x2)] [] h = if x2 = 0 then ax_run m_X8_house 52 [(0, .ref 47), (1, .int x1)] [] h else if x2 = 1 then ax_run m_X8_house 70 [(0, .ref 47), (1, .int x1)] [] h else if x2 = 2 then ax_run m_X8_house 76 [(0, .ref 47), (1, .int x1)] [] h else if x2 = 3 then ax_run m_X8_house 82 [(0, .ref 47), (1, .int x1)] [] h else if x2 = 4 then ax_run m_X8_house 92 [(0, .ref 47), (1, .int x1)] [] h else if x2 = 5 then ax_run m_X8_house 102 [(0, .ref 47), (1, .int x1)] [] h else ax_run m_X8_house 109 [(0, .ref 47)] [] h := (ax_run_eq _ _ _ _ _).trans rfl
set_option maxRecDepth 100000 in
theorem q_X8_house_52 (x1 : Int32) (h : ax_Hp) : ax_run m_X8_house 52 [(0, .ref 47), (1, .int x1)] [] h = ax_g (ax_in ((6 * x1) + ((h.1 47 9) - (h.1 47 9) / 6 * 6)) 48) (some (some (.int (h.1 54 ((6 * x1) + ((h.1 47 9) - (h.1 47 9) / 6 * 6)).toNatClampNeg)), h)) := (ax_run_eq _ _ _ _ _).trans rfl
set_option maxRecDepth 100000 in
theorem q_X8_house_70 (x1 : Int32) (h : ax_Hp) : ax_run m_X8_house 70 [(0, .ref 47), (1, .int x1)] [] h = (rI m_X8_hasAt [.ref 47, .int x1] h).bind (fun q1 => some (some (.int q1.1), q1.2)) := (ax_run_eq _ _ _ _ _).trans rfl
set_option maxRecDepth 100000 in
theorem q_X8_house_76 (x1 : Int32) (h : ax_Hp) : ax_run m_X8_house 76 [(0, .ref 47), (1, .int x1)] [] h = (rI m_X8_lacks [.ref 47, .int x1] h).bind (fun q1 => some (some (.int q1.1), q1.2)) := (ax_run_eq _ _ _ _ _).trans rfl
set_option maxRecDepth 100000 in
theorem q_X8_house_82 (x1 : Int32) (h : ax_Hp) : ax_run m_X8_house 82 [(0, .ref 47), (1, .int x1)] [] h = (rI m_X8_wallsOf [.ref 47, .ref 52, .int x1] h).bind (fun q1 => some (some (.int q1.1), q1.2)) := (ax_run_eq _ _ _ _ _).trans rfl
set_option maxRecDepth 100000 in
theorem q_X8_house_92 (x1 : Int32) (h : ax_Hp) : ax_run m_X8_house 92 [(0, .ref 47), (1, .int x1)] [] h = (rI m_X8_wallsOf [.ref 47, .ref 51, .int x1] h).bind (fun q1 => some (some (.int q1.1), q1.2)) := (ax_run_eq _ _ _ _ _).trans rfl
set_option maxRecDepth 100000 in
theorem q_X8_house_102 (x1 : Int32) (h : ax_Hp) : ax_run m_X8_house 102 [(0, .ref 47), (1, .int x1)] [] h = ax_g (ax_in x1 8) (some (some (.int (h.1 55 x1.toNatClampNeg)), h)) := (ax_run_eq _ _ _ _ _).trans rfl
set_option maxRecDepth 100000 in
theorem q_X8_house_109  (h : ax_Hp) : ax_run m_X8_house 109 [(0, .ref 47)] [] h = (rI m_X8_no [.ref 47, .int ((-2))] h).bind (fun q1 => some (some (.int q1.1), q1.2)) := (ax_run_eq _ _ _ _ _).trans rfl
set_option maxRecDepth 100000 in
theorem q_X8_count_0 (x1 : Int32) (h : ax_Hp) : ax_run m_X8_count 0 [(0, .ref 47), (1, .int x1)] [] h = (rI m_X8_isIn [.int x1, .int 11, .int 16] h).bind (fun q1 => if q1.1 = 0 then ax_run m_X8_count 21 [(0, .ref 47), (1, .int x1)] [] q1.2 else ax_g (ax_in (x1 - 10) 7) (some (some (.int (q1.2.1 48 (x1 - 10).toNatClampNeg)), q1.2))) := (ax_run_eq _ _ _ _ _).trans rfl
set_option maxRecDepth 100000 in
theorem q_X8_count_21 (x1 : Int32) (h : ax_Hp) : ax_run m_X8_count 21 [(0, .ref 47), (1, .int x1)] [] h = if x1 = 0 then ax_run m_X8_count 68 [(0, .ref 47)] [] h else if x1 = 1 then ax_run m_X8_count 73 [(0, .ref 47)] [] h else if x1 = 2 then ax_run m_X8_count 78 [(0, .ref 47)] [] h else if x1 = 3 then ax_run m_X8_count 83 [(0, .ref 47)] [] h else if x1 = 4 then ax_run m_X8_count 88 [(0, .ref 47)] [] h else if x1 = 5 then ax_run m_X8_count 93 [(0, .ref 47)] [] h else if x1 = 6 then ax_run m_X8_count 98 [(0, .ref 47)] [] h else if x1 = 7 then ax_run m_X8_count 103 [(0, .ref 47)] [] h else ax_run m_X8_count 108 [] [] h := (ax_run_eq _ _ _ _ _).trans rfl
set_option maxRecDepth 100000 in
theorem q_X8_count_68  (h : ax_Hp) : ax_run m_X8_count 68 [(0, .ref 47)] [] h = some (some (.int (h.1 47 8)), h) := (ax_run_eq _ _ _ _ _).trans rfl
set_option maxRecDepth 100000 in
theorem q_X8_count_73  (h : ax_Hp) : ax_run m_X8_count 73 [(0, .ref 47)] [] h = some (some (.int (h.1 47 9)), h) := (ax_run_eq _ _ _ _ _).trans rfl
set_option maxRecDepth 100000 in
theorem q_X8_count_78  (h : ax_Hp) : ax_run m_X8_count 78 [(0, .ref 47)] [] h = (rI m_X8_all [.ref 47] h).bind (fun q1 => some (some (.int q1.1), q1.2)) := (ax_run_eq _ _ _ _ _).trans rfl
set_option maxRecDepth 100000 in
theorem q_X8_count_83  (h : ax_Hp) : ax_run m_X8_count 83 [(0, .ref 47)] [] h = (rI m_X8_seenNow [.ref 47] h).bind (fun q1 => some (some (.int q1.1), q1.2)) := (ax_run_eq _ _ _ _ _).trans rfl
set_option maxRecDepth 100000 in
theorem q_X8_count_88  (h : ax_Hp) : ax_run m_X8_count 88 [(0, .ref 47)] [] h = (rI m_X8_lentNow [.ref 47] h).bind (fun q1 => some (some (.int q1.1), q1.2)) := (ax_run_eq _ _ _ _ _).trans rfl
set_option maxRecDepth 100000 in
theorem q_X8_count_93  (h : ax_Hp) : ax_run m_X8_count 93 [(0, .ref 47)] [] h = (rI m_X8_allHoles [.ref 47] h).bind (fun q1 => some (some (.int q1.1), q1.2)) := (ax_run_eq _ _ _ _ _).trans rfl
set_option maxRecDepth 100000 in
theorem q_X8_count_98  (h : ax_Hp) : ax_run m_X8_count 98 [(0, .ref 47)] [] h = some (some (.int (h.1 47 34)), h) := (ax_run_eq _ _ _ _ _).trans rfl
set_option maxRecDepth 100000 in
theorem q_X8_count_103  (h : ax_Hp) : ax_run m_X8_count 103 [(0, .ref 47)] [] h = some (some (.int (h.1 47 14)), h) := (ax_run_eq _ _ _ _ _).trans rfl
set_option maxRecDepth 100000 in
theorem q_X8_count_108  (h : ax_Hp) : ax_run m_X8_count 108 [] [] h = some (some (.int ((-9))), h) := (ax_run_eq _ _ _ _ _).trans rfl
set_option maxRecDepth 100000 in
theorem q_X8_spare_0  (h : ax_Hp) : ax_run m_X8_spare 0 [(0, .ref 47)] [] h = ax_run m_X8_spare 4 [(0, .ref 47), (1, .int 0), (2, .int 0)] [] h := (ax_run_eq _ _ _ _ _).trans rfl
set_option maxRecDepth 100000 in
theorem q_X8_spare_4 (x1 : Int32) (x2 : Int32) (h : ax_Hp) : ax_run m_X8_spare 4 [(0, .ref 47), (1, .int x1), (2, .int x2)] [] h = if h.1 47 8 ≤ x2 then ax_run m_X8_spare 46 [(1, .int x1)] [] h else (rI m_X8_lacksWithout [.ref 47, .int x2] h).bind (fun q1 => ax_g (ax_in x2 7) ((rI m_X8_lacks [.ref 47, .int (q1.2.1 52 x2.toNatClampNeg)] q1.2).bind (fun q2 => if q2.1 < q1.1 then ax_run m_X8_spare 37 [(0, .ref 47), (2, .int x2)] [.int x1] q2.2 else ax_run m_X8_spare 38 [(0, .ref 47), (2, .int x2)] [.int (1 <<< (x2 &&& 31)), .int x1] q2.2))) := (ax_run_eq _ _ _ _ _).trans rfl
set_option maxRecDepth 100000 in
theorem q_X8_spare_37 (x2 : Int32) (s0 : Int32) (h : ax_Hp) : ax_run m_X8_spare 37 [(0, .ref 47), (2, .int x2)] [.int s0] h = ax_run m_X8_spare 38 [(0, .ref 47), (2, .int x2)] [.int 0, .int s0] h := (ax_run_eq _ _ _ _ _).trans rfl
set_option maxRecDepth 100000 in
theorem q_X8_spare_38 (x2 : Int32) (s0 : Int32) (s1 : Int32) (h : ax_Hp) : ax_run m_X8_spare 38 [(0, .ref 47), (2, .int x2)] [.int s0, .int s1] h = ax_run m_X8_spare 4 [(0, .ref 47), (1, .int (s1 ||| s0)), (2, .int (x2 + 1))] [] h := (ax_run_eq _ _ _ _ _).trans rfl
set_option maxRecDepth 100000 in
theorem q_X8_spare_46 (x1 : Int32) (h : ax_Hp) : ax_run m_X8_spare 46 [(1, .int x1)] [] h = some (some (.int x1), h) := (ax_run_eq _ _ _ _ _).trans rfl
set_option maxRecDepth 100000 in
theorem q_X8_sells_0 (x1 : Int32) (x2 : Int32) (h : ax_Hp) : ax_run m_X8_sells 0 [(0, .ref 47), (1, .int x1), (2, .int x2)] [] h = (rI m_X8_isWall [.ref 47, .int x1] h).bind (fun q1 => if q1.1 = 0 then ax_run m_X8_sells 15 [(0, .ref 47)] [] q1.2 else (rI m_X8_isHouse [.int x2] q1.2).bind (fun q2 => if q2.1 = 0 then ax_run m_X8_sells 15 [(0, .ref 47)] [] q2.2 else ax_run m_X8_sells 21 [(0, .ref 47), (1, .int x1), (2, .int x2)] [] q2.2)) := (ax_run_eq _ _ _ _ _).trans rfl
set_option maxRecDepth 100000 in
theorem q_X8_sells_15  (h : ax_Hp) : ax_run m_X8_sells 15 [(0, .ref 47)] [] h = (rI m_X8_no [.ref 47, .int ((-1))] h).bind (fun q1 => some (some (.int q1.1), q1.2)) := (ax_run_eq _ _ _ _ _).trans rfl
set_option maxRecDepth 100000 in
theorem q_X8_sells_21 (x1 : Int32) (x2 : Int32) (h : ax_Hp) : ax_run m_X8_sells 21 [(0, .ref 47), (1, .int x1), (2, .int x2)] [] h = ax_g (ax_in x1 7) (ax_g (ax_in x1 7) (some (some (.int (h.1 51 x1.toNatClampNeg)), wI h 51 x1.toNatClampNeg x2))) := (ax_run_eq _ _ _ _ _).trans rfl
set_option maxRecDepth 100000 in
theorem q_X8_each_0 (x1 : Int32) (h : ax_Hp) : ax_run m_X8_each 0 [(0, .ref 47), (1, .int x1)] [] h = (rI m_X8_isHouse [.int x1] h).bind (fun q1 => if q1.1 = 0 then (rI m_X8_no [.ref 47, .int ((-1))] q1.2).bind (fun q2 => some (some (.int q2.1), q2.2)) else ax_run m_X8_each 13 [(0, .ref 47), (1, .int x1)] [] q1.2) := (ax_run_eq _ _ _ _ _).trans rfl
set_option maxRecDepth 100000 in
theorem q_X8_each_13 (x1 : Int32) (h : ax_Hp) : ax_run m_X8_each 13 [(0, .ref 47), (1, .int x1)] [] h = (rI m_X8_wallsOf [.ref 47, .ref 52, .int x1] h).bind (fun q1 => (rI m_X8_bits [.int q1.1] q1.2).bind (fun q2 => if q2.1 = 0 then (rI m_X8_no [.ref 47, .int ((-3))] q2.2).bind (fun q3 => ax_run m_X8_each 46 [] [.int q3.1] q3.2) else ax_run m_X8_each 39 [(0, .ref 47), (1, .int x1), (2, .int q2.1)] [] q2.2)) := (ax_run_eq _ _ _ _ _).trans rfl
set_option maxRecDepth 100000 in
theorem q_X8_each_39 (x1 : Int32) (x2 : Int32) (h : ax_Hp) : ax_run m_X8_each 39 [(0, .ref 47), (1, .int x1), (2, .int x2)] [] h = (rI m_X8_hasAt [.ref 47, .int x1] h).bind (fun q1 => ax_g (!(decide (x2 = 0))) (ax_run m_X8_each 46 [] [.int (q1.1 / x2)] q1.2)) := (ax_run_eq _ _ _ _ _).trans rfl
set_option maxRecDepth 100000 in
theorem q_X8_each_46 (s0 : Int32) (h : ax_Hp) : ax_run m_X8_each 46 [] [.int s0] h = some (some (.int s0), h) := (ax_run_eq _ _ _ _ _).trans rfl
set_option maxRecDepth 100000 in
theorem q_X8_letter_0 (x1 : Int32) (h : ax_Hp) : ax_run m_X8_letter 0 [(0, .ref 47), (1, .int x1)] [] h = (rI m_X8_bound [.int x1, .int 0, .int 255] h).bind (fun q1 => if q1.1 = 0 then if q1.2.1 47 14 = 96 then ax_run m_X8_letter 25 [(0, .ref 47), (1, .int x1), (2, .int ((-6)))] [] q1.2 else ax_run m_X8_letter 25 [(0, .ref 47), (1, .int x1), (2, .int q1.1)] [] q1.2 else ax_run m_X8_letter 25 [(0, .ref 47), (1, .int x1), (2, .int q1.1)] [] q1.2) := (ax_run_eq _ _ _ _ _).trans rfl
set_option maxRecDepth 100000 in
theorem q_X8_letter_25 (x1 : Int32) (x2 : Int32) (h : ax_Hp) : ax_run m_X8_letter 25 [(0, .ref 47), (1, .int x1), (2, .int x2)] [] h = if x2 = 0 then ax_run m_X8_letter 35 [(0, .ref 47), (1, .int x1)] [] h else (rI m_X8_no [.ref 47, .int x2] h).bind (fun q1 => some (some (.int q1.1), q1.2)) := (ax_run_eq _ _ _ _ _).trans rfl
set_option maxRecDepth 100000 in
theorem q_X8_letter_35 (x1 : Int32) (h : ax_Hp) : ax_run m_X8_letter 35 [(0, .ref 47), (1, .int x1)] [] h = ax_g (ax_in (h.1 47 14) 96) (some (some (.int ((wI (wI h 56 (h.1 47 14).toNatClampNeg x1) 47 14 (((wI h 56 (h.1 47 14).toNatClampNeg x1).1 47 14) + 1)).1 47 14)), wI (wI h 56 (h.1 47 14).toNatClampNeg x1) 47 14 (((wI h 56 (h.1 47 14).toNatClampNeg x1).1 47 14) + 1))) := (ax_run_eq _ _ _ _ _).trans rfl
set_option maxRecDepth 100000 in
theorem q_X8_goes_0 (x1 : Int32) (x2 : Int32) (h : ax_Hp) : ax_run m_X8_goes 0 [(0, .ref 47), (1, .int x1), (2, .int x2)] [] h = (rI m_X8_isWall [.ref 47, .int x1] h).bind (fun q1 => if q1.1 = 0 then ax_run m_X8_goes 27 [(0, .ref 47), (1, .int x1), (2, .int x2)] [.int ((-1))] q1.2 else ax_run m_X8_goes 12 [(0, .ref 47), (1, .int x1), (2, .int x2)] [] q1.2) := (ax_run_eq _ _ _ _ _).trans rfl
set_option maxRecDepth 100000 in
theorem q_X8_goes_12 (x1 : Int32) (x2 : Int32) (h : ax_Hp) : ax_run m_X8_goes 12 [(0, .ref 47), (1, .int x1), (2, .int x2)] [] h = (rI m_X8_isIn [.int x2, .int 0, .int 1] h).bind (fun q1 => if q1.1 = 0 then ax_run m_X8_goes 27 [(0, .ref 47), (1, .int x1), (2, .int x2)] [.int ((-2))] q1.2 else ax_run m_X8_goes 26 [(0, .ref 47), (1, .int x1), (2, .int x2)] [] q1.2) := (ax_run_eq _ _ _ _ _).trans rfl
set_option maxRecDepth 100000 in
theorem q_X8_goes_26 (x1 : Int32) (x2 : Int32) (h : ax_Hp) : ax_run m_X8_goes 26 [(0, .ref 47), (1, .int x1), (2, .int x2)] [] h = ax_run m_X8_goes 27 [(0, .ref 47), (1, .int x1), (2, .int x2)] [.int 0] h := (ax_run_eq _ _ _ _ _).trans rfl
set_option maxRecDepth 100000 in
theorem q_X8_goes_27 (x1 : Int32) (x2 : Int32) (s0 : Int32) (h : ax_Hp) : ax_run m_X8_goes 27 [(0, .ref 47), (1, .int x1), (2, .int x2)] [.int s0] h = if s0 = 0 then ax_run m_X8_goes 38 [(0, .ref 47), (1, .int x1), (2, .int x2)] [] h else (rI m_X8_no [.ref 47, .int s0] h).bind (fun q1 => some (some (.int q1.1), q1.2)) := (ax_run_eq _ _ _ _ _).trans rfl
set_option maxRecDepth 100000 in
theorem q_X8_goes_38 (x1 : Int32) (x2 : Int32) (h : ax_Hp) : ax_run m_X8_goes 38 [(0, .ref 47), (1, .int x1), (2, .int x2)] [] h = if x2 = 0 then (rI m_X8_homeWhen [.ref 47, .int x1] h).bind (fun q1 => ax_run m_X8_goes 55 [] [.int q1.1] q1.2) else ax_run m_X8_goes 50 [(0, .ref 47), (1, .int x1)] [] h := (ax_run_eq _ _ _ _ _).trans rfl
set_option maxRecDepth 100000 in
theorem q_X8_goes_50 (x1 : Int32) (h : ax_Hp) : ax_run m_X8_goes 50 [(0, .ref 47), (1, .int x1)] [] h = (rI m_X8_goneWhen [.ref 47, .int x1] h).bind (fun q1 => ax_run m_X8_goes 55 [] [.int q1.1] q1.2) := (ax_run_eq _ _ _ _ _).trans rfl
set_option maxRecDepth 100000 in
theorem q_X8_goes_55 (s0 : Int32) (h : ax_Hp) : ax_run m_X8_goes 55 [] [.int s0] h = some (some (.int s0), h) := (ax_run_eq _ _ _ _ _).trans rfl
set_option maxRecDepth 100000 in
theorem q_X8_together_0 (x1 : Int32) (x2 : Int32) (x3 : Int32) (h : ax_Hp) : ax_run m_X8_together 0 [(0, .ref 47), (1, .int x1), (2, .int x2), (3, .int x3)] [] h = (rI m_X8_areTwo [.int x1, .int x2] h).bind (fun q1 => if q1.1 = 0 then ax_run m_X8_together 27 [(0, .ref 47), (1, .int x1), (2, .int x2), (3, .int x3)] [.int ((-1))] q1.2 else ax_run m_X8_together 12 [(0, .ref 47), (1, .int x1), (2, .int x2), (3, .int x3)] [] q1.2) := (ax_run_eq _ _ _ _ _).trans rfl
set_option maxRecDepth 100000 in
theorem q_X8_together_12 (x1 : Int32) (x2 : Int32) (x3 : Int32) (h : ax_Hp) : ax_run m_X8_together 12 [(0, .ref 47), (1, .int x1), (2, .int x2), (3, .int x3)] [] h = (rI m_X8_isIn [.int x3, .int 0, .int 2] h).bind (fun q1 => if q1.1 = 0 then ax_run m_X8_together 27 [(0, .ref 47), (1, .int x1), (2, .int x2), (3, .int x3)] [.int ((-2))] q1.2 else ax_run m_X8_together 26 [(0, .ref 47), (1, .int x1), (2, .int x2), (3, .int x3)] [] q1.2) := (ax_run_eq _ _ _ _ _).trans rfl
set_option maxRecDepth 100000 in
theorem q_X8_together_26 (x1 : Int32) (x2 : Int32) (x3 : Int32) (h : ax_Hp) : ax_run m_X8_together 26 [(0, .ref 47), (1, .int x1), (2, .int x2), (3, .int x3)] [] h = ax_run m_X8_together 27 [(0, .ref 47), (1, .int x1), (2, .int x2), (3, .int x3)] [.int 0] h := (ax_run_eq _ _ _ _ _).trans rfl
set_option maxRecDepth 100000 in
theorem q_X8_together_27 (x1 : Int32) (x2 : Int32) (x3 : Int32) (s0 : Int32) (h : ax_Hp) : ax_run m_X8_together 27 [(0, .ref 47), (1, .int x1), (2, .int x2), (3, .int x3)] [.int s0] h = if s0 = 0 then ax_run m_X8_together 41 [(0, .ref 47), (1, .int x1), (2, .int x2), (3, .int x3)] [] h else (rI m_X8_no [.ref 47, .int s0] h).bind (fun q1 => some (some (.int q1.1), q1.2)) := (ax_run_eq _ _ _ _ _).trans rfl
set_option maxRecDepth 100000 in
theorem q_X8_together_41 (x1 : Int32) (x2 : Int32) (x3 : Int32) (h : ax_Hp) : ax_run m_X8_together 41 [(0, .ref 47), (1, .int x1), (2, .int x2), (3, .int x3)] [] h = ax_run m_X8_together 47 [(0, .ref 47), (1, .int x1), (2, .int x2), (3, .int x3), (5, .int 0), (6, .int 1)] [] h := (ax_run_eq _ _ _ _ _).trans rfl
set_option maxRecDepth 100000 in
theorem q_X8_together_47 (x1 : Int32) (x2 : Int32) (x3 : Int32) (x5 : Int32) (x6 : Int32) (h : ax_Hp) : ax_run m_X8_together 47 [(0, .ref 47), (1, .int x1), (2, .int x2), (3, .int x3), (5, .int x5), (6, .int x6)] [] h = if h.1 47 9 < x6 then ax_run m_X8_together 132 [(5, .int x5)] [] h else (rI m_X8_wasSeenAt [.ref 47, .int x1, .int x6] h).bind (fun q1 => (rI m_X8_wasSeenAt [.ref 47, .int x2, .int x6] q1.2).bind (fun q2 => if x3 = 0 then if q1.1 = 0 then ax_run m_X8_together 122 [(0, .ref 47), (1, .int x1), (2, .int x2), (3, .int x3), (6, .int x6)] [.int x5] q2.2 else if q2.1 = 0 then ax_run m_X8_together 122 [(0, .ref 47), (1, .int x1), (2, .int x2), (3, .int x3), (6, .int x6)] [.int x5] q2.2 else ax_run m_X8_together 118 [(0, .ref 47), (1, .int x1), (2, .int x2), (3, .int x3), (6, .int x6)] [.int x5] q2.2 else ax_run m_X8_together 93 [(0, .ref 47), (1, .int x1), (2, .int x2), (3, .int x3), (6, .int x6), (7, .int q1.1), (8, .int q2.1)] [.int x5] q2.2)) := (ax_run_eq _ _ _ _ _).trans rfl
set_option maxRecDepth 100000 in
theorem q_X8_together_93 (x1 : Int32) (x2 : Int32) (x3 : Int32) (x6 : Int32) (x7 : Int32) (x8 : Int32) (s0 : Int32) (h : ax_Hp) : ax_run m_X8_together 93 [(0, .ref 47), (1, .int x1), (2, .int x2), (3, .int x3), (6, .int x6), (7, .int x7), (8, .int x8)] [.int s0] h = if x3 = 1 then if x7 = 0 then if x8 = 0 then ax_run m_X8_together 122 [(0, .ref 47), (1, .int x1), (2, .int x2), (3, .int x3), (6, .int x6)] [.int s0] h else ax_run m_X8_together 118 [(0, .ref 47), (1, .int x1), (2, .int x2), (3, .int x3), (6, .int x6)] [.int s0] h else ax_run m_X8_together 118 [(0, .ref 47), (1, .int x1), (2, .int x2), (3, .int x3), (6, .int x6)] [.int s0] h else ax_run m_X8_together 111 [(0, .ref 47), (1, .int x1), (2, .int x2), (3, .int x3), (6, .int x6), (7, .int x7), (8, .int x8)] [.int s0] h := (ax_run_eq _ _ _ _ _).trans rfl
set_option maxRecDepth 100000 in
theorem q_X8_together_111 (x1 : Int32) (x2 : Int32) (x3 : Int32) (x6 : Int32) (x7 : Int32) (x8 : Int32) (s0 : Int32) (h : ax_Hp) : ax_run m_X8_together 111 [(0, .ref 47), (1, .int x1), (2, .int x2), (3, .int x3), (6, .int x6), (7, .int x7), (8, .int x8)] [.int s0] h = if x7 = x8 then ax_run m_X8_together 122 [(0, .ref 47), (1, .int x1), (2, .int x2), (3, .int x3), (6, .int x6)] [.int s0] h else ax_run m_X8_together 118 [(0, .ref 47), (1, .int x1), (2, .int x2), (3, .int x3), (6, .int x6)] [.int s0] h := (ax_run_eq _ _ _ _ _).trans rfl
set_option maxRecDepth 100000 in
theorem q_X8_together_118 (x1 : Int32) (x2 : Int32) (x3 : Int32) (x6 : Int32) (s0 : Int32) (h : ax_Hp) : ax_run m_X8_together 118 [(0, .ref 47), (1, .int x1), (2, .int x2), (3, .int x3), (6, .int x6)] [.int s0] h = ax_run m_X8_together 123 [(0, .ref 47), (1, .int x1), (2, .int x2), (3, .int x3), (6, .int x6)] [.int 1, .int s0] h := (ax_run_eq _ _ _ _ _).trans rfl
set_option maxRecDepth 100000 in
theorem q_X8_together_122 (x1 : Int32) (x2 : Int32) (x3 : Int32) (x6 : Int32) (s0 : Int32) (h : ax_Hp) : ax_run m_X8_together 122 [(0, .ref 47), (1, .int x1), (2, .int x2), (3, .int x3), (6, .int x6)] [.int s0] h = ax_run m_X8_together 123 [(0, .ref 47), (1, .int x1), (2, .int x2), (3, .int x3), (6, .int x6)] [.int 0, .int s0] h := (ax_run_eq _ _ _ _ _).trans rfl
set_option maxRecDepth 100000 in
theorem q_X8_together_123 (x1 : Int32) (x2 : Int32) (x3 : Int32) (x6 : Int32) (s0 : Int32) (s1 : Int32) (h : ax_Hp) : ax_run m_X8_together 123 [(0, .ref 47), (1, .int x1), (2, .int x2), (3, .int x3), (6, .int x6)] [.int s0, .int s1] h = ax_run m_X8_together 47 [(0, .ref 47), (1, .int x1), (2, .int x2), (3, .int x3), (5, .int (s1 + s0)), (6, .int (x6 + 1))] [] h := (ax_run_eq _ _ _ _ _).trans rfl
set_option maxRecDepth 100000 in
theorem q_X8_together_132 (x5 : Int32) (h : ax_Hp) : ax_run m_X8_together 132 [(5, .int x5)] [] h = some (some (.int x5), h) := (ax_run_eq _ _ _ _ _).trans rfl
set_option maxRecDepth 100000 in
theorem q_X8_shown_0 (x1 : Int32) (h : ax_Hp) : ax_run m_X8_shown 0 [(0, .ref 47), (1, .int x1)] [] h = (rI m_X8_isHouse [.int x1] h).bind (fun q1 => if q1.1 = 0 then (rI m_X8_no [.ref 47, .int ((-1))] q1.2).bind (fun q2 => some (some (.int q2.1), q2.2)) else ax_run m_X8_shown 13 [(0, .ref 47), (1, .int x1)] [] q1.2) := (ax_run_eq _ _ _ _ _).trans rfl
set_option maxRecDepth 100000 in
theorem q_X8_shown_13 (x1 : Int32) (h : ax_Hp) : ax_run m_X8_shown 13 [(0, .ref 47), (1, .int x1)] [] h = (rV m_X8_minds [.ref 47] h).bind (fun q1 => ax_run m_X8_shown 22 [(0, .ref 47), (1, .int x1), (2, .int ((-9))), (3, .int 0)] [] q1) := (ax_run_eq _ _ _ _ _).trans rfl
set_option maxRecDepth 100000 in
theorem q_X8_shown_22 (x1 : Int32) (x2 : Int32) (x3 : Int32) (h : ax_Hp) : ax_run m_X8_shown 22 [(0, .ref 47), (1, .int x1), (2, .int x2), (3, .int x3)] [] h = if 60 < x3 then ax_run m_X8_shown 57 [(0, .ref 47), (2, .int x2)] [] h else if 0 ≤ x2 then ax_run m_X8_shown 57 [(0, .ref 47), (2, .int x2)] [] h else (rI m_X8_lacks [.ref 47, .int x1] h).bind (fun q1 => if q1.1 ≤ 0 then ax_run m_X8_shown 44 [(0, .ref 47), (1, .int x1), (3, .int x3)] [] q1.2 else ax_run m_X8_shown 46 [(0, .ref 47), (1, .int x1), (3, .int x3)] [.int x3] q1.2) := (ax_run_eq _ _ _ _ _).trans rfl
set_option maxRecDepth 100000 in
theorem q_X8_shown_44 (x1 : Int32) (x3 : Int32) (h : ax_Hp) : ax_run m_X8_shown 44 [(0, .ref 47), (1, .int x1), (3, .int x3)] [] h = ax_run m_X8_shown 46 [(0, .ref 47), (1, .int x1), (3, .int x3)] [.int ((-9))] h := (ax_run_eq _ _ _ _ _).trans rfl
set_option maxRecDepth 100000 in
theorem q_X8_shown_46 (x1 : Int32) (x3 : Int32) (s0 : Int32) (h : ax_Hp) : ax_run m_X8_shown 46 [(0, .ref 47), (1, .int x1), (3, .int x3)] [.int s0] h = (rV m_X8_goesHour [.ref 47] h).bind (fun q1 => ax_run m_X8_shown 22 [(0, .ref 47), (1, .int x1), (2, .int s0), (3, .int (x3 + 1))] [] q1) := (ax_run_eq _ _ _ _ _).trans rfl
set_option maxRecDepth 100000 in
theorem q_X8_shown_57 (x2 : Int32) (h : ax_Hp) : ax_run m_X8_shown 57 [(0, .ref 47), (2, .int x2)] [] h = (rV m_X8_forgets [.ref 47] h).bind (fun q1 => some (some (.int x2), q1)) := (ax_run_eq _ _ _ _ _).trans rfl
set_option maxRecDepth 100000 in
theorem q_X8_on_0  (h : ax_Hp) : ax_run m_X8_on 0 [(0, .ref 47)] [] h = if h.1 47 19 = 0 then (rI m_X8_no [.ref 47, .int ((-3))] h).bind (fun q1 => some (some (.int q1.1), q1.2)) else ax_run m_X8_on 14 [(0, .ref 47)] [] h := (ax_run_eq _ _ _ _ _).trans rfl
set_option maxRecDepth 100000 in
theorem q_X8_on_14  (h : ax_Hp) : ax_run m_X8_on 14 [(0, .ref 47)] [] h = (rV m_X8_passesAll [.ref 47, .int 0, .int 0] h).bind (fun q1 => some (some (.int (q1.1 47 9)), q1)) := (ax_run_eq _ _ _ _ _).trans rfl
set_option maxRecDepth 100000 in
theorem q_X8_needs_0 (x1 : Int32) (x2 : Int32) (x3 : Int32) (h : ax_Hp) : ax_run m_X8_needs 0 [(0, .ref 47), (1, .int x1), (2, .int x2), (3, .int x3)] [] h = (rI m_X8_isHouse [.int x1] h).bind (fun q1 => if q1.1 = 0 then ax_run m_X8_needs 32 [(0, .ref 47), (1, .int x1), (2, .int x2), (3, .int x3)] [.int ((-1))] q1.2 else ax_run m_X8_needs 11 [(0, .ref 47), (1, .int x1), (2, .int x2), (3, .int x3)] [] q1.2) := (ax_run_eq _ _ _ _ _).trans rfl
set_option maxRecDepth 100000 in
theorem q_X8_needs_11 (x1 : Int32) (x2 : Int32) (x3 : Int32) (h : ax_Hp) : ax_run m_X8_needs 11 [(0, .ref 47), (1, .int x1), (2, .int x2), (3, .int x3)] [] h = (rI m_X8_isIn [.int x2, .int 0, .int 5] h).bind (fun q1 => if q1.1 = 0 then ax_run m_X8_needs 32 [(0, .ref 47), (1, .int x1), (2, .int x2), (3, .int x3)] [.int ((-2))] q1.2 else ax_run m_X8_needs 25 [(0, .ref 47), (1, .int x1), (2, .int x2), (3, .int x3)] [] q1.2) := (ax_run_eq _ _ _ _ _).trans rfl
set_option maxRecDepth 100000 in
theorem q_X8_needs_25 (x1 : Int32) (x2 : Int32) (x3 : Int32) (h : ax_Hp) : ax_run m_X8_needs 25 [(0, .ref 47), (1, .int x1), (2, .int x2), (3, .int x3)] [] h = (rI m_X8_bound [.int x3, .int 0, .int 9] h).bind (fun q1 => ax_run m_X8_needs 32 [(0, .ref 47), (1, .int x1), (2, .int x2), (3, .int x3)] [.int q1.1] q1.2) := (ax_run_eq _ _ _ _ _).trans rfl
set_option maxRecDepth 100000 in
theorem q_X8_needs_32 (x1 : Int32) (x2 : Int32) (x3 : Int32) (s0 : Int32) (h : ax_Hp) : ax_run m_X8_needs 32 [(0, .ref 47), (1, .int x1), (2, .int x2), (3, .int x3)] [.int s0] h = if s0 = 0 then ax_run m_X8_needs 46 [(0, .ref 47), (1, .int x1), (2, .int x2), (3, .int x3)] [] h else (rI m_X8_no [.ref 47, .int s0] h).bind (fun q1 => some (some (.int q1.1), q1.2)) := (ax_run_eq _ _ _ _ _).trans rfl
set_option maxRecDepth 100000 in
theorem q_X8_needs_46 (x1 : Int32) (x2 : Int32) (x3 : Int32) (h : ax_Hp) : ax_run m_X8_needs 46 [(0, .ref 47), (1, .int x1), (2, .int x2), (3, .int x3)] [] h = ax_g (ax_in ((6 * x1) + x2) 48) (ax_g (ax_in ((6 * x1) + x2) 48) (some (some (.int (h.1 54 ((6 * x1) + x2).toNatClampNeg)), wI h 54 ((6 * x1) + x2).toNatClampNeg x3))) := (ax_run_eq _ _ _ _ _).trans rfl
set_option maxRecDepth 100000 in
theorem q_X8_turn_0 (x1 : Int32) (x2 : Int32) (x3 : Int32) (h : ax_Hp) : ax_run m_X8_turn 0 [(0, .ref 47), (1, .int x1), (2, .int x2), (3, .int x3)] [] h = (rI m_X8_isWall [.ref 47, .int x1] h).bind (fun q1 => if q1.1 = 0 then ax_run m_X8_turn 33 [(0, .ref 47), (1, .int x1), (2, .int x2), (3, .int x3)] [.int ((-1))] q1.2 else ax_run m_X8_turn 12 [(0, .ref 47), (1, .int x1), (2, .int x2), (3, .int x3)] [] q1.2) := (ax_run_eq _ _ _ _ _).trans rfl
set_option maxRecDepth 100000 in
theorem q_X8_turn_12 (x1 : Int32) (x2 : Int32) (x3 : Int32) (h : ax_Hp) : ax_run m_X8_turn 12 [(0, .ref 47), (1, .int x1), (2, .int x2), (3, .int x3)] [] h = (rI m_X8_isIn [.int x2, .int 0, .int 5] h).bind (fun q1 => if q1.1 = 0 then ax_run m_X8_turn 33 [(0, .ref 47), (1, .int x1), (2, .int x2), (3, .int x3)] [.int ((-2))] q1.2 else ax_run m_X8_turn 26 [(0, .ref 47), (1, .int x1), (2, .int x2), (3, .int x3)] [] q1.2) := (ax_run_eq _ _ _ _ _).trans rfl
set_option maxRecDepth 100000 in
theorem q_X8_turn_26 (x1 : Int32) (x2 : Int32) (x3 : Int32) (h : ax_Hp) : ax_run m_X8_turn 26 [(0, .ref 47), (1, .int x1), (2, .int x2), (3, .int x3)] [] h = (rI m_X8_bound [.int x3, .int 0, .int 9] h).bind (fun q1 => ax_run m_X8_turn 33 [(0, .ref 47), (1, .int x1), (2, .int x2), (3, .int x3)] [.int q1.1] q1.2) := (ax_run_eq _ _ _ _ _).trans rfl
set_option maxRecDepth 100000 in
theorem q_X8_turn_33 (x1 : Int32) (x2 : Int32) (x3 : Int32) (s0 : Int32) (h : ax_Hp) : ax_run m_X8_turn 33 [(0, .ref 47), (1, .int x1), (2, .int x2), (3, .int x3)] [.int s0] h = if s0 = 0 then ax_run m_X8_turn 47 [(0, .ref 47), (1, .int x1), (2, .int x2), (3, .int x3)] [] h else (rI m_X8_no [.ref 47, .int s0] h).bind (fun q1 => some (some (.int q1.1), q1.2)) := (ax_run_eq _ _ _ _ _).trans rfl
set_option maxRecDepth 100000 in
theorem q_X8_turn_47 (x1 : Int32) (x2 : Int32) (x3 : Int32) (h : ax_Hp) : ax_run m_X8_turn 47 [(0, .ref 47), (1, .int x1), (2, .int x2), (3, .int x3)] [] h = ax_g (ax_in x1 7) (ax_g (ax_in x1 7) (ax_g (ax_in x1 7) (ax_g (ax_in x1 7) (some (some (.int ((10 * (h.1 49 x1.toNatClampNeg)) + (h.1 50 x1.toNatClampNeg))), wI (wI h 49 x1.toNatClampNeg x2) 50 x1.toNatClampNeg x3))))) := (ax_run_eq _ _ _ _ _).trans rfl
set_option maxRecDepth 100000 in
theorem q_X8_clear_0  (h : ax_Hp) : ax_run m_X8_clear 0 [(0, .ref 47)] [] h = some (some (.int (h.1 47 34)), wI h 47 34 0) := (ax_run_eq _ _ _ _ _).trans rfl
set_option maxRecDepth 100000 in
theorem q_X8_coldest_0 (x1 : Int32) (h : ax_Hp) : ax_run m_X8_coldest 0 [(0, .ref 47), (1, .int x1)] [] h = (rI m_X8_isIn [.int x1, .int 0, .int 1] h).bind (fun q1 => if q1.1 = 0 then (rI m_X8_no [.ref 47, .int ((-2))] q1.2).bind (fun q2 => some (some (.int q2.1), q2.2)) else ax_run m_X8_coldest 16 [(0, .ref 47), (1, .int x1)] [] q1.2) := (ax_run_eq _ _ _ _ _).trans rfl
set_option maxRecDepth 100000 in
theorem q_X8_coldest_16 (x1 : Int32) (h : ax_Hp) : ax_run m_X8_coldest 16 [(0, .ref 47), (1, .int x1)] [] h = ax_run m_X8_coldest 20 [(0, .ref 47), (1, .int x1), (2, .int 0), (3, .int 1)] [] h := (ax_run_eq _ _ _ _ _).trans rfl
set_option maxRecDepth 100000 in
theorem q_X8_coldest_20 (x1 : Int32) (x2 : Int32) (x3 : Int32) (h : ax_Hp) : ax_run m_X8_coldest 20 [(0, .ref 47), (1, .int x1), (2, .int x2), (3, .int x3)] [] h = if 6 ≤ x3 then ax_run m_X8_coldest 51 [(0, .ref 47), (1, .int x1), (2, .int x2)] [] h else (rI m_X8_needAt [.ref 47, .int x3] h).bind (fun q1 => (rI m_X8_needAt [.ref 47, .int x2] q1.2).bind (fun q2 => if q1.1 ≤ q2.1 then ax_run m_X8_coldest 43 [(0, .ref 47), (1, .int x1), (2, .int x2), (3, .int x3)] [] q2.2 else ax_run m_X8_coldest 44 [(0, .ref 47), (1, .int x1), (3, .int x3)] [.int x3] q2.2)) := (ax_run_eq _ _ _ _ _).trans rfl
set_option maxRecDepth 100000 in
theorem q_X8_coldest_43 (x1 : Int32) (x2 : Int32) (x3 : Int32) (h : ax_Hp) : ax_run m_X8_coldest 43 [(0, .ref 47), (1, .int x1), (2, .int x2), (3, .int x3)] [] h = ax_run m_X8_coldest 44 [(0, .ref 47), (1, .int x1), (3, .int x3)] [.int x2] h := (ax_run_eq _ _ _ _ _).trans rfl
set_option maxRecDepth 100000 in
theorem q_X8_coldest_44 (x1 : Int32) (x3 : Int32) (s0 : Int32) (h : ax_Hp) : ax_run m_X8_coldest 44 [(0, .ref 47), (1, .int x1), (3, .int x3)] [.int s0] h = ax_run m_X8_coldest 20 [(0, .ref 47), (1, .int x1), (2, .int s0), (3, .int (x3 + 1))] [] h := (ax_run_eq _ _ _ _ _).trans rfl
set_option maxRecDepth 100000 in
theorem q_X8_coldest_51 (x1 : Int32) (x2 : Int32) (h : ax_Hp) : ax_run m_X8_coldest 51 [(0, .ref 47), (1, .int x1), (2, .int x2)] [] h = if x1 = 0 then ax_run m_X8_coldest 64 [] [.int x2] h else ax_run m_X8_coldest 59 [(0, .ref 47), (2, .int x2)] [] h := (ax_run_eq _ _ _ _ _).trans rfl
set_option maxRecDepth 100000 in
theorem q_X8_coldest_59 (x2 : Int32) (h : ax_Hp) : ax_run m_X8_coldest 59 [(0, .ref 47), (2, .int x2)] [] h = (rI m_X8_needAt [.ref 47, .int x2] h).bind (fun q1 => ax_run m_X8_coldest 64 [] [.int q1.1] q1.2) := (ax_run_eq _ _ _ _ _).trans rfl
set_option maxRecDepth 100000 in
theorem q_X8_coldest_64 (s0 : Int32) (h : ax_Hp) : ax_run m_X8_coldest 64 [] [.int s0] h = some (some (.int s0), h) := (ax_run_eq _ _ _ _ _).trans rfl
set_option maxRecDepth 100000 in
theorem q_X8_whatIs_0 (x1 : Int32) (x2 : Int32) (h : ax_Hp) : ax_run m_X8_whatIs 0 [(0, .ref 47), (1, .int x1), (2, .int x2)] [] h = (rI m_X8_isWall [.ref 47, .int x1] h).bind (fun q1 => if q1.1 = 0 then ax_run m_X8_whatIs 27 [(0, .ref 47), (1, .int x1), (2, .int x2)] [.int ((-1))] q1.2 else ax_run m_X8_whatIs 12 [(0, .ref 47), (1, .int x1), (2, .int x2)] [] q1.2) := (ax_run_eq _ _ _ _ _).trans rfl
set_option maxRecDepth 100000 in
theorem q_X8_whatIs_12 (x1 : Int32) (x2 : Int32) (h : ax_Hp) : ax_run m_X8_whatIs 12 [(0, .ref 47), (1, .int x1), (2, .int x2)] [] h = (rI m_X8_isIn [.int x2, .int 0, .int 1] h).bind (fun q1 => if q1.1 = 0 then ax_run m_X8_whatIs 27 [(0, .ref 47), (1, .int x1), (2, .int x2)] [.int ((-2))] q1.2 else ax_run m_X8_whatIs 26 [(0, .ref 47), (1, .int x1), (2, .int x2)] [] q1.2) := (ax_run_eq _ _ _ _ _).trans rfl
set_option maxRecDepth 100000 in
theorem q_X8_whatIs_26 (x1 : Int32) (x2 : Int32) (h : ax_Hp) : ax_run m_X8_whatIs 26 [(0, .ref 47), (1, .int x1), (2, .int x2)] [] h = ax_run m_X8_whatIs 27 [(0, .ref 47), (1, .int x1), (2, .int x2)] [.int 0] h := (ax_run_eq _ _ _ _ _).trans rfl
set_option maxRecDepth 100000 in
theorem q_X8_whatIs_27 (x1 : Int32) (x2 : Int32) (s0 : Int32) (h : ax_Hp) : ax_run m_X8_whatIs 27 [(0, .ref 47), (1, .int x1), (2, .int x2)] [.int s0] h = if s0 = 0 then ax_run m_X8_whatIs 38 [(0, .ref 47), (1, .int x1), (2, .int x2)] [] h else (rI m_X8_no [.ref 47, .int s0] h).bind (fun q1 => some (some (.int q1.1), q1.2)) := (ax_run_eq _ _ _ _ _).trans rfl
set_option maxRecDepth 100000 in
theorem q_X8_whatIs_38 (x1 : Int32) (x2 : Int32) (h : ax_Hp) : ax_run m_X8_whatIs 38 [(0, .ref 47), (1, .int x1), (2, .int x2)] [] h = if x2 = 0 then (rI m_X8_bitsFor [.ref 47, .ref 49, .int x1, .int 6] h).bind (fun q1 => ax_run m_X8_whatIs 67 [] [.int q1.1] q1.2) else ax_run m_X8_whatIs 56 [(0, .ref 47), (1, .int x1)] [] h := (ax_run_eq _ _ _ _ _).trans rfl
set_option maxRecDepth 100000 in
theorem q_X8_whatIs_56 (x1 : Int32) (h : ax_Hp) : ax_run m_X8_whatIs 56 [(0, .ref 47), (1, .int x1)] [] h = (rI m_X8_bitsFor [.ref 47, .ref 50, .int x1, .int 10] h).bind (fun q1 => ax_run m_X8_whatIs 67 [] [.int q1.1] q1.2) := (ax_run_eq _ _ _ _ _).trans rfl
set_option maxRecDepth 100000 in
theorem q_X8_whatIs_67 (s0 : Int32) (h : ax_Hp) : ax_run m_X8_whatIs 67 [] [.int s0] h = some (some (.int s0), h) := (ax_run_eq _ _ _ _ _).trans rfl
set_option maxRecDepth 100000 in
theorem q_X8_close_0 (x1 : Int32) (x2 : Int32) (h : ax_Hp) : ax_run m_X8_close 0 [(0, .ref 47), (1, .int x1), (2, .int x2)] [] h = (rI m_X8_isHouse [.int x1] h).bind (fun q1 => if q1.1 = 0 then ax_run m_X8_close 26 [(0, .ref 47), (1, .int x1), (2, .int x2)] [.int ((-1))] q1.2 else ax_run m_X8_close 11 [(0, .ref 47), (1, .int x1), (2, .int x2)] [] q1.2) := (ax_run_eq _ _ _ _ _).trans rfl
set_option maxRecDepth 100000 in
theorem q_X8_close_11 (x1 : Int32) (x2 : Int32) (h : ax_Hp) : ax_run m_X8_close 11 [(0, .ref 47), (1, .int x1), (2, .int x2)] [] h = (rI m_X8_isIn [.int x2, .int 0, .int 1] h).bind (fun q1 => if q1.1 = 0 then ax_run m_X8_close 26 [(0, .ref 47), (1, .int x1), (2, .int x2)] [.int ((-2))] q1.2 else ax_run m_X8_close 25 [(0, .ref 47), (1, .int x1), (2, .int x2)] [] q1.2) := (ax_run_eq _ _ _ _ _).trans rfl
set_option maxRecDepth 100000 in
theorem q_X8_close_25 (x1 : Int32) (x2 : Int32) (h : ax_Hp) : ax_run m_X8_close 25 [(0, .ref 47), (1, .int x1), (2, .int x2)] [] h = ax_run m_X8_close 26 [(0, .ref 47), (1, .int x1), (2, .int x2)] [.int 0] h := (ax_run_eq _ _ _ _ _).trans rfl
set_option maxRecDepth 100000 in
theorem q_X8_close_26 (x1 : Int32) (x2 : Int32) (s0 : Int32) (h : ax_Hp) : ax_run m_X8_close 26 [(0, .ref 47), (1, .int x1), (2, .int x2)] [.int s0] h = if s0 = 0 then ax_run m_X8_close 37 [(0, .ref 47), (1, .int x1), (2, .int x2)] [] h else (rI m_X8_no [.ref 47, .int s0] h).bind (fun q1 => some (some (.int q1.1), q1.2)) := (ax_run_eq _ _ _ _ _).trans rfl
set_option maxRecDepth 100000 in
theorem q_X8_close_37 (x1 : Int32) (x2 : Int32) (h : ax_Hp) : ax_run m_X8_close 37 [(0, .ref 47), (1, .int x1), (2, .int x2)] [] h = (rI m_X8_wallsOf [.ref 47, .ref 52, .int x1] h).bind (fun q1 => ax_run m_X8_close 59 [(0, .ref 47), (1, .int x1), (2, .int x2), (4, .int q1.1), (5, .int ((-9))), (6, .int ((-9))), (7, .int 0)] [] q1.2) := (ax_run_eq _ _ _ _ _).trans rfl
set_option maxRecDepth 100000 in
theorem q_X8_close_59 (x1 : Int32) (x2 : Int32) (x4 : Int32) (x5 : Int32) (x6 : Int32) (x7 : Int32) (h : ax_Hp) : ax_run m_X8_close 59 [(0, .ref 47), (1, .int x1), (2, .int x2), (4, .int x4), (5, .int x5), (6, .int x6), (7, .int x7)] [] h = if 1 <<< ((h.1 47 8) &&& 31) ≤ x7 then ax_run m_X8_close 136 [(2, .int x2), (5, .int x5), (6, .int x6)] [] h else if x7 &&& x4 = 0 then (rI m_X8_coversAll [.ref 47, .int (x7 ||| x4)] h).bind (fun q1 => (rI m_X8_lacksWith [.ref 47, .int x1, .int q1.1] q1.2).bind (fun q2 => if q2.1 ≤ 0 then ax_run m_X8_close 98 [(0, .ref 47), (1, .int x1), (2, .int x2), (4, .int x4), (5, .int x5), (6, .int x6), (7, .int x7)] [] q2.2 else ax_run m_X8_close 130 [(0, .ref 47), (1, .int x1), (2, .int x2), (4, .int x4), (5, .int x5), (6, .int x6), (7, .int x7)] [] q2.2)) else ax_run m_X8_close 130 [(0, .ref 47), (1, .int x1), (2, .int x2), (4, .int x4), (5, .int x5), (6, .int x6), (7, .int x7)] [] h := (ax_run_eq _ _ _ _ _).trans rfl
set_option maxRecDepth 100000 in
theorem q_X8_close_98 (x1 : Int32) (x2 : Int32) (x4 : Int32) (x5 : Int32) (x6 : Int32) (x7 : Int32) (h : ax_Hp) : ax_run m_X8_close 98 [(0, .ref 47), (1, .int x1), (2, .int x2), (4, .int x4), (5, .int x5), (6, .int x6), (7, .int x7)] [] h = (rI m_X8_stepsTo [.ref 47, .int x7, .int x1] h).bind (fun q1 => if x5 < 0 then ax_run m_X8_close 122 [(0, .ref 47), (1, .int x1), (2, .int x2), (4, .int x4), (7, .int x7), (8, .int q1.1)] [] q1.2 else if q1.1 < x6 then ax_run m_X8_close 122 [(0, .ref 47), (1, .int x1), (2, .int x2), (4, .int x4), (7, .int x7), (8, .int q1.1)] [] q1.2 else ax_run m_X8_close 130 [(0, .ref 47), (1, .int x1), (2, .int x2), (4, .int x4), (5, .int x5), (6, .int x6), (7, .int x7)] [] q1.2) := (ax_run_eq _ _ _ _ _).trans rfl
set_option maxRecDepth 100000 in
theorem q_X8_close_122 (x1 : Int32) (x2 : Int32) (x4 : Int32) (x7 : Int32) (x8 : Int32) (h : ax_Hp) : ax_run m_X8_close 122 [(0, .ref 47), (1, .int x1), (2, .int x2), (4, .int x4), (7, .int x7), (8, .int x8)] [] h = ax_run m_X8_close 130 [(0, .ref 47), (1, .int x1), (2, .int x2), (4, .int x4), (5, .int x7), (6, .int x8), (7, .int x7)] [] h := (ax_run_eq _ _ _ _ _).trans rfl
set_option maxRecDepth 100000 in
theorem q_X8_close_130 (x1 : Int32) (x2 : Int32) (x4 : Int32) (x5 : Int32) (x6 : Int32) (x7 : Int32) (h : ax_Hp) : ax_run m_X8_close 130 [(0, .ref 47), (1, .int x1), (2, .int x2), (4, .int x4), (5, .int x5), (6, .int x6), (7, .int x7)] [] h = ax_run m_X8_close 59 [(0, .ref 47), (1, .int x1), (2, .int x2), (4, .int x4), (5, .int x5), (6, .int x6), (7, .int (x7 + 1))] [] h := (ax_run_eq _ _ _ _ _).trans rfl
set_option maxRecDepth 100000 in
theorem q_X8_close_136 (x2 : Int32) (x5 : Int32) (x6 : Int32) (h : ax_Hp) : ax_run m_X8_close 136 [(2, .int x2), (5, .int x5), (6, .int x6)] [] h = if x2 = 0 then ax_run m_X8_close 147 [] [.int x5] h else ax_run m_X8_close 145 [(6, .int x6)] [] h := (ax_run_eq _ _ _ _ _).trans rfl
set_option maxRecDepth 100000 in
theorem q_X8_close_145 (x6 : Int32) (h : ax_Hp) : ax_run m_X8_close 145 [(6, .int x6)] [] h = ax_run m_X8_close 147 [] [.int x6] h := (ax_run_eq _ _ _ _ _).trans rfl
set_option maxRecDepth 100000 in
theorem q_X8_close_147 (s0 : Int32) (h : ax_Hp) : ax_run m_X8_close 147 [] [.int s0] h = some (some (.int s0), h) := (ax_run_eq _ _ _ _ _).trans rfl
set_option maxRecDepth 100000 in
theorem q_X8_wasSeen_0 (x1 : Int32) (x2 : Int32) (x3 : Int32) (h : ax_Hp) : ax_run m_X8_wasSeen 0 [(0, .ref 47), (1, .int x1), (2, .int x2), (3, .int x3)] [] h = (rI m_X8_isHouse [.int x1] h).bind (fun q1 => if q1.1 = 0 then ax_run m_X8_wasSeen 54 [(0, .ref 47), (1, .int x1), (2, .int x2), (3, .int x3)] [.int ((-1))] q1.2 else ax_run m_X8_wasSeen 11 [(0, .ref 47), (1, .int x1), (2, .int x2), (3, .int x3)] [] q1.2) := (ax_run_eq _ _ _ _ _).trans rfl
set_option maxRecDepth 100000 in
theorem q_X8_wasSeen_11 (x1 : Int32) (x2 : Int32) (x3 : Int32) (h : ax_Hp) : ax_run m_X8_wasSeen 11 [(0, .ref 47), (1, .int x1), (2, .int x2), (3, .int x3)] [] h = if x2 < 0 then ax_run m_X8_wasSeen 19 [(0, .ref 47), (1, .int x1), (2, .int x2), (3, .int x3)] [] h else if 0 ≤ x3 then ax_run m_X8_wasSeen 24 [(0, .ref 47), (1, .int x1), (2, .int x2), (3, .int x3)] [] h else ax_run m_X8_wasSeen 19 [(0, .ref 47), (1, .int x1), (2, .int x2), (3, .int x3)] [] h := (ax_run_eq _ _ _ _ _).trans rfl
set_option maxRecDepth 100000 in
theorem q_X8_wasSeen_19 (x1 : Int32) (x2 : Int32) (x3 : Int32) (h : ax_Hp) : ax_run m_X8_wasSeen 19 [(0, .ref 47), (1, .int x1), (2, .int x2), (3, .int x3)] [] h = ax_run m_X8_wasSeen 54 [(0, .ref 47), (1, .int x1), (2, .int x2), (3, .int x3)] [.int ((-4))] h := (ax_run_eq _ _ _ _ _).trans rfl
set_option maxRecDepth 100000 in
theorem q_X8_wasSeen_24 (x1 : Int32) (x2 : Int32) (x3 : Int32) (h : ax_Hp) : ax_run m_X8_wasSeen 24 [(0, .ref 47), (1, .int x1), (2, .int x2), (3, .int x3)] [] h = if 999 < x2 then ax_run m_X8_wasSeen 38 [(0, .ref 47), (1, .int x1), (2, .int x2), (3, .int x3)] [] h else if x3 ≤ 999 then ax_run m_X8_wasSeen 43 [(0, .ref 47), (1, .int x1), (2, .int x2), (3, .int x3)] [] h else ax_run m_X8_wasSeen 38 [(0, .ref 47), (1, .int x1), (2, .int x2), (3, .int x3)] [] h := (ax_run_eq _ _ _ _ _).trans rfl
set_option maxRecDepth 100000 in
theorem q_X8_wasSeen_38 (x1 : Int32) (x2 : Int32) (x3 : Int32) (h : ax_Hp) : ax_run m_X8_wasSeen 38 [(0, .ref 47), (1, .int x1), (2, .int x2), (3, .int x3)] [] h = ax_run m_X8_wasSeen 54 [(0, .ref 47), (1, .int x1), (2, .int x2), (3, .int x3)] [.int ((-6))] h := (ax_run_eq _ _ _ _ _).trans rfl
set_option maxRecDepth 100000 in
theorem q_X8_wasSeen_43 (x1 : Int32) (x2 : Int32) (x3 : Int32) (h : ax_Hp) : ax_run m_X8_wasSeen 43 [(0, .ref 47), (1, .int x1), (2, .int x2), (3, .int x3)] [] h = if x2 ≤ x3 then ax_run m_X8_wasSeen 53 [(0, .ref 47), (1, .int x1), (2, .int x2), (3, .int x3)] [] h else ax_run m_X8_wasSeen 54 [(0, .ref 47), (1, .int x1), (2, .int x2), (3, .int x3)] [.int ((-3))] h := (ax_run_eq _ _ _ _ _).trans rfl
set_option maxRecDepth 100000 in
theorem q_X8_wasSeen_53 (x1 : Int32) (x2 : Int32) (x3 : Int32) (h : ax_Hp) : ax_run m_X8_wasSeen 53 [(0, .ref 47), (1, .int x1), (2, .int x2), (3, .int x3)] [] h = ax_run m_X8_wasSeen 54 [(0, .ref 47), (1, .int x1), (2, .int x2), (3, .int x3)] [.int 0] h := (ax_run_eq _ _ _ _ _).trans rfl
set_option maxRecDepth 100000 in
theorem q_X8_wasSeen_54 (x1 : Int32) (x2 : Int32) (x3 : Int32) (s0 : Int32) (h : ax_Hp) : ax_run m_X8_wasSeen 54 [(0, .ref 47), (1, .int x1), (2, .int x2), (3, .int x3)] [.int s0] h = if s0 = 0 then ax_run m_X8_wasSeen 68 [(0, .ref 47), (1, .int x1), (2, .int x2), (3, .int x3)] [] h else (rI m_X8_no [.ref 47, .int s0] h).bind (fun q1 => some (some (.int q1.1), q1.2)) := (ax_run_eq _ _ _ _ _).trans rfl
set_option maxRecDepth 100000 in
theorem q_X8_wasSeen_68 (x1 : Int32) (x2 : Int32) (x3 : Int32) (h : ax_Hp) : ax_run m_X8_wasSeen 68 [(0, .ref 47), (1, .int x1), (2, .int x2), (3, .int x3)] [] h = ax_run m_X8_wasSeen 74 [(0, .ref 47), (1, .int x1), (3, .int x3), (5, .int 0), (6, .int x2)] [] h := (ax_run_eq _ _ _ _ _).trans rfl
set_option maxRecDepth 100000 in
theorem q_X8_wasSeen_74 (x1 : Int32) (x3 : Int32) (x5 : Int32) (x6 : Int32) (h : ax_Hp) : ax_run m_X8_wasSeen 74 [(0, .ref 47), (1, .int x1), (3, .int x3), (5, .int x5), (6, .int x6)] [] h = if x3 < x6 then ax_run m_X8_wasSeen 106 [(5, .int x5)] [] h else (rI m_X8_wasSeenAt [.ref 47, .int x1, .int x6] h).bind (fun q1 => if q1.1 = 0 then ax_run m_X8_wasSeen 96 [(0, .ref 47), (1, .int x1), (3, .int x3), (6, .int x6)] [.int x5] q1.2 else ax_run m_X8_wasSeen 97 [(0, .ref 47), (1, .int x1), (3, .int x3), (6, .int x6)] [.int 1, .int x5] q1.2) := (ax_run_eq _ _ _ _ _).trans rfl
set_option maxRecDepth 100000 in
theorem q_X8_wasSeen_96 (x1 : Int32) (x3 : Int32) (x6 : Int32) (s0 : Int32) (h : ax_Hp) : ax_run m_X8_wasSeen 96 [(0, .ref 47), (1, .int x1), (3, .int x3), (6, .int x6)] [.int s0] h = ax_run m_X8_wasSeen 97 [(0, .ref 47), (1, .int x1), (3, .int x3), (6, .int x6)] [.int 0, .int s0] h := (ax_run_eq _ _ _ _ _).trans rfl
set_option maxRecDepth 100000 in
theorem q_X8_wasSeen_97 (x1 : Int32) (x3 : Int32) (x6 : Int32) (s0 : Int32) (s1 : Int32) (h : ax_Hp) : ax_run m_X8_wasSeen 97 [(0, .ref 47), (1, .int x1), (3, .int x3), (6, .int x6)] [.int s0, .int s1] h = ax_run m_X8_wasSeen 74 [(0, .ref 47), (1, .int x1), (3, .int x3), (5, .int (s1 + s0)), (6, .int (x6 + 1))] [] h := (ax_run_eq _ _ _ _ _).trans rfl
set_option maxRecDepth 100000 in
theorem q_X8_wasSeen_106 (x5 : Int32) (h : ax_Hp) : ax_run m_X8_wasSeen 106 [(5, .int x5)] [] h = some (some (.int x5), h) := (ax_run_eq _ _ _ _ _).trans rfl
set_option maxRecDepth 100000 in
theorem q_X8_mean_0 (x1 : Int32) (h : ax_Hp) : ax_run m_X8_mean 0 [(0, .ref 47), (1, .int x1)] [] h = (rI m_X8_isIn [.int x1, .int 0, .int 1] h).bind (fun q1 => if q1.1 = 0 then (rL m_X8_lowestOf [.ref 47, .int ((-2))] q1.2).bind (fun q2 => some (some (.long q2.1), q2.2)) else ax_run m_X8_mean 16 [(0, .ref 47), (1, .int x1)] [] q1.2) := (ax_run_eq _ _ _ _ _).trans rfl
set_option maxRecDepth 100000 in
theorem q_X8_mean_16 (x1 : Int32) (h : ax_Hp) : ax_run m_X8_mean 16 [(0, .ref 47), (1, .int x1)] [] h = (rI m_X8_seenNow [.ref 47] h).bind (fun q1 => (rI m_X8_bits [.int q1.1] q1.2).bind (fun q2 => if q2.1 = 0 then ax_run m_X8_mean 44 [] [.long x1.toInt64] q2.2 else ax_run m_X8_mean 33 [(0, .ref 47), (1, .int x1), (2, .int q2.1)] [] q2.2)) := (ax_run_eq _ _ _ _ _).trans rfl
set_option maxRecDepth 100000 in
theorem q_X8_mean_33 (x1 : Int32) (x2 : Int32) (h : ax_Hp) : ax_run m_X8_mean 33 [(0, .ref 47), (1, .int x1), (2, .int x2)] [] h = (rI m_X8_all [.ref 47] h).bind (fun q1 => (rL m_X8_partOf [.long q1.1.toInt64, .long x2.toInt64, .int x1] q1.2).bind (fun q2 => ax_run m_X8_mean 44 [] [.long q2.1] q2.2)) := (ax_run_eq _ _ _ _ _).trans rfl
set_option maxRecDepth 100000 in
theorem q_X8_mean_44 (s0 : Int64) (h : ax_Hp) : ax_run m_X8_mean 44 [] [.long s0] h = some (some (.long s0), h) := (ax_run_eq _ _ _ _ _).trans rfl
set_option maxRecDepth 100000 in
theorem q_X8_wall_0 (x1 : Int32) (x2 : Int32) (h : ax_Hp) : ax_run m_X8_wall 0 [(0, .ref 47), (1, .int x1), (2, .int x2)] [] h = (rI m_X8_isWall [.ref 47, .int x1] h).bind (fun q1 => if q1.1 = 0 then (rI m_X8_no [.ref 47, .int ((-1))] q1.2).bind (fun q2 => some (some (.int q2.1), q2.2)) else ax_run m_X8_wall 14 [(0, .ref 47), (1, .int x1), (2, .int x2)] [] q1.2) := (ax_run_eq _ _ _ _ _).trans rfl
set_option maxRecDepth 100000 in
theorem q_X8_wall_14 (x1 : Int32) (x2 : Int32) (h : ax_Hp) : ax_run m_X8_wall 14 [(0, .ref 47), (1, .int x1), (2, .int x2)] [] h = if x2 = 0 then ax_run m_X8_wall 52 [(0, .ref 47), (1, .int x1)] [] h else if x2 = 1 then ax_run m_X8_wall 59 [(0, .ref 47), (1, .int x1)] [] h else if x2 = 2 then ax_run m_X8_wall 66 [(0, .ref 47), (1, .int x1)] [] h else if x2 = 3 then ax_run m_X8_wall 73 [(0, .ref 47), (1, .int x1)] [] h else if x2 = 4 then ax_run m_X8_wall 80 [(0, .ref 47), (1, .int x1)] [] h else if x2 = 5 then ax_run m_X8_wall 87 [(0, .ref 47), (1, .int x1)] [] h else ax_run m_X8_wall 93 [(0, .ref 47)] [] h := (ax_run_eq _ _ _ _ _).trans rfl
set_option maxRecDepth 100000 in
theorem q_X8_wall_52 (x1 : Int32) (h : ax_Hp) : ax_run m_X8_wall 52 [(0, .ref 47), (1, .int x1)] [] h = ax_g (ax_in x1 7) (some (some (.int (h.1 49 x1.toNatClampNeg)), h)) := (ax_run_eq _ _ _ _ _).trans rfl
set_option maxRecDepth 100000 in
theorem q_X8_wall_59 (x1 : Int32) (h : ax_Hp) : ax_run m_X8_wall 59 [(0, .ref 47), (1, .int x1)] [] h = ax_g (ax_in x1 7) (some (some (.int (h.1 50 x1.toNatClampNeg)), h)) := (ax_run_eq _ _ _ _ _).trans rfl
set_option maxRecDepth 100000 in
theorem q_X8_wall_66 (x1 : Int32) (h : ax_Hp) : ax_run m_X8_wall 66 [(0, .ref 47), (1, .int x1)] [] h = ax_g (ax_in x1 7) (some (some (.int (h.1 51 x1.toNatClampNeg)), h)) := (ax_run_eq _ _ _ _ _).trans rfl
set_option maxRecDepth 100000 in
theorem q_X8_wall_73 (x1 : Int32) (h : ax_Hp) : ax_run m_X8_wall 73 [(0, .ref 47), (1, .int x1)] [] h = ax_g (ax_in x1 7) (some (some (.int (h.1 52 x1.toNatClampNeg)), h)) := (ax_run_eq _ _ _ _ _).trans rfl
set_option maxRecDepth 100000 in
theorem q_X8_wall_80 (x1 : Int32) (h : ax_Hp) : ax_run m_X8_wall 80 [(0, .ref 47), (1, .int x1)] [] h = ax_g (ax_in x1 7) (some (some (.int (h.1 53 x1.toNatClampNeg)), h)) := (ax_run_eq _ _ _ _ _).trans rfl
set_option maxRecDepth 100000 in
theorem q_X8_wall_87 (x1 : Int32) (h : ax_Hp) : ax_run m_X8_wall 87 [(0, .ref 47), (1, .int x1)] [] h = (rI m_X8_covers [.ref 47, .int x1] h).bind (fun q1 => some (some (.int q1.1), q1.2)) := (ax_run_eq _ _ _ _ _).trans rfl
set_option maxRecDepth 100000 in
theorem q_X8_wall_93  (h : ax_Hp) : ax_run m_X8_wall 93 [(0, .ref 47)] [] h = (rI m_X8_no [.ref 47, .int ((-2))] h).bind (fun q1 => some (some (.int q1.1), q1.2)) := (ax_run_eq _ _ _ _ _).trans rfl
set_option maxRecDepth 100000 in
theorem q_X8_best_0 (x1 : Int32) (h : ax_Hp) : ax_run m_X8_best 0 [(0, .ref 47), (1, .int x1)] [] h = (rI m_X8_bestWall [.ref 47] h).bind (fun q1 => if x1 = 0 then ax_run m_X8_best 40 [(2, .int q1.1)] [] q1.2 else if x1 = 1 then ax_run m_X8_best 42 [(0, .ref 47), (2, .int q1.1)] [] q1.2 else if x1 = 2 then ax_run m_X8_best 58 [(0, .ref 47)] [] q1.2 else if x1 = 3 then ax_run m_X8_best 63 [(0, .ref 47)] [] q1.2 else if x1 = 4 then ax_run m_X8_best 68 [(0, .ref 47)] [] q1.2 else ax_run m_X8_best 73 [(0, .ref 47)] [] q1.2) := (ax_run_eq _ _ _ _ _).trans rfl
set_option maxRecDepth 100000 in
theorem q_X8_best_40 (x2 : Int32) (h : ax_Hp) : ax_run m_X8_best 40 [(2, .int x2)] [] h = some (some (.int x2), h) := (ax_run_eq _ _ _ _ _).trans rfl
set_option maxRecDepth 100000 in
theorem q_X8_best_42 (x2 : Int32) (h : ax_Hp) : ax_run m_X8_best 42 [(0, .ref 47), (2, .int x2)] [] h = if 0 ≤ x2 then ax_run m_X8_best 51 [(0, .ref 47), (2, .int x2)] [] h else ax_run m_X8_best 57 [] [.int ((-9))] h := (ax_run_eq _ _ _ _ _).trans rfl
set_option maxRecDepth 100000 in
theorem q_X8_best_51 (x2 : Int32) (h : ax_Hp) : ax_run m_X8_best 51 [(0, .ref 47), (2, .int x2)] [] h = ax_g (ax_in x2 7) (ax_run m_X8_best 57 [] [.int (h.1 52 x2.toNatClampNeg)] h) := (ax_run_eq _ _ _ _ _).trans rfl
set_option maxRecDepth 100000 in
theorem q_X8_best_57 (s0 : Int32) (h : ax_Hp) : ax_run m_X8_best 57 [] [.int s0] h = some (some (.int s0), h) := (ax_run_eq _ _ _ _ _).trans rfl
set_option maxRecDepth 100000 in
theorem q_X8_best_58  (h : ax_Hp) : ax_run m_X8_best 58 [(0, .ref 47)] [] h = (rI m_X8_lentNow [.ref 47] h).bind (fun q1 => some (some (.int q1.1), q1.2)) := (ax_run_eq _ _ _ _ _).trans rfl
set_option maxRecDepth 100000 in
theorem q_X8_best_63  (h : ax_Hp) : ax_run m_X8_best 63 [(0, .ref 47)] [] h = (rI m_X8_seenNow [.ref 47] h).bind (fun q1 => some (some (.int q1.1), q1.2)) := (ax_run_eq _ _ _ _ _).trans rfl
set_option maxRecDepth 100000 in
theorem q_X8_best_68  (h : ax_Hp) : ax_run m_X8_best 68 [(0, .ref 47)] [] h = (rI m_X8_warmer [.ref 47] h).bind (fun q1 => some (some (.int q1.1), q1.2)) := (ax_run_eq _ _ _ _ _).trans rfl
set_option maxRecDepth 100000 in
theorem q_X8_best_73  (h : ax_Hp) : ax_run m_X8_best 73 [(0, .ref 47)] [] h = (rI m_X8_no [.ref 47, .int ((-2))] h).bind (fun q1 => some (some (.int q1.1), q1.2)) := (ax_run_eq _ _ _ _ _).trans rfl
set_option maxRecDepth 100000 in
theorem q_X8_takes_0 (x1 : Int32) (x2 : Int32) (h : ax_Hp) : ax_run m_X8_takes 0 [(0, .ref 47), (1, .int x1), (2, .int x2)] [] h = (rI m_X8_isWall [.ref 47, .int x1] h).bind (fun q1 => if q1.1 = 0 then ax_run m_X8_takes 15 [(0, .ref 47)] [] q1.2 else (rI m_X8_isHouse [.int x2] q1.2).bind (fun q2 => if q2.1 = 0 then ax_run m_X8_takes 15 [(0, .ref 47)] [] q2.2 else ax_run m_X8_takes 21 [(0, .ref 47), (1, .int x1), (2, .int x2)] [] q2.2)) := (ax_run_eq _ _ _ _ _).trans rfl
set_option maxRecDepth 100000 in
theorem q_X8_takes_15  (h : ax_Hp) : ax_run m_X8_takes 15 [(0, .ref 47)] [] h = (rI m_X8_no [.ref 47, .int ((-1))] h).bind (fun q1 => some (some (.int q1.1), q1.2)) := (ax_run_eq _ _ _ _ _).trans rfl
set_option maxRecDepth 100000 in
theorem q_X8_takes_21 (x1 : Int32) (x2 : Int32) (h : ax_Hp) : ax_run m_X8_takes 21 [(0, .ref 47), (1, .int x1), (2, .int x2)] [] h = ax_g (ax_in x1 7) (ax_g (ax_in x1 7) (some (some (.int (h.1 52 x1.toNatClampNeg)), wI h 52 x1.toNatClampNeg x2))) := (ax_run_eq _ _ _ _ _).trans rfl
set_option maxRecDepth 100000 in
theorem q_X8_allLack_0 (x1 : Int32) (h : ax_Hp) : ax_run m_X8_allLack 0 [(0, .ref 47), (1, .int x1)] [] h = (rI m_X8_notHours [.int x1] h).bind (fun q1 => if q1.1 = 0 then ax_run m_X8_allLack 17 [(0, .ref 47), (1, .int x1)] [] q1.2 else (rI m_X8_no [.ref 47, .int q1.1] q1.2).bind (fun q2 => ax_run m_X8_allLack 22 [] [.int q2.1] q2.2)) := (ax_run_eq _ _ _ _ _).trans rfl
set_option maxRecDepth 100000 in
theorem q_X8_allLack_17 (x1 : Int32) (h : ax_Hp) : ax_run m_X8_allLack 17 [(0, .ref 47), (1, .int x1)] [] h = (rI m_X8_allIn [.ref 47, .int x1] h).bind (fun q1 => ax_run m_X8_allLack 22 [] [.int q1.1] q1.2) := (ax_run_eq _ _ _ _ _).trans rfl
set_option maxRecDepth 100000 in
theorem q_X8_allLack_22 (s0 : Int32) (h : ax_Hp) : ax_run m_X8_allLack 22 [] [.int s0] h = some (some (.int s0), h) := (ax_run_eq _ _ _ _ _).trans rfl
set_option maxRecDepth 100000 in
theorem q_X8_street_0  (h : ax_Hp) : ax_run m_X8_street 0 [(0, .ref 47)] [] h = ax_run m_X8_street 12 [(0, .ref 47), (1, .int 1)] [] (wI (wI h 47 15 0) 47 16 0) := (ax_run_eq _ _ _ _ _).trans rfl
set_option maxRecDepth 100000 in
theorem q_X8_street_12 (x1 : Int32) (h : ax_Hp) : ax_run m_X8_street 12 [(0, .ref 47), (1, .int x1)] [] h = if x1 = 0 then ax_run m_X8_street 60 [(0, .ref 47), (1, .int x1)] [] h else if h.1 47 15 < h.1 47 14 then ax_run m_X8_street 34 [(0, .ref 47)] [] h else if h.1 47 16 = 0 then ax_run m_X8_street 34 [(0, .ref 47)] [] h else ax_run m_X8_street 60 [(0, .ref 47), (1, .int x1)] [] h := (ax_run_eq _ _ _ _ _).trans rfl
set_option maxRecDepth 100000 in
theorem q_X8_street_34  (h : ax_Hp) : ax_run m_X8_street 34 [(0, .ref 47)] [] h = (rI m_X8_statement [.ref 47] h).bind (fun q1 => if q1.1 = 0 then ax_run m_X8_street 52 [(0, .ref 47), (1, .int q1.1)] [.int (q1.2.1 47 16), .ref 47] q1.2 else ax_run m_X8_street 53 [(0, .ref 47), (1, .int q1.1)] [.int 1, .int (q1.2.1 47 16), .ref 47] q1.2) := (ax_run_eq _ _ _ _ _).trans rfl
set_option maxRecDepth 100000 in
theorem q_X8_street_52 (x1 : Int32) (s0 : Int32) (h : ax_Hp) : ax_run m_X8_street 52 [(0, .ref 47), (1, .int x1)] [.int s0, .ref 47] h = ax_run m_X8_street 53 [(0, .ref 47), (1, .int x1)] [.int 0, .int s0, .ref 47] h := (ax_run_eq _ _ _ _ _).trans rfl
set_option maxRecDepth 100000 in
theorem q_X8_street_53 (x1 : Int32) (s0 : Int32) (s1 : Int32) (h : ax_Hp) : ax_run m_X8_street 53 [(0, .ref 47), (1, .int x1)] [.int s0, .int s1, .ref 47] h = ax_run m_X8_street 12 [(0, .ref 47), (1, .int x1)] [] (wI h 47 16 (s1 + s0)) := (ax_run_eq _ _ _ _ _).trans rfl
set_option maxRecDepth 100000 in
theorem q_X8_street_60 (x1 : Int32) (h : ax_Hp) : ax_run m_X8_street 60 [(0, .ref 47), (1, .int x1)] [] h = if x1 = 0 then some (some (.int (((-1000)) - ((wI h 47 14 0).1 47 15))), wI h 47 14 0) else ax_run m_X8_street 78 [(0, .ref 47)] [] (wI h 47 14 0) := (ax_run_eq _ _ _ _ _).trans rfl
set_option maxRecDepth 100000 in
theorem q_X8_street_78  (h : ax_Hp) : ax_run m_X8_street 78 [(0, .ref 47)] [] h = (rV m_X8_passesAll [.ref 47, .int 1, .int 1] h).bind (fun q1 => ax_run m_X8_street 86 [(0, .ref 47), (2, .int 0)] [] q1) := (ax_run_eq _ _ _ _ _).trans rfl
set_option maxRecDepth 100000 in
theorem q_X8_street_86 (x2 : Int32) (h : ax_Hp) : ax_run m_X8_street 86 [(0, .ref 47), (2, .int x2)] [] h = if h.1 47 16 ≤ x2 then ax_run m_X8_street 128 [(0, .ref 47)] [] h else (rI m_X8_comesTold [.ref 47, .int x2] h).bind (fun q1 => if q1.1 = 0 then ax_run m_X8_street 105 [(0, .ref 47), (2, .int x2)] [] q1.2 else ax_run m_X8_street 122 [(0, .ref 47), (2, .int x2)] [] q1.2) := (ax_run_eq _ _ _ _ _).trans rfl
set_option maxRecDepth 100000 in
theorem q_X8_street_105 (x2 : Int32) (h : ax_Hp) : ax_run m_X8_street 105 [(0, .ref 47), (2, .int x2)] [] h = (rV m_X8_passesAll [.ref 47, .int 1, .int 0] h).bind (fun q1 => ax_g (ax_in x2 32) (some (some (.int (((-2000)) - (q1.1 58 x2.toNatClampNeg))), q1))) := (ax_run_eq _ _ _ _ _).trans rfl
set_option maxRecDepth 100000 in
theorem q_X8_street_122 (x2 : Int32) (h : ax_Hp) : ax_run m_X8_street 122 [(0, .ref 47), (2, .int x2)] [] h = ax_run m_X8_street 86 [(0, .ref 47), (2, .int (x2 + 1))] [] h := (ax_run_eq _ _ _ _ _).trans rfl
set_option maxRecDepth 100000 in
theorem q_X8_street_128  (h : ax_Hp) : ax_run m_X8_street 128 [(0, .ref 47)] [] h = some (some (.int (h.1 47 16)), h) := (ax_run_eq _ _ _ _ _).trans rfl
set_option maxRecDepth 100000 in
theorem q_X8_hide_0 (x1 : Int32) (x2 : Int32) (h : ax_Hp) : ax_run m_X8_hide 0 [(0, .ref 47), (1, .int x1), (2, .int x2)] [] h = (rI m_X8_areTwo [.int x1, .int x2] h).bind (fun q1 => if q1.1 = 0 then (rI m_X8_no [.ref 47, .int ((-1))] q1.2).bind (fun q2 => some (some (.int q2.1), q2.2)) else ax_run m_X8_hide 14 [(0, .ref 47), (1, .int x1), (2, .int x2)] [] q1.2) := (ax_run_eq _ _ _ _ _).trans rfl
set_option maxRecDepth 100000 in
theorem q_X8_hide_14 (x1 : Int32) (x2 : Int32) (h : ax_Hp) : ax_run m_X8_hide 14 [(0, .ref 47), (1, .int x1), (2, .int x2)] [] h = (rI m_X8_sees_ [.ref 47, .int x1, .int x2] h).bind (fun q1 => if q1.1 = 0 then (rI m_X8_no [.ref 47, .int ((-3))] q1.2).bind (fun q2 => some (some (.int q2.1), q2.2)) else ax_run m_X8_hide 30 [(0, .ref 47), (1, .int x1), (2, .int x2)] [] q1.2) := (ax_run_eq _ _ _ _ _).trans rfl
set_option maxRecDepth 100000 in
theorem q_X8_hide_30 (x1 : Int32) (x2 : Int32) (h : ax_Hp) : ax_run m_X8_hide 30 [(0, .ref 47), (1, .int x1), (2, .int x2)] [] h = ax_run m_X8_hide 40 [(0, .ref 47), (1, .int x1), (2, .int x2), (3, .int ((-9))), (4, .int 8), (5, .int 0)] [] h := (ax_run_eq _ _ _ _ _).trans rfl
set_option maxRecDepth 100000 in
theorem q_X8_hide_40 (x1 : Int32) (x2 : Int32) (x3 : Int32) (x4 : Int32) (x5 : Int32) (h : ax_Hp) : ax_run m_X8_hide 40 [(0, .ref 47), (1, .int x1), (2, .int x2), (3, .int x3), (4, .int x4), (5, .int x5)] [] h = if 8 * (h.1 47 8) ≤ x5 then ax_run m_X8_hide 121 [(3, .int x3)] [] h else ax_g (ax_in (x5 / 8) 7) ((rI m_X8_apart [.int (h.1 52 (x5 / 8).toNatClampNeg), .int (x5 - x5 / 8 * 8)] h).bind (fun q1 => (rI m_X8_isBetween [.ref 47, .int (x5 - x5 / 8 * 8), .int x1, .int x2] q1.2).bind (fun q2 => if q2.1 = 0 then ax_run m_X8_hide 115 [(0, .ref 47), (1, .int x1), (2, .int x2), (3, .int x3), (4, .int x4), (5, .int x5)] [] q2.2 else if q1.1 < x4 then ax_run m_X8_hide 96 [(0, .ref 47), (1, .int x1), (2, .int x2), (5, .int x5), (6, .int q1.1)] [] q2.2 else ax_run m_X8_hide 115 [(0, .ref 47), (1, .int x1), (2, .int x2), (3, .int x3), (4, .int x4), (5, .int x5)] [] q2.2))) := (ax_run_eq _ _ _ _ _).trans rfl
set_option maxRecDepth 100000 in
theorem q_X8_hide_96 (x1 : Int32) (x2 : Int32) (x5 : Int32) (x6 : Int32) (h : ax_Hp) : ax_run m_X8_hide 96 [(0, .ref 47), (1, .int x1), (2, .int x2), (5, .int x5), (6, .int x6)] [] h = ax_run m_X8_hide 115 [(0, .ref 47), (1, .int x1), (2, .int x2), (3, .int ((10 * (x5 / 8)) + (x5 - x5 / 8 * 8))), (4, .int x6), (5, .int x5)] [] h := (ax_run_eq _ _ _ _ _).trans rfl
set_option maxRecDepth 100000 in
theorem q_X8_hide_115 (x1 : Int32) (x2 : Int32) (x3 : Int32) (x4 : Int32) (x5 : Int32) (h : ax_Hp) : ax_run m_X8_hide 115 [(0, .ref 47), (1, .int x1), (2, .int x2), (3, .int x3), (4, .int x4), (5, .int x5)] [] h = ax_run m_X8_hide 40 [(0, .ref 47), (1, .int x1), (2, .int x2), (3, .int x3), (4, .int x4), (5, .int (x5 + 1))] [] h := (ax_run_eq _ _ _ _ _).trans rfl
set_option maxRecDepth 100000 in
theorem q_X8_hide_121 (x3 : Int32) (h : ax_Hp) : ax_run m_X8_hide 121 [(3, .int x3)] [] h = some (some (.int x3), h) := (ax_run_eq _ _ _ _ _).trans rfl
set_option maxRecDepth 100000 in
theorem q_X8_longest_0 (x1 : Int32) (h : ax_Hp) : ax_run m_X8_longest 0 [(0, .ref 47), (1, .int x1)] [] h = (rI m_X8_isHouse [.int x1] h).bind (fun q1 => if q1.1 = 0 then (rI m_X8_no [.ref 47, .int ((-1))] q1.2).bind (fun q2 => some (some (.int q2.1), q2.2)) else ax_run m_X8_longest 13 [(0, .ref 47), (1, .int x1)] [] q1.2) := (ax_run_eq _ _ _ _ _).trans rfl
set_option maxRecDepth 100000 in
theorem q_X8_longest_13 (x1 : Int32) (h : ax_Hp) : ax_run m_X8_longest 13 [(0, .ref 47), (1, .int x1)] [] h = ax_run m_X8_longest 20 [(0, .ref 47), (1, .int x1), (2, .int 0), (3, .int 0), (4, .int 1)] [] h := (ax_run_eq _ _ _ _ _).trans rfl
set_option maxRecDepth 100000 in
theorem q_X8_longest_20 (x1 : Int32) (x2 : Int32) (x3 : Int32) (x4 : Int32) (h : ax_Hp) : ax_run m_X8_longest 20 [(0, .ref 47), (1, .int x1), (2, .int x2), (3, .int x3), (4, .int x4)] [] h = if h.1 47 9 < x4 then ax_run m_X8_longest 64 [(2, .int x2)] [] h else (rI m_X8_wasSeenAt [.ref 47, .int x1, .int x4] h).bind (fun q1 => if q1.1 = 0 then ax_run m_X8_longest 45 [(0, .ref 47), (1, .int x1), (2, .int x2), (4, .int x4)] [] q1.2 else ax_run m_X8_longest 46 [(0, .ref 47), (1, .int x1), (2, .int x2), (4, .int x4)] [.int (x3 + 1)] q1.2) := (ax_run_eq _ _ _ _ _).trans rfl
set_option maxRecDepth 100000 in
theorem q_X8_longest_45 (x1 : Int32) (x2 : Int32) (x4 : Int32) (h : ax_Hp) : ax_run m_X8_longest 45 [(0, .ref 47), (1, .int x1), (2, .int x2), (4, .int x4)] [] h = ax_run m_X8_longest 46 [(0, .ref 47), (1, .int x1), (2, .int x2), (4, .int x4)] [.int 0] h := (ax_run_eq _ _ _ _ _).trans rfl
set_option maxRecDepth 100000 in
theorem q_X8_longest_46 (x1 : Int32) (x2 : Int32) (x4 : Int32) (s0 : Int32) (h : ax_Hp) : ax_run m_X8_longest 46 [(0, .ref 47), (1, .int x1), (2, .int x2), (4, .int x4)] [.int s0] h = if s0 ≤ x2 then ax_run m_X8_longest 56 [(0, .ref 47), (1, .int x1), (2, .int x2), (3, .int s0), (4, .int x4)] [] h else ax_run m_X8_longest 57 [(0, .ref 47), (1, .int x1), (3, .int s0), (4, .int x4)] [.int s0] h := (ax_run_eq _ _ _ _ _).trans rfl
set_option maxRecDepth 100000 in
theorem q_X8_longest_56 (x1 : Int32) (x2 : Int32) (x3 : Int32) (x4 : Int32) (h : ax_Hp) : ax_run m_X8_longest 56 [(0, .ref 47), (1, .int x1), (2, .int x2), (3, .int x3), (4, .int x4)] [] h = ax_run m_X8_longest 57 [(0, .ref 47), (1, .int x1), (3, .int x3), (4, .int x4)] [.int x2] h := (ax_run_eq _ _ _ _ _).trans rfl
set_option maxRecDepth 100000 in
theorem q_X8_longest_57 (x1 : Int32) (x3 : Int32) (x4 : Int32) (s0 : Int32) (h : ax_Hp) : ax_run m_X8_longest 57 [(0, .ref 47), (1, .int x1), (3, .int x3), (4, .int x4)] [.int s0] h = ax_run m_X8_longest 20 [(0, .ref 47), (1, .int x1), (2, .int s0), (3, .int x3), (4, .int (x4 + 1))] [] h := (ax_run_eq _ _ _ _ _).trans rfl
set_option maxRecDepth 100000 in
theorem q_X8_longest_64 (x2 : Int32) (h : ax_Hp) : ax_run m_X8_longest 64 [(2, .int x2)] [] h = some (some (.int x2), h) := (ax_run_eq _ _ _ _ _).trans rfl
set_option maxRecDepth 100000 in
theorem q_X8_coughs_0 (x1 : Int32) (x2 : Int32) (x3 : Int32) (h : ax_Hp) : ax_run m_X8_coughs 0 [(0, .ref 47), (1, .int x1), (2, .int x2), (3, .int x3)] [] h = (rI m_X8_areTwo [.int x1, .int x2] h).bind (fun q1 => if q1.1 = 0 then ax_run m_X8_coughs 16 [(0, .ref 47), (1, .int x1), (2, .int x2), (3, .int x3)] [.int ((-1))] q1.2 else ax_run m_X8_coughs 12 [(0, .ref 47), (1, .int x1), (2, .int x2), (3, .int x3)] [] q1.2) := (ax_run_eq _ _ _ _ _).trans rfl
set_option maxRecDepth 100000 in
theorem q_X8_coughs_12 (x1 : Int32) (x2 : Int32) (x3 : Int32) (h : ax_Hp) : ax_run m_X8_coughs 12 [(0, .ref 47), (1, .int x1), (2, .int x2), (3, .int x3)] [] h = (rI m_X8_notHours [.int x3] h).bind (fun q1 => ax_run m_X8_coughs 16 [(0, .ref 47), (1, .int x1), (2, .int x2), (3, .int x3)] [.int q1.1] q1.2) := (ax_run_eq _ _ _ _ _).trans rfl
set_option maxRecDepth 100000 in
theorem q_X8_coughs_16 (x1 : Int32) (x2 : Int32) (x3 : Int32) (s0 : Int32) (h : ax_Hp) : ax_run m_X8_coughs 16 [(0, .ref 47), (1, .int x1), (2, .int x2), (3, .int x3)] [.int s0] h = if s0 = 0 then ax_run m_X8_coughs 30 [(0, .ref 47), (1, .int x1), (2, .int x2), (3, .int x3)] [] h else (rI m_X8_no [.ref 47, .int s0] h).bind (fun q1 => some (some (.int q1.1), q1.2)) := (ax_run_eq _ _ _ _ _).trans rfl
set_option maxRecDepth 100000 in
theorem q_X8_coughs_30 (x1 : Int32) (x2 : Int32) (x3 : Int32) (h : ax_Hp) : ax_run m_X8_coughs 30 [(0, .ref 47), (1, .int x1), (2, .int x2), (3, .int x3)] [] h = (rV m_X8_minds [.ref 47] h).bind (fun q1 => (rV m_X8_goes_ [.ref 47, .int x3] (wI (wI (wI q1 47 24 x1) 47 25 x2) 47 26 0)).bind (fun q2 => (rV m_X8_forgets [.ref 47] q2).bind (fun q3 => some (some (.int (q3.1 47 26)), q3)))) := (ax_run_eq _ _ _ _ _).trans rfl
set_option maxRecDepth 100000 in
theorem q_X8_price_0 (x1 : Int32) (x2 : Int32) (h : ax_Hp) : ax_run m_X8_price 0 [(0, .ref 47), (1, .int x1), (2, .int x2)] [] h = (rI m_X8_isWall [.ref 47, .int x1] h).bind (fun q1 => if q1.1 = 0 then ax_run m_X8_price 27 [(0, .ref 47), (1, .int x1), (2, .int x2)] [.int ((-1))] q1.2 else ax_run m_X8_price 12 [(0, .ref 47), (1, .int x1), (2, .int x2)] [] q1.2) := (ax_run_eq _ _ _ _ _).trans rfl
set_option maxRecDepth 100000 in
theorem q_X8_price_12 (x1 : Int32) (x2 : Int32) (h : ax_Hp) : ax_run m_X8_price 12 [(0, .ref 47), (1, .int x1), (2, .int x2)] [] h = (rI m_X8_isIn [.int x2, .int 0, .int 1] h).bind (fun q1 => if q1.1 = 0 then ax_run m_X8_price 27 [(0, .ref 47), (1, .int x1), (2, .int x2)] [.int ((-2))] q1.2 else ax_run m_X8_price 26 [(0, .ref 47), (1, .int x1), (2, .int x2)] [] q1.2) := (ax_run_eq _ _ _ _ _).trans rfl
set_option maxRecDepth 100000 in
theorem q_X8_price_26 (x1 : Int32) (x2 : Int32) (h : ax_Hp) : ax_run m_X8_price 26 [(0, .ref 47), (1, .int x1), (2, .int x2)] [] h = ax_run m_X8_price 27 [(0, .ref 47), (1, .int x1), (2, .int x2)] [.int 0] h := (ax_run_eq _ _ _ _ _).trans rfl
set_option maxRecDepth 100000 in
theorem q_X8_price_27 (x1 : Int32) (x2 : Int32) (s0 : Int32) (h : ax_Hp) : ax_run m_X8_price 27 [(0, .ref 47), (1, .int x1), (2, .int x2)] [.int s0] h = if s0 = 0 then ax_run m_X8_price 38 [(0, .ref 47), (1, .int x1), (2, .int x2)] [] h else (rI m_X8_no [.ref 47, .int s0] h).bind (fun q1 => some (some (.int q1.1), q1.2)) := (ax_run_eq _ _ _ _ _).trans rfl
set_option maxRecDepth 100000 in
theorem q_X8_price_38 (x1 : Int32) (x2 : Int32) (h : ax_Hp) : ax_run m_X8_price 38 [(0, .ref 47), (1, .int x1), (2, .int x2)] [] h = (rI m_X8_buyerBut [.ref 47, .int x1, .int ((-9))] h).bind (fun q1 => if x2 = 0 then some (some (.int q1.1), q1.2) else ax_run m_X8_price 54 [(0, .ref 47), (1, .int x1), (4, .int q1.1)] [] q1.2) := (ax_run_eq _ _ _ _ _).trans rfl
set_option maxRecDepth 100000 in
theorem q_X8_price_54 (x1 : Int32) (x4 : Int32) (h : ax_Hp) : ax_run m_X8_price 54 [(0, .ref 47), (1, .int x1), (4, .int x4)] [] h = if 0 ≤ x4 then ax_run m_X8_price 64 [(0, .ref 47), (1, .int x1), (4, .int x4)] [] h else ax_run m_X8_price 71 [(0, .ref 47), (1, .int x1)] [.int ((-9))] h := (ax_run_eq _ _ _ _ _).trans rfl
set_option maxRecDepth 100000 in
theorem q_X8_price_64 (x1 : Int32) (x4 : Int32) (h : ax_Hp) : ax_run m_X8_price 64 [(0, .ref 47), (1, .int x1), (4, .int x4)] [] h = (rI m_X8_buyerBut [.ref 47, .int x1, .int x4] h).bind (fun q1 => ax_run m_X8_price 71 [(0, .ref 47), (1, .int x1)] [.int q1.1] q1.2) := (ax_run_eq _ _ _ _ _).trans rfl
set_option maxRecDepth 100000 in
theorem q_X8_price_71 (x1 : Int32) (s0 : Int32) (h : ax_Hp) : ax_run m_X8_price 71 [(0, .ref 47), (1, .int x1)] [.int s0] h = if 0 ≤ s0 then ax_run m_X8_price 82 [(0, .ref 47), (1, .int x1), (5, .int s0)] [] h else ax_run m_X8_price 89 [] [.int 0] h := (ax_run_eq _ _ _ _ _).trans rfl
set_option maxRecDepth 100000 in
theorem q_X8_price_82 (x1 : Int32) (x5 : Int32) (h : ax_Hp) : ax_run m_X8_price 82 [(0, .ref 47), (1, .int x1), (5, .int x5)] [] h = (rI m_X8_gives [.ref 47, .int x5, .int x1] h).bind (fun q1 => ax_run m_X8_price 89 [] [.int q1.1] q1.2) := (ax_run_eq _ _ _ _ _).trans rfl
set_option maxRecDepth 100000 in
theorem q_X8_price_89 (s0 : Int32) (h : ax_Hp) : ax_run m_X8_price 89 [] [.int s0] h = some (some (.int s0), h) := (ax_run_eq _ _ _ _ _).trans rfl
set_option maxRecDepth 100000 in
theorem q_X8_shares_0 (x1 : Int32) (x2 : Int32) (h : ax_Hp) : ax_run m_X8_shares 0 [(0, .ref 47), (1, .int x1), (2, .int x2)] [] h = (rI m_X8_areTwo [.int x1, .int x2] h).bind (fun q1 => if q1.1 = 0 then (rI m_X8_no [.ref 47, .int ((-1))] q1.2).bind (fun q2 => some (some (.int q2.1), q2.2)) else ax_run m_X8_shares 14 [(0, .ref 47), (1, .int x1), (2, .int x2)] [] q1.2) := (ax_run_eq _ _ _ _ _).trans rfl
set_option maxRecDepth 100000 in
theorem q_X8_shares_14 (x1 : Int32) (x2 : Int32) (h : ax_Hp) : ax_run m_X8_shares 14 [(0, .ref 47), (1, .int x1), (2, .int x2)] [] h = ax_run m_X8_shares 33 [(0, .ref 47), (1, .int x1), (2, .int x2), (3, .int ((1 <<< ((h.1 47 8) &&& 31)) - 1)), (4, .int ((-9))), (5, .int 0), (6, .int 0)] [] h := (ax_run_eq _ _ _ _ _).trans rfl
set_option maxRecDepth 100000 in
theorem q_X8_shares_33 (x1 : Int32) (x2 : Int32) (x3 : Int32) (x4 : Int32) (x5 : Int32) (x6 : Int32) (h : ax_Hp) : ax_run m_X8_shares 33 [(0, .ref 47), (1, .int x1), (2, .int x2), (3, .int x3), (4, .int x4), (5, .int x5), (6, .int x6)] [] h = if x3 < x6 then ax_run m_X8_shares 130 [(4, .int x4)] [] h else (rI m_X8_worth [.ref 47, .int x6, .int x1] h).bind (fun q1 => (rI m_X8_worth [.ref 47, .int (x3 &&& (x6 ^^^ ((-1)))), .int x1] q1.2).bind (fun q2 => if q1.1 < q2.1 then ax_run m_X8_shares 124 [(0, .ref 47), (1, .int x1), (2, .int x2), (3, .int x3), (4, .int x4), (5, .int x5), (6, .int x6)] [] q2.2 else (rI m_X8_worth [.ref 47, .int (x3 &&& (x6 ^^^ ((-1)))), .int x2] q2.2).bind (fun q3 => (rI m_X8_worth [.ref 47, .int x6, .int x2] q3.2).bind (fun q4 => if q4.1 ≤ q3.1 then ax_run m_X8_shares 84 [(0, .ref 47), (1, .int x1), (2, .int x2), (3, .int x3), (4, .int x4), (5, .int x5), (6, .int x6), (7, .int (x3 &&& (x6 ^^^ ((-1)))))] [] q4.2 else ax_run m_X8_shares 124 [(0, .ref 47), (1, .int x1), (2, .int x2), (3, .int x3), (4, .int x4), (5, .int x5), (6, .int x6)] [] q4.2)))) := (ax_run_eq _ _ _ _ _).trans rfl
set_option maxRecDepth 100000 in
theorem q_X8_shares_84 (x1 : Int32) (x2 : Int32) (x3 : Int32) (x4 : Int32) (x5 : Int32) (x6 : Int32) (x7 : Int32) (h : ax_Hp) : ax_run m_X8_shares 84 [(0, .ref 47), (1, .int x1), (2, .int x2), (3, .int x3), (4, .int x4), (5, .int x5), (6, .int x6), (7, .int x7)] [] h = (rI m_X8_worth [.ref 47, .int x6, .int x1] h).bind (fun q1 => (rI m_X8_worth [.ref 47, .int x7, .int x2] q1.2).bind (fun q2 => if x4 < 0 then ax_run m_X8_shares 116 [(0, .ref 47), (1, .int x1), (2, .int x2), (3, .int x3), (6, .int x6), (8, .int (q1.1 + q2.1))] [] q2.2 else if x5 < q1.1 + q2.1 then ax_run m_X8_shares 116 [(0, .ref 47), (1, .int x1), (2, .int x2), (3, .int x3), (6, .int x6), (8, .int (q1.1 + q2.1))] [] q2.2 else ax_run m_X8_shares 124 [(0, .ref 47), (1, .int x1), (2, .int x2), (3, .int x3), (4, .int x4), (5, .int x5), (6, .int x6)] [] q2.2)) := (ax_run_eq _ _ _ _ _).trans rfl
set_option maxRecDepth 100000 in
theorem q_X8_shares_116 (x1 : Int32) (x2 : Int32) (x3 : Int32) (x6 : Int32) (x8 : Int32) (h : ax_Hp) : ax_run m_X8_shares 116 [(0, .ref 47), (1, .int x1), (2, .int x2), (3, .int x3), (6, .int x6), (8, .int x8)] [] h = ax_run m_X8_shares 124 [(0, .ref 47), (1, .int x1), (2, .int x2), (3, .int x3), (4, .int x6), (5, .int x8), (6, .int x6)] [] h := (ax_run_eq _ _ _ _ _).trans rfl
set_option maxRecDepth 100000 in
theorem q_X8_shares_124 (x1 : Int32) (x2 : Int32) (x3 : Int32) (x4 : Int32) (x5 : Int32) (x6 : Int32) (h : ax_Hp) : ax_run m_X8_shares 124 [(0, .ref 47), (1, .int x1), (2, .int x2), (3, .int x3), (4, .int x4), (5, .int x5), (6, .int x6)] [] h = ax_run m_X8_shares 33 [(0, .ref 47), (1, .int x1), (2, .int x2), (3, .int x3), (4, .int x4), (5, .int x5), (6, .int (x6 + 1))] [] h := (ax_run_eq _ _ _ _ _).trans rfl
set_option maxRecDepth 100000 in
theorem q_X8_shares_130 (x4 : Int32) (h : ax_Hp) : ax_run m_X8_shares 130 [(4, .int x4)] [] h = some (some (.int x4), h) := (ax_run_eq _ _ _ _ _).trans rfl
set_option maxRecDepth 100000 in
theorem q_X8_image_0  (h : ax_Hp) : ax_run m_X8_image 0 [(0, .ref 47)] [] h = (rV m_X8_passesAll [.ref 47, .int 0, .int 1] (wI h 47 19 1)).bind (fun q1 => some (some (.int (q1.1 47 9)), q1)) := (ax_run_eq _ _ _ _ _).trans rfl
set_option maxRecDepth 100000 in
theorem q_X8_judge_0  (h : ax_Hp) : ax_run m_X8_judge 0 [(0, .ref 47)] [] h = (rV m_X8_minds [.ref 47] h).bind (fun q1 => ax_run m_X8_judge 9 [(0, .ref 47), (1, .int ((-9))), (2, .int 0)] [] q1) := (ax_run_eq _ _ _ _ _).trans rfl
set_option maxRecDepth 100000 in
theorem q_X8_judge_9 (x1 : Int32) (x2 : Int32) (h : ax_Hp) : ax_run m_X8_judge 9 [(0, .ref 47), (1, .int x1), (2, .int x2)] [] h = if h.1 47 34 ≤ x2 then ax_run m_X8_judge 51 [(0, .ref 47), (1, .int x1)] [] h else if 0 ≤ x1 then ax_run m_X8_judge 51 [(0, .ref 47), (1, .int x1)] [] h else (rI m_X8_all [.ref 47] h).bind (fun q1 => ax_g (ax_in x2 16) (if q1.1 = q1.2.1 65 x2.toNatClampNeg then ax_run m_X8_judge 40 [(0, .ref 47), (2, .int x2)] [.int ((-9))] q1.2 else ax_run m_X8_judge 39 [(0, .ref 47), (2, .int x2)] [] q1.2)) := (ax_run_eq _ _ _ _ _).trans rfl
set_option maxRecDepth 100000 in
theorem q_X8_judge_39 (x2 : Int32) (h : ax_Hp) : ax_run m_X8_judge 39 [(0, .ref 47), (2, .int x2)] [] h = ax_run m_X8_judge 40 [(0, .ref 47), (2, .int x2)] [.int x2] h := (ax_run_eq _ _ _ _ _).trans rfl
set_option maxRecDepth 100000 in
theorem q_X8_judge_40 (x2 : Int32) (s0 : Int32) (h : ax_Hp) : ax_run m_X8_judge 40 [(0, .ref 47), (2, .int x2)] [.int s0] h = (rV m_X8_goesHour [.ref 47] h).bind (fun q1 => ax_run m_X8_judge 9 [(0, .ref 47), (1, .int s0), (2, .int (x2 + 1))] [] q1) := (ax_run_eq _ _ _ _ _).trans rfl
set_option maxRecDepth 100000 in
theorem q_X8_judge_51 (x1 : Int32) (h : ax_Hp) : ax_run m_X8_judge 51 [(0, .ref 47), (1, .int x1)] [] h = (rV m_X8_forgets [.ref 47] h).bind (fun q1 => some (some (.int x1), wI q1 47 34 0)) := (ax_run_eq _ _ _ _ _).trans rfl
set_option maxRecDepth 100000 in
theorem q_X8_ways_0 (x1 : Int32) (x2 : Int32) (x3 : Int32) (h : ax_Hp) : ax_run m_X8_ways 0 [(0, .ref 47), (1, .int x1), (2, .int x2), (3, .int x3)] [] h = (rI m_X8_isWall [.ref 47, .int x1] h).bind (fun q1 => if q1.1 = 0 then ax_run m_X8_ways 15 [(0, .ref 47), (1, .int x1), (2, .int x2), (3, .int x3)] [] q1.2 else (rI m_X8_isHouse [.int x2] q1.2).bind (fun q2 => if q2.1 = 0 then ax_run m_X8_ways 15 [(0, .ref 47), (1, .int x1), (2, .int x2), (3, .int x3)] [] q2.2 else ax_run m_X8_ways 19 [(0, .ref 47), (1, .int x1), (2, .int x2), (3, .int x3)] [] q2.2)) := (ax_run_eq _ _ _ _ _).trans rfl
set_option maxRecDepth 100000 in
theorem q_X8_ways_15 (x1 : Int32) (x2 : Int32) (x3 : Int32) (h : ax_Hp) : ax_run m_X8_ways 15 [(0, .ref 47), (1, .int x1), (2, .int x2), (3, .int x3)] [] h = ax_run m_X8_ways 26 [(0, .ref 47), (1, .int x1), (2, .int x2), (3, .int x3)] [.int ((-1))] h := (ax_run_eq _ _ _ _ _).trans rfl
set_option maxRecDepth 100000 in
theorem q_X8_ways_19 (x1 : Int32) (x2 : Int32) (x3 : Int32) (h : ax_Hp) : ax_run m_X8_ways 19 [(0, .ref 47), (1, .int x1), (2, .int x2), (3, .int x3)] [] h = (rI m_X8_bound [.int x3, .int 0, .int 20] h).bind (fun q1 => ax_run m_X8_ways 26 [(0, .ref 47), (1, .int x1), (2, .int x2), (3, .int x3)] [.int q1.1] q1.2) := (ax_run_eq _ _ _ _ _).trans rfl
set_option maxRecDepth 100000 in
theorem q_X8_ways_26 (x1 : Int32) (x2 : Int32) (x3 : Int32) (s0 : Int32) (h : ax_Hp) : ax_run m_X8_ways 26 [(0, .ref 47), (1, .int x1), (2, .int x2), (3, .int x3)] [.int s0] h = if s0 = 0 then ax_run m_X8_ways 40 [(0, .ref 47), (1, .int x1), (2, .int x2), (3, .int x3)] [] h else (rL m_X8_lowestOf [.ref 47, .int s0] h).bind (fun q1 => some (some (.long q1.1), q1.2)) := (ax_run_eq _ _ _ _ _).trans rfl
set_option maxRecDepth 100000 in
theorem q_X8_ways_40 (x1 : Int32) (x2 : Int32) (x3 : Int32) (h : ax_Hp) : ax_run m_X8_ways 40 [(0, .ref 47), (1, .int x1), (2, .int x2), (3, .int x3)] [] h = ax_run m_X8_ways 43 [(0, .ref 47), (1, .int x1), (2, .int x2), (3, .int x3), (5, .int 0)] [] h := (ax_run_eq _ _ _ _ _).trans rfl
set_option maxRecDepth 100000 in
theorem q_X8_ways_43 (x1 : Int32) (x2 : Int32) (x3 : Int32) (x5 : Int32) (h : ax_Hp) : ax_run m_X8_ways 43 [(0, .ref 47), (1, .int x1), (2, .int x2), (3, .int x3), (5, .int x5)] [] h = if 8 ≤ x5 then ax_run m_X8_ways 79 [(0, .ref 47), (1, .int x1), (2, .int x2), (3, .int x3)] [] h else ax_g (ax_in x1 7) (if x5 = h.1 52 x1.toNatClampNeg then ax_run m_X8_ways 72 [(0, .ref 47), (1, .int x1), (2, .int x2), (3, .int x3), (5, .int x5)] [.long 1, .int x5, .ref 63] h else ax_run m_X8_ways 71 [(0, .ref 47), (1, .int x1), (2, .int x2), (3, .int x3), (5, .int x5)] [.int x5, .ref 63] h) := (ax_run_eq _ _ _ _ _).trans rfl
set_option maxRecDepth 100000 in
theorem q_X8_ways_71 (x1 : Int32) (x2 : Int32) (x3 : Int32) (x5 : Int32) (s0 : Int32) (h : ax_Hp) : ax_run m_X8_ways 71 [(0, .ref 47), (1, .int x1), (2, .int x2), (3, .int x3), (5, .int x5)] [.int s0, .ref 63] h = ax_run m_X8_ways 72 [(0, .ref 47), (1, .int x1), (2, .int x2), (3, .int x3), (5, .int x5)] [.long 0, .int s0, .ref 63] h := (ax_run_eq _ _ _ _ _).trans rfl
set_option maxRecDepth 100000 in
theorem q_X8_ways_72 (x1 : Int32) (x2 : Int32) (x3 : Int32) (x5 : Int32) (s0 : Int64) (s1 : Int32) (h : ax_Hp) : ax_run m_X8_ways 72 [(0, .ref 47), (1, .int x1), (2, .int x2), (3, .int x3), (5, .int x5)] [.long s0, .int s1, .ref 63] h = ax_g (ax_in s1 8) (ax_run m_X8_ways 43 [(0, .ref 47), (1, .int x1), (2, .int x2), (3, .int x3), (5, .int (x5 + 1))] [] (wL h 63 s1.toNatClampNeg s0)) := (ax_run_eq _ _ _ _ _).trans rfl
set_option maxRecDepth 100000 in
theorem q_X8_ways_79 (x1 : Int32) (x2 : Int32) (x3 : Int32) (h : ax_Hp) : ax_run m_X8_ways 79 [(0, .ref 47), (1, .int x1), (2, .int x2), (3, .int x3)] [] h = ax_run m_X8_ways 82 [(0, .ref 47), (1, .int x1), (2, .int x2), (3, .int x3), (5, .int 0)] [] h := (ax_run_eq _ _ _ _ _).trans rfl
set_option maxRecDepth 100000 in
theorem q_X8_ways_82 (x1 : Int32) (x2 : Int32) (x3 : Int32) (x5 : Int32) (h : ax_Hp) : ax_run m_X8_ways 82 [(0, .ref 47), (1, .int x1), (2, .int x2), (3, .int x3), (5, .int x5)] [] h = if x3 ≤ x5 then ax_run m_X8_ways 99 [(0, .ref 47), (2, .int x2)] [] h else (rV m_X8_waysOn [.ref 47, .int x1] h).bind (fun q1 => ax_run m_X8_ways 82 [(0, .ref 47), (1, .int x1), (2, .int x2), (3, .int x3), (5, .int (x5 + 1))] [] q1) := (ax_run_eq _ _ _ _ _).trans rfl
set_option maxRecDepth 100000 in
theorem q_X8_ways_99 (x2 : Int32) (h : ax_Hp) : ax_run m_X8_ways 99 [(0, .ref 47), (2, .int x2)] [] h = ax_g (ax_in x2 8) (some (some (.long (h.2.1 63 x2.toNatClampNeg)), h)) := (ax_run_eq _ _ _ _ _).trans rfl
set_option maxRecDepth 100000 in
theorem q_X8_atThen_0 (x1 : Int32) (x2 : Int32) (h : ax_Hp) : ax_run m_X8_atThen 0 [(0, .ref 47), (1, .int x1), (2, .int x2)] [] h = (rI m_X8_isWall [.ref 47, .int x1] h).bind (fun q1 => if q1.1 = 0 then ax_run m_X8_atThen 16 [(0, .ref 47), (1, .int x1), (2, .int x2)] [.int ((-1))] q1.2 else ax_run m_X8_atThen 12 [(0, .ref 47), (1, .int x1), (2, .int x2)] [] q1.2) := (ax_run_eq _ _ _ _ _).trans rfl
set_option maxRecDepth 100000 in
theorem q_X8_atThen_12 (x1 : Int32) (x2 : Int32) (h : ax_Hp) : ax_run m_X8_atThen 12 [(0, .ref 47), (1, .int x1), (2, .int x2)] [] h = (rI m_X8_notHours [.int x2] h).bind (fun q1 => ax_run m_X8_atThen 16 [(0, .ref 47), (1, .int x1), (2, .int x2)] [.int q1.1] q1.2) := (ax_run_eq _ _ _ _ _).trans rfl
set_option maxRecDepth 100000 in
theorem q_X8_atThen_16 (x1 : Int32) (x2 : Int32) (s0 : Int32) (h : ax_Hp) : ax_run m_X8_atThen 16 [(0, .ref 47), (1, .int x1), (2, .int x2)] [.int s0] h = if s0 = 0 then ax_run m_X8_atThen 27 [(0, .ref 47), (1, .int x1), (2, .int x2)] [] h else (rI m_X8_no [.ref 47, .int s0] h).bind (fun q1 => some (some (.int q1.1), q1.2)) := (ax_run_eq _ _ _ _ _).trans rfl
set_option maxRecDepth 100000 in
theorem q_X8_atThen_27 (x1 : Int32) (x2 : Int32) (h : ax_Hp) : ax_run m_X8_atThen 27 [(0, .ref 47), (1, .int x1), (2, .int x2)] [] h = (rV m_X8_minds [.ref 47] h).bind (fun q1 => (rV m_X8_goes_ [.ref 47, .int x2] q1).bind (fun q2 => ax_g (ax_in x1 7) ((rV m_X8_forgets [.ref 47] q2).bind (fun q3 => some (some (.int (q2.1 52 x1.toNatClampNeg)), q3))))) := (ax_run_eq _ _ _ _ _).trans rfl
set_option maxRecDepth 100000 in
theorem q_X8_lacksThen_0 (x1 : Int32) (x2 : Int32) (h : ax_Hp) : ax_run m_X8_lacksThen 0 [(0, .ref 47), (1, .int x1), (2, .int x2)] [] h = (rI m_X8_isHouse [.int x1] h).bind (fun q1 => if q1.1 = 0 then ax_run m_X8_lacksThen 15 [(0, .ref 47), (1, .int x1), (2, .int x2)] [.int ((-1))] q1.2 else ax_run m_X8_lacksThen 11 [(0, .ref 47), (1, .int x1), (2, .int x2)] [] q1.2) := (ax_run_eq _ _ _ _ _).trans rfl
set_option maxRecDepth 100000 in
theorem q_X8_lacksThen_11 (x1 : Int32) (x2 : Int32) (h : ax_Hp) : ax_run m_X8_lacksThen 11 [(0, .ref 47), (1, .int x1), (2, .int x2)] [] h = (rI m_X8_notHours [.int x2] h).bind (fun q1 => ax_run m_X8_lacksThen 15 [(0, .ref 47), (1, .int x1), (2, .int x2)] [.int q1.1] q1.2) := (ax_run_eq _ _ _ _ _).trans rfl
set_option maxRecDepth 100000 in
theorem q_X8_lacksThen_15 (x1 : Int32) (x2 : Int32) (s0 : Int32) (h : ax_Hp) : ax_run m_X8_lacksThen 15 [(0, .ref 47), (1, .int x1), (2, .int x2)] [.int s0] h = if s0 = 0 then ax_run m_X8_lacksThen 28 [(0, .ref 47), (1, .int x1), (2, .int x2)] [] h else (rI m_X8_no [.ref 47, .int s0] h).bind (fun q1 => ax_run m_X8_lacksThen 34 [] [.int q1.1] q1.2) := (ax_run_eq _ _ _ _ _).trans rfl
set_option maxRecDepth 100000 in
theorem q_X8_lacksThen_28 (x1 : Int32) (x2 : Int32) (h : ax_Hp) : ax_run m_X8_lacksThen 28 [(0, .ref 47), (1, .int x1), (2, .int x2)] [] h = (rI m_X8_lacksIn [.ref 47, .int x1, .int x2] h).bind (fun q1 => ax_run m_X8_lacksThen 34 [] [.int q1.1] q1.2) := (ax_run_eq _ _ _ _ _).trans rfl
set_option maxRecDepth 100000 in
theorem q_X8_lacksThen_34 (s0 : Int32) (h : ax_Hp) : ax_run m_X8_lacksThen 34 [] [.int s0] h = some (some (.int s0), h) := (ax_run_eq _ _ _ _ _).trans rfl
set_option maxRecDepth 100000 in
theorem q_X8_rain_0 (x1 : Int32) (x2 : Int32) (x3 : Int32) (x4 : Int32) (h : ax_Hp) : ax_run m_X8_rain 0 [(0, .ref 47), (1, .int x1), (2, .int x2), (3, .int x3), (4, .int x4)] [] h = (rI m_X8_isHouse [.int x1] h).bind (fun q1 => if q1.1 = 0 then ax_run m_X8_rain 58 [(0, .ref 47), (1, .int x1), (2, .int x2), (3, .int x3), (4, .int x4)] [.int ((-1))] q1.2 else ax_run m_X8_rain 11 [(0, .ref 47), (1, .int x1), (2, .int x2), (3, .int x3), (4, .int x4)] [] q1.2) := (ax_run_eq _ _ _ _ _).trans rfl
set_option maxRecDepth 100000 in
theorem q_X8_rain_11 (x1 : Int32) (x2 : Int32) (x3 : Int32) (x4 : Int32) (h : ax_Hp) : ax_run m_X8_rain 11 [(0, .ref 47), (1, .int x1), (2, .int x2), (3, .int x3), (4, .int x4)] [] h = if x2 < 0 then ax_run m_X8_rain 20 [(0, .ref 47), (1, .int x1), (2, .int x2), (3, .int x3), (4, .int x4)] [] h else if 2 ≤ x3 then ax_run m_X8_rain 25 [(0, .ref 47), (1, .int x1), (2, .int x2), (3, .int x3), (4, .int x4)] [] h else ax_run m_X8_rain 20 [(0, .ref 47), (1, .int x1), (2, .int x2), (3, .int x3), (4, .int x4)] [] h := (ax_run_eq _ _ _ _ _).trans rfl
set_option maxRecDepth 100000 in
theorem q_X8_rain_20 (x1 : Int32) (x2 : Int32) (x3 : Int32) (x4 : Int32) (h : ax_Hp) : ax_run m_X8_rain 20 [(0, .ref 47), (1, .int x1), (2, .int x2), (3, .int x3), (4, .int x4)] [] h = ax_run m_X8_rain 58 [(0, .ref 47), (1, .int x1), (2, .int x2), (3, .int x3), (4, .int x4)] [.int ((-4))] h := (ax_run_eq _ _ _ _ _).trans rfl
set_option maxRecDepth 100000 in
theorem q_X8_rain_25 (x1 : Int32) (x2 : Int32) (x3 : Int32) (x4 : Int32) (h : ax_Hp) : ax_run m_X8_rain 25 [(0, .ref 47), (1, .int x1), (2, .int x2), (3, .int x3), (4, .int x4)] [] h = if 6 < x2 then ax_run m_X8_rain 37 [(0, .ref 47), (1, .int x1), (2, .int x2), (3, .int x3), (4, .int x4)] [] h else if x3 ≤ 20 then ax_run m_X8_rain 42 [(0, .ref 47), (1, .int x1), (2, .int x2), (3, .int x3), (4, .int x4)] [] h else ax_run m_X8_rain 37 [(0, .ref 47), (1, .int x1), (2, .int x2), (3, .int x3), (4, .int x4)] [] h := (ax_run_eq _ _ _ _ _).trans rfl
set_option maxRecDepth 100000 in
theorem q_X8_rain_37 (x1 : Int32) (x2 : Int32) (x3 : Int32) (x4 : Int32) (h : ax_Hp) : ax_run m_X8_rain 37 [(0, .ref 47), (1, .int x1), (2, .int x2), (3, .int x3), (4, .int x4)] [] h = ax_run m_X8_rain 58 [(0, .ref 47), (1, .int x1), (2, .int x2), (3, .int x3), (4, .int x4)] [.int ((-6))] h := (ax_run_eq _ _ _ _ _).trans rfl
set_option maxRecDepth 100000 in
theorem q_X8_rain_42 (x1 : Int32) (x2 : Int32) (x3 : Int32) (x4 : Int32) (h : ax_Hp) : ax_run m_X8_rain 42 [(0, .ref 47), (1, .int x1), (2, .int x2), (3, .int x3), (4, .int x4)] [] h = (rI m_X8_isIn [.int x4, .int 0, .int 1] h).bind (fun q1 => if q1.1 = 0 then ax_run m_X8_rain 58 [(0, .ref 47), (1, .int x1), (2, .int x2), (3, .int x3), (4, .int x4)] [.int ((-2))] q1.2 else ax_run m_X8_rain 57 [(0, .ref 47), (1, .int x1), (2, .int x2), (3, .int x3), (4, .int x4)] [] q1.2) := (ax_run_eq _ _ _ _ _).trans rfl
set_option maxRecDepth 100000 in
theorem q_X8_rain_57 (x1 : Int32) (x2 : Int32) (x3 : Int32) (x4 : Int32) (h : ax_Hp) : ax_run m_X8_rain 57 [(0, .ref 47), (1, .int x1), (2, .int x2), (3, .int x3), (4, .int x4)] [] h = ax_run m_X8_rain 58 [(0, .ref 47), (1, .int x1), (2, .int x2), (3, .int x3), (4, .int x4)] [.int 0] h := (ax_run_eq _ _ _ _ _).trans rfl
set_option maxRecDepth 100000 in
theorem q_X8_rain_58 (x1 : Int32) (x2 : Int32) (x3 : Int32) (x4 : Int32) (s0 : Int32) (h : ax_Hp) : ax_run m_X8_rain 58 [(0, .ref 47), (1, .int x1), (2, .int x2), (3, .int x3), (4, .int x4)] [.int s0] h = if s0 = 0 then ax_run m_X8_rain 72 [(0, .ref 47), (1, .int x1), (2, .int x2), (3, .int x3), (4, .int x4)] [] h else (rL m_X8_lowestOf [.ref 47, .int s0] h).bind (fun q1 => some (some (.long q1.1), q1.2)) := (ax_run_eq _ _ _ _ _).trans rfl
set_option maxRecDepth 100000 in
theorem q_X8_rain_72 (x1 : Int32) (x2 : Int32) (x3 : Int32) (x4 : Int32) (h : ax_Hp) : ax_run m_X8_rain 72 [(0, .ref 47), (1, .int x1), (2, .int x2), (3, .int x3), (4, .int x4)] [] h = ax_run m_X8_rain 81 [(0, .ref 47), (1, .int x1), (2, .int x2), (3, .int x3), (4, .int x4), (6, .long 0), (8, .long 1), (10, .int 0)] [] h := (ax_run_eq _ _ _ _ _).trans rfl
set_option maxRecDepth 100000 in
theorem q_X8_rain_81 (x1 : Int32) (x2 : Int32) (x3 : Int32) (x4 : Int32) (x6 : Int64) (x8 : Int64) (x10 : Int32) (h : ax_Hp) : ax_run m_X8_rain 81 [(0, .ref 47), (1, .int x1), (2, .int x2), (3, .int x3), (4, .int x4), (6, .long x6), (8, .long x8), (10, .int x10)] [] h = if x2 ≤ x10 then ax_run m_X8_rain 100 [(0, .ref 47), (1, .int x1), (2, .int x2), (3, .int x3), (4, .int x4), (6, .long x6), (8, .long x8)] [] h else ax_run m_X8_rain 81 [(0, .ref 47), (1, .int x1), (2, .int x2), (3, .int x3), (4, .int x4), (6, .long x6), (8, .long (x8 * x3.toInt64)), (10, .int (x10 + 1))] [] h := (ax_run_eq _ _ _ _ _).trans rfl
set_option maxRecDepth 100000 in
theorem q_X8_rain_100 (x1 : Int32) (x2 : Int32) (x3 : Int32) (x4 : Int32) (x6 : Int64) (x8 : Int64) (h : ax_Hp) : ax_run m_X8_rain 100 [(0, .ref 47), (1, .int x1), (2, .int x2), (3, .int x3), (4, .int x4), (6, .long x6), (8, .long x8)] [] h = ax_run m_X8_rain 103 [(0, .ref 47), (1, .int x1), (2, .int x2), (3, .int x3), (4, .int x4), (6, .long x6), (8, .long x8), (10, .int 0)] [] h := (ax_run_eq _ _ _ _ _).trans rfl
set_option maxRecDepth 100000 in
theorem q_X8_rain_103 (x1 : Int32) (x2 : Int32) (x3 : Int32) (x4 : Int32) (x6 : Int64) (x8 : Int64) (x10 : Int32) (h : ax_Hp) : ax_run m_X8_rain 103 [(0, .ref 47), (1, .int x1), (2, .int x2), (3, .int x3), (4, .int x4), (6, .long x6), (8, .long x8), (10, .int x10)] [] h = if 1 <<< (x2 &&& 31) ≤ x10 then ax_run m_X8_rain 202 [(4, .int x4), (6, .long x6), (8, .long x8)] [] h else (rV m_X8_minds [.ref 47] h).bind (fun q1 => ax_run m_X8_rain 121 [(0, .ref 47), (1, .int x1), (2, .int x2), (3, .int x3), (4, .int x4), (6, .long x6), (8, .long x8), (10, .int x10), (11, .long 1), (13, .int 0)] [] q1) := (ax_run_eq _ _ _ _ _).trans rfl
set_option maxRecDepth 100000 in
theorem q_X8_rain_121 (x1 : Int32) (x2 : Int32) (x3 : Int32) (x4 : Int32) (x6 : Int64) (x8 : Int64) (x10 : Int32) (x11 : Int64) (x13 : Int32) (h : ax_Hp) : ax_run m_X8_rain 121 [(0, .ref 47), (1, .int x1), (2, .int x2), (3, .int x3), (4, .int x4), (6, .long x6), (8, .long x8), (10, .int x10), (11, .long x11), (13, .int x13)] [] h = if x2 ≤ x13 then ax_run m_X8_rain 168 [(0, .ref 47), (1, .int x1), (2, .int x2), (3, .int x3), (4, .int x4), (6, .long x6), (8, .long x8), (10, .int x10), (11, .long x11)] [] h else (rI m_X8_has [.int x10, .int x13] h).bind (fun q1 => ax_g (true && (decide (q1.1 = 0) || decide (q1.1 = 1))) (if (wI q1.2 47 22 q1.1).1 47 22 = 0 then ax_run m_X8_rain 151 [(0, .ref 47), (1, .int x1), (2, .int x2), (3, .int x3), (4, .int x4), (6, .long x6), (8, .long x8), (10, .int x10), (13, .int x13)] [.long x11] (wI q1.2 47 22 q1.1) else ax_run m_X8_rain 155 [(0, .ref 47), (1, .int x1), (2, .int x2), (3, .int x3), (4, .int x4), (6, .long x6), (8, .long x8), (10, .int x10), (13, .int x13)] [.long 1, .long x11] (wI q1.2 47 22 q1.1))) := (ax_run_eq _ _ _ _ _).trans rfl
set_option maxRecDepth 100000 in
theorem q_X8_rain_151 (x1 : Int32) (x2 : Int32) (x3 : Int32) (x4 : Int32) (x6 : Int64) (x8 : Int64) (x10 : Int32) (x13 : Int32) (s0 : Int64) (h : ax_Hp) : ax_run m_X8_rain 151 [(0, .ref 47), (1, .int x1), (2, .int x2), (3, .int x3), (4, .int x4), (6, .long x6), (8, .long x8), (10, .int x10), (13, .int x13)] [.long s0] h = ax_run m_X8_rain 155 [(0, .ref 47), (1, .int x1), (2, .int x2), (3, .int x3), (4, .int x4), (6, .long x6), (8, .long x8), (10, .int x10), (13, .int x13)] [.long ((x3 - 1).toInt64), .long s0] h := (ax_run_eq _ _ _ _ _).trans rfl
set_option maxRecDepth 100000 in
theorem q_X8_rain_155 (x1 : Int32) (x2 : Int32) (x3 : Int32) (x4 : Int32) (x6 : Int64) (x8 : Int64) (x10 : Int32) (x13 : Int32) (s0 : Int64) (s1 : Int64) (h : ax_Hp) : ax_run m_X8_rain 155 [(0, .ref 47), (1, .int x1), (2, .int x2), (3, .int x3), (4, .int x4), (6, .long x6), (8, .long x8), (10, .int x10), (13, .int x13)] [.long s0, .long s1] h = (rV m_X8_goesHour [.ref 47] h).bind (fun q1 => ax_run m_X8_rain 121 [(0, .ref 47), (1, .int x1), (2, .int x2), (3, .int x3), (4, .int x4), (6, .long x6), (8, .long x8), (10, .int x10), (11, .long (s1 * s0)), (13, .int (x13 + 1))] [] q1) := (ax_run_eq _ _ _ _ _).trans rfl
set_option maxRecDepth 100000 in
theorem q_X8_rain_168 (x1 : Int32) (x2 : Int32) (x3 : Int32) (x4 : Int32) (x6 : Int64) (x8 : Int64) (x10 : Int32) (x11 : Int64) (h : ax_Hp) : ax_run m_X8_rain 168 [(0, .ref 47), (1, .int x1), (2, .int x2), (3, .int x3), (4, .int x4), (6, .long x6), (8, .long x8), (10, .int x10), (11, .long x11)] [] h = (rI m_X8_lacks [.ref 47, .int x1] h).bind (fun q1 => if q1.1 ≤ 0 then ax_run m_X8_rain 183 [(0, .ref 47), (1, .int x1), (2, .int x2), (3, .int x3), (4, .int x4), (8, .long x8), (10, .int x10)] [.long x6] q1.2 else ax_run m_X8_rain 184 [(0, .ref 47), (1, .int x1), (2, .int x2), (3, .int x3), (4, .int x4), (8, .long x8), (10, .int x10)] [.long x11, .long x6] q1.2) := (ax_run_eq _ _ _ _ _).trans rfl
set_option maxRecDepth 100000 in
theorem q_X8_rain_183 (x1 : Int32) (x2 : Int32) (x3 : Int32) (x4 : Int32) (x8 : Int64) (x10 : Int32) (s0 : Int64) (h : ax_Hp) : ax_run m_X8_rain 183 [(0, .ref 47), (1, .int x1), (2, .int x2), (3, .int x3), (4, .int x4), (8, .long x8), (10, .int x10)] [.long s0] h = ax_run m_X8_rain 184 [(0, .ref 47), (1, .int x1), (2, .int x2), (3, .int x3), (4, .int x4), (8, .long x8), (10, .int x10)] [.long 0, .long s0] h := (ax_run_eq _ _ _ _ _).trans rfl
set_option maxRecDepth 100000 in
theorem q_X8_rain_184 (x1 : Int32) (x2 : Int32) (x3 : Int32) (x4 : Int32) (x8 : Int64) (x10 : Int32) (s0 : Int64) (s1 : Int64) (h : ax_Hp) : ax_run m_X8_rain 184 [(0, .ref 47), (1, .int x1), (2, .int x2), (3, .int x3), (4, .int x4), (8, .long x8), (10, .int x10)] [.long s0, .long s1] h = (rV m_X8_forgets [.ref 47] (wI h 47 22 0)).bind (fun q1 => ax_run m_X8_rain 103 [(0, .ref 47), (1, .int x1), (2, .int x2), (3, .int x3), (4, .int x4), (6, .long (s1 + s0)), (8, .long x8), (10, .int (x10 + 1))] [] q1) := (ax_run_eq _ _ _ _ _).trans rfl
set_option maxRecDepth 100000 in
theorem q_X8_rain_202 (x4 : Int32) (x6 : Int64) (x8 : Int64) (h : ax_Hp) : ax_run m_X8_rain 202 [(4, .int x4), (6, .long x6), (8, .long x8)] [] h = (rL m_X8_partOf [.long x6, .long x8, .int x4] h).bind (fun q1 => some (some (.long q1.1), q1.2)) := (ax_run_eq _ _ _ _ _).trans rfl
set_option maxRecDepth 100000 in
theorem q_X8_split_0 (x1 : Int32) (x2 : Int32) (x3 : Int32) (h : ax_Hp) : ax_run m_X8_split 0 [(0, .ref 47), (1, .int x1), (2, .int x2), (3, .int x3)] [] h = (rI m_X8_areTwo [.int x1, .int x2] h).bind (fun q1 => if q1.1 = 0 then ax_run m_X8_split 27 [(0, .ref 47), (1, .int x1), (2, .int x2), (3, .int x3)] [.int ((-1))] q1.2 else ax_run m_X8_split 12 [(0, .ref 47), (1, .int x1), (2, .int x2), (3, .int x3)] [] q1.2) := (ax_run_eq _ _ _ _ _).trans rfl
set_option maxRecDepth 100000 in
theorem q_X8_split_12 (x1 : Int32) (x2 : Int32) (x3 : Int32) (h : ax_Hp) : ax_run m_X8_split 12 [(0, .ref 47), (1, .int x1), (2, .int x2), (3, .int x3)] [] h = (rI m_X8_isIn [.int x3, .int 0, .int 2] h).bind (fun q1 => if q1.1 = 0 then ax_run m_X8_split 27 [(0, .ref 47), (1, .int x1), (2, .int x2), (3, .int x3)] [.int ((-2))] q1.2 else ax_run m_X8_split 26 [(0, .ref 47), (1, .int x1), (2, .int x2), (3, .int x3)] [] q1.2) := (ax_run_eq _ _ _ _ _).trans rfl
set_option maxRecDepth 100000 in
theorem q_X8_split_26 (x1 : Int32) (x2 : Int32) (x3 : Int32) (h : ax_Hp) : ax_run m_X8_split 26 [(0, .ref 47), (1, .int x1), (2, .int x2), (3, .int x3)] [] h = ax_run m_X8_split 27 [(0, .ref 47), (1, .int x1), (2, .int x2), (3, .int x3)] [.int 0] h := (ax_run_eq _ _ _ _ _).trans rfl
set_option maxRecDepth 100000 in
theorem q_X8_split_27 (x1 : Int32) (x2 : Int32) (x3 : Int32) (s0 : Int32) (h : ax_Hp) : ax_run m_X8_split 27 [(0, .ref 47), (1, .int x1), (2, .int x2), (3, .int x3)] [.int s0] h = if s0 = 0 then ax_run m_X8_split 41 [(0, .ref 47), (1, .int x1), (2, .int x2), (3, .int x3)] [] h else (rI m_X8_no [.ref 47, .int s0] h).bind (fun q1 => some (some (.int q1.1), q1.2)) := (ax_run_eq _ _ _ _ _).trans rfl
set_option maxRecDepth 100000 in
theorem q_X8_split_41 (x1 : Int32) (x2 : Int32) (x3 : Int32) (h : ax_Hp) : ax_run m_X8_split 41 [(0, .ref 47), (1, .int x1), (2, .int x2), (3, .int x3)] [] h = ax_run m_X8_split 56 [(0, .ref 47), (1, .int x1), (2, .int x2), (3, .int x3), (5, .int ((-9))), (6, .int ((-9))), (7, .int ((-9))), (8, .int 0)] [] h := (ax_run_eq _ _ _ _ _).trans rfl
set_option maxRecDepth 100000 in
theorem q_X8_split_56 (x1 : Int32) (x2 : Int32) (x3 : Int32) (x5 : Int32) (x6 : Int32) (x7 : Int32) (x8 : Int32) (h : ax_Hp) : ax_run m_X8_split 56 [(0, .ref 47), (1, .int x1), (2, .int x2), (3, .int x3), (5, .int x5), (6, .int x6), (7, .int x7), (8, .int x8)] [] h = (rI m_X8_threes [.int (h.1 47 8)] h).bind (fun q1 => if q1.1 ≤ x8 then ax_run m_X8_split 140 [(3, .int x3), (5, .int x5), (6, .int x6), (7, .int x7)] [] q1.2 else (rI m_X8_isSplit [.ref 47, .int x1, .int x2, .int x8] q1.2).bind (fun q2 => if q2.1 = 0 then ax_run m_X8_split 134 [(0, .ref 47), (1, .int x1), (2, .int x2), (3, .int x3), (5, .int x5), (6, .int x6), (7, .int x7), (8, .int x8)] [] q2.2 else ax_run m_X8_split 82 [(0, .ref 47), (1, .int x1), (2, .int x2), (3, .int x3), (5, .int x5), (6, .int x6), (7, .int x7), (8, .int x8)] [] q2.2)) := (ax_run_eq _ _ _ _ _).trans rfl
set_option maxRecDepth 100000 in
theorem q_X8_split_82 (x1 : Int32) (x2 : Int32) (x3 : Int32) (x5 : Int32) (x6 : Int32) (x7 : Int32) (x8 : Int32) (h : ax_Hp) : ax_run m_X8_split 82 [(0, .ref 47), (1, .int x1), (2, .int x2), (3, .int x3), (5, .int x5), (6, .int x6), (7, .int x7), (8, .int x8)] [] h = (rI m_X8_stepsTo [.ref 47, .int (h.1 47 28), .int x1] h).bind (fun q1 => (rI m_X8_stepsTo [.ref 47, .int (q1.2.1 47 29), .int x2] q1.2).bind (fun q2 => if x5 < 0 then ax_run m_X8_split 118 [(0, .ref 47), (1, .int x1), (2, .int x2), (3, .int x3), (8, .int x8), (9, .int (q1.1 + q2.1))] [] q2.2 else if q1.1 + q2.1 < x5 then ax_run m_X8_split 118 [(0, .ref 47), (1, .int x1), (2, .int x2), (3, .int x3), (8, .int x8), (9, .int (q1.1 + q2.1))] [] q2.2 else ax_run m_X8_split 134 [(0, .ref 47), (1, .int x1), (2, .int x2), (3, .int x3), (5, .int x5), (6, .int x6), (7, .int x7), (8, .int x8)] [] q2.2)) := (ax_run_eq _ _ _ _ _).trans rfl
set_option maxRecDepth 100000 in
theorem q_X8_split_118 (x1 : Int32) (x2 : Int32) (x3 : Int32) (x8 : Int32) (x9 : Int32) (h : ax_Hp) : ax_run m_X8_split 118 [(0, .ref 47), (1, .int x1), (2, .int x2), (3, .int x3), (8, .int x8), (9, .int x9)] [] h = ax_run m_X8_split 134 [(0, .ref 47), (1, .int x1), (2, .int x2), (3, .int x3), (5, .int x9), (6, .int (h.1 47 28)), (7, .int (h.1 47 29)), (8, .int x8)] [] h := (ax_run_eq _ _ _ _ _).trans rfl
set_option maxRecDepth 100000 in
theorem q_X8_split_134 (x1 : Int32) (x2 : Int32) (x3 : Int32) (x5 : Int32) (x6 : Int32) (x7 : Int32) (x8 : Int32) (h : ax_Hp) : ax_run m_X8_split 134 [(0, .ref 47), (1, .int x1), (2, .int x2), (3, .int x3), (5, .int x5), (6, .int x6), (7, .int x7), (8, .int x8)] [] h = ax_run m_X8_split 56 [(0, .ref 47), (1, .int x1), (2, .int x2), (3, .int x3), (5, .int x5), (6, .int x6), (7, .int x7), (8, .int (x8 + 1))] [] h := (ax_run_eq _ _ _ _ _).trans rfl
set_option maxRecDepth 100000 in
theorem q_X8_split_140 (x3 : Int32) (x5 : Int32) (x6 : Int32) (x7 : Int32) (h : ax_Hp) : ax_run m_X8_split 140 [(3, .int x3), (5, .int x5), (6, .int x6), (7, .int x7)] [] h = if x3 = 0 then ax_run m_X8_split 161 [] [.int x5] h else ax_run m_X8_split 149 [(3, .int x3), (6, .int x6), (7, .int x7)] [] h := (ax_run_eq _ _ _ _ _).trans rfl
set_option maxRecDepth 100000 in
theorem q_X8_split_149 (x3 : Int32) (x6 : Int32) (x7 : Int32) (h : ax_Hp) : ax_run m_X8_split 149 [(3, .int x3), (6, .int x6), (7, .int x7)] [] h = if x3 = 1 then ax_run m_X8_split 161 [] [.int x6] h else ax_run m_X8_split 159 [(7, .int x7)] [] h := (ax_run_eq _ _ _ _ _).trans rfl
set_option maxRecDepth 100000 in
theorem q_X8_split_159 (x7 : Int32) (h : ax_Hp) : ax_run m_X8_split 159 [(7, .int x7)] [] h = ax_run m_X8_split 161 [] [.int x7] h := (ax_run_eq _ _ _ _ _).trans rfl
set_option maxRecDepth 100000 in
theorem q_X8_split_161 (s0 : Int32) (h : ax_Hp) : ax_run m_X8_split 161 [] [.int s0] h = some (some (.int s0), h) := (ax_run_eq _ _ _ _ _).trans rfl
set_option maxRecDepth 100000 in
theorem q_X8_lots_0 (x1 : Int32) (x2 : Int32) (x3 : Int32) (h : ax_Hp) : ax_run m_X8_lots 0 [(0, .ref 47), (1, .int x1), (2, .int x2), (3, .int x3)] [] h = (rI m_X8_bound [.int x1, .int 1, .int 20] h).bind (fun q1 => if q1.1 = 0 then (rI m_X8_isIn [.int x3, .int 0, .int 1] q1.2).bind (fun q2 => if q2.1 = 0 then ax_run m_X8_lots 27 [(0, .ref 47), (1, .int x1), (2, .int x2), (3, .int x3), (4, .int ((-2)))] [] q2.2 else ax_run m_X8_lots 27 [(0, .ref 47), (1, .int x1), (2, .int x2), (3, .int x3), (4, .int q1.1)] [] q2.2) else ax_run m_X8_lots 27 [(0, .ref 47), (1, .int x1), (2, .int x2), (3, .int x3), (4, .int q1.1)] [] q1.2) := (ax_run_eq _ _ _ _ _).trans rfl
set_option maxRecDepth 100000 in
theorem q_X8_lots_27 (x1 : Int32) (x2 : Int32) (x3 : Int32) (x4 : Int32) (h : ax_Hp) : ax_run m_X8_lots 27 [(0, .ref 47), (1, .int x1), (2, .int x2), (3, .int x3), (4, .int x4)] [] h = if x4 = 0 then ax_run m_X8_lots 39 [(0, .ref 47), (1, .int x1), (2, .int x2), (3, .int x3)] [] h else (rI m_X8_no [.ref 47, .int x4] h).bind (fun q1 => some (some (.int q1.1), q1.2)) := (ax_run_eq _ _ _ _ _).trans rfl
set_option maxRecDepth 100000 in
theorem q_X8_lots_39 (x1 : Int32) (x2 : Int32) (x3 : Int32) (h : ax_Hp) : ax_run m_X8_lots 39 [(0, .ref 47), (1, .int x1), (2, .int x2), (3, .int x3)] [] h = ax_run m_X8_lots 50 [(0, .ref 47), (1, .int x1), (3, .int x3), (5, .int 0), (6, .int 0)] [] (wI h 47 35 x2) := (ax_run_eq _ _ _ _ _).trans rfl
set_option maxRecDepth 100000 in
theorem q_X8_lots_50 (x1 : Int32) (x3 : Int32) (x5 : Int32) (x6 : Int32) (h : ax_Hp) : ax_run m_X8_lots 50 [(0, .ref 47), (1, .int x1), (3, .int x3), (5, .int x5), (6, .int x6)] [] h = if x1 ≤ x6 then ax_run m_X8_lots 130 [(5, .int x5)] [] h else (rV m_X8_minds [.ref 47] h).bind (fun q1 => ax_run m_X8_lots 63 [(0, .ref 47), (1, .int x1), (3, .int x3), (5, .int x5), (6, .int x6), (7, .int 0)] [] q1) := (ax_run_eq _ _ _ _ _).trans rfl
set_option maxRecDepth 100000 in
theorem q_X8_lots_63 (x1 : Int32) (x3 : Int32) (x5 : Int32) (x6 : Int32) (x7 : Int32) (h : ax_Hp) : ax_run m_X8_lots 63 [(0, .ref 47), (1, .int x1), (3, .int x3), (5, .int x5), (6, .int x6), (7, .int x7)] [] h = if h.1 47 8 ≤ x7 then ax_run m_X8_lots 91 [(0, .ref 47), (1, .int x1), (3, .int x3), (5, .int x5), (6, .int x6)] [] h else (rI m_X8_draw [.ref 47, .int 8] h).bind (fun q1 => ax_g (ax_in x7 7) (ax_run m_X8_lots 63 [(0, .ref 47), (1, .int x1), (3, .int x3), (5, .int x5), (6, .int x6), (7, .int (x7 + 1))] [] (wI q1.2 52 x7.toNatClampNeg q1.1))) := (ax_run_eq _ _ _ _ _).trans rfl
set_option maxRecDepth 100000 in
theorem q_X8_lots_91 (x1 : Int32) (x3 : Int32) (x5 : Int32) (x6 : Int32) (h : ax_Hp) : ax_run m_X8_lots 91 [(0, .ref 47), (1, .int x1), (3, .int x3), (5, .int x5), (6, .int x6)] [] h = (rV m_X8_goes_ [.ref 47, .int 6] h).bind (fun q1 => if x3 = 0 then (rI m_X8_all [.ref 47] q1).bind (fun q2 => ax_run m_X8_lots 117 [(0, .ref 47), (1, .int x1), (3, .int x3), (6, .int x6)] [.int q2.1, .int x5] q2.2) else ax_run m_X8_lots 110 [(0, .ref 47), (1, .int x1), (3, .int x3), (6, .int x6)] [.int x5] q1) := (ax_run_eq _ _ _ _ _).trans rfl
set_option maxRecDepth 100000 in
theorem q_X8_lots_110 (x1 : Int32) (x3 : Int32) (x6 : Int32) (s0 : Int32) (h : ax_Hp) : ax_run m_X8_lots 110 [(0, .ref 47), (1, .int x1), (3, .int x3), (6, .int x6)] [.int s0] h = (rI m_X8_seenNow [.ref 47] h).bind (fun q1 => (rI m_X8_bits [.int q1.1] q1.2).bind (fun q2 => ax_run m_X8_lots 117 [(0, .ref 47), (1, .int x1), (3, .int x3), (6, .int x6)] [.int q2.1, .int s0] q2.2)) := (ax_run_eq _ _ _ _ _).trans rfl
set_option maxRecDepth 100000 in
theorem q_X8_lots_117 (x1 : Int32) (x3 : Int32) (x6 : Int32) (s0 : Int32) (s1 : Int32) (h : ax_Hp) : ax_run m_X8_lots 117 [(0, .ref 47), (1, .int x1), (3, .int x3), (6, .int x6)] [.int s0, .int s1] h = (rV m_X8_forgets [.ref 47] h).bind (fun q1 => ax_run m_X8_lots 50 [(0, .ref 47), (1, .int x1), (3, .int x3), (5, .int (s1 + s0)), (6, .int (x6 + 1))] [] q1) := (ax_run_eq _ _ _ _ _).trans rfl
set_option maxRecDepth 100000 in
theorem q_X8_lots_130 (x5 : Int32) (h : ax_Hp) : ax_run m_X8_lots 130 [(5, .int x5)] [] h = some (some (.int x5), h) := (ax_run_eq _ _ _ _ _).trans rfl
set_option maxRecDepth 100000 in
theorem q_X8_panes_0 (x1 : Int32) (h : ax_Hp) : ax_run m_X8_panes 0 [(0, .ref 47), (1, .int x1)] [] h = (rI m_X8_isWall [.ref 47, .int x1] h).bind (fun q1 => if q1.1 = 0 then (rI m_X8_no [.ref 47, .int ((-1))] q1.2).bind (fun q2 => some (some (.int q2.1), q2.2)) else ax_run m_X8_panes 14 [(0, .ref 47), (1, .int x1)] [] q1.2) := (ax_run_eq _ _ _ _ _).trans rfl
set_option maxRecDepth 100000 in
theorem q_X8_panes_14 (x1 : Int32) (h : ax_Hp) : ax_run m_X8_panes 14 [(0, .ref 47), (1, .int x1)] [] h = ax_g (ax_in x1 7) (if h.1 49 x1.toNatClampNeg = 3 then ax_run m_X8_panes 41 [(0, .ref 47), (1, .int x1)] [] h else ax_g (ax_in x1 7) (if h.1 49 x1.toNatClampNeg = 5 then ax_run m_X8_panes 41 [(0, .ref 47), (1, .int x1)] [] h else (rI m_X8_no [.ref 47, .int ((-3))] h).bind (fun q1 => some (some (.int q1.1), q1.2)))) := (ax_run_eq _ _ _ _ _).trans rfl
set_option maxRecDepth 100000 in
theorem q_X8_panes_41 (x1 : Int32) (h : ax_Hp) : ax_run m_X8_panes 41 [(0, .ref 47), (1, .int x1)] [] h = ax_g (ax_in x1 7) (ax_g (ax_in x1 7) (if h.1 49 x1.toNatClampNeg = 5 then ax_run m_X8_panes 66 [] [.int 3, .int (1 + ((h.1 50 x1.toNatClampNeg) / 2))] h else ax_run m_X8_panes 65 [] [.int (1 + ((h.1 50 x1.toNatClampNeg) / 2))] h)) := (ax_run_eq _ _ _ _ _).trans rfl
set_option maxRecDepth 100000 in
theorem q_X8_panes_65 (s0 : Int32) (h : ax_Hp) : ax_run m_X8_panes 65 [] [.int s0] h = ax_run m_X8_panes 66 [] [.int 0, .int s0] h := (ax_run_eq _ _ _ _ _).trans rfl
set_option maxRecDepth 100000 in
theorem q_X8_panes_66 (s0 : Int32) (s1 : Int32) (h : ax_Hp) : ax_run m_X8_panes 66 [] [.int s0, .int s1] h = some (some (.int (s1 + s0)), h) := (ax_run_eq _ _ _ _ _).trans rfl
set_option maxRecDepth 100000 in
theorem q_X8_two_0 (x1 : Int32) (x2 : Int32) (x3 : Int32) (h : ax_Hp) : ax_run m_X8_two 0 [(0, .ref 47), (1, .int x1), (2, .int x2), (3, .int x3)] [] h = (rI m_X8_isWall [.ref 47, .int x1] h).bind (fun q1 => if q1.1 = 0 then ax_run m_X8_two 21 [(0, .ref 47), (1, .int x1), (2, .int x2), (3, .int x3)] [] q1.2 else (rI m_X8_isWall [.ref 47, .int x2] q1.2).bind (fun q2 => if q2.1 = 0 then ax_run m_X8_two 21 [(0, .ref 47), (1, .int x1), (2, .int x2), (3, .int x3)] [] q2.2 else if x1 = x2 then ax_run m_X8_two 21 [(0, .ref 47), (1, .int x1), (2, .int x2), (3, .int x3)] [] q2.2 else ax_run m_X8_two 25 [(0, .ref 47), (1, .int x1), (2, .int x2), (3, .int x3)] [] q2.2)) := (ax_run_eq _ _ _ _ _).trans rfl
set_option maxRecDepth 100000 in
theorem q_X8_two_21 (x1 : Int32) (x2 : Int32) (x3 : Int32) (h : ax_Hp) : ax_run m_X8_two 21 [(0, .ref 47), (1, .int x1), (2, .int x2), (3, .int x3)] [] h = ax_run m_X8_two 32 [(0, .ref 47), (1, .int x1), (2, .int x2), (3, .int x3)] [.int ((-1))] h := (ax_run_eq _ _ _ _ _).trans rfl
set_option maxRecDepth 100000 in
theorem q_X8_two_25 (x1 : Int32) (x2 : Int32) (x3 : Int32) (h : ax_Hp) : ax_run m_X8_two 25 [(0, .ref 47), (1, .int x1), (2, .int x2), (3, .int x3)] [] h = (rI m_X8_bound [.int x3, .int 0, .int 30] h).bind (fun q1 => ax_run m_X8_two 32 [(0, .ref 47), (1, .int x1), (2, .int x2), (3, .int x3)] [.int q1.1] q1.2) := (ax_run_eq _ _ _ _ _).trans rfl
set_option maxRecDepth 100000 in
theorem q_X8_two_32 (x1 : Int32) (x2 : Int32) (x3 : Int32) (s0 : Int32) (h : ax_Hp) : ax_run m_X8_two 32 [(0, .ref 47), (1, .int x1), (2, .int x2), (3, .int x3)] [.int s0] h = if s0 = 0 then ax_run m_X8_two 46 [(0, .ref 47), (1, .int x1), (2, .int x2), (3, .int x3)] [] h else (rI m_X8_no [.ref 47, .int s0] h).bind (fun q1 => some (some (.int q1.1), q1.2)) := (ax_run_eq _ _ _ _ _).trans rfl
set_option maxRecDepth 100000 in
theorem q_X8_two_46 (x1 : Int32) (x2 : Int32) (x3 : Int32) (h : ax_Hp) : ax_run m_X8_two 46 [(0, .ref 47), (1, .int x1), (2, .int x2), (3, .int x3)] [] h = (rV m_X8_findEnds [.ref 47, .int x1, .int x2, .int x3] h).bind (fun q1 => ax_run m_X8_two 56 [(0, .ref 47), (5, .int 0)] [] q1) := (ax_run_eq _ _ _ _ _).trans rfl
set_option maxRecDepth 100000 in
theorem q_X8_two_56 (x5 : Int32) (h : ax_Hp) : ax_run m_X8_two 56 [(0, .ref 47), (5, .int x5)] [] h = if 4 ≤ x5 then ax_run m_X8_two 131 [] [] h else ax_g (ax_in (2 * (x5 ^^^ 2)) 8) (ax_g (ax_in (2 * x5) 8) (if h.1 62 (2 * (x5 ^^^ 2)).toNatClampNeg < h.1 62 (2 * x5).toNatClampNeg then ax_run m_X8_two 125 [(0, .ref 47), (5, .int x5)] [] h else ax_g (ax_in ((2 * (x5 ^^^ 1)) + 1) 8) (ax_g (ax_in ((2 * x5) + 1) 8) (if h.1 62 ((2 * (x5 ^^^ 1)) + 1).toNatClampNeg < h.1 62 ((2 * x5) + 1).toNatClampNeg then ax_run m_X8_two 125 [(0, .ref 47), (5, .int x5)] [] h else some (some (.int ((10 * (x5 / 2)) + (x5 - x5 / 2 * 2))), h))))) := (ax_run_eq _ _ _ _ _).trans rfl
set_option maxRecDepth 100000 in
theorem q_X8_two_125 (x5 : Int32) (h : ax_Hp) : ax_run m_X8_two 125 [(0, .ref 47), (5, .int x5)] [] h = ax_run m_X8_two 56 [(0, .ref 47), (5, .int (x5 + 1))] [] h := (ax_run_eq _ _ _ _ _).trans rfl
set_option maxRecDepth 100000 in
theorem q_X8_two_131  (h : ax_Hp) : ax_run m_X8_two 131 [] [] h = some (some (.int ((-9))), h) := (ax_run_eq _ _ _ _ _).trans rfl
set_option maxRecDepth 100000 in
theorem q_X8_bars_0 (x1 : Int32) (x2 : Int32) (h : ax_Hp) : ax_run m_X8_bars 0 [(0, .ref 47), (1, .int x1), (2, .int x2)] [] h = (rI m_X8_areTwo [.int x1, .int x2] h).bind (fun q1 => if q1.1 = 0 then (rI m_X8_no [.ref 47, .int ((-1))] q1.2).bind (fun q2 => some (some (.int q2.1), q2.2)) else ax_run m_X8_bars 14 [(0, .ref 47), (1, .int x1), (2, .int x2)] [] q1.2) := (ax_run_eq _ _ _ _ _).trans rfl
set_option maxRecDepth 100000 in
theorem q_X8_bars_14 (x1 : Int32) (x2 : Int32) (h : ax_Hp) : ax_run m_X8_bars 14 [(0, .ref 47), (1, .int x1), (2, .int x2)] [] h = ax_g (ax_in x1 8) (ax_g (ax_in x1 8) (ax_g (ax_in x1 8) (some (some (.int ((((wI h 55 x1.toNatClampNeg ((h.1 55 x1.toNatClampNeg) ^^^ (1 <<< (x2 &&& 31)))).1 55 x1.toNatClampNeg) >>> (x2 &&& 31)) &&& 1)), wI h 55 x1.toNatClampNeg ((h.1 55 x1.toNatClampNeg) ^^^ (1 <<< (x2 &&& 31))))))) := (ax_run_eq _ _ _ _ _).trans rfl
set_option maxRecDepth 100000 in
theorem q_X8_sees_0 (x1 : Int32) (h : ax_Hp) : ax_run m_X8_sees 0 [(0, .ref 47), (1, .int x1)] [] h = (rI m_X8_isHouse [.int x1] h).bind (fun q1 => if q1.1 = 0 then (rI m_X8_no [.ref 47, .int ((-1))] q1.2).bind (fun q2 => some (some (.int q2.1), q2.2)) else ax_run m_X8_sees 13 [(0, .ref 47), (1, .int x1)] [] q1.2) := (ax_run_eq _ _ _ _ _).trans rfl
set_option maxRecDepth 100000 in
theorem q_X8_sees_13 (x1 : Int32) (h : ax_Hp) : ax_run m_X8_sees 13 [(0, .ref 47), (1, .int x1)] [] h = ax_run m_X8_sees 17 [(0, .ref 47), (1, .int x1), (2, .int 0), (3, .int 0)] [] h := (ax_run_eq _ _ _ _ _).trans rfl
set_option maxRecDepth 100000 in
theorem q_X8_sees_17 (x1 : Int32) (x2 : Int32) (x3 : Int32) (h : ax_Hp) : ax_run m_X8_sees 17 [(0, .ref 47), (1, .int x1), (2, .int x2), (3, .int x3)] [] h = if 8 ≤ x3 then ax_run m_X8_sees 48 [(2, .int x2)] [] h else (rI m_X8_sees_ [.ref 47, .int x3, .int x1] h).bind (fun q1 => if q1.1 = 0 then ax_run m_X8_sees 39 [(0, .ref 47), (1, .int x1), (3, .int x3)] [.int x2] q1.2 else ax_run m_X8_sees 40 [(0, .ref 47), (1, .int x1), (3, .int x3)] [.int (1 <<< (x3 &&& 31)), .int x2] q1.2) := (ax_run_eq _ _ _ _ _).trans rfl
set_option maxRecDepth 100000 in
theorem q_X8_sees_39 (x1 : Int32) (x3 : Int32) (s0 : Int32) (h : ax_Hp) : ax_run m_X8_sees 39 [(0, .ref 47), (1, .int x1), (3, .int x3)] [.int s0] h = ax_run m_X8_sees 40 [(0, .ref 47), (1, .int x1), (3, .int x3)] [.int 0, .int s0] h := (ax_run_eq _ _ _ _ _).trans rfl
set_option maxRecDepth 100000 in
theorem q_X8_sees_40 (x1 : Int32) (x3 : Int32) (s0 : Int32) (s1 : Int32) (h : ax_Hp) : ax_run m_X8_sees 40 [(0, .ref 47), (1, .int x1), (3, .int x3)] [.int s0, .int s1] h = ax_run m_X8_sees 17 [(0, .ref 47), (1, .int x1), (2, .int (s1 ||| s0)), (3, .int (x3 + 1))] [] h := (ax_run_eq _ _ _ _ _).trans rfl
set_option maxRecDepth 100000 in
theorem q_X8_sees_48 (x2 : Int32) (h : ax_Hp) : ax_run m_X8_sees 48 [(2, .int x2)] [] h = some (some (.int x2), h) := (ax_run_eq _ _ _ _ _).trans rfl
set_option maxRecDepth 100000 in
theorem q_X8_hours_0 (x1 : Int32) (h : ax_Hp) : ax_run m_X8_hours 0 [(0, .ref 47), (1, .int x1)] [] h = (rI m_X8_bound [.int x1, .int 1, .int 60] h).bind (fun q1 => if q1.1 = 0 then if (q1.2.1 47 9) + x1 ≤ 999 then ax_run m_X8_hours 27 [(0, .ref 47), (1, .int x1), (2, .int q1.1)] [] q1.2 else ax_run m_X8_hours 27 [(0, .ref 47), (1, .int x1), (2, .int ((-6)))] [] q1.2 else ax_run m_X8_hours 27 [(0, .ref 47), (1, .int x1), (2, .int q1.1)] [] q1.2) := (ax_run_eq _ _ _ _ _).trans rfl
set_option maxRecDepth 100000 in
theorem q_X8_hours_27 (x1 : Int32) (x2 : Int32) (h : ax_Hp) : ax_run m_X8_hours 27 [(0, .ref 47), (1, .int x1), (2, .int x2)] [] h = if x2 = 0 then ax_run m_X8_hours 37 [(0, .ref 47), (1, .int x1)] [] h else (rI m_X8_no [.ref 47, .int x2] h).bind (fun q1 => some (some (.int q1.1), q1.2)) := (ax_run_eq _ _ _ _ _).trans rfl
set_option maxRecDepth 100000 in
theorem q_X8_hours_37 (x1 : Int32) (h : ax_Hp) : ax_run m_X8_hours 37 [(0, .ref 47), (1, .int x1)] [] h = (rV m_X8_goes_ [.ref 47, .int x1] h).bind (fun q1 => (rI m_X8_all [.ref 47] q1).bind (fun q2 => some (some (.int q2.1), q2.2))) := (ax_run_eq _ _ _ _ _).trans rfl
set_option maxRecDepth 100000 in
theorem q_X8_asked_0  (h : ax_Hp) : ax_run m_X8_asked 0 [(0, .ref 47)] [] h = (rV m_X8_minds [.ref 47] h).bind (fun q1 => ax_run m_X8_asked 9 [(0, .ref 47), (1, .int ((-9))), (2, .int 0)] [] q1) := (ax_run_eq _ _ _ _ _).trans rfl
set_option maxRecDepth 100000 in
theorem q_X8_asked_9 (x1 : Int32) (x2 : Int32) (h : ax_Hp) : ax_run m_X8_asked 9 [(0, .ref 47), (1, .int x1), (2, .int x2)] [] h = if 60 < x2 then ax_run m_X8_asked 57 [(0, .ref 47), (1, .int x1)] [] h else if 0 ≤ x1 then ax_run m_X8_asked 57 [(0, .ref 47), (1, .int x1)] [] h else if h.1 47 8 ≤ 0 then ax_run m_X8_asked 57 [(0, .ref 47), (1, .int x1)] [] h else (rI m_X8_lentNow [.ref 47] h).bind (fun q1 => (rI m_X8_bits [.int q1.1] q1.2).bind (fun q2 => if q2.1 = q2.2.1 47 8 then ax_run m_X8_asked 46 [(0, .ref 47), (2, .int x2)] [.int x2] q2.2 else ax_run m_X8_asked 44 [(0, .ref 47), (2, .int x2)] [] q2.2)) := (ax_run_eq _ _ _ _ _).trans rfl
set_option maxRecDepth 100000 in
theorem q_X8_asked_44 (x2 : Int32) (h : ax_Hp) : ax_run m_X8_asked 44 [(0, .ref 47), (2, .int x2)] [] h = ax_run m_X8_asked 46 [(0, .ref 47), (2, .int x2)] [.int ((-9))] h := (ax_run_eq _ _ _ _ _).trans rfl
set_option maxRecDepth 100000 in
theorem q_X8_asked_46 (x2 : Int32) (s0 : Int32) (h : ax_Hp) : ax_run m_X8_asked 46 [(0, .ref 47), (2, .int x2)] [.int s0] h = (rV m_X8_goesHour [.ref 47] h).bind (fun q1 => ax_run m_X8_asked 9 [(0, .ref 47), (1, .int s0), (2, .int (x2 + 1))] [] q1) := (ax_run_eq _ _ _ _ _).trans rfl
set_option maxRecDepth 100000 in
theorem q_X8_asked_57 (x1 : Int32) (h : ax_Hp) : ax_run m_X8_asked 57 [(0, .ref 47), (1, .int x1)] [] h = (rV m_X8_forgets [.ref 47] h).bind (fun q1 => some (some (.int x1), q1)) := (ax_run_eq _ _ _ _ _).trans rfl
set_option maxRecDepth 100000 in
theorem q_X8_lend_0 (x1 : Int32) (h : ax_Hp) : ax_run m_X8_lend 0 [(0, .ref 47), (1, .int x1)] [] h = (rI m_X8_bound [.int x1, .int 0, .int 12] h).bind (fun q1 => if q1.1 = 0 then ax_run m_X8_lend 18 [(0, .ref 47), (1, .int x1)] [] q1.2 else (rI m_X8_no [.ref 47, .int q1.1] q1.2).bind (fun q2 => some (some (.int q2.1), q2.2))) := (ax_run_eq _ _ _ _ _).trans rfl
set_option maxRecDepth 100000 in
theorem q_X8_lend_18 (x1 : Int32) (h : ax_Hp) : ax_run m_X8_lend 18 [(0, .ref 47), (1, .int x1)] [] h = (rI m_X8_allIn [.ref 47, .int x1] h).bind (fun q1 => ax_run m_X8_lend 31 [(0, .ref 47), (1, .int x1), (3, .int ((-9))), (4, .int q1.1), (5, .int 0)] [] q1.2) := (ax_run_eq _ _ _ _ _).trans rfl
set_option maxRecDepth 100000 in
theorem q_X8_lend_31 (x1 : Int32) (x3 : Int32) (x4 : Int32) (x5 : Int32) (h : ax_Hp) : ax_run m_X8_lend 31 [(0, .ref 47), (1, .int x1), (3, .int x3), (4, .int x4), (5, .int x5)] [] h = if 8 * (h.1 47 8) ≤ x5 then ax_run m_X8_lend 124 [(3, .int x3)] [] h else ax_g (ax_in (x5 / 8) 7) (ax_g (ax_in (x5 / 8) 7) ((rI m_X8_allIn [.ref 47, .int x1] (wI h 52 (x5 / 8).toNatClampNeg (x5 - x5 / 8 * 8))).bind (fun q1 => ax_g (ax_in (x5 / 8) 7) (if q1.1 < x4 then ax_run m_X8_lend 99 [(0, .ref 47), (1, .int x1), (5, .int x5), (7, .int q1.1)] [] (wI q1.2 52 (x5 / 8).toNatClampNeg (h.1 52 (x5 / 8).toNatClampNeg)) else ax_run m_X8_lend 118 [(0, .ref 47), (1, .int x1), (3, .int x3), (4, .int x4), (5, .int x5)] [] (wI q1.2 52 (x5 / 8).toNatClampNeg (h.1 52 (x5 / 8).toNatClampNeg)))))) := (ax_run_eq _ _ _ _ _).trans rfl
set_option maxRecDepth 100000 in
theorem q_X8_lend_99 (x1 : Int32) (x5 : Int32) (x7 : Int32) (h : ax_Hp) : ax_run m_X8_lend 99 [(0, .ref 47), (1, .int x1), (5, .int x5), (7, .int x7)] [] h = ax_run m_X8_lend 118 [(0, .ref 47), (1, .int x1), (3, .int ((10 * (x5 / 8)) + (x5 - x5 / 8 * 8))), (4, .int x7), (5, .int x5)] [] h := (ax_run_eq _ _ _ _ _).trans rfl
set_option maxRecDepth 100000 in
theorem q_X8_lend_118 (x1 : Int32) (x3 : Int32) (x4 : Int32) (x5 : Int32) (h : ax_Hp) : ax_run m_X8_lend 118 [(0, .ref 47), (1, .int x1), (3, .int x3), (4, .int x4), (5, .int x5)] [] h = ax_run m_X8_lend 31 [(0, .ref 47), (1, .int x1), (3, .int x3), (4, .int x4), (5, .int (x5 + 1))] [] h := (ax_run_eq _ _ _ _ _).trans rfl
set_option maxRecDepth 100000 in
theorem q_X8_lend_124 (x3 : Int32) (h : ax_Hp) : ax_run m_X8_lend 124 [(3, .int x3)] [] h = some (some (.int x3), h) := (ax_run_eq _ _ _ _ _).trans rfl
set_option maxRecDepth 100000 in
theorem q_X8_row_0 (x1 : Int32) (h : ax_Hp) : ax_run m_X8_row 0 [(0, .ref 47), (1, .int x1)] [] h = (rI m_X8_bound [.int x1, .int 0, .int 99] h).bind (fun q1 => if q1.1 = 0 then if q1.2.1 47 34 = 16 then ax_run m_X8_row 24 [(0, .ref 47), (1, .int x1), (2, .int ((-6)))] [] q1.2 else ax_run m_X8_row 24 [(0, .ref 47), (1, .int x1), (2, .int q1.1)] [] q1.2 else ax_run m_X8_row 24 [(0, .ref 47), (1, .int x1), (2, .int q1.1)] [] q1.2) := (ax_run_eq _ _ _ _ _).trans rfl
set_option maxRecDepth 100000 in
theorem q_X8_row_24 (x1 : Int32) (x2 : Int32) (h : ax_Hp) : ax_run m_X8_row 24 [(0, .ref 47), (1, .int x1), (2, .int x2)] [] h = if x2 = 0 then ax_run m_X8_row 34 [(0, .ref 47), (1, .int x1)] [] h else (rI m_X8_no [.ref 47, .int x2] h).bind (fun q1 => some (some (.int q1.1), q1.2)) := (ax_run_eq _ _ _ _ _).trans rfl
set_option maxRecDepth 100000 in
theorem q_X8_row_34 (x1 : Int32) (h : ax_Hp) : ax_run m_X8_row 34 [(0, .ref 47), (1, .int x1)] [] h = ax_g (ax_in (h.1 47 34) 16) (some (some (.int ((wI (wI h 65 (h.1 47 34).toNatClampNeg x1) 47 34 (((wI h 65 (h.1 47 34).toNatClampNeg x1).1 47 34) + 1)).1 47 34)), wI (wI h 65 (h.1 47 34).toNatClampNeg x1) 47 34 (((wI h 65 (h.1 47 34).toNatClampNeg x1).1 47 34) + 1))) := (ax_run_eq _ _ _ _ _).trans rfl
set_option maxRecDepth 100000 in
theorem q_X8_wasSeenAt_0 (x1 : Int32) (x2 : Int32) (h : ax_Hp) : ax_run m_X8_wasSeenAt 0 [(0, .ref 47), (1, .int x1), (2, .int x2)] [] h = if x2 ≤ 0 then ax_run m_X8_wasSeenAt 29 [] [] h else if h.1 47 9 < x2 then ax_run m_X8_wasSeenAt 29 [] [] h else ax_g (ax_in x2 1000) ((rI m_X8_has [.int (h.1 61 x2.toNatClampNeg), .int x1] h).bind (fun q1 => if q1.1 = 0 then ax_run m_X8_wasSeenAt 29 [] [] q1.2 else ax_run m_X8_wasSeenAt 30 [] [.int 1] q1.2)) := (ax_run_eq _ _ _ _ _).trans rfl
set_option maxRecDepth 100000 in
theorem q_X8_wasSeenAt_29  (h : ax_Hp) : ax_run m_X8_wasSeenAt 29 [] [] h = ax_run m_X8_wasSeenAt 30 [] [.int 0] h := (ax_run_eq _ _ _ _ _).trans rfl
set_option maxRecDepth 100000 in
theorem q_X8_wasSeenAt_30 (s0 : Int32) (h : ax_Hp) : ax_run m_X8_wasSeenAt 30 [] [.int s0] h = if s0 = 0 ∨ s0 = 1 then some (some (.int s0), h) else none := (ax_run_eq _ _ _ _ _).trans rfl
set_option maxRecDepth 100000 in
theorem q_X8_sees__0 (x1 : Int32) (x2 : Int32) (h : ax_Hp) : ax_run m_X8_sees_ 0 [(0, .ref 47), (1, .int x1), (2, .int x2)] [] h = if x1 = x2 then ax_run m_X8_sees_ 13 [] [] h else (rI m_X8_lacks [.ref 47, .int x2] h).bind (fun q1 => if q1.1 = 0 then ax_run m_X8_sees_ 13 [] [] q1.2 else ax_run m_X8_sees_ 15 [(0, .ref 47), (1, .int x1), (2, .int x2)] [] q1.2) := (ax_run_eq _ _ _ _ _).trans rfl
set_option maxRecDepth 100000 in
theorem q_X8_sees__13  (h : ax_Hp) : ax_run m_X8_sees_ 13 [] [] h = some (some (.int 0), h) := (ax_run_eq _ _ _ _ _).trans rfl
set_option maxRecDepth 100000 in
theorem q_X8_sees__15 (x1 : Int32) (x2 : Int32) (h : ax_Hp) : ax_run m_X8_sees_ 15 [(0, .ref 47), (1, .int x1), (2, .int x2)] [] h = ax_run m_X8_sees_ 17 [(0, .ref 47), (1, .int x1), (2, .int x2), (3, .int 0)] [] h := (ax_run_eq _ _ _ _ _).trans rfl
set_option maxRecDepth 100000 in
theorem q_X8_sees__17 (x1 : Int32) (x2 : Int32) (x3 : Int32) (h : ax_Hp) : ax_run m_X8_sees_ 17 [(0, .ref 47), (1, .int x1), (2, .int x2), (3, .int x3)] [] h = if h.1 47 8 ≤ x3 then ax_run m_X8_sees_ 48 [] [] h else ax_g (ax_in x3 7) ((rI m_X8_isBetween [.ref 47, .int (h.1 52 x3.toNatClampNeg), .int x1, .int x2] h).bind (fun q1 => if q1.1 = 0 then ax_run m_X8_sees_ 42 [(0, .ref 47), (1, .int x1), (2, .int x2), (3, .int x3)] [] q1.2 else some (some (.int 0), q1.2))) := (ax_run_eq _ _ _ _ _).trans rfl
set_option maxRecDepth 100000 in
theorem q_X8_sees__42 (x1 : Int32) (x2 : Int32) (x3 : Int32) (h : ax_Hp) : ax_run m_X8_sees_ 42 [(0, .ref 47), (1, .int x1), (2, .int x2), (3, .int x3)] [] h = ax_run m_X8_sees_ 17 [(0, .ref 47), (1, .int x1), (2, .int x2), (3, .int (x3 + 1))] [] h := (ax_run_eq _ _ _ _ _).trans rfl
set_option maxRecDepth 100000 in
theorem q_X8_sees__48  (h : ax_Hp) : ax_run m_X8_sees_ 48 [] [] h = some (some (.int 1), h) := (ax_run_eq _ _ _ _ _).trans rfl
set_option maxRecDepth 100000 in
theorem q_X8_goes__0 (x1 : Int32) (h : ax_Hp) : ax_run m_X8_goes_ 0 [(0, .ref 47), (1, .int x1)] [] h = ax_run m_X8_goes_ 2 [(0, .ref 47), (1, .int x1), (2, .int 0)] [] h := (ax_run_eq _ _ _ _ _).trans rfl
set_option maxRecDepth 100000 in
theorem q_X8_goes__2 (x1 : Int32) (x2 : Int32) (h : ax_Hp) : ax_run m_X8_goes_ 2 [(0, .ref 47), (1, .int x1), (2, .int x2)] [] h = if x1 ≤ x2 then ax_run m_X8_goes_ 17 [] [] h else (rV m_X8_goesHour [.ref 47] h).bind (fun q1 => ax_run m_X8_goes_ 2 [(0, .ref 47), (1, .int x1), (2, .int (x2 + 1))] [] q1) := (ax_run_eq _ _ _ _ _).trans rfl
set_option maxRecDepth 100000 in
theorem q_X8_goes__17  (h : ax_Hp) : ax_run m_X8_goes_ 17 [] [] h = some (none, h) := (ax_run_eq _ _ _ _ _).trans rfl
set_option maxRecDepth 100000 in
theorem q_X8_bitsFor_0_k47_49 (x2 : Int32) (x3 : Int32) (h : ax_Hp) : ax_run m_X8_bitsFor 0 [(0, .ref 47), (1, .ref 49), (2, .int x2), (3, .int x3)] [] h = ax_g (ax_in x2 7) (ax_run m_X8_bitsFor 11 [(0, .ref 47), (1, .ref 49), (2, .int x2), (3, .int x3), (4, .int (h.1 49 x2.toNatClampNeg)), (5, .int 0), (6, .int 0)] [] h) := (ax_run_eq _ _ _ _ _).trans rfl
set_option maxRecDepth 100000 in
theorem q_X8_bitsFor_11_k47_49 (x2 : Int32) (x3 : Int32) (x4 : Int32) (x5 : Int32) (x6 : Int32) (h : ax_Hp) : ax_run m_X8_bitsFor 11 [(0, .ref 47), (1, .ref 49), (2, .int x2), (3, .int x3), (4, .int x4), (5, .int x5), (6, .int x6)] [] h = if x3 ≤ x6 then ax_run m_X8_bitsFor 49 [(1, .ref 49), (2, .int x2), (4, .int x4), (5, .int x5)] [] h else ax_g (ax_in x2 7) ((rI m_X8_isSo [.ref 47, .int x2] (wI h 49 x2.toNatClampNeg x6)).bind (fun q1 => if q1.1 = 0 then ax_run m_X8_bitsFor 39 [(0, .ref 47), (1, .ref 49), (2, .int x2), (3, .int x3), (4, .int x4), (6, .int x6)] [.int x5] q1.2 else ax_run m_X8_bitsFor 40 [(0, .ref 47), (1, .ref 49), (2, .int x2), (3, .int x3), (4, .int x4), (6, .int x6)] [.int (1 <<< (x6 &&& 31)), .int x5] q1.2)) := (ax_run_eq _ _ _ _ _).trans rfl
set_option maxRecDepth 100000 in
theorem q_X8_bitsFor_39_k47_49 (x2 : Int32) (x3 : Int32) (x4 : Int32) (x6 : Int32) (s0 : Int32) (h : ax_Hp) : ax_run m_X8_bitsFor 39 [(0, .ref 47), (1, .ref 49), (2, .int x2), (3, .int x3), (4, .int x4), (6, .int x6)] [.int s0] h = ax_run m_X8_bitsFor 40 [(0, .ref 47), (1, .ref 49), (2, .int x2), (3, .int x3), (4, .int x4), (6, .int x6)] [.int 0, .int s0] h := (ax_run_eq _ _ _ _ _).trans rfl
set_option maxRecDepth 100000 in
theorem q_X8_bitsFor_40_k47_49 (x2 : Int32) (x3 : Int32) (x4 : Int32) (x6 : Int32) (s0 : Int32) (s1 : Int32) (h : ax_Hp) : ax_run m_X8_bitsFor 40 [(0, .ref 47), (1, .ref 49), (2, .int x2), (3, .int x3), (4, .int x4), (6, .int x6)] [.int s0, .int s1] h = ax_run m_X8_bitsFor 11 [(0, .ref 47), (1, .ref 49), (2, .int x2), (3, .int x3), (4, .int x4), (5, .int (s1 ||| s0)), (6, .int (x6 + 1))] [] h := (ax_run_eq _ _ _ _ _).trans rfl
set_option maxRecDepth 100000 in
theorem q_X8_bitsFor_49_k47_49 (x2 : Int32) (x4 : Int32) (x5 : Int32) (h : ax_Hp) : ax_run m_X8_bitsFor 49 [(1, .ref 49), (2, .int x2), (4, .int x4), (5, .int x5)] [] h = ax_g (ax_in x2 7) (some (some (.int x5), wI h 49 x2.toNatClampNeg x4)) := (ax_run_eq _ _ _ _ _).trans rfl
set_option maxRecDepth 100000 in
theorem q_X8_isIn_0 (x0 : Int32) (x1 : Int32) (x2 : Int32) (h : ax_Hp) : ax_run m_X8_isIn 0 [(0, .int x0), (1, .int x1), (2, .int x2)] [] h = if x0 < x1 then ax_run m_X8_isIn 14 [] [] h else if x2 < x0 then ax_run m_X8_isIn 14 [] [] h else ax_run m_X8_isIn 15 [] [.int 1] h := (ax_run_eq _ _ _ _ _).trans rfl
set_option maxRecDepth 100000 in
theorem q_X8_isIn_14  (h : ax_Hp) : ax_run m_X8_isIn 14 [] [] h = ax_run m_X8_isIn 15 [] [.int 0] h := (ax_run_eq _ _ _ _ _).trans rfl
set_option maxRecDepth 100000 in
theorem q_X8_isIn_15 (s0 : Int32) (h : ax_Hp) : ax_run m_X8_isIn 15 [] [.int s0] h = if s0 = 0 ∨ s0 = 1 then some (some (.int s0), h) else none := (ax_run_eq _ _ _ _ _).trans rfl
set_option maxRecDepth 100000 in
theorem q_X8_homeWhen_0 (x1 : Int32) (h : ax_Hp) : ax_run m_X8_homeWhen 0 [(0, .ref 47), (1, .int x1)] [] h = (rV m_X8_minds [.ref 47] h).bind (fun q1 => ax_run m_X8_homeWhen 9 [(0, .ref 47), (1, .int x1), (2, .int ((-9))), (3, .int 0)] [] q1) := (ax_run_eq _ _ _ _ _).trans rfl
set_option maxRecDepth 100000 in
theorem q_X8_homeWhen_9 (x1 : Int32) (x2 : Int32) (x3 : Int32) (h : ax_Hp) : ax_run m_X8_homeWhen 9 [(0, .ref 47), (1, .int x1), (2, .int x2), (3, .int x3)] [] h = if 60 < x3 then ax_run m_X8_homeWhen 44 [(0, .ref 47), (2, .int x2)] [] h else if 0 ≤ x2 then ax_run m_X8_homeWhen 44 [(0, .ref 47), (2, .int x2)] [] h else (rI m_X8_isLent [.ref 47, .int x1] h).bind (fun q1 => if q1.1 = 0 then ax_run m_X8_homeWhen 32 [(0, .ref 47), (1, .int x1), (3, .int x3)] [] q1.2 else ax_run m_X8_homeWhen 33 [(0, .ref 47), (1, .int x1), (3, .int x3)] [.int ((-9))] q1.2) := (ax_run_eq _ _ _ _ _).trans rfl
set_option maxRecDepth 100000 in
theorem q_X8_homeWhen_32 (x1 : Int32) (x3 : Int32) (h : ax_Hp) : ax_run m_X8_homeWhen 32 [(0, .ref 47), (1, .int x1), (3, .int x3)] [] h = ax_run m_X8_homeWhen 33 [(0, .ref 47), (1, .int x1), (3, .int x3)] [.int x3] h := (ax_run_eq _ _ _ _ _).trans rfl
set_option maxRecDepth 100000 in
theorem q_X8_homeWhen_33 (x1 : Int32) (x3 : Int32) (s0 : Int32) (h : ax_Hp) : ax_run m_X8_homeWhen 33 [(0, .ref 47), (1, .int x1), (3, .int x3)] [.int s0] h = (rV m_X8_goesHour [.ref 47] h).bind (fun q1 => ax_run m_X8_homeWhen 9 [(0, .ref 47), (1, .int x1), (2, .int s0), (3, .int (x3 + 1))] [] q1) := (ax_run_eq _ _ _ _ _).trans rfl
set_option maxRecDepth 100000 in
theorem q_X8_homeWhen_44 (x2 : Int32) (h : ax_Hp) : ax_run m_X8_homeWhen 44 [(0, .ref 47), (2, .int x2)] [] h = (rV m_X8_forgets [.ref 47] h).bind (fun q1 => some (some (.int x2), q1)) := (ax_run_eq _ _ _ _ _).trans rfl
set_option maxRecDepth 100000 in
theorem q_X8_hasAt_0 (x1 : Int32) (h : ax_Hp) : ax_run m_X8_hasAt 0 [(0, .ref 47), (1, .int x1)] [] h = ax_run m_X8_hasAt 4 [(0, .ref 47), (1, .int x1), (2, .int 0), (3, .int 0)] [] h := (ax_run_eq _ _ _ _ _).trans rfl
set_option maxRecDepth 100000 in
theorem q_X8_hasAt_4 (x1 : Int32) (x2 : Int32) (x3 : Int32) (h : ax_Hp) : ax_run m_X8_hasAt 4 [(0, .ref 47), (1, .int x1), (2, .int x2), (3, .int x3)] [] h = if h.1 47 8 ≤ x3 then ax_run m_X8_hasAt 40 [(2, .int x2)] [] h else ax_g (ax_in x3 7) (if h.1 52 x3.toNatClampNeg = x1 then (rI m_X8_covers [.ref 47, .int x3] h).bind (fun q1 => ax_run m_X8_hasAt 32 [(0, .ref 47), (1, .int x1), (3, .int x3)] [.int q1.1, .int x2] q1.2) else ax_run m_X8_hasAt 31 [(0, .ref 47), (1, .int x1), (3, .int x3)] [.int x2] h) := (ax_run_eq _ _ _ _ _).trans rfl
set_option maxRecDepth 100000 in
theorem q_X8_hasAt_31 (x1 : Int32) (x3 : Int32) (s0 : Int32) (h : ax_Hp) : ax_run m_X8_hasAt 31 [(0, .ref 47), (1, .int x1), (3, .int x3)] [.int s0] h = ax_run m_X8_hasAt 32 [(0, .ref 47), (1, .int x1), (3, .int x3)] [.int 0, .int s0] h := (ax_run_eq _ _ _ _ _).trans rfl
set_option maxRecDepth 100000 in
theorem q_X8_hasAt_32 (x1 : Int32) (x3 : Int32) (s0 : Int32) (s1 : Int32) (h : ax_Hp) : ax_run m_X8_hasAt 32 [(0, .ref 47), (1, .int x1), (3, .int x3)] [.int s0, .int s1] h = ax_run m_X8_hasAt 4 [(0, .ref 47), (1, .int x1), (2, .int (s1 + s0)), (3, .int (x3 + 1))] [] h := (ax_run_eq _ _ _ _ _).trans rfl
set_option maxRecDepth 100000 in
theorem q_X8_hasAt_40 (x2 : Int32) (h : ax_Hp) : ax_run m_X8_hasAt 40 [(2, .int x2)] [] h = some (some (.int x2), h) := (ax_run_eq _ _ _ _ _).trans rfl
set_option maxRecDepth 100000 in
theorem q_X8_worth_0 (x1 : Int32) (x2 : Int32) (h : ax_Hp) : ax_run m_X8_worth 0 [(0, .ref 47), (1, .int x1), (2, .int x2)] [] h = ax_run m_X8_worth 5 [(0, .ref 47), (1, .int x1), (2, .int x2), (3, .int 0), (4, .int 0)] [] h := (ax_run_eq _ _ _ _ _).trans rfl
set_option maxRecDepth 100000 in
theorem q_X8_worth_5 (x1 : Int32) (x2 : Int32) (x3 : Int32) (x4 : Int32) (h : ax_Hp) : ax_run m_X8_worth 5 [(0, .ref 47), (1, .int x1), (2, .int x2), (3, .int x3), (4, .int x4)] [] h = if h.1 47 8 ≤ x4 then ax_run m_X8_worth 57 [(3, .int x3)] [] h else (rI m_X8_has [.int x1, .int x4] h).bind (fun q1 => if q1.1 = 0 then ax_run m_X8_worth 48 [(0, .ref 47), (1, .int x1), (2, .int x2), (4, .int x4)] [.int x3] q1.2 else (rI m_X8_covers [.ref 47, .int x4] q1.2).bind (fun q2 => ax_g (ax_in x4 7) ((rI m_X8_apart [.int (q2.2.1 51 x4.toNatClampNeg), .int x2] q2.2).bind (fun q3 => ax_run m_X8_worth 49 [(0, .ref 47), (1, .int x1), (2, .int x2), (4, .int x4)] [.int ((q2.1 + 8) - q3.1), .int x3] q3.2)))) := (ax_run_eq _ _ _ _ _).trans rfl
set_option maxRecDepth 100000 in
theorem q_X8_worth_48 (x1 : Int32) (x2 : Int32) (x4 : Int32) (s0 : Int32) (h : ax_Hp) : ax_run m_X8_worth 48 [(0, .ref 47), (1, .int x1), (2, .int x2), (4, .int x4)] [.int s0] h = ax_run m_X8_worth 49 [(0, .ref 47), (1, .int x1), (2, .int x2), (4, .int x4)] [.int 0, .int s0] h := (ax_run_eq _ _ _ _ _).trans rfl
set_option maxRecDepth 100000 in
theorem q_X8_worth_49 (x1 : Int32) (x2 : Int32) (x4 : Int32) (s0 : Int32) (s1 : Int32) (h : ax_Hp) : ax_run m_X8_worth 49 [(0, .ref 47), (1, .int x1), (2, .int x2), (4, .int x4)] [.int s0, .int s1] h = ax_run m_X8_worth 5 [(0, .ref 47), (1, .int x1), (2, .int x2), (3, .int (s1 + s0)), (4, .int (x4 + 1))] [] h := (ax_run_eq _ _ _ _ _).trans rfl
set_option maxRecDepth 100000 in
theorem q_X8_worth_57 (x3 : Int32) (h : ax_Hp) : ax_run m_X8_worth 57 [(3, .int x3)] [] h = some (some (.int x3), h) := (ax_run_eq _ _ _ _ _).trans rfl
set_option maxRecDepth 100000 in
theorem q_X8_passesAll_0 (x1 : Int32) (x2 : Int32) (h : ax_Hp) : ax_run m_X8_passesAll 0 [(0, .ref 47), (1, .int x1), (2, .int x2)] [] h = ax_g (true && (decide (x2 = 0) || decide (x2 = 1))) ((rV m_X8_passes [.ref 47, .ref 49] (wI (wI h 47 21 (93 * x1)) 47 20 x2)).bind (fun q1 => (rV m_X8_passes [.ref 47, .ref 50] q1).bind (fun q2 => (rV m_X8_passes [.ref 47, .ref 51] q2).bind (fun q3 => (rV m_X8_passes [.ref 47, .ref 52] q3).bind (fun q4 => (rV m_X8_passes [.ref 47, .ref 53] q4).bind (fun q5 => (rV m_X8_passes [.ref 47, .ref 54] q5).bind (fun q6 => (rV m_X8_passes [.ref 47, .ref 55] q6).bind (fun q7 => (rI m_X8_passOne [.ref 47, .int (q7.1 47 8)] q7).bind (fun q8 => (rI m_X8_passOne [.ref 47, .int ((wI q8.2 47 8 q8.1).1 47 9)] (wI q8.2 47 8 q8.1)).bind (fun q9 => some (none, wI q9.2 47 9 q9.1))))))))))) := (ax_run_eq _ _ _ _ _).trans rfl
set_option maxRecDepth 100000 in
theorem q_X8_findEnds_0 (x1 : Int32) (x2 : Int32) (x3 : Int32) (h : ax_Hp) : ax_run m_X8_findEnds 0 [(0, .ref 47), (1, .int x1), (2, .int x2), (3, .int x3)] [] h = ax_run m_X8_findEnds 3 [(0, .ref 47), (1, .int x1), (2, .int x2), (3, .int x3), (4, .int 0)] [] h := (ax_run_eq _ _ _ _ _).trans rfl
set_option maxRecDepth 100000 in
theorem q_X8_findEnds_3 (x1 : Int32) (x2 : Int32) (x3 : Int32) (x4 : Int32) (h : ax_Hp) : ax_run m_X8_findEnds 3 [(0, .ref 47), (1, .int x1), (2, .int x2), (3, .int x3), (4, .int x4)] [] h = if 4 ≤ x4 then ax_run m_X8_findEnds 126 [] [] h else (rV m_X8_minds [.ref 47] h).bind (fun q1 => if x4 / 2 = 1 then ax_g (ax_in x1 7) (ax_run m_X8_findEnds 41 [(0, .ref 47), (1, .int x1), (2, .int x2), (3, .int x3), (4, .int x4)] [.int (q1.1 51 x1.toNatClampNeg), .int x1, .ref 52] q1) else ax_run m_X8_findEnds 35 [(0, .ref 47), (1, .int x1), (2, .int x2), (3, .int x3), (4, .int x4)] [.int x1, .ref 52] q1) := (ax_run_eq _ _ _ _ _).trans rfl
set_option maxRecDepth 100000 in
theorem q_X8_findEnds_35 (x1 : Int32) (x2 : Int32) (x3 : Int32) (x4 : Int32) (s0 : Int32) (h : ax_Hp) : ax_run m_X8_findEnds 35 [(0, .ref 47), (1, .int x1), (2, .int x2), (3, .int x3), (4, .int x4)] [.int s0, .ref 52] h = ax_g (ax_in x1 7) (ax_run m_X8_findEnds 41 [(0, .ref 47), (1, .int x1), (2, .int x2), (3, .int x3), (4, .int x4)] [.int (h.1 52 x1.toNatClampNeg), .int s0, .ref 52] h) := (ax_run_eq _ _ _ _ _).trans rfl
set_option maxRecDepth 100000 in
theorem q_X8_findEnds_41 (x1 : Int32) (x2 : Int32) (x3 : Int32) (x4 : Int32) (s0 : Int32) (s1 : Int32) (h : ax_Hp) : ax_run m_X8_findEnds 41 [(0, .ref 47), (1, .int x1), (2, .int x2), (3, .int x3), (4, .int x4)] [.int s0, .int s1, .ref 52] h = ax_g (ax_in s1 7) (if x4 - x4 / 2 * 2 = 1 then ax_g (ax_in x2 7) (ax_run m_X8_findEnds 70 [(0, .ref 47), (1, .int x1), (2, .int x2), (3, .int x3), (4, .int x4)] [.int ((wI h 52 s1.toNatClampNeg s0).1 51 x2.toNatClampNeg), .int x2, .ref 52] (wI h 52 s1.toNatClampNeg s0)) else ax_run m_X8_findEnds 64 [(0, .ref 47), (1, .int x1), (2, .int x2), (3, .int x3), (4, .int x4)] [.int x2, .ref 52] (wI h 52 s1.toNatClampNeg s0)) := (ax_run_eq _ _ _ _ _).trans rfl
set_option maxRecDepth 100000 in
theorem q_X8_findEnds_64 (x1 : Int32) (x2 : Int32) (x3 : Int32) (x4 : Int32) (s0 : Int32) (h : ax_Hp) : ax_run m_X8_findEnds 64 [(0, .ref 47), (1, .int x1), (2, .int x2), (3, .int x3), (4, .int x4)] [.int s0, .ref 52] h = ax_g (ax_in x2 7) (ax_run m_X8_findEnds 70 [(0, .ref 47), (1, .int x1), (2, .int x2), (3, .int x3), (4, .int x4)] [.int (h.1 52 x2.toNatClampNeg), .int s0, .ref 52] h) := (ax_run_eq _ _ _ _ _).trans rfl
set_option maxRecDepth 100000 in
theorem q_X8_findEnds_70 (x1 : Int32) (x2 : Int32) (x3 : Int32) (x4 : Int32) (s0 : Int32) (s1 : Int32) (h : ax_Hp) : ax_run m_X8_findEnds 70 [(0, .ref 47), (1, .int x1), (2, .int x2), (3, .int x3), (4, .int x4)] [.int s0, .int s1, .ref 52] h = ax_g (ax_in s1 7) ((rV m_X8_goes_ [.ref 47, .int x3] (wI h 52 s1.toNatClampNeg s0)).bind (fun q1 => ax_g (ax_in x1 7) ((rI m_X8_lacks [.ref 47, .int (q1.1 51 x1.toNatClampNeg)] q1).bind (fun q2 => ax_g (ax_in (2 * x4) 8) (ax_g (ax_in x2 7) ((rI m_X8_lacks [.ref 47, .int ((wI q2.2 62 (2 * x4).toNatClampNeg q2.1).1 51 x2.toNatClampNeg)] (wI q2.2 62 (2 * x4).toNatClampNeg q2.1)).bind (fun q3 => ax_g (ax_in ((2 * x4) + 1) 8) ((rV m_X8_forgets [.ref 47] (wI q3.2 62 ((2 * x4) + 1).toNatClampNeg q3.1)).bind (fun q4 => ax_run m_X8_findEnds 3 [(0, .ref 47), (1, .int x1), (2, .int x2), (3, .int x3), (4, .int (x4 + 1))] [] q4))))))))) := (ax_run_eq _ _ _ _ _).trans rfl
set_option maxRecDepth 100000 in
theorem q_X8_findEnds_126  (h : ax_Hp) : ax_run m_X8_findEnds 126 [] [] h = some (none, h) := (ax_run_eq _ _ _ _ _).trans rfl
set_option maxRecDepth 100000 in
theorem q_X8_bound_0 (x0 : Int32) (x1 : Int32) (x2 : Int32) (h : ax_Hp) : ax_run m_X8_bound 0 [(0, .int x0), (1, .int x1), (2, .int x2)] [] h = if x1 ≤ x0 then ax_run m_X8_bound 10 [(0, .int x0), (2, .int x2)] [] h else ax_run m_X8_bound 21 [] [.int ((-4))] h := (ax_run_eq _ _ _ _ _).trans rfl
set_option maxRecDepth 100000 in
theorem q_X8_bound_10 (x0 : Int32) (x2 : Int32) (h : ax_Hp) : ax_run m_X8_bound 10 [(0, .int x0), (2, .int x2)] [] h = if x0 ≤ x2 then ax_run m_X8_bound 20 [] [] h else ax_run m_X8_bound 21 [] [.int ((-6))] h := (ax_run_eq _ _ _ _ _).trans rfl
set_option maxRecDepth 100000 in
theorem q_X8_bound_20  (h : ax_Hp) : ax_run m_X8_bound 20 [] [] h = ax_run m_X8_bound 21 [] [.int 0] h := (ax_run_eq _ _ _ _ _).trans rfl
set_option maxRecDepth 100000 in
theorem q_X8_bound_21 (s0 : Int32) (h : ax_Hp) : ax_run m_X8_bound 21 [] [.int s0] h = some (some (.int s0), h) := (ax_run_eq _ _ _ _ _).trans rfl
set_option maxRecDepth 100000 in
theorem q_X8_areTwo_0 (x0 : Int32) (x1 : Int32) (h : ax_Hp) : ax_run m_X8_areTwo 0 [(0, .int x0), (1, .int x1)] [] h = (rI m_X8_isHouse [.int x0] h).bind (fun q1 => if q1.1 = 0 then ax_run m_X8_areTwo 23 [] [] q1.2 else (rI m_X8_isHouse [.int x1] q1.2).bind (fun q2 => if q2.1 = 0 then ax_run m_X8_areTwo 23 [] [] q2.2 else if x0 = x1 then ax_run m_X8_areTwo 23 [] [] q2.2 else ax_run m_X8_areTwo 24 [] [.int 1] q2.2)) := (ax_run_eq _ _ _ _ _).trans rfl
set_option maxRecDepth 100000 in
theorem q_X8_areTwo_23  (h : ax_Hp) : ax_run m_X8_areTwo 23 [] [] h = ax_run m_X8_areTwo 24 [] [.int 0] h := (ax_run_eq _ _ _ _ _).trans rfl
set_option maxRecDepth 100000 in
theorem q_X8_areTwo_24 (s0 : Int32) (h : ax_Hp) : ax_run m_X8_areTwo 24 [] [.int s0] h = if s0 = 0 ∨ s0 = 1 then some (some (.int s0), h) else none := (ax_run_eq _ _ _ _ _).trans rfl
set_option maxRecDepth 100000 in
theorem q_X8_coversAll_0 (x1 : Int32) (h : ax_Hp) : ax_run m_X8_coversAll 0 [(0, .ref 47), (1, .int x1)] [] h = ax_run m_X8_coversAll 4 [(0, .ref 47), (1, .int x1), (2, .int 0), (3, .int 0)] [] h := (ax_run_eq _ _ _ _ _).trans rfl
set_option maxRecDepth 100000 in
theorem q_X8_coversAll_4 (x1 : Int32) (x2 : Int32) (x3 : Int32) (h : ax_Hp) : ax_run m_X8_coversAll 4 [(0, .ref 47), (1, .int x1), (2, .int x2), (3, .int x3)] [] h = if h.1 47 8 ≤ x3 then ax_run m_X8_coversAll 38 [(2, .int x2)] [] h else (rI m_X8_has [.int x1, .int x3] h).bind (fun q1 => if q1.1 = 0 then ax_run m_X8_coversAll 29 [(0, .ref 47), (1, .int x1), (3, .int x3)] [.int x2] q1.2 else (rI m_X8_covers [.ref 47, .int x3] q1.2).bind (fun q2 => ax_run m_X8_coversAll 30 [(0, .ref 47), (1, .int x1), (3, .int x3)] [.int q2.1, .int x2] q2.2)) := (ax_run_eq _ _ _ _ _).trans rfl
set_option maxRecDepth 100000 in
theorem q_X8_coversAll_29 (x1 : Int32) (x3 : Int32) (s0 : Int32) (h : ax_Hp) : ax_run m_X8_coversAll 29 [(0, .ref 47), (1, .int x1), (3, .int x3)] [.int s0] h = ax_run m_X8_coversAll 30 [(0, .ref 47), (1, .int x1), (3, .int x3)] [.int 0, .int s0] h := (ax_run_eq _ _ _ _ _).trans rfl
set_option maxRecDepth 100000 in
theorem q_X8_coversAll_30 (x1 : Int32) (x3 : Int32) (s0 : Int32) (s1 : Int32) (h : ax_Hp) : ax_run m_X8_coversAll 30 [(0, .ref 47), (1, .int x1), (3, .int x3)] [.int s0, .int s1] h = ax_run m_X8_coversAll 4 [(0, .ref 47), (1, .int x1), (2, .int (s1 + s0)), (3, .int (x3 + 1))] [] h := (ax_run_eq _ _ _ _ _).trans rfl
set_option maxRecDepth 100000 in
theorem q_X8_coversAll_38 (x2 : Int32) (h : ax_Hp) : ax_run m_X8_coversAll 38 [(2, .int x2)] [] h = some (some (.int x2), h) := (ax_run_eq _ _ _ _ _).trans rfl
set_option maxRecDepth 100000 in
theorem q_X8_lacksIn_0 (x1 : Int32) (x2 : Int32) (h : ax_Hp) : ax_run m_X8_lacksIn 0 [(0, .ref 47), (1, .int x1), (2, .int x2)] [] h = (rV m_X8_minds [.ref 47] h).bind (fun q1 => (rV m_X8_goes_ [.ref 47, .int x2] q1).bind (fun q2 => (rI m_X8_lacks [.ref 47, .int x1] q2).bind (fun q3 => (rV m_X8_forgets [.ref 47] q3.2).bind (fun q4 => some (some (.int q3.1), q4))))) := (ax_run_eq _ _ _ _ _).trans rfl
set_option maxRecDepth 100000 in
theorem q_X8_statement_0  (h : ax_Hp) : ax_run m_X8_statement 0 [(0, .ref 47)] [] h = (rI m_X8_letterNow [.ref 47] h).bind (fun q1 => if q1.1 = 119 then ax_run m_X8_statement 43 [(0, .ref 47), (1, .int q1.1)] [] q1.2 else if q1.1 = 109 then ax_run m_X8_statement 43 [(0, .ref 47), (1, .int q1.1)] [] q1.2 else if q1.1 = 115 then ax_run m_X8_statement 43 [(0, .ref 47), (1, .int q1.1)] [] q1.2 else if q1.1 = 110 then ax_run m_X8_statement 43 [(0, .ref 47), (1, .int q1.1)] [] q1.2 else if q1.1 = 98 then ax_run m_X8_statement 43 [(0, .ref 47), (1, .int q1.1)] [] q1.2 else if q1.1 = 104 then ax_run m_X8_statement 43 [(0, .ref 47), (1, .int q1.1)] [] q1.2 else some (some (.int 0), q1.2)) := (ax_run_eq _ _ _ _ _).trans rfl
set_option maxRecDepth 100000 in
theorem q_X8_statement_43 (x1 : Int32) (h : ax_Hp) : ax_run m_X8_statement 43 [(0, .ref 47), (1, .int x1)] [] h = ax_g (ax_in (h.1 47 16) 32) (ax_g (ax_in ((wI h 57 (h.1 47 16).toNatClampNeg x1).1 47 16) 32) ((rI m_X8_readsAll [.ref 47, .int x1] (wI (wI (wI (wI h 57 (h.1 47 16).toNatClampNeg x1) 58 ((wI h 57 (h.1 47 16).toNatClampNeg x1).1 47 16).toNatClampNeg ((wI h 57 (h.1 47 16).toNatClampNeg x1).1 47 15)) 47 17 (7 * ((wI (wI h 57 (h.1 47 16).toNatClampNeg x1) 58 ((wI h 57 (h.1 47 16).toNatClampNeg x1).1 47 16).toNatClampNeg ((wI h 57 (h.1 47 16).toNatClampNeg x1).1 47 15)).1 47 16))) 47 15 (((wI (wI (wI h 57 (h.1 47 16).toNatClampNeg x1) 58 ((wI h 57 (h.1 47 16).toNatClampNeg x1).1 47 16).toNatClampNeg ((wI h 57 (h.1 47 16).toNatClampNeg x1).1 47 15)) 47 17 (7 * ((wI (wI h 57 (h.1 47 16).toNatClampNeg x1) 58 ((wI h 57 (h.1 47 16).toNatClampNeg x1).1 47 16).toNatClampNeg ((wI h 57 (h.1 47 16).toNatClampNeg x1).1 47 15)).1 47 16))).1 47 15) + 1))).bind (fun q1 => if q1.1 = 0 then ax_run m_X8_statement 104 [] [] q1.2 else (rI m_X8_letterNow [.ref 47] q1.2).bind (fun q2 => if q2.1 = 59 then ax_run m_X8_statement 106 [(0, .ref 47)] [] q2.2 else ax_run m_X8_statement 104 [] [] q2.2)))) := (ax_run_eq _ _ _ _ _).trans rfl
set_option maxRecDepth 100000 in
theorem q_X8_statement_104  (h : ax_Hp) : ax_run m_X8_statement 104 [] [] h = some (some (.int 0), h) := (ax_run_eq _ _ _ _ _).trans rfl
set_option maxRecDepth 100000 in
theorem q_X8_statement_106  (h : ax_Hp) : ax_run m_X8_statement 106 [(0, .ref 47)] [] h = some (some (.int 1), wI h 47 15 ((h.1 47 15) + 1)) := (ax_run_eq _ _ _ _ _).trans rfl
set_option maxRecDepth 100000 in
theorem q_X8_comesTold_0 (x1 : Int32) (h : ax_Hp) : ax_run m_X8_comesTold 0 [(0, .ref 47), (1, .int x1)] [] h = ax_g (ax_in x1 32) (if h.1 57 x1.toNatClampNeg = 98 then ax_run m_X8_comesTold 139 [(0, .ref 47), (2, .int (7 * x1))] [] h else if h.1 57 x1.toNatClampNeg = 109 then ax_run m_X8_comesTold 87 [(0, .ref 47), (2, .int (7 * x1))] [] h else if h.1 57 x1.toNatClampNeg = 110 then ax_run m_X8_comesTold 133 [(0, .ref 47), (2, .int (7 * x1))] [] h else if h.1 57 x1.toNatClampNeg = 115 then ax_run m_X8_comesTold 110 [(0, .ref 47), (2, .int (7 * x1))] [] h else if h.1 57 x1.toNatClampNeg = 119 then ax_run m_X8_comesTold 60 [(0, .ref 47), (2, .int (7 * x1))] [] h else ax_run m_X8_comesTold 158 [(0, .ref 47), (2, .int (7 * x1))] [] h) := (ax_run_eq _ _ _ _ _).trans rfl
set_option maxRecDepth 100000 in
theorem q_X8_comesTold_60 (x2 : Int32) (h : ax_Hp) : ax_run m_X8_comesTold 60 [(0, .ref 47), (2, .int x2)] [] h = ax_g (ax_in x2 224) (ax_g (ax_in (x2 + 1) 224) (ax_g (ax_in (x2 + 2) 224) ((rI m_X8_comesWall [.ref 47, .int (h.1 59 x2.toNatClampNeg), .int (h.1 59 (x2 + 1).toNatClampNeg), .int (h.1 59 (x2 + 2).toNatClampNeg)] h).bind (fun q1 => if q1.1 = 0 ∨ q1.1 = 1 then some (some (.int q1.1), q1.2) else none)))) := (ax_run_eq _ _ _ _ _).trans rfl
set_option maxRecDepth 100000 in
theorem q_X8_comesTold_87 (x2 : Int32) (h : ax_Hp) : ax_run m_X8_comesTold 87 [(0, .ref 47), (2, .int x2)] [] h = ax_g (ax_in x2 224) (ax_g (ax_in (x2 + 1) 224) ((rI m_X8_comesPlace [.ref 47, .ref 52, .int (h.1 59 x2.toNatClampNeg), .int (h.1 59 (x2 + 1).toNatClampNeg)] h).bind (fun q1 => if q1.1 = 0 ∨ q1.1 = 1 then some (some (.int q1.1), q1.2) else none))) := (ax_run_eq _ _ _ _ _).trans rfl
set_option maxRecDepth 100000 in
theorem q_X8_comesTold_110 (x2 : Int32) (h : ax_Hp) : ax_run m_X8_comesTold 110 [(0, .ref 47), (2, .int x2)] [] h = ax_g (ax_in x2 224) (ax_g (ax_in (x2 + 1) 224) ((rI m_X8_comesPlace [.ref 47, .ref 51, .int (h.1 59 x2.toNatClampNeg), .int (h.1 59 (x2 + 1).toNatClampNeg)] h).bind (fun q1 => if q1.1 = 0 ∨ q1.1 = 1 then some (some (.int q1.1), q1.2) else none))) := (ax_run_eq _ _ _ _ _).trans rfl
set_option maxRecDepth 100000 in
theorem q_X8_comesTold_133 (x2 : Int32) (h : ax_Hp) : ax_run m_X8_comesTold 133 [(0, .ref 47), (2, .int x2)] [] h = (rI m_X8_comesNeeds [.ref 47, .int x2] h).bind (fun q1 => if q1.1 = 0 ∨ q1.1 = 1 then some (some (.int q1.1), q1.2) else none) := (ax_run_eq _ _ _ _ _).trans rfl
set_option maxRecDepth 100000 in
theorem q_X8_comesTold_139 (x2 : Int32) (h : ax_Hp) : ax_run m_X8_comesTold 139 [(0, .ref 47), (2, .int x2)] [] h = ax_g (ax_in x2 224) (ax_g (ax_in (x2 + 1) 224) ((rI m_X8_comesBar [.ref 47, .int (h.1 59 x2.toNatClampNeg), .int (h.1 59 (x2 + 1).toNatClampNeg)] h).bind (fun q1 => if q1.1 = 0 ∨ q1.1 = 1 then some (some (.int q1.1), q1.2) else none))) := (ax_run_eq _ _ _ _ _).trans rfl
set_option maxRecDepth 100000 in
theorem q_X8_comesTold_158 (x2 : Int32) (h : ax_Hp) : ax_run m_X8_comesTold 158 [(0, .ref 47), (2, .int x2)] [] h = ax_g (ax_in x2 224) ((rI m_X8_comesHours [.ref 47, .int (h.1 59 x2.toNatClampNeg)] h).bind (fun q1 => if q1.1 = 0 ∨ q1.1 = 1 then some (some (.int q1.1), q1.2) else none)) := (ax_run_eq _ _ _ _ _).trans rfl
set_option maxRecDepth 100000 in
theorem q_X8_allHoles_0  (h : ax_Hp) : ax_run m_X8_allHoles 0 [(0, .ref 47)] [] h = ax_run m_X8_allHoles 4 [(0, .ref 47), (1, .int 0), (2, .int 0)] [] h := (ax_run_eq _ _ _ _ _).trans rfl
set_option maxRecDepth 100000 in
theorem q_X8_allHoles_4 (x1 : Int32) (x2 : Int32) (h : ax_Hp) : ax_run m_X8_allHoles 4 [(0, .ref 47), (1, .int x1), (2, .int x2)] [] h = if h.1 47 8 ≤ x2 then ax_run m_X8_allHoles 27 [(1, .int x1)] [] h else ax_g (ax_in x2 7) (ax_run m_X8_allHoles 4 [(0, .ref 47), (1, .int (x1 + (h.1 53 x2.toNatClampNeg))), (2, .int (x2 + 1))] [] h) := (ax_run_eq _ _ _ _ _).trans rfl
set_option maxRecDepth 100000 in
theorem q_X8_allHoles_27 (x1 : Int32) (h : ax_Hp) : ax_run m_X8_allHoles 27 [(1, .int x1)] [] h = some (some (.int x1), h) := (ax_run_eq _ _ _ _ _).trans rfl
set_option maxRecDepth 100000 in
theorem q_X8_isBetween_0 (x1 : Int32) (x2 : Int32) (x3 : Int32) (h : ax_Hp) : ax_run m_X8_isBetween 0 [(0, .ref 47), (1, .int x1), (2, .int x2), (3, .int x3)] [] h = if x1 ≤ x2 then ax_run m_X8_isBetween 10 [(1, .int x1), (2, .int x2), (3, .int x3)] [] h else if x1 < x3 then ax_run m_X8_isBetween 20 [] [] h else ax_run m_X8_isBetween 10 [(1, .int x1), (2, .int x2), (3, .int x3)] [] h := (ax_run_eq _ _ _ _ _).trans rfl
set_option maxRecDepth 100000 in
theorem q_X8_isBetween_10 (x1 : Int32) (x2 : Int32) (x3 : Int32) (h : ax_Hp) : ax_run m_X8_isBetween 10 [(1, .int x1), (2, .int x2), (3, .int x3)] [] h = if x1 ≤ x3 then ax_run m_X8_isBetween 24 [] [] h else if x2 ≤ x1 then ax_run m_X8_isBetween 24 [] [] h else ax_run m_X8_isBetween 20 [] [] h := (ax_run_eq _ _ _ _ _).trans rfl
set_option maxRecDepth 100000 in
theorem q_X8_isBetween_20  (h : ax_Hp) : ax_run m_X8_isBetween 20 [] [] h = ax_run m_X8_isBetween 25 [] [.int 1] h := (ax_run_eq _ _ _ _ _).trans rfl
set_option maxRecDepth 100000 in
theorem q_X8_isBetween_24  (h : ax_Hp) : ax_run m_X8_isBetween 24 [] [] h = ax_run m_X8_isBetween 25 [] [.int 0] h := (ax_run_eq _ _ _ _ _).trans rfl
set_option maxRecDepth 100000 in
theorem q_X8_isBetween_25 (s0 : Int32) (h : ax_Hp) : ax_run m_X8_isBetween 25 [] [.int s0] h = if s0 = 0 ∨ s0 = 1 then some (some (.int s0), h) else none := (ax_run_eq _ _ _ _ _).trans rfl
set_option maxRecDepth 100000 in
theorem q_X8_threes_0 (x0 : Int32) (h : ax_Hp) : ax_run m_X8_threes 0 [(0, .int x0)] [] h = ax_run m_X8_threes 4 [(0, .int x0), (1, .int 1), (2, .int 0)] [] h := (ax_run_eq _ _ _ _ _).trans rfl
set_option maxRecDepth 100000 in
theorem q_X8_threes_4 (x0 : Int32) (x1 : Int32) (x2 : Int32) (h : ax_Hp) : ax_run m_X8_threes 4 [(0, .int x0), (1, .int x1), (2, .int x2)] [] h = if x0 ≤ x2 then ax_run m_X8_threes 19 [(1, .int x1)] [] h else ax_run m_X8_threes 4 [(0, .int x0), (1, .int (x1 * 3)), (2, .int (x2 + 1))] [] h := (ax_run_eq _ _ _ _ _).trans rfl
set_option maxRecDepth 100000 in
theorem q_X8_threes_19 (x1 : Int32) (h : ax_Hp) : ax_run m_X8_threes 19 [(1, .int x1)] [] h = some (some (.int x1), h) := (ax_run_eq _ _ _ _ _).trans rfl
set_option maxRecDepth 100000 in
theorem q_X8_lacks_0 (x1 : Int32) (h : ax_Hp) : ax_run m_X8_lacks 0 [(0, .ref 47), (1, .int x1)] [] h = (rI m_X8_hasAt [.ref 47, .int x1] h).bind (fun q1 => (rI m_X8_lacksWith [.ref 47, .int x1, .int q1.1] q1.2).bind (fun q2 => some (some (.int q2.1), q2.2))) := (ax_run_eq _ _ _ _ _).trans rfl
set_option maxRecDepth 100000 in
theorem q_X8_all_0  (h : ax_Hp) : ax_run m_X8_all 0 [(0, .ref 47)] [] h = ax_run m_X8_all 4 [(0, .ref 47), (1, .int 0), (2, .int 0)] [] h := (ax_run_eq _ _ _ _ _).trans rfl
set_option maxRecDepth 100000 in
theorem q_X8_all_4 (x1 : Int32) (x2 : Int32) (h : ax_Hp) : ax_run m_X8_all 4 [(0, .ref 47), (1, .int x1), (2, .int x2)] [] h = if 8 ≤ x2 then ax_run m_X8_all 24 [(1, .int x1)] [] h else (rI m_X8_lacks [.ref 47, .int x2] h).bind (fun q1 => ax_run m_X8_all 4 [(0, .ref 47), (1, .int (x1 + q1.1)), (2, .int (x2 + 1))] [] q1.2) := (ax_run_eq _ _ _ _ _).trans rfl
set_option maxRecDepth 100000 in
theorem q_X8_all_24 (x1 : Int32) (h : ax_Hp) : ax_run m_X8_all 24 [(1, .int x1)] [] h = some (some (.int x1), h) := (ax_run_eq _ _ _ _ _).trans rfl
set_option maxRecDepth 100000 in
theorem q_X8_no_0 (x1 : Int32) (h : ax_Hp) : ax_run m_X8_no 0 [(0, .ref 47), (1, .int x1)] [] h = ax_g (ax_in (-x1) 7) (ax_g (ax_in (-x1) 7) (some (some (.int x1), wI h 48 (-x1).toNatClampNeg ((h.1 48 (-x1).toNatClampNeg) + 1)))) := (ax_run_eq _ _ _ _ _).trans rfl
set_option maxRecDepth 100000 in
theorem q_X8_bits_0 (x0 : Int32) (h : ax_Hp) : ax_run m_X8_bits 0 [(0, .int x0)] [] h = ax_run m_X8_bits 4 [(0, .int x0), (1, .int 0), (2, .int 0)] [] h := (ax_run_eq _ _ _ _ _).trans rfl
set_option maxRecDepth 100000 in
theorem q_X8_bits_4 (x0 : Int32) (x1 : Int32) (x2 : Int32) (h : ax_Hp) : ax_run m_X8_bits 4 [(0, .int x0), (1, .int x1), (2, .int x2)] [] h = if 31 ≤ x2 then ax_run m_X8_bits 24 [(1, .int x1)] [] h else ax_run m_X8_bits 4 [(0, .int x0), (1, .int (x1 + ((x0 >>> (x2 &&& 31)) &&& 1))), (2, .int (x2 + 1))] [] h := (ax_run_eq _ _ _ _ _).trans rfl
set_option maxRecDepth 100000 in
theorem q_X8_bits_24 (x1 : Int32) (h : ax_Hp) : ax_run m_X8_bits 24 [(1, .int x1)] [] h = some (some (.int x1), h) := (ax_run_eq _ _ _ _ _).trans rfl
set_option maxRecDepth 100000 in
theorem q_X8_minds_0  (h : ax_Hp) : ax_run m_X8_minds 0 [(0, .ref 47)] [] h = (rV m_X8_passesAll [.ref 47, .int 2, .int 1] h).bind (fun q1 => some (none, q1)) := (ax_run_eq _ _ _ _ _).trans rfl
set_option maxRecDepth 100000 in
theorem q_X8_notHours_0 (x0 : Int32) (h : ax_Hp) : ax_run m_X8_notHours 0 [(0, .int x0)] [] h = (rI m_X8_bound [.int x0, .int 0, .int 60] h).bind (fun q1 => some (some (.int q1.1), q1.2)) := (ax_run_eq _ _ _ _ _).trans rfl
set_option maxRecDepth 100000 in
theorem q_X8_seenNow_0  (h : ax_Hp) : ax_run m_X8_seenNow 0 [(0, .ref 47)] [] h = ax_run m_X8_seenNow 4 [(0, .ref 47), (1, .int 0), (2, .int 0)] [] h := (ax_run_eq _ _ _ _ _).trans rfl
set_option maxRecDepth 100000 in
theorem q_X8_seenNow_4 (x1 : Int32) (x2 : Int32) (h : ax_Hp) : ax_run m_X8_seenNow 4 [(0, .ref 47), (1, .int x1), (2, .int x2)] [] h = if 8 ≤ x2 then ax_run m_X8_seenNow 34 [(1, .int x1)] [] h else (rI m_X8_lacks [.ref 47, .int x2] h).bind (fun q1 => if q1.1 ≤ 0 then ax_run m_X8_seenNow 25 [(0, .ref 47), (2, .int x2)] [.int x1] q1.2 else ax_run m_X8_seenNow 26 [(0, .ref 47), (2, .int x2)] [.int (1 <<< (x2 &&& 31)), .int x1] q1.2) := (ax_run_eq _ _ _ _ _).trans rfl
set_option maxRecDepth 100000 in
theorem q_X8_seenNow_25 (x2 : Int32) (s0 : Int32) (h : ax_Hp) : ax_run m_X8_seenNow 25 [(0, .ref 47), (2, .int x2)] [.int s0] h = ax_run m_X8_seenNow 26 [(0, .ref 47), (2, .int x2)] [.int 0, .int s0] h := (ax_run_eq _ _ _ _ _).trans rfl
set_option maxRecDepth 100000 in
theorem q_X8_seenNow_26 (x2 : Int32) (s0 : Int32) (s1 : Int32) (h : ax_Hp) : ax_run m_X8_seenNow 26 [(0, .ref 47), (2, .int x2)] [.int s0, .int s1] h = ax_run m_X8_seenNow 4 [(0, .ref 47), (1, .int (s1 ||| s0)), (2, .int (x2 + 1))] [] h := (ax_run_eq _ _ _ _ _).trans rfl
set_option maxRecDepth 100000 in
theorem q_X8_seenNow_34 (x1 : Int32) (h : ax_Hp) : ax_run m_X8_seenNow 34 [(1, .int x1)] [] h = some (some (.int x1), h) := (ax_run_eq _ _ _ _ _).trans rfl
set_option maxRecDepth 100000 in
theorem q_X8_warmer_0  (h : ax_Hp) : ax_run m_X8_warmer 0 [(0, .ref 47)] [] h = ax_run m_X8_warmer 4 [(0, .ref 47), (1, .int 0), (2, .int 0)] [] h := (ax_run_eq _ _ _ _ _).trans rfl
set_option maxRecDepth 100000 in
theorem q_X8_warmer_4 (x1 : Int32) (x2 : Int32) (h : ax_Hp) : ax_run m_X8_warmer 4 [(0, .ref 47), (1, .int x1), (2, .int x2)] [] h = if h.1 47 8 ≤ x2 then ax_run m_X8_warmer 50 [(1, .int x1)] [] h else (rI m_X8_coversAt [.ref 47, .int x2, .int (((h.1 47 9) + 1) - ((h.1 47 9) + 1) / 6 * 6)] h).bind (fun q1 => (rI m_X8_covers [.ref 47, .int x2] q1.2).bind (fun q2 => if q1.1 ≤ q2.1 then ax_run m_X8_warmer 41 [(0, .ref 47), (2, .int x2)] [.int x1] q2.2 else ax_run m_X8_warmer 42 [(0, .ref 47), (2, .int x2)] [.int (1 <<< (x2 &&& 31)), .int x1] q2.2)) := (ax_run_eq _ _ _ _ _).trans rfl
set_option maxRecDepth 100000 in
theorem q_X8_warmer_41 (x2 : Int32) (s0 : Int32) (h : ax_Hp) : ax_run m_X8_warmer 41 [(0, .ref 47), (2, .int x2)] [.int s0] h = ax_run m_X8_warmer 42 [(0, .ref 47), (2, .int x2)] [.int 0, .int s0] h := (ax_run_eq _ _ _ _ _).trans rfl
set_option maxRecDepth 100000 in
theorem q_X8_warmer_42 (x2 : Int32) (s0 : Int32) (s1 : Int32) (h : ax_Hp) : ax_run m_X8_warmer 42 [(0, .ref 47), (2, .int x2)] [.int s0, .int s1] h = ax_run m_X8_warmer 4 [(0, .ref 47), (1, .int (s1 ||| s0)), (2, .int (x2 + 1))] [] h := (ax_run_eq _ _ _ _ _).trans rfl
set_option maxRecDepth 100000 in
theorem q_X8_warmer_50 (x1 : Int32) (h : ax_Hp) : ax_run m_X8_warmer 50 [(1, .int x1)] [] h = some (some (.int x1), h) := (ax_run_eq _ _ _ _ _).trans rfl
set_option maxRecDepth 100000 in
theorem q_X8_lentNow_0  (h : ax_Hp) : ax_run m_X8_lentNow 0 [(0, .ref 47)] [] h = ax_run m_X8_lentNow 4 [(0, .ref 47), (1, .int 0), (2, .int 0)] [] h := (ax_run_eq _ _ _ _ _).trans rfl
set_option maxRecDepth 100000 in
theorem q_X8_lentNow_4 (x1 : Int32) (x2 : Int32) (h : ax_Hp) : ax_run m_X8_lentNow 4 [(0, .ref 47), (1, .int x1), (2, .int x2)] [] h = if h.1 47 8 ≤ x2 then ax_run m_X8_lentNow 36 [(1, .int x1)] [] h else (rI m_X8_isLent [.ref 47, .int x2] h).bind (fun q1 => if q1.1 = 0 then ax_run m_X8_lentNow 27 [(0, .ref 47), (2, .int x2)] [.int x1] q1.2 else ax_run m_X8_lentNow 28 [(0, .ref 47), (2, .int x2)] [.int (1 <<< (x2 &&& 31)), .int x1] q1.2) := (ax_run_eq _ _ _ _ _).trans rfl
set_option maxRecDepth 100000 in
theorem q_X8_lentNow_27 (x2 : Int32) (s0 : Int32) (h : ax_Hp) : ax_run m_X8_lentNow 27 [(0, .ref 47), (2, .int x2)] [.int s0] h = ax_run m_X8_lentNow 28 [(0, .ref 47), (2, .int x2)] [.int 0, .int s0] h := (ax_run_eq _ _ _ _ _).trans rfl
set_option maxRecDepth 100000 in
theorem q_X8_lentNow_28 (x2 : Int32) (s0 : Int32) (s1 : Int32) (h : ax_Hp) : ax_run m_X8_lentNow 28 [(0, .ref 47), (2, .int x2)] [.int s0, .int s1] h = ax_run m_X8_lentNow 4 [(0, .ref 47), (1, .int (s1 ||| s0)), (2, .int (x2 + 1))] [] h := (ax_run_eq _ _ _ _ _).trans rfl
set_option maxRecDepth 100000 in
theorem q_X8_lentNow_36 (x1 : Int32) (h : ax_Hp) : ax_run m_X8_lentNow 36 [(1, .int x1)] [] h = some (some (.int x1), h) := (ax_run_eq _ _ _ _ _).trans rfl
set_option maxRecDepth 100000 in
theorem q_X8_needAt_0 (x1 : Int32) (h : ax_Hp) : ax_run m_X8_needAt 0 [(0, .ref 47), (1, .int x1)] [] h = ax_run m_X8_needAt 4 [(0, .ref 47), (1, .int x1), (2, .int 0), (3, .int 0)] [] h := (ax_run_eq _ _ _ _ _).trans rfl
set_option maxRecDepth 100000 in
theorem q_X8_needAt_4 (x1 : Int32) (x2 : Int32) (x3 : Int32) (h : ax_Hp) : ax_run m_X8_needAt 4 [(0, .ref 47), (1, .int x1), (2, .int x2), (3, .int x3)] [] h = if 8 ≤ x3 then ax_run m_X8_needAt 30 [(2, .int x2)] [] h else ax_g (ax_in ((6 * x3) + x1) 48) (ax_run m_X8_needAt 4 [(0, .ref 47), (1, .int x1), (2, .int (x2 + (h.1 54 ((6 * x3) + x1).toNatClampNeg))), (3, .int (x3 + 1))] [] h) := (ax_run_eq _ _ _ _ _).trans rfl
set_option maxRecDepth 100000 in
theorem q_X8_needAt_30 (x2 : Int32) (h : ax_Hp) : ax_run m_X8_needAt 30 [(2, .int x2)] [] h = some (some (.int x2), h) := (ax_run_eq _ _ _ _ _).trans rfl
set_option maxRecDepth 100000 in
theorem q_X8_isHouse_0 (x0 : Int32) (h : ax_Hp) : ax_run m_X8_isHouse 0 [(0, .int x0)] [] h = (rI m_X8_isIn [.int x0, .int 0, .int 7] h).bind (fun q1 => if q1.1 = 0 ∨ q1.1 = 1 then some (some (.int q1.1), q1.2) else none) := (ax_run_eq _ _ _ _ _).trans rfl
set_option maxRecDepth 100000 in
theorem q_X8_goesHour_0  (h : ax_Hp) : ax_run m_X8_goesHour 0 [(0, .ref 47)] [] h = ax_run m_X8_goesHour 12 [(0, .ref 47), (1, .int 0)] [] (wI h 47 9 ((h.1 47 9) + 1)) := (ax_run_eq _ _ _ _ _).trans rfl
set_option maxRecDepth 100000 in
theorem q_X8_goesHour_12 (x1 : Int32) (h : ax_Hp) : ax_run m_X8_goesHour 12 [(0, .ref 47), (1, .int x1)] [] h = if h.1 47 8 ≤ x1 then ax_run m_X8_goesHour 31 [(0, .ref 47)] [] h else (rV m_X8_goesWall [.ref 47, .int x1] h).bind (fun q1 => ax_run m_X8_goesHour 12 [(0, .ref 47), (1, .int (x1 + 1))] [] q1) := (ax_run_eq _ _ _ _ _).trans rfl
set_option maxRecDepth 100000 in
theorem q_X8_goesHour_31  (h : ax_Hp) : ax_run m_X8_goesHour 31 [(0, .ref 47)] [] h = if 999 < h.1 47 9 then ax_run m_X8_goesHour 54 [] [] h else (rI m_X8_seenNow [.ref 47] h).bind (fun q1 => ax_g (ax_in (h.1 47 9) 1000) (ax_run m_X8_goesHour 54 [] [] (wI q1.2 61 (h.1 47 9).toNatClampNeg q1.1))) := (ax_run_eq _ _ _ _ _).trans rfl
set_option maxRecDepth 100000 in
theorem q_X8_goesHour_54  (h : ax_Hp) : ax_run m_X8_goesHour 54 [] [] h = some (none, h) := (ax_run_eq _ _ _ _ _).trans rfl
set_option maxRecDepth 100000 in
theorem q_X8_stepsTo_0 (x1 : Int32) (x2 : Int32) (h : ax_Hp) : ax_run m_X8_stepsTo 0 [(0, .ref 47), (1, .int x1), (2, .int x2)] [] h = ax_run m_X8_stepsTo 5 [(0, .ref 47), (1, .int x1), (2, .int x2), (3, .int 0), (4, .int 0)] [] h := (ax_run_eq _ _ _ _ _).trans rfl
set_option maxRecDepth 100000 in
theorem q_X8_stepsTo_5 (x1 : Int32) (x2 : Int32) (x3 : Int32) (x4 : Int32) (h : ax_Hp) : ax_run m_X8_stepsTo 5 [(0, .ref 47), (1, .int x1), (2, .int x2), (3, .int x3), (4, .int x4)] [] h = if h.1 47 8 ≤ x4 then ax_run m_X8_stepsTo 47 [(3, .int x3)] [] h else (rI m_X8_has [.int x1, .int x4] h).bind (fun q1 => if q1.1 = 0 then ax_run m_X8_stepsTo 38 [(0, .ref 47), (1, .int x1), (2, .int x2), (4, .int x4)] [.int x3] q1.2 else ax_g (ax_in x4 7) ((rI m_X8_apart [.int (q1.2.1 52 x4.toNatClampNeg), .int x2] q1.2).bind (fun q2 => ax_run m_X8_stepsTo 39 [(0, .ref 47), (1, .int x1), (2, .int x2), (4, .int x4)] [.int q2.1, .int x3] q2.2))) := (ax_run_eq _ _ _ _ _).trans rfl
set_option maxRecDepth 100000 in
theorem q_X8_stepsTo_38 (x1 : Int32) (x2 : Int32) (x4 : Int32) (s0 : Int32) (h : ax_Hp) : ax_run m_X8_stepsTo 38 [(0, .ref 47), (1, .int x1), (2, .int x2), (4, .int x4)] [.int s0] h = ax_run m_X8_stepsTo 39 [(0, .ref 47), (1, .int x1), (2, .int x2), (4, .int x4)] [.int 0, .int s0] h := (ax_run_eq _ _ _ _ _).trans rfl
set_option maxRecDepth 100000 in
theorem q_X8_stepsTo_39 (x1 : Int32) (x2 : Int32) (x4 : Int32) (s0 : Int32) (s1 : Int32) (h : ax_Hp) : ax_run m_X8_stepsTo 39 [(0, .ref 47), (1, .int x1), (2, .int x2), (4, .int x4)] [.int s0, .int s1] h = ax_run m_X8_stepsTo 5 [(0, .ref 47), (1, .int x1), (2, .int x2), (3, .int (s1 + s0)), (4, .int (x4 + 1))] [] h := (ax_run_eq _ _ _ _ _).trans rfl
set_option maxRecDepth 100000 in
theorem q_X8_stepsTo_47 (x3 : Int32) (h : ax_Hp) : ax_run m_X8_stepsTo 47 [(3, .int x3)] [] h = some (some (.int x3), h) := (ax_run_eq _ _ _ _ _).trans rfl
set_option maxRecDepth 100000 in
theorem q_X8_isWall_0 (x1 : Int32) (h : ax_Hp) : ax_run m_X8_isWall 0 [(0, .ref 47), (1, .int x1)] [] h = (rI m_X8_isIn [.int x1, .int 0, .int ((h.1 47 8) - 1)] h).bind (fun q1 => if q1.1 = 0 ∨ q1.1 = 1 then some (some (.int q1.1), q1.2) else none) := (ax_run_eq _ _ _ _ _).trans rfl
set_option maxRecDepth 100000 in
theorem q_X8_goneWhen_0 (x1 : Int32) (h : ax_Hp) : ax_run m_X8_goneWhen 0 [(0, .ref 47), (1, .int x1)] [] h = (rV m_X8_minds [.ref 47] h).bind (fun q1 => ax_g (ax_in x1 7) (ax_run m_X8_goneWhen 17 [(0, .ref 47), (1, .int x1), (2, .int (q1.1 52 x1.toNatClampNeg)), (3, .int ((-9))), (4, .int 1)] [] q1)) := (ax_run_eq _ _ _ _ _).trans rfl
set_option maxRecDepth 100000 in
theorem q_X8_goneWhen_17 (x1 : Int32) (x2 : Int32) (x3 : Int32) (x4 : Int32) (h : ax_Hp) : ax_run m_X8_goneWhen 17 [(0, .ref 47), (1, .int x1), (2, .int x2), (3, .int x3), (4, .int x4)] [] h = if 60 < x4 then ax_run m_X8_goneWhen 56 [(0, .ref 47), (3, .int x3)] [] h else if 0 ≤ x3 then ax_run m_X8_goneWhen 56 [(0, .ref 47), (3, .int x3)] [] h else (rV m_X8_goesHour [.ref 47] h).bind (fun q1 => ax_g (ax_in x1 7) (if q1.1 52 x1.toNatClampNeg = x2 then ax_run m_X8_goneWhen 49 [(0, .ref 47), (1, .int x1), (2, .int x2), (4, .int x4)] [.int ((-9))] q1 else ax_run m_X8_goneWhen 47 [(0, .ref 47), (1, .int x1), (2, .int x2), (4, .int x4)] [] q1)) := (ax_run_eq _ _ _ _ _).trans rfl
set_option maxRecDepth 100000 in
theorem q_X8_goneWhen_47 (x1 : Int32) (x2 : Int32) (x4 : Int32) (h : ax_Hp) : ax_run m_X8_goneWhen 47 [(0, .ref 47), (1, .int x1), (2, .int x2), (4, .int x4)] [] h = ax_run m_X8_goneWhen 49 [(0, .ref 47), (1, .int x1), (2, .int x2), (4, .int x4)] [.int x4] h := (ax_run_eq _ _ _ _ _).trans rfl
set_option maxRecDepth 100000 in
theorem q_X8_goneWhen_49 (x1 : Int32) (x2 : Int32) (x4 : Int32) (s0 : Int32) (h : ax_Hp) : ax_run m_X8_goneWhen 49 [(0, .ref 47), (1, .int x1), (2, .int x2), (4, .int x4)] [.int s0] h = ax_run m_X8_goneWhen 17 [(0, .ref 47), (1, .int x1), (2, .int x2), (3, .int s0), (4, .int (x4 + 1))] [] h := (ax_run_eq _ _ _ _ _).trans rfl
set_option maxRecDepth 100000 in
theorem q_X8_goneWhen_56 (x3 : Int32) (h : ax_Hp) : ax_run m_X8_goneWhen 56 [(0, .ref 47), (3, .int x3)] [] h = (rV m_X8_forgets [.ref 47] h).bind (fun q1 => some (some (.int x3), q1)) := (ax_run_eq _ _ _ _ _).trans rfl
set_option maxRecDepth 100000 in
theorem q_X8_wallsOf_0_k47_52 (x2 : Int32) (h : ax_Hp) : ax_run m_X8_wallsOf 0 [(0, .ref 47), (1, .ref 52), (2, .int x2)] [] h = ax_run m_X8_wallsOf 5 [(0, .ref 47), (1, .ref 52), (2, .int x2), (3, .int 0), (4, .int 0)] [] h := (ax_run_eq _ _ _ _ _).trans rfl
set_option maxRecDepth 100000 in
theorem q_X8_wallsOf_5_k47_52 (x2 : Int32) (x3 : Int32) (x4 : Int32) (h : ax_Hp) : ax_run m_X8_wallsOf 5 [(0, .ref 47), (1, .ref 52), (2, .int x2), (3, .int x3), (4, .int x4)] [] h = if h.1 47 8 ≤ x4 then ax_run m_X8_wallsOf 39 [(3, .int x3)] [] h else ax_g (ax_in x4 7) (if h.1 52 x4.toNatClampNeg = x2 then ax_run m_X8_wallsOf 31 [(0, .ref 47), (1, .ref 52), (2, .int x2), (4, .int x4)] [.int (1 <<< (x4 &&& 31)), .int x3] h else ax_run m_X8_wallsOf 30 [(0, .ref 47), (1, .ref 52), (2, .int x2), (4, .int x4)] [.int x3] h) := (ax_run_eq _ _ _ _ _).trans rfl
set_option maxRecDepth 100000 in
theorem q_X8_wallsOf_30_k47_52 (x2 : Int32) (x4 : Int32) (s0 : Int32) (h : ax_Hp) : ax_run m_X8_wallsOf 30 [(0, .ref 47), (1, .ref 52), (2, .int x2), (4, .int x4)] [.int s0] h = ax_run m_X8_wallsOf 31 [(0, .ref 47), (1, .ref 52), (2, .int x2), (4, .int x4)] [.int 0, .int s0] h := (ax_run_eq _ _ _ _ _).trans rfl
set_option maxRecDepth 100000 in
theorem q_X8_wallsOf_31_k47_52 (x2 : Int32) (x4 : Int32) (s0 : Int32) (s1 : Int32) (h : ax_Hp) : ax_run m_X8_wallsOf 31 [(0, .ref 47), (1, .ref 52), (2, .int x2), (4, .int x4)] [.int s0, .int s1] h = ax_run m_X8_wallsOf 5 [(0, .ref 47), (1, .ref 52), (2, .int x2), (3, .int (s1 ||| s0)), (4, .int (x4 + 1))] [] h := (ax_run_eq _ _ _ _ _).trans rfl
set_option maxRecDepth 100000 in
theorem q_X8_wallsOf_39_k47_52 (x3 : Int32) (h : ax_Hp) : ax_run m_X8_wallsOf 39 [(3, .int x3)] [] h = some (some (.int x3), h) := (ax_run_eq _ _ _ _ _).trans rfl
set_option maxRecDepth 100000 in
theorem q_X8_gives_0 (x1 : Int32) (x2 : Int32) (h : ax_Hp) : ax_run m_X8_gives 0 [(0, .ref 47), (1, .int x1), (2, .int x2)] [] h = (rI m_X8_lacks [.ref 47, .int x1] h).bind (fun q1 => (rI m_X8_covers [.ref 47, .int x2] q1.2).bind (fun q2 => if q2.1 ≤ q1.1 then ax_run m_X8_gives 21 [(0, .ref 47), (1, .int x1), (2, .int x2)] [] q2.2 else (rI m_X8_lacks [.ref 47, .int x1] q2.2).bind (fun q3 => ax_run m_X8_gives 26 [(0, .ref 47), (1, .int x1), (2, .int x2)] [.int q3.1] q3.2))) := (ax_run_eq _ _ _ _ _).trans rfl
set_option maxRecDepth 100000 in
theorem q_X8_gives_21 (x1 : Int32) (x2 : Int32) (h : ax_Hp) : ax_run m_X8_gives 21 [(0, .ref 47), (1, .int x1), (2, .int x2)] [] h = (rI m_X8_covers [.ref 47, .int x2] h).bind (fun q1 => ax_run m_X8_gives 26 [(0, .ref 47), (1, .int x1), (2, .int x2)] [.int q1.1] q1.2) := (ax_run_eq _ _ _ _ _).trans rfl
set_option maxRecDepth 100000 in
theorem q_X8_gives_26 (x1 : Int32) (x2 : Int32) (s0 : Int32) (h : ax_Hp) : ax_run m_X8_gives 26 [(0, .ref 47), (1, .int x1), (2, .int x2)] [.int s0] h = ax_g (ax_in x2 7) ((rI m_X8_apart [.int x1, .int (h.1 52 x2.toNatClampNeg)] h).bind (fun q1 => if 0 ≤ s0 - q1.1 then ax_run m_X8_gives 48 [(3, .int (s0 - q1.1))] [] q1.2 else ax_run m_X8_gives 49 [] [.int 0] q1.2)) := (ax_run_eq _ _ _ _ _).trans rfl
set_option maxRecDepth 100000 in
theorem q_X8_gives_48 (x3 : Int32) (h : ax_Hp) : ax_run m_X8_gives 48 [(3, .int x3)] [] h = ax_run m_X8_gives 49 [] [.int x3] h := (ax_run_eq _ _ _ _ _).trans rfl
set_option maxRecDepth 100000 in
theorem q_X8_gives_49 (s0 : Int32) (h : ax_Hp) : ax_run m_X8_gives 49 [] [.int s0] h = some (some (.int s0), h) := (ax_run_eq _ _ _ _ _).trans rfl
set_option maxRecDepth 100000 in
theorem q_X8_allIn_0 (x1 : Int32) (h : ax_Hp) : ax_run m_X8_allIn 0 [(0, .ref 47), (1, .int x1)] [] h = (rV m_X8_minds [.ref 47] h).bind (fun q1 => (rV m_X8_goes_ [.ref 47, .int x1] q1).bind (fun q2 => (rI m_X8_all [.ref 47] q2).bind (fun q3 => (rV m_X8_forgets [.ref 47] q3.2).bind (fun q4 => some (some (.int q3.1), q4))))) := (ax_run_eq _ _ _ _ _).trans rfl
set_option maxRecDepth 100000 in
theorem q_X8_lacksWith_0 (x1 : Int32) (x2 : Int32) (h : ax_Hp) : ax_run m_X8_lacksWith 0 [(0, .ref 47), (1, .int x1), (2, .int x2)] [] h = ax_g (ax_in ((6 * x1) + ((h.1 47 9) - (h.1 47 9) / 6 * 6)) 48) (if h.1 47 22 = 0 then ax_run m_X8_lacksWith 28 [(2, .int x2)] [.int (h.1 54 ((6 * x1) + ((h.1 47 9) - (h.1 47 9) / 6 * 6)).toNatClampNeg)] h else ax_run m_X8_lacksWith 29 [(2, .int x2)] [.int 2, .int (h.1 54 ((6 * x1) + ((h.1 47 9) - (h.1 47 9) / 6 * 6)).toNatClampNeg)] h) := (ax_run_eq _ _ _ _ _).trans rfl
set_option maxRecDepth 100000 in
theorem q_X8_lacksWith_28 (x2 : Int32) (s0 : Int32) (h : ax_Hp) : ax_run m_X8_lacksWith 28 [(2, .int x2)] [.int s0] h = ax_run m_X8_lacksWith 29 [(2, .int x2)] [.int 0, .int s0] h := (ax_run_eq _ _ _ _ _).trans rfl
set_option maxRecDepth 100000 in
theorem q_X8_lacksWith_29 (x2 : Int32) (s0 : Int32) (s1 : Int32) (h : ax_Hp) : ax_run m_X8_lacksWith 29 [(2, .int x2)] [.int s0, .int s1] h = if 0 ≤ (s1 + s0) - x2 then ax_run m_X8_lacksWith 41 [(3, .int ((s1 + s0) - x2))] [] h else ax_run m_X8_lacksWith 42 [] [.int 0] h := (ax_run_eq _ _ _ _ _).trans rfl
set_option maxRecDepth 100000 in
theorem q_X8_lacksWith_41 (x3 : Int32) (h : ax_Hp) : ax_run m_X8_lacksWith 41 [(3, .int x3)] [] h = ax_run m_X8_lacksWith 42 [] [.int x3] h := (ax_run_eq _ _ _ _ _).trans rfl
set_option maxRecDepth 100000 in
theorem q_X8_lacksWith_42 (s0 : Int32) (h : ax_Hp) : ax_run m_X8_lacksWith 42 [] [.int s0] h = some (some (.int s0), h) := (ax_run_eq _ _ _ _ _).trans rfl
set_option maxRecDepth 100000 in
theorem q_X8_lacksWithout_0 (x1 : Int32) (h : ax_Hp) : ax_run m_X8_lacksWithout 0 [(0, .ref 47), (1, .int x1)] [] h = ax_g (ax_in x1 7) (ax_g (ax_in x1 7) ((rI m_X8_hasAt [.ref 47, .int (h.1 52 x1.toNatClampNeg)] h).bind (fun q1 => (rI m_X8_covers [.ref 47, .int x1] q1.2).bind (fun q2 => (rI m_X8_lacksWith [.ref 47, .int (h.1 52 x1.toNatClampNeg), .int (q1.1 - q2.1)] q2.2).bind (fun q3 => some (some (.int q3.1), q3.2)))))) := (ax_run_eq _ _ _ _ _).trans rfl
set_option maxRecDepth 100000 in
theorem q_X8_buyerBut_0 (x1 : Int32) (x2 : Int32) (h : ax_Hp) : ax_run m_X8_buyerBut 0 [(0, .ref 47), (1, .int x1), (2, .int x2)] [] h = ax_run m_X8_buyerBut 6 [(0, .ref 47), (1, .int x1), (2, .int x2), (3, .int ((-9))), (4, .int 0)] [] h := (ax_run_eq _ _ _ _ _).trans rfl
set_option maxRecDepth 100000 in
theorem q_X8_buyerBut_6 (x1 : Int32) (x2 : Int32) (x3 : Int32) (x4 : Int32) (h : ax_Hp) : ax_run m_X8_buyerBut 6 [(0, .ref 47), (1, .int x1), (2, .int x2), (3, .int x3), (4, .int x4)] [] h = if 8 ≤ x4 then ax_run m_X8_buyerBut 52 [(3, .int x3)] [] h else if x4 = x2 then ax_run m_X8_buyerBut 46 [(0, .ref 47), (1, .int x1), (2, .int x2), (3, .int x3), (4, .int x4)] [] h else (rI m_X8_gives [.ref 47, .int x4, .int x1] h).bind (fun q1 => if 0 ≤ x3 then ax_run m_X8_buyerBut 34 [(0, .ref 47), (1, .int x1), (2, .int x2), (3, .int x3), (4, .int x4)] [.int q1.1] q1.2 else ax_run m_X8_buyerBut 40 [(0, .ref 47), (1, .int x1), (2, .int x2), (3, .int x3), (4, .int x4)] [.int 0, .int q1.1] q1.2) := (ax_run_eq _ _ _ _ _).trans rfl
set_option maxRecDepth 100000 in
theorem q_X8_buyerBut_34 (x1 : Int32) (x2 : Int32) (x3 : Int32) (x4 : Int32) (s0 : Int32) (h : ax_Hp) : ax_run m_X8_buyerBut 34 [(0, .ref 47), (1, .int x1), (2, .int x2), (3, .int x3), (4, .int x4)] [.int s0] h = (rI m_X8_gives [.ref 47, .int x3, .int x1] h).bind (fun q1 => ax_run m_X8_buyerBut 40 [(0, .ref 47), (1, .int x1), (2, .int x2), (3, .int x3), (4, .int x4)] [.int q1.1, .int s0] q1.2) := (ax_run_eq _ _ _ _ _).trans rfl
set_option maxRecDepth 100000 in
theorem q_X8_buyerBut_40 (x1 : Int32) (x2 : Int32) (x3 : Int32) (x4 : Int32) (s0 : Int32) (s1 : Int32) (h : ax_Hp) : ax_run m_X8_buyerBut 40 [(0, .ref 47), (1, .int x1), (2, .int x2), (3, .int x3), (4, .int x4)] [.int s0, .int s1] h = if s1 ≤ s0 then ax_run m_X8_buyerBut 46 [(0, .ref 47), (1, .int x1), (2, .int x2), (3, .int x3), (4, .int x4)] [] h else ax_run m_X8_buyerBut 46 [(0, .ref 47), (1, .int x1), (2, .int x2), (3, .int x4), (4, .int x4)] [] h := (ax_run_eq _ _ _ _ _).trans rfl
set_option maxRecDepth 100000 in
theorem q_X8_buyerBut_46 (x1 : Int32) (x2 : Int32) (x3 : Int32) (x4 : Int32) (h : ax_Hp) : ax_run m_X8_buyerBut 46 [(0, .ref 47), (1, .int x1), (2, .int x2), (3, .int x3), (4, .int x4)] [] h = ax_run m_X8_buyerBut 6 [(0, .ref 47), (1, .int x1), (2, .int x2), (3, .int x3), (4, .int (x4 + 1))] [] h := (ax_run_eq _ _ _ _ _).trans rfl
set_option maxRecDepth 100000 in
theorem q_X8_buyerBut_52 (x3 : Int32) (h : ax_Hp) : ax_run m_X8_buyerBut 52 [(3, .int x3)] [] h = some (some (.int x3), h) := (ax_run_eq _ _ _ _ _).trans rfl
set_option maxRecDepth 100000 in
theorem q_X8_has_0 (x0 : Int32) (x1 : Int32) (h : ax_Hp) : ax_run m_X8_has 0 [(0, .int x0), (1, .int x1)] [] h = if (x0 >>> (x1 &&& 31)) &&& 1 = 1 then ax_run m_X8_has 14 [] [.int 1] h else ax_run m_X8_has 13 [] [] h := (ax_run_eq _ _ _ _ _).trans rfl
set_option maxRecDepth 100000 in
theorem q_X8_has_13  (h : ax_Hp) : ax_run m_X8_has 13 [] [] h = ax_run m_X8_has 14 [] [.int 0] h := (ax_run_eq _ _ _ _ _).trans rfl
set_option maxRecDepth 100000 in
theorem q_X8_has_14 (s0 : Int32) (h : ax_Hp) : ax_run m_X8_has 14 [] [.int s0] h = if s0 = 0 ∨ s0 = 1 then some (some (.int s0), h) else none := (ax_run_eq _ _ _ _ _).trans rfl
set_option maxRecDepth 100000 in
theorem q_X8_bitsFor_0_k47_50 (x2 : Int32) (x3 : Int32) (h : ax_Hp) : ax_run m_X8_bitsFor 0 [(0, .ref 47), (1, .ref 50), (2, .int x2), (3, .int x3)] [] h = ax_g (ax_in x2 7) (ax_run m_X8_bitsFor 11 [(0, .ref 47), (1, .ref 50), (2, .int x2), (3, .int x3), (4, .int (h.1 50 x2.toNatClampNeg)), (5, .int 0), (6, .int 0)] [] h) := (ax_run_eq _ _ _ _ _).trans rfl
set_option maxRecDepth 100000 in
theorem q_X8_bitsFor_11_k47_50 (x2 : Int32) (x3 : Int32) (x4 : Int32) (x5 : Int32) (x6 : Int32) (h : ax_Hp) : ax_run m_X8_bitsFor 11 [(0, .ref 47), (1, .ref 50), (2, .int x2), (3, .int x3), (4, .int x4), (5, .int x5), (6, .int x6)] [] h = if x3 ≤ x6 then ax_run m_X8_bitsFor 49 [(1, .ref 50), (2, .int x2), (4, .int x4), (5, .int x5)] [] h else ax_g (ax_in x2 7) ((rI m_X8_isSo [.ref 47, .int x2] (wI h 50 x2.toNatClampNeg x6)).bind (fun q1 => if q1.1 = 0 then ax_run m_X8_bitsFor 39 [(0, .ref 47), (1, .ref 50), (2, .int x2), (3, .int x3), (4, .int x4), (6, .int x6)] [.int x5] q1.2 else ax_run m_X8_bitsFor 40 [(0, .ref 47), (1, .ref 50), (2, .int x2), (3, .int x3), (4, .int x4), (6, .int x6)] [.int (1 <<< (x6 &&& 31)), .int x5] q1.2)) := (ax_run_eq _ _ _ _ _).trans rfl
set_option maxRecDepth 100000 in
theorem q_X8_bitsFor_39_k47_50 (x2 : Int32) (x3 : Int32) (x4 : Int32) (x6 : Int32) (s0 : Int32) (h : ax_Hp) : ax_run m_X8_bitsFor 39 [(0, .ref 47), (1, .ref 50), (2, .int x2), (3, .int x3), (4, .int x4), (6, .int x6)] [.int s0] h = ax_run m_X8_bitsFor 40 [(0, .ref 47), (1, .ref 50), (2, .int x2), (3, .int x3), (4, .int x4), (6, .int x6)] [.int 0, .int s0] h := (ax_run_eq _ _ _ _ _).trans rfl
set_option maxRecDepth 100000 in
theorem q_X8_bitsFor_40_k47_50 (x2 : Int32) (x3 : Int32) (x4 : Int32) (x6 : Int32) (s0 : Int32) (s1 : Int32) (h : ax_Hp) : ax_run m_X8_bitsFor 40 [(0, .ref 47), (1, .ref 50), (2, .int x2), (3, .int x3), (4, .int x4), (6, .int x6)] [.int s0, .int s1] h = ax_run m_X8_bitsFor 11 [(0, .ref 47), (1, .ref 50), (2, .int x2), (3, .int x3), (4, .int x4), (5, .int (s1 ||| s0)), (6, .int (x6 + 1))] [] h := (ax_run_eq _ _ _ _ _).trans rfl
set_option maxRecDepth 100000 in
theorem q_X8_bitsFor_49_k47_50 (x2 : Int32) (x4 : Int32) (x5 : Int32) (h : ax_Hp) : ax_run m_X8_bitsFor 49 [(1, .ref 50), (2, .int x2), (4, .int x4), (5, .int x5)] [] h = ax_g (ax_in x2 7) (some (some (.int x5), wI h 50 x2.toNatClampNeg x4)) := (ax_run_eq _ _ _ _ _).trans rfl
set_option maxRecDepth 100000 in
theorem q_X8_lowestOf_0 (x1 : Int32) (h : ax_Hp) : ax_run m_X8_lowestOf 0 [(0, .ref 47), (1, .int x1)] [] h = ax_g (ax_in (-x1) 7) (ax_g (ax_in (-x1) 7) (some (some (.long (4000000000000000000 - x1.toInt64)), wI h 48 (-x1).toNatClampNeg ((h.1 48 (-x1).toNatClampNeg) + 1)))) := (ax_run_eq _ _ _ _ _).trans rfl
set_option maxRecDepth 100000 in
theorem q_X8_apart_0 (x0 : Int32) (x1 : Int32) (h : ax_Hp) : ax_run m_X8_apart 0 [(0, .int x0), (1, .int x1)] [] h = if x1 ≤ x0 then ax_run m_X8_apart 11 [(0, .int x0), (1, .int x1)] [] h else ax_run m_X8_apart 14 [] [.int (x1 - x0)] h := (ax_run_eq _ _ _ _ _).trans rfl
set_option maxRecDepth 100000 in
theorem q_X8_apart_11 (x0 : Int32) (x1 : Int32) (h : ax_Hp) : ax_run m_X8_apart 11 [(0, .int x0), (1, .int x1)] [] h = ax_run m_X8_apart 14 [] [.int (x0 - x1)] h := (ax_run_eq _ _ _ _ _).trans rfl
set_option maxRecDepth 100000 in
theorem q_X8_apart_14 (s0 : Int32) (h : ax_Hp) : ax_run m_X8_apart 14 [] [.int s0] h = some (some (.int s0), h) := (ax_run_eq _ _ _ _ _).trans rfl
set_option maxRecDepth 100000 in
theorem q_X8_draw_0 (x1 : Int32) (h : ax_Hp) : ax_run m_X8_draw 0 [(0, .ref 47), (1, .int x1)] [] h = ax_g (!(decide (x1 = 0))) (some (some (.int (((((wI h 47 35 (((h.1 47 35) * 1664525) + 1013904223)).1 47 35) &&& 2147483647) / 256) - ((((wI h 47 35 (((h.1 47 35) * 1664525) + 1013904223)).1 47 35) &&& 2147483647) / 256) / x1 * x1)), wI h 47 35 (((h.1 47 35) * 1664525) + 1013904223))) := (ax_run_eq _ _ _ _ _).trans rfl
set_option maxRecDepth 100000 in
theorem q_X8_waysOn_0 (x1 : Int32) (h : ax_Hp) : ax_run m_X8_waysOn 0 [(0, .ref 47), (1, .int x1)] [] h = ax_run m_X8_waysOn 2 [(0, .ref 47), (1, .int x1), (2, .int 0)] [] h := (ax_run_eq _ _ _ _ _).trans rfl
set_option maxRecDepth 100000 in
theorem q_X8_waysOn_2 (x1 : Int32) (x2 : Int32) (h : ax_Hp) : ax_run m_X8_waysOn 2 [(0, .ref 47), (1, .int x1), (2, .int x2)] [] h = if 8 ≤ x2 then ax_run m_X8_waysOn 64 [(0, .ref 47)] [] h else ax_g (ax_in x2 8) (ax_run m_X8_waysOn 17 [(0, .ref 47), (1, .int x1), (2, .int x2), (3, .int 0)] [] (wL h 64 x2.toNatClampNeg 0)) := (ax_run_eq _ _ _ _ _).trans rfl
set_option maxRecDepth 100000 in
theorem q_X8_waysOn_17 (x1 : Int32) (x2 : Int32) (x3 : Int32) (h : ax_Hp) : ax_run m_X8_waysOn 17 [(0, .ref 47), (1, .int x1), (2, .int x2), (3, .int x3)] [] h = if 8 ≤ x3 then ax_run m_X8_waysOn 58 [(0, .ref 47), (1, .int x1), (2, .int x2)] [] h else ax_g (ax_in x2 8) ((rI m_X8_canGo [.ref 47, .int x1, .int x3, .int x2] h).bind (fun q1 => if q1.1 = 0 then ax_run m_X8_waysOn 49 [(0, .ref 47), (1, .int x1), (2, .int x2), (3, .int x3)] [.long (h.2.1 64 x2.toNatClampNeg), .int x2, .ref 64] q1.2 else ax_g (ax_in x3 8) (ax_run m_X8_waysOn 50 [(0, .ref 47), (1, .int x1), (2, .int x2), (3, .int x3)] [.long (q1.2.2.1 63 x3.toNatClampNeg), .long (h.2.1 64 x2.toNatClampNeg), .int x2, .ref 64] q1.2))) := (ax_run_eq _ _ _ _ _).trans rfl
set_option maxRecDepth 100000 in
theorem q_X8_waysOn_49 (x1 : Int32) (x2 : Int32) (x3 : Int32) (s0 : Int64) (s1 : Int32) (h : ax_Hp) : ax_run m_X8_waysOn 49 [(0, .ref 47), (1, .int x1), (2, .int x2), (3, .int x3)] [.long s0, .int s1, .ref 64] h = ax_run m_X8_waysOn 50 [(0, .ref 47), (1, .int x1), (2, .int x2), (3, .int x3)] [.long 0, .long s0, .int s1, .ref 64] h := (ax_run_eq _ _ _ _ _).trans rfl
set_option maxRecDepth 100000 in
theorem q_X8_waysOn_50 (x1 : Int32) (x2 : Int32) (x3 : Int32) (s0 : Int64) (s1 : Int64) (s2 : Int32) (h : ax_Hp) : ax_run m_X8_waysOn 50 [(0, .ref 47), (1, .int x1), (2, .int x2), (3, .int x3)] [.long s0, .long s1, .int s2, .ref 64] h = ax_g (ax_in s2 8) (ax_run m_X8_waysOn 17 [(0, .ref 47), (1, .int x1), (2, .int x2), (3, .int (x3 + 1))] [] (wL h 64 s2.toNatClampNeg (s1 + s0))) := (ax_run_eq _ _ _ _ _).trans rfl
set_option maxRecDepth 100000 in
theorem q_X8_waysOn_58 (x1 : Int32) (x2 : Int32) (h : ax_Hp) : ax_run m_X8_waysOn 58 [(0, .ref 47), (1, .int x1), (2, .int x2)] [] h = ax_run m_X8_waysOn 2 [(0, .ref 47), (1, .int x1), (2, .int (x2 + 1))] [] h := (ax_run_eq _ _ _ _ _).trans rfl
set_option maxRecDepth 100000 in
theorem q_X8_waysOn_64  (h : ax_Hp) : ax_run m_X8_waysOn 64 [(0, .ref 47)] [] h = ax_run m_X8_waysOn 66 [(0, .ref 47), (2, .int 0)] [] h := (ax_run_eq _ _ _ _ _).trans rfl
set_option maxRecDepth 100000 in
theorem q_X8_waysOn_66 (x2 : Int32) (h : ax_Hp) : ax_run m_X8_waysOn 66 [(0, .ref 47), (2, .int x2)] [] h = if 8 ≤ x2 then ax_run m_X8_waysOn 90 [] [] h else ax_g (ax_in x2 8) (ax_g (ax_in x2 8) (ax_run m_X8_waysOn 66 [(0, .ref 47), (2, .int (x2 + 1))] [] (wL h 63 x2.toNatClampNeg (h.2.1 64 x2.toNatClampNeg)))) := (ax_run_eq _ _ _ _ _).trans rfl
set_option maxRecDepth 100000 in
theorem q_X8_waysOn_90  (h : ax_Hp) : ax_run m_X8_waysOn 90 [] [] h = some (none, h) := (ax_run_eq _ _ _ _ _).trans rfl
set_option maxRecDepth 100000 in
theorem q_X8_partOf_0 (x0 : Int64) (x2 : Int64) (x4 : Int32) (h : ax_Hp) : ax_run m_X8_partOf 0 [(0, .long x0), (2, .long x2), (4, .int x4)] [] h = if x4 = 0 then ax_run m_X8_partOf 10 [(0, .long x0), (2, .long x2)] [.long x0] h else ax_run m_X8_partOf 9 [(0, .long x0), (2, .long x2)] [] h := (ax_run_eq _ _ _ _ _).trans rfl
set_option maxRecDepth 100000 in
theorem q_X8_partOf_9 (x0 : Int64) (x2 : Int64) (h : ax_Hp) : ax_run m_X8_partOf 9 [(0, .long x0), (2, .long x2)] [] h = ax_run m_X8_partOf 10 [(0, .long x0), (2, .long x2)] [.long x2] h := (ax_run_eq _ _ _ _ _).trans rfl
set_option maxRecDepth 100000 in
theorem q_X8_partOf_10 (x0 : Int64) (x2 : Int64) (s0 : Int64) (h : ax_Hp) : ax_run m_X8_partOf 10 [(0, .long x0), (2, .long x2)] [.long s0] h = (rL m_X8_divisor [.long x0, .long x2] h).bind (fun q1 => ax_g (!(decide (q1.1 = 0))) (some (some (.long (s0 / q1.1)), q1.2))) := (ax_run_eq _ _ _ _ _).trans rfl
set_option maxRecDepth 100000 in
theorem q_X8_wallsOf_0_k47_51 (x2 : Int32) (h : ax_Hp) : ax_run m_X8_wallsOf 0 [(0, .ref 47), (1, .ref 51), (2, .int x2)] [] h = ax_run m_X8_wallsOf 5 [(0, .ref 47), (1, .ref 51), (2, .int x2), (3, .int 0), (4, .int 0)] [] h := (ax_run_eq _ _ _ _ _).trans rfl
set_option maxRecDepth 100000 in
theorem q_X8_wallsOf_5_k47_51 (x2 : Int32) (x3 : Int32) (x4 : Int32) (h : ax_Hp) : ax_run m_X8_wallsOf 5 [(0, .ref 47), (1, .ref 51), (2, .int x2), (3, .int x3), (4, .int x4)] [] h = if h.1 47 8 ≤ x4 then ax_run m_X8_wallsOf 39 [(3, .int x3)] [] h else ax_g (ax_in x4 7) (if h.1 51 x4.toNatClampNeg = x2 then ax_run m_X8_wallsOf 31 [(0, .ref 47), (1, .ref 51), (2, .int x2), (4, .int x4)] [.int (1 <<< (x4 &&& 31)), .int x3] h else ax_run m_X8_wallsOf 30 [(0, .ref 47), (1, .ref 51), (2, .int x2), (4, .int x4)] [.int x3] h) := (ax_run_eq _ _ _ _ _).trans rfl
set_option maxRecDepth 100000 in
theorem q_X8_wallsOf_30_k47_51 (x2 : Int32) (x4 : Int32) (s0 : Int32) (h : ax_Hp) : ax_run m_X8_wallsOf 30 [(0, .ref 47), (1, .ref 51), (2, .int x2), (4, .int x4)] [.int s0] h = ax_run m_X8_wallsOf 31 [(0, .ref 47), (1, .ref 51), (2, .int x2), (4, .int x4)] [.int 0, .int s0] h := (ax_run_eq _ _ _ _ _).trans rfl
set_option maxRecDepth 100000 in
theorem q_X8_wallsOf_31_k47_51 (x2 : Int32) (x4 : Int32) (s0 : Int32) (s1 : Int32) (h : ax_Hp) : ax_run m_X8_wallsOf 31 [(0, .ref 47), (1, .ref 51), (2, .int x2), (4, .int x4)] [.int s0, .int s1] h = ax_run m_X8_wallsOf 5 [(0, .ref 47), (1, .ref 51), (2, .int x2), (3, .int (s1 ||| s0)), (4, .int (x4 + 1))] [] h := (ax_run_eq _ _ _ _ _).trans rfl
set_option maxRecDepth 100000 in
theorem q_X8_wallsOf_39_k47_51 (x3 : Int32) (h : ax_Hp) : ax_run m_X8_wallsOf 39 [(3, .int x3)] [] h = some (some (.int x3), h) := (ax_run_eq _ _ _ _ _).trans rfl
set_option maxRecDepth 100000 in
theorem q_X8_forgets_0  (h : ax_Hp) : ax_run m_X8_forgets 0 [(0, .ref 47)] [] h = (rV m_X8_passesAll [.ref 47, .int 2, .int 0] h).bind (fun q1 => some (none, q1)) := (ax_run_eq _ _ _ _ _).trans rfl
set_option maxRecDepth 100000 in
theorem q_X8_bestWall_0  (h : ax_Hp) : ax_run m_X8_bestWall 0 [(0, .ref 47)] [] h = ax_run m_X8_bestWall 5 [(0, .ref 47), (1, .int ((-9))), (2, .int 0)] [] h := (ax_run_eq _ _ _ _ _).trans rfl
set_option maxRecDepth 100000 in
theorem q_X8_bestWall_5 (x1 : Int32) (x2 : Int32) (h : ax_Hp) : ax_run m_X8_bestWall 5 [(0, .ref 47), (1, .int x1), (2, .int x2)] [] h = if h.1 47 8 ≤ x2 then ax_run m_X8_bestWall 38 [(1, .int x1)] [] h else if x1 < 0 then ax_run m_X8_bestWall 30 [(0, .ref 47), (2, .int x2)] [] h else (rI m_X8_covers [.ref 47, .int x2] h).bind (fun q1 => (rI m_X8_covers [.ref 47, .int x1] q1.2).bind (fun q2 => if q1.1 ≤ q2.1 then ax_run m_X8_bestWall 32 [(0, .ref 47), (1, .int x1), (2, .int x2)] [] q2.2 else ax_run m_X8_bestWall 30 [(0, .ref 47), (2, .int x2)] [] q2.2)) := (ax_run_eq _ _ _ _ _).trans rfl
set_option maxRecDepth 100000 in
theorem q_X8_bestWall_30 (x2 : Int32) (h : ax_Hp) : ax_run m_X8_bestWall 30 [(0, .ref 47), (2, .int x2)] [] h = ax_run m_X8_bestWall 32 [(0, .ref 47), (1, .int x2), (2, .int x2)] [] h := (ax_run_eq _ _ _ _ _).trans rfl
set_option maxRecDepth 100000 in
theorem q_X8_bestWall_32 (x1 : Int32) (x2 : Int32) (h : ax_Hp) : ax_run m_X8_bestWall 32 [(0, .ref 47), (1, .int x1), (2, .int x2)] [] h = ax_run m_X8_bestWall 5 [(0, .ref 47), (1, .int x1), (2, .int (x2 + 1))] [] h := (ax_run_eq _ _ _ _ _).trans rfl
set_option maxRecDepth 100000 in
theorem q_X8_bestWall_38 (x1 : Int32) (h : ax_Hp) : ax_run m_X8_bestWall 38 [(1, .int x1)] [] h = some (some (.int x1), h) := (ax_run_eq _ _ _ _ _).trans rfl
set_option maxRecDepth 100000 in
theorem q_X8_isSplit_0 (x1 : Int32) (x2 : Int32) (x3 : Int32) (h : ax_Hp) : ax_run m_X8_isSplit 0 [(0, .ref 47), (1, .int x1), (2, .int x2), (3, .int x3)] [] h = ax_run m_X8_isSplit 16 [(0, .ref 47), (1, .int x1), (2, .int x2), (4, .int x3), (5, .int 0)] [] (wI (wI h 47 28 0) 47 29 0) := (ax_run_eq _ _ _ _ _).trans rfl
set_option maxRecDepth 100000 in
theorem q_X8_isSplit_16 (x1 : Int32) (x2 : Int32) (x4 : Int32) (x5 : Int32) (h : ax_Hp) : ax_run m_X8_isSplit 16 [(0, .ref 47), (1, .int x1), (2, .int x2), (4, .int x4), (5, .int x5)] [] h = if h.1 47 8 ≤ x5 then ax_run m_X8_isSplit 87 [(0, .ref 47), (1, .int x1), (2, .int x2)] [] h else if x4 - x4 / 3 * 3 = 1 then ax_run m_X8_isSplit 46 [(0, .ref 47), (1, .int x1), (2, .int x2), (4, .int x4), (5, .int x5)] [.int (1 <<< (x5 &&& 31)), .int (h.1 47 28), .ref 47] h else ax_run m_X8_isSplit 45 [(0, .ref 47), (1, .int x1), (2, .int x2), (4, .int x4), (5, .int x5)] [.int (h.1 47 28), .ref 47] h := (ax_run_eq _ _ _ _ _).trans rfl
set_option maxRecDepth 100000 in
theorem q_X8_isSplit_45 (x1 : Int32) (x2 : Int32) (x4 : Int32) (x5 : Int32) (s0 : Int32) (h : ax_Hp) : ax_run m_X8_isSplit 45 [(0, .ref 47), (1, .int x1), (2, .int x2), (4, .int x4), (5, .int x5)] [.int s0, .ref 47] h = ax_run m_X8_isSplit 46 [(0, .ref 47), (1, .int x1), (2, .int x2), (4, .int x4), (5, .int x5)] [.int 0, .int s0, .ref 47] h := (ax_run_eq _ _ _ _ _).trans rfl
set_option maxRecDepth 100000 in
theorem q_X8_isSplit_46 (x1 : Int32) (x2 : Int32) (x4 : Int32) (x5 : Int32) (s0 : Int32) (s1 : Int32) (h : ax_Hp) : ax_run m_X8_isSplit 46 [(0, .ref 47), (1, .int x1), (2, .int x2), (4, .int x4), (5, .int x5)] [.int s0, .int s1, .ref 47] h = if x4 - x4 / 3 * 3 = 2 then ax_run m_X8_isSplit 71 [(0, .ref 47), (1, .int x1), (2, .int x2), (4, .int x4), (5, .int x5)] [.int (1 <<< (x5 &&& 31)), .int ((wI h 47 28 (s1 ||| s0)).1 47 29), .ref 47] (wI h 47 28 (s1 ||| s0)) else ax_run m_X8_isSplit 70 [(0, .ref 47), (1, .int x1), (2, .int x2), (4, .int x4), (5, .int x5)] [.int ((wI h 47 28 (s1 ||| s0)).1 47 29), .ref 47] (wI h 47 28 (s1 ||| s0)) := (ax_run_eq _ _ _ _ _).trans rfl
set_option maxRecDepth 100000 in
theorem q_X8_isSplit_70 (x1 : Int32) (x2 : Int32) (x4 : Int32) (x5 : Int32) (s0 : Int32) (h : ax_Hp) : ax_run m_X8_isSplit 70 [(0, .ref 47), (1, .int x1), (2, .int x2), (4, .int x4), (5, .int x5)] [.int s0, .ref 47] h = ax_run m_X8_isSplit 71 [(0, .ref 47), (1, .int x1), (2, .int x2), (4, .int x4), (5, .int x5)] [.int 0, .int s0, .ref 47] h := (ax_run_eq _ _ _ _ _).trans rfl
set_option maxRecDepth 100000 in
theorem q_X8_isSplit_71 (x1 : Int32) (x2 : Int32) (x4 : Int32) (x5 : Int32) (s0 : Int32) (s1 : Int32) (h : ax_Hp) : ax_run m_X8_isSplit 71 [(0, .ref 47), (1, .int x1), (2, .int x2), (4, .int x4), (5, .int x5)] [.int s0, .int s1, .ref 47] h = ax_run m_X8_isSplit 16 [(0, .ref 47), (1, .int x1), (2, .int x2), (4, .int (x4 / 3)), (5, .int (x5 + 1))] [] (wI h 47 29 (s1 ||| s0)) := (ax_run_eq _ _ _ _ _).trans rfl
set_option maxRecDepth 100000 in
theorem q_X8_isSplit_87 (x1 : Int32) (x2 : Int32) (h : ax_Hp) : ax_run m_X8_isSplit 87 [(0, .ref 47), (1, .int x1), (2, .int x2)] [] h = (rI m_X8_wallsOf [.ref 47, .ref 52, .int x1] h).bind (fun q1 => (rI m_X8_wallsOf [.ref 47, .ref 52, .int x2] q1.2).bind (fun q2 => (rI m_X8_coversAll [.ref 47, .int ((q1.1 &&& ((q1.2.1 47 29) ^^^ ((-1)))) ||| (q1.2.1 47 28))] q2.2).bind (fun q3 => (rI m_X8_lacksWith [.ref 47, .int x1, .int q3.1] q3.2).bind (fun q4 => if q4.1 = 0 then (rI m_X8_coversAll [.ref 47, .int ((q2.1 &&& ((q2.2.1 47 28) ^^^ ((-1)))) ||| (q2.2.1 47 29))] q4.2).bind (fun q5 => (rI m_X8_lacksWith [.ref 47, .int x2, .int q5.1] q5.2).bind (fun q6 => if q6.1 = 0 then ax_run m_X8_isSplit 166 [] [.int 1] q6.2 else ax_run m_X8_isSplit 165 [] [] q6.2)) else ax_run m_X8_isSplit 165 [] [] q4.2)))) := (ax_run_eq _ _ _ _ _).trans rfl
set_option maxRecDepth 100000 in
theorem q_X8_isSplit_165  (h : ax_Hp) : ax_run m_X8_isSplit 165 [] [] h = ax_run m_X8_isSplit 166 [] [.int 0] h := (ax_run_eq _ _ _ _ _).trans rfl
set_option maxRecDepth 100000 in
theorem q_X8_isSplit_166 (s0 : Int32) (h : ax_Hp) : ax_run m_X8_isSplit 166 [] [.int s0] h = if s0 = 0 ∨ s0 = 1 then some (some (.int s0), h) else none := (ax_run_eq _ _ _ _ _).trans rfl
set_option maxRecDepth 100000 in
theorem q_X8_covers_0 (x1 : Int32) (h : ax_Hp) : ax_run m_X8_covers 0 [(0, .ref 47), (1, .int x1)] [] h = (rI m_X8_coversAt [.ref 47, .int x1, .int ((h.1 47 9) - (h.1 47 9) / 6 * 6)] h).bind (fun q1 => some (some (.int q1.1), q1.2)) := (ax_run_eq _ _ _ _ _).trans rfl
set_option maxRecDepth 100000 in
theorem q_X8_passes_0_k47_54  (h : ax_Hp) : ax_run m_X8_passes 0 [(0, .ref 47), (1, .ref 54)] [] h = ax_run m_X8_passes 2 [(0, .ref 47), (1, .ref 54), (2, .int 0)] [] h := (ax_run_eq _ _ _ _ _).trans rfl
set_option maxRecDepth 100000 in
theorem q_X8_passes_2_k47_54 (x2 : Int32) (h : ax_Hp) : ax_run m_X8_passes 2 [(0, .ref 47), (1, .ref 54), (2, .int x2)] [] h = if 48 ≤ x2 then ax_run m_X8_passes 58 [] [] h else if h.1 47 20 = 0 then ax_run m_X8_passes 30 [(0, .ref 47), (1, .ref 54), (2, .int x2)] [] h else ax_g (ax_in x2 48) (ax_g (ax_in (h.1 47 21) 279) (ax_run m_X8_passes 42 [(0, .ref 47), (1, .ref 54), (2, .int x2)] [] (wI h 60 (h.1 47 21).toNatClampNeg (h.1 54 x2.toNatClampNeg)))) := (ax_run_eq _ _ _ _ _).trans rfl
set_option maxRecDepth 100000 in
theorem q_X8_passes_30_k47_54 (x2 : Int32) (h : ax_Hp) : ax_run m_X8_passes 30 [(0, .ref 47), (1, .ref 54), (2, .int x2)] [] h = ax_g (ax_in (h.1 47 21) 279) (ax_g (ax_in x2 48) (ax_run m_X8_passes 42 [(0, .ref 47), (1, .ref 54), (2, .int x2)] [] (wI h 54 x2.toNatClampNeg (h.1 60 (h.1 47 21).toNatClampNeg)))) := (ax_run_eq _ _ _ _ _).trans rfl
set_option maxRecDepth 100000 in
theorem q_X8_passes_42_k47_54 (x2 : Int32) (h : ax_Hp) : ax_run m_X8_passes 42 [(0, .ref 47), (1, .ref 54), (2, .int x2)] [] h = ax_run m_X8_passes 2 [(0, .ref 47), (1, .ref 54), (2, .int (x2 + 1))] [] (wI h 47 21 ((h.1 47 21) + 1)) := (ax_run_eq _ _ _ _ _).trans rfl
set_option maxRecDepth 100000 in
theorem q_X8_passes_58_k47_54  (h : ax_Hp) : ax_run m_X8_passes 58 [] [] h = some (none, h) := (ax_run_eq _ _ _ _ _).trans rfl
set_option maxRecDepth 100000 in
theorem q_X8_goesWall_0 (x1 : Int32) (h : ax_Hp) : ax_run m_X8_goesWall 0 [(0, .ref 47), (1, .int x1)] [] h = ax_g (ax_in x1 7) ((rI m_X8_whereTo [.ref 47, .int x1] h).bind (fun q1 => if h.1 52 x1.toNatClampNeg = q1.1 then some (none, q1.2) else ax_run m_X8_goesWall 19 [(0, .ref 47), (1, .int x1), (2, .int (h.1 52 x1.toNatClampNeg)), (3, .int q1.1)] [] q1.2)) := (ax_run_eq _ _ _ _ _).trans rfl
set_option maxRecDepth 100000 in
theorem q_X8_goesWall_19 (x1 : Int32) (x2 : Int32) (x3 : Int32) (h : ax_Hp) : ax_run m_X8_goesWall 19 [(0, .ref 47), (1, .int x1), (2, .int x2), (3, .int x3)] [] h = if x2 = h.1 47 24 then if x3 = h.1 47 25 then ax_run m_X8_goesWall 56 [(0, .ref 47), (1, .int x1), (3, .int x3)] [.int (h.1 47 26), .ref 47] h else ax_run m_X8_goesWall 40 [(0, .ref 47), (1, .int x1), (2, .int x2), (3, .int x3)] [.int (h.1 47 26), .ref 47] h else ax_run m_X8_goesWall 40 [(0, .ref 47), (1, .int x1), (2, .int x2), (3, .int x3)] [.int (h.1 47 26), .ref 47] h := (ax_run_eq _ _ _ _ _).trans rfl
set_option maxRecDepth 100000 in
theorem q_X8_goesWall_40 (x1 : Int32) (x2 : Int32) (x3 : Int32) (s0 : Int32) (h : ax_Hp) : ax_run m_X8_goesWall 40 [(0, .ref 47), (1, .int x1), (2, .int x2), (3, .int x3)] [.int s0, .ref 47] h = if x2 = h.1 47 25 then if x3 = h.1 47 24 then ax_run m_X8_goesWall 56 [(0, .ref 47), (1, .int x1), (3, .int x3)] [.int s0, .ref 47] h else ax_run m_X8_goesWall 60 [(0, .ref 47), (1, .int x1), (3, .int x3)] [.int s0, .ref 47] h else ax_run m_X8_goesWall 60 [(0, .ref 47), (1, .int x1), (3, .int x3)] [.int s0, .ref 47] h := (ax_run_eq _ _ _ _ _).trans rfl
set_option maxRecDepth 100000 in
theorem q_X8_goesWall_56 (x1 : Int32) (x3 : Int32) (s0 : Int32) (h : ax_Hp) : ax_run m_X8_goesWall 56 [(0, .ref 47), (1, .int x1), (3, .int x3)] [.int s0, .ref 47] h = ax_run m_X8_goesWall 61 [(0, .ref 47), (1, .int x1), (3, .int x3)] [.int 1, .int s0, .ref 47] h := (ax_run_eq _ _ _ _ _).trans rfl
set_option maxRecDepth 100000 in
theorem q_X8_goesWall_60 (x1 : Int32) (x3 : Int32) (s0 : Int32) (h : ax_Hp) : ax_run m_X8_goesWall 60 [(0, .ref 47), (1, .int x1), (3, .int x3)] [.int s0, .ref 47] h = ax_run m_X8_goesWall 61 [(0, .ref 47), (1, .int x1), (3, .int x3)] [.int 0, .int s0, .ref 47] h := (ax_run_eq _ _ _ _ _).trans rfl
set_option maxRecDepth 100000 in
theorem q_X8_goesWall_61 (x1 : Int32) (x3 : Int32) (s0 : Int32) (s1 : Int32) (h : ax_Hp) : ax_run m_X8_goesWall 61 [(0, .ref 47), (1, .int x1), (3, .int x3)] [.int s0, .int s1, .ref 47] h = ax_g (ax_in x1 7) (ax_g (ax_in x1 7) (ax_g (ax_in x1 7) (some (none, wI (wI (wI h 47 26 (s1 + s0)) 52 x1.toNatClampNeg x3) 53 x1.toNatClampNeg (((wI (wI h 47 26 (s1 + s0)) 52 x1.toNatClampNeg x3).1 53 x1.toNatClampNeg) + 1))))) := (ax_run_eq _ _ _ _ _).trans rfl
set_option maxRecDepth 100000 in
theorem q_X8_canGo_0 (x1 : Int32) (x2 : Int32) (x3 : Int32) (h : ax_Hp) : ax_run m_X8_canGo 0 [(0, .ref 47), (1, .int x1), (2, .int x2), (3, .int x3)] [] h = if x2 = x3 then ax_run m_X8_canGo 35 [] [] h else (rI m_X8_apart [.int x2, .int x3] h).bind (fun q1 => (rI m_X8_goesSteps [.ref 47, .int x1, .int q1.1] q1.2).bind (fun q2 => if q2.1 = 0 then ax_run m_X8_canGo 35 [] [] q2.2 else ax_g (ax_in x2 8) ((rI m_X8_has [.int (q2.2.1 55 x2.toNatClampNeg), .int x3] q2.2).bind (fun q3 => if q3.1 = 0 then ax_run m_X8_canGo 36 [] [.int 1] q3.2 else ax_run m_X8_canGo 35 [] [] q3.2)))) := (ax_run_eq _ _ _ _ _).trans rfl
set_option maxRecDepth 100000 in
theorem q_X8_canGo_35  (h : ax_Hp) : ax_run m_X8_canGo 35 [] [] h = ax_run m_X8_canGo 36 [] [.int 0] h := (ax_run_eq _ _ _ _ _).trans rfl
set_option maxRecDepth 100000 in
theorem q_X8_canGo_36 (s0 : Int32) (h : ax_Hp) : ax_run m_X8_canGo 36 [] [.int s0] h = if s0 = 0 ∨ s0 = 1 then some (some (.int s0), h) else none := (ax_run_eq _ _ _ _ _).trans rfl
set_option maxRecDepth 100000 in
theorem q_X8_passes_0_k47_49  (h : ax_Hp) : ax_run m_X8_passes 0 [(0, .ref 47), (1, .ref 49)] [] h = ax_run m_X8_passes 2 [(0, .ref 47), (1, .ref 49), (2, .int 0)] [] h := (ax_run_eq _ _ _ _ _).trans rfl
set_option maxRecDepth 100000 in
theorem q_X8_passes_2_k47_49 (x2 : Int32) (h : ax_Hp) : ax_run m_X8_passes 2 [(0, .ref 47), (1, .ref 49), (2, .int x2)] [] h = if 7 ≤ x2 then ax_run m_X8_passes 58 [] [] h else if h.1 47 20 = 0 then ax_run m_X8_passes 30 [(0, .ref 47), (1, .ref 49), (2, .int x2)] [] h else ax_g (ax_in x2 7) (ax_g (ax_in (h.1 47 21) 279) (ax_run m_X8_passes 42 [(0, .ref 47), (1, .ref 49), (2, .int x2)] [] (wI h 60 (h.1 47 21).toNatClampNeg (h.1 49 x2.toNatClampNeg)))) := (ax_run_eq _ _ _ _ _).trans rfl
set_option maxRecDepth 100000 in
theorem q_X8_passes_30_k47_49 (x2 : Int32) (h : ax_Hp) : ax_run m_X8_passes 30 [(0, .ref 47), (1, .ref 49), (2, .int x2)] [] h = ax_g (ax_in (h.1 47 21) 279) (ax_g (ax_in x2 7) (ax_run m_X8_passes 42 [(0, .ref 47), (1, .ref 49), (2, .int x2)] [] (wI h 49 x2.toNatClampNeg (h.1 60 (h.1 47 21).toNatClampNeg)))) := (ax_run_eq _ _ _ _ _).trans rfl
set_option maxRecDepth 100000 in
theorem q_X8_passes_42_k47_49 (x2 : Int32) (h : ax_Hp) : ax_run m_X8_passes 42 [(0, .ref 47), (1, .ref 49), (2, .int x2)] [] h = ax_run m_X8_passes 2 [(0, .ref 47), (1, .ref 49), (2, .int (x2 + 1))] [] (wI h 47 21 ((h.1 47 21) + 1)) := (ax_run_eq _ _ _ _ _).trans rfl
set_option maxRecDepth 100000 in
theorem q_X8_passes_58_k47_49  (h : ax_Hp) : ax_run m_X8_passes 58 [] [] h = some (none, h) := (ax_run_eq _ _ _ _ _).trans rfl
set_option maxRecDepth 100000 in
theorem q_X8_comesPlace_0_k47_52 (x2 : Int32) (x3 : Int32) (h : ax_Hp) : ax_run m_X8_comesPlace 0 [(0, .ref 47), (1, .ref 52), (2, .int x2), (3, .int x3)] [] h = (rI m_X8_isWall [.ref 47, .int x2] h).bind (fun q1 => if q1.1 = 0 then ax_run m_X8_comesPlace 15 [] [] q1.2 else (rI m_X8_isHouse [.int x3] q1.2).bind (fun q2 => if q2.1 = 0 then ax_run m_X8_comesPlace 15 [] [] q2.2 else ax_run m_X8_comesPlace 17 [(1, .ref 52), (2, .int x2), (3, .int x3)] [] q2.2)) := (ax_run_eq _ _ _ _ _).trans rfl
set_option maxRecDepth 100000 in
theorem q_X8_comesPlace_15_k47_52  (h : ax_Hp) : ax_run m_X8_comesPlace 15 [] [] h = some (some (.int 0), h) := (ax_run_eq _ _ _ _ _).trans rfl
set_option maxRecDepth 100000 in
theorem q_X8_comesPlace_17_k47_52 (x2 : Int32) (x3 : Int32) (h : ax_Hp) : ax_run m_X8_comesPlace 17 [(1, .ref 52), (2, .int x2), (3, .int x3)] [] h = ax_g (ax_in x2 7) (some (some (.int 1), wI h 52 x2.toNatClampNeg x3)) := (ax_run_eq _ _ _ _ _).trans rfl
set_option maxRecDepth 100000 in
theorem q_X8_passes_0_k47_53  (h : ax_Hp) : ax_run m_X8_passes 0 [(0, .ref 47), (1, .ref 53)] [] h = ax_run m_X8_passes 2 [(0, .ref 47), (1, .ref 53), (2, .int 0)] [] h := (ax_run_eq _ _ _ _ _).trans rfl
set_option maxRecDepth 100000 in
theorem q_X8_passes_2_k47_53 (x2 : Int32) (h : ax_Hp) : ax_run m_X8_passes 2 [(0, .ref 47), (1, .ref 53), (2, .int x2)] [] h = if 7 ≤ x2 then ax_run m_X8_passes 58 [] [] h else if h.1 47 20 = 0 then ax_run m_X8_passes 30 [(0, .ref 47), (1, .ref 53), (2, .int x2)] [] h else ax_g (ax_in x2 7) (ax_g (ax_in (h.1 47 21) 279) (ax_run m_X8_passes 42 [(0, .ref 47), (1, .ref 53), (2, .int x2)] [] (wI h 60 (h.1 47 21).toNatClampNeg (h.1 53 x2.toNatClampNeg)))) := (ax_run_eq _ _ _ _ _).trans rfl
set_option maxRecDepth 100000 in
theorem q_X8_passes_30_k47_53 (x2 : Int32) (h : ax_Hp) : ax_run m_X8_passes 30 [(0, .ref 47), (1, .ref 53), (2, .int x2)] [] h = ax_g (ax_in (h.1 47 21) 279) (ax_g (ax_in x2 7) (ax_run m_X8_passes 42 [(0, .ref 47), (1, .ref 53), (2, .int x2)] [] (wI h 53 x2.toNatClampNeg (h.1 60 (h.1 47 21).toNatClampNeg)))) := (ax_run_eq _ _ _ _ _).trans rfl
set_option maxRecDepth 100000 in
theorem q_X8_passes_42_k47_53 (x2 : Int32) (h : ax_Hp) : ax_run m_X8_passes 42 [(0, .ref 47), (1, .ref 53), (2, .int x2)] [] h = ax_run m_X8_passes 2 [(0, .ref 47), (1, .ref 53), (2, .int (x2 + 1))] [] (wI h 47 21 ((h.1 47 21) + 1)) := (ax_run_eq _ _ _ _ _).trans rfl
set_option maxRecDepth 100000 in
theorem q_X8_passes_58_k47_53  (h : ax_Hp) : ax_run m_X8_passes 58 [] [] h = some (none, h) := (ax_run_eq _ _ _ _ _).trans rfl
set_option maxRecDepth 100000 in
theorem q_X8_isLent_0 (x1 : Int32) (h : ax_Hp) : ax_run m_X8_isLent 0 [(0, .ref 47), (1, .int x1)] [] h = ax_g (ax_in x1 7) (ax_g (ax_in x1 7) (if h.1 52 x1.toNatClampNeg = h.1 51 x1.toNatClampNeg then ax_run m_X8_isLent 19 [] [] h else ax_run m_X8_isLent 20 [] [.int 1] h)) := (ax_run_eq _ _ _ _ _).trans rfl
set_option maxRecDepth 100000 in
theorem q_X8_isLent_19  (h : ax_Hp) : ax_run m_X8_isLent 19 [] [] h = ax_run m_X8_isLent 20 [] [.int 0] h := (ax_run_eq _ _ _ _ _).trans rfl
set_option maxRecDepth 100000 in
theorem q_X8_isLent_20 (s0 : Int32) (h : ax_Hp) : ax_run m_X8_isLent 20 [] [.int s0] h = if s0 = 0 ∨ s0 = 1 then some (some (.int s0), h) else none := (ax_run_eq _ _ _ _ _).trans rfl
set_option maxRecDepth 100000 in
theorem q_X8_comesPlace_0_k47_51 (x2 : Int32) (x3 : Int32) (h : ax_Hp) : ax_run m_X8_comesPlace 0 [(0, .ref 47), (1, .ref 51), (2, .int x2), (3, .int x3)] [] h = (rI m_X8_isWall [.ref 47, .int x2] h).bind (fun q1 => if q1.1 = 0 then ax_run m_X8_comesPlace 15 [] [] q1.2 else (rI m_X8_isHouse [.int x3] q1.2).bind (fun q2 => if q2.1 = 0 then ax_run m_X8_comesPlace 15 [] [] q2.2 else ax_run m_X8_comesPlace 17 [(1, .ref 51), (2, .int x2), (3, .int x3)] [] q2.2)) := (ax_run_eq _ _ _ _ _).trans rfl
set_option maxRecDepth 100000 in
theorem q_X8_comesPlace_15_k47_51  (h : ax_Hp) : ax_run m_X8_comesPlace 15 [] [] h = some (some (.int 0), h) := (ax_run_eq _ _ _ _ _).trans rfl
set_option maxRecDepth 100000 in
theorem q_X8_comesPlace_17_k47_51 (x2 : Int32) (x3 : Int32) (h : ax_Hp) : ax_run m_X8_comesPlace 17 [(1, .ref 51), (2, .int x2), (3, .int x3)] [] h = ax_g (ax_in x2 7) (some (some (.int 1), wI h 51 x2.toNatClampNeg x3)) := (ax_run_eq _ _ _ _ _).trans rfl
set_option maxRecDepth 100000 in
theorem q_X8_comesBar_0 (x1 : Int32) (x2 : Int32) (h : ax_Hp) : ax_run m_X8_comesBar 0 [(0, .ref 47), (1, .int x1), (2, .int x2)] [] h = (rI m_X8_areTwo [.int x1, .int x2] h).bind (fun q1 => if q1.1 = 0 then some (some (.int 0), q1.2) else ax_run m_X8_comesBar 10 [(0, .ref 47), (1, .int x1), (2, .int x2)] [] q1.2) := (ax_run_eq _ _ _ _ _).trans rfl
set_option maxRecDepth 100000 in
theorem q_X8_comesBar_10 (x1 : Int32) (x2 : Int32) (h : ax_Hp) : ax_run m_X8_comesBar 10 [(0, .ref 47), (1, .int x1), (2, .int x2)] [] h = ax_g (ax_in x1 8) (ax_g (ax_in x1 8) (some (some (.int 1), wI h 55 x1.toNatClampNeg ((h.1 55 x1.toNatClampNeg) ^^^ (1 <<< (x2 &&& 31)))))) := (ax_run_eq _ _ _ _ _).trans rfl
set_option maxRecDepth 100000 in
theorem q_X8_coversAt_0 (x1 : Int32) (x2 : Int32) (h : ax_Hp) : ax_run m_X8_coversAt 0 [(0, .ref 47), (1, .int x1), (2, .int x2)] [] h = ax_g (ax_in x1 7) (ax_g (ax_in x1 7) (if h.1 49 x1.toNatClampNeg = 1 then ax_run m_X8_coversAt 48 [(2, .int x2), (3, .int ((h.1 50 x1.toNatClampNeg) + 1))] [] h else if h.1 49 x1.toNatClampNeg = 2 then ax_run m_X8_coversAt 61 [(3, .int ((h.1 50 x1.toNatClampNeg) + 1))] [] h else if h.1 49 x1.toNatClampNeg = 3 then ax_run m_X8_coversAt 75 [(3, .int ((h.1 50 x1.toNatClampNeg) + 1))] [] h else if h.1 49 x1.toNatClampNeg = 4 then ax_run m_X8_coversAt 65 [(3, .int ((h.1 50 x1.toNatClampNeg) + 1))] [] h else if h.1 49 x1.toNatClampNeg = 5 then ax_run m_X8_coversAt 71 [(3, .int ((h.1 50 x1.toNatClampNeg) + 1))] [] h else ax_run m_X8_coversAt 75 [(3, .int ((h.1 50 x1.toNatClampNeg) + 1))] [] h)) := (ax_run_eq _ _ _ _ _).trans rfl
set_option maxRecDepth 100000 in
theorem q_X8_coversAt_48 (x2 : Int32) (x3 : Int32) (h : ax_Hp) : ax_run m_X8_coversAt 48 [(2, .int x2), (3, .int x3)] [] h = if 3 ≤ x2 then ax_run m_X8_coversAt 59 [(3, .int x3)] [] h else ax_run m_X8_coversAt 60 [] [.int (x3 + 3)] h := (ax_run_eq _ _ _ _ _).trans rfl
set_option maxRecDepth 100000 in
theorem q_X8_coversAt_59 (x3 : Int32) (h : ax_Hp) : ax_run m_X8_coversAt 59 [(3, .int x3)] [] h = ax_run m_X8_coversAt 60 [] [.int x3] h := (ax_run_eq _ _ _ _ _).trans rfl
set_option maxRecDepth 100000 in
theorem q_X8_coversAt_60 (s0 : Int32) (h : ax_Hp) : ax_run m_X8_coversAt 60 [] [.int s0] h = some (some (.int s0), h) := (ax_run_eq _ _ _ _ _).trans rfl
set_option maxRecDepth 100000 in
theorem q_X8_coversAt_61 (x3 : Int32) (h : ax_Hp) : ax_run m_X8_coversAt 61 [(3, .int x3)] [] h = some (some (.int (x3 / 2)), h) := (ax_run_eq _ _ _ _ _).trans rfl
set_option maxRecDepth 100000 in
theorem q_X8_coversAt_65 (x3 : Int32) (h : ax_Hp) : ax_run m_X8_coversAt 65 [(3, .int x3)] [] h = some (some (.int ((x3 / 2) + 1)), h) := (ax_run_eq _ _ _ _ _).trans rfl
set_option maxRecDepth 100000 in
theorem q_X8_coversAt_71 (x3 : Int32) (h : ax_Hp) : ax_run m_X8_coversAt 71 [(3, .int x3)] [] h = some (some (.int (2 * x3)), h) := (ax_run_eq _ _ _ _ _).trans rfl
set_option maxRecDepth 100000 in
theorem q_X8_coversAt_75 (x3 : Int32) (h : ax_Hp) : ax_run m_X8_coversAt 75 [(3, .int x3)] [] h = some (some (.int x3), h) := (ax_run_eq _ _ _ _ _).trans rfl
set_option maxRecDepth 100000 in
theorem q_X8_passes_0_k47_52  (h : ax_Hp) : ax_run m_X8_passes 0 [(0, .ref 47), (1, .ref 52)] [] h = ax_run m_X8_passes 2 [(0, .ref 47), (1, .ref 52), (2, .int 0)] [] h := (ax_run_eq _ _ _ _ _).trans rfl
set_option maxRecDepth 100000 in
theorem q_X8_passes_2_k47_52 (x2 : Int32) (h : ax_Hp) : ax_run m_X8_passes 2 [(0, .ref 47), (1, .ref 52), (2, .int x2)] [] h = if 7 ≤ x2 then ax_run m_X8_passes 58 [] [] h else if h.1 47 20 = 0 then ax_run m_X8_passes 30 [(0, .ref 47), (1, .ref 52), (2, .int x2)] [] h else ax_g (ax_in x2 7) (ax_g (ax_in (h.1 47 21) 279) (ax_run m_X8_passes 42 [(0, .ref 47), (1, .ref 52), (2, .int x2)] [] (wI h 60 (h.1 47 21).toNatClampNeg (h.1 52 x2.toNatClampNeg)))) := (ax_run_eq _ _ _ _ _).trans rfl
set_option maxRecDepth 100000 in
theorem q_X8_passes_30_k47_52 (x2 : Int32) (h : ax_Hp) : ax_run m_X8_passes 30 [(0, .ref 47), (1, .ref 52), (2, .int x2)] [] h = ax_g (ax_in (h.1 47 21) 279) (ax_g (ax_in x2 7) (ax_run m_X8_passes 42 [(0, .ref 47), (1, .ref 52), (2, .int x2)] [] (wI h 52 x2.toNatClampNeg (h.1 60 (h.1 47 21).toNatClampNeg)))) := (ax_run_eq _ _ _ _ _).trans rfl
set_option maxRecDepth 100000 in
theorem q_X8_passes_42_k47_52 (x2 : Int32) (h : ax_Hp) : ax_run m_X8_passes 42 [(0, .ref 47), (1, .ref 52), (2, .int x2)] [] h = ax_run m_X8_passes 2 [(0, .ref 47), (1, .ref 52), (2, .int (x2 + 1))] [] (wI h 47 21 ((h.1 47 21) + 1)) := (ax_run_eq _ _ _ _ _).trans rfl
set_option maxRecDepth 100000 in
theorem q_X8_passes_58_k47_52  (h : ax_Hp) : ax_run m_X8_passes 58 [] [] h = some (none, h) := (ax_run_eq _ _ _ _ _).trans rfl
set_option maxRecDepth 100000 in
theorem q_X8_letterNow_0  (h : ax_Hp) : ax_run m_X8_letterNow 0 [(0, .ref 47)] [] h = if h.1 47 14 ≤ h.1 47 15 then ax_run m_X8_letterNow 23 [] [] h else ax_g (ax_in (h.1 47 15) 96) (ax_run m_X8_letterNow 24 [] [.int (h.1 56 (h.1 47 15).toNatClampNeg)] h) := (ax_run_eq _ _ _ _ _).trans rfl
set_option maxRecDepth 100000 in
theorem q_X8_letterNow_23  (h : ax_Hp) : ax_run m_X8_letterNow 23 [] [] h = ax_run m_X8_letterNow 24 [] [.int ((-1))] h := (ax_run_eq _ _ _ _ _).trans rfl
set_option maxRecDepth 100000 in
theorem q_X8_letterNow_24 (s0 : Int32) (h : ax_Hp) : ax_run m_X8_letterNow 24 [] [.int s0] h = some (some (.int s0), h) := (ax_run_eq _ _ _ _ _).trans rfl
set_option maxRecDepth 100000 in
theorem q_X8_divisor_0 (x0 : Int64) (x2 : Int64) (h : ax_Hp) : ax_run m_X8_divisor 0 [(0, .long x0), (2, .long x2)] [] h = ax_run m_X8_divisor 6 [(4, .long x0), (6, .long x2)] [] h := (ax_run_eq _ _ _ _ _).trans rfl
set_option maxRecDepth 100000 in
theorem q_X8_divisor_6 (x4 : Int64) (x6 : Int64) (h : ax_Hp) : ax_run m_X8_divisor 6 [(4, .long x4), (6, .long x6)] [] h = if lg_cmp x6 0 = 0 then ax_run m_X8_divisor 31 [(4, .long x4)] [] h else ax_g (!(decide (x6 = 0))) (ax_run m_X8_divisor 6 [(4, .long x6), (6, .long (x4 - x4 / x6 * x6))] [] h) := (ax_run_eq _ _ _ _ _).trans rfl
set_option maxRecDepth 100000 in
theorem q_X8_divisor_31 (x4 : Int64) (h : ax_Hp) : ax_run m_X8_divisor 31 [(4, .long x4)] [] h = some (some (.long x4), h) := (ax_run_eq _ _ _ _ _).trans rfl
set_option maxRecDepth 100000 in
theorem q_X8_passes_0_k47_50  (h : ax_Hp) : ax_run m_X8_passes 0 [(0, .ref 47), (1, .ref 50)] [] h = ax_run m_X8_passes 2 [(0, .ref 47), (1, .ref 50), (2, .int 0)] [] h := (ax_run_eq _ _ _ _ _).trans rfl
set_option maxRecDepth 100000 in
theorem q_X8_passes_2_k47_50 (x2 : Int32) (h : ax_Hp) : ax_run m_X8_passes 2 [(0, .ref 47), (1, .ref 50), (2, .int x2)] [] h = if 7 ≤ x2 then ax_run m_X8_passes 58 [] [] h else if h.1 47 20 = 0 then ax_run m_X8_passes 30 [(0, .ref 47), (1, .ref 50), (2, .int x2)] [] h else ax_g (ax_in x2 7) (ax_g (ax_in (h.1 47 21) 279) (ax_run m_X8_passes 42 [(0, .ref 47), (1, .ref 50), (2, .int x2)] [] (wI h 60 (h.1 47 21).toNatClampNeg (h.1 50 x2.toNatClampNeg)))) := (ax_run_eq _ _ _ _ _).trans rfl
set_option maxRecDepth 100000 in
theorem q_X8_passes_30_k47_50 (x2 : Int32) (h : ax_Hp) : ax_run m_X8_passes 30 [(0, .ref 47), (1, .ref 50), (2, .int x2)] [] h = ax_g (ax_in (h.1 47 21) 279) (ax_g (ax_in x2 7) (ax_run m_X8_passes 42 [(0, .ref 47), (1, .ref 50), (2, .int x2)] [] (wI h 50 x2.toNatClampNeg (h.1 60 (h.1 47 21).toNatClampNeg)))) := (ax_run_eq _ _ _ _ _).trans rfl
set_option maxRecDepth 100000 in
theorem q_X8_passes_42_k47_50 (x2 : Int32) (h : ax_Hp) : ax_run m_X8_passes 42 [(0, .ref 47), (1, .ref 50), (2, .int x2)] [] h = ax_run m_X8_passes 2 [(0, .ref 47), (1, .ref 50), (2, .int (x2 + 1))] [] (wI h 47 21 ((h.1 47 21) + 1)) := (ax_run_eq _ _ _ _ _).trans rfl
set_option maxRecDepth 100000 in
theorem q_X8_passes_58_k47_50  (h : ax_Hp) : ax_run m_X8_passes 58 [] [] h = some (none, h) := (ax_run_eq _ _ _ _ _).trans rfl
set_option maxRecDepth 100000 in
theorem q_X8_comesNeeds_0 (x1 : Int32) (h : ax_Hp) : ax_run m_X8_comesNeeds 0 [(0, .ref 47), (1, .int x1)] [] h = ax_g (ax_in x1 224) ((rI m_X8_isHouse [.int (h.1 59 x1.toNatClampNeg)] h).bind (fun q1 => if q1.1 = 0 then some (some (.int 0), q1.2) else ax_run m_X8_comesNeeds 14 [(0, .ref 47), (1, .int x1)] [] q1.2)) := (ax_run_eq _ _ _ _ _).trans rfl
set_option maxRecDepth 100000 in
theorem q_X8_comesNeeds_14 (x1 : Int32) (h : ax_Hp) : ax_run m_X8_comesNeeds 14 [(0, .ref 47), (1, .int x1)] [] h = ax_run m_X8_comesNeeds 16 [(0, .ref 47), (1, .int x1), (2, .int 0)] [] h := (ax_run_eq _ _ _ _ _).trans rfl
set_option maxRecDepth 100000 in
theorem q_X8_comesNeeds_16 (x1 : Int32) (x2 : Int32) (h : ax_Hp) : ax_run m_X8_comesNeeds 16 [(0, .ref 47), (1, .int x1), (2, .int x2)] [] h = if 6 ≤ x2 then ax_run m_X8_comesNeeds 54 [] [] h else ax_g (ax_in x1 224) (ax_g (ax_in ((x1 + 1) + x2) 224) (ax_g (ax_in ((6 * (h.1 59 x1.toNatClampNeg)) + x2) 48) (ax_run m_X8_comesNeeds 16 [(0, .ref 47), (1, .int x1), (2, .int (x2 + 1))] [] (wI h 54 ((6 * (h.1 59 x1.toNatClampNeg)) + x2).toNatClampNeg (h.1 59 ((x1 + 1) + x2).toNatClampNeg))))) := (ax_run_eq _ _ _ _ _).trans rfl
set_option maxRecDepth 100000 in
theorem q_X8_comesNeeds_54  (h : ax_Hp) : ax_run m_X8_comesNeeds 54 [] [] h = some (some (.int 1), h) := (ax_run_eq _ _ _ _ _).trans rfl
set_option maxRecDepth 100000 in
theorem q_X8_comesHours_0 (x1 : Int32) (h : ax_Hp) : ax_run m_X8_comesHours 0 [(0, .ref 47), (1, .int x1)] [] h = (rI m_X8_isIn [.int x1, .int 1, .int 60] h).bind (fun q1 => if q1.1 = 0 then ax_run m_X8_comesHours 22 [] [] q1.2 else if (q1.2.1 47 9) + x1 ≤ 999 then ax_run m_X8_comesHours 24 [(0, .ref 47), (1, .int x1)] [] q1.2 else ax_run m_X8_comesHours 22 [] [] q1.2) := (ax_run_eq _ _ _ _ _).trans rfl
set_option maxRecDepth 100000 in
theorem q_X8_comesHours_22  (h : ax_Hp) : ax_run m_X8_comesHours 22 [] [] h = some (some (.int 0), h) := (ax_run_eq _ _ _ _ _).trans rfl
set_option maxRecDepth 100000 in
theorem q_X8_comesHours_24 (x1 : Int32) (h : ax_Hp) : ax_run m_X8_comesHours 24 [(0, .ref 47), (1, .int x1)] [] h = (rV m_X8_goes_ [.ref 47, .int x1] h).bind (fun q1 => some (some (.int 1), q1)) := (ax_run_eq _ _ _ _ _).trans rfl
set_option maxRecDepth 100000 in
theorem q_X8_passOne_0 (x1 : Int32) (h : ax_Hp) : ax_run m_X8_passOne 0 [(0, .ref 47), (1, .int x1)] [] h = if h.1 47 20 = 0 then ax_run m_X8_passOne 11 [(0, .ref 47), (1, .int x1)] [] h else ax_run m_X8_passOne 20 [(0, .ref 47), (1, .int x1)] [.int x1] h := (ax_run_eq _ _ _ _ _).trans rfl
set_option maxRecDepth 100000 in
theorem q_X8_passOne_11 (x1 : Int32) (h : ax_Hp) : ax_run m_X8_passOne 11 [(0, .ref 47), (1, .int x1)] [] h = ax_g (ax_in (h.1 47 21) 279) (ax_run m_X8_passOne 20 [(0, .ref 47), (1, .int x1)] [.int (h.1 60 (h.1 47 21).toNatClampNeg)] h) := (ax_run_eq _ _ _ _ _).trans rfl
set_option maxRecDepth 100000 in
theorem q_X8_passOne_20 (x1 : Int32) (s0 : Int32) (h : ax_Hp) : ax_run m_X8_passOne 20 [(0, .ref 47), (1, .int x1)] [.int s0] h = if h.1 47 20 = 0 then ax_run m_X8_passOne 38 [(0, .ref 47), (2, .int s0)] [] h else ax_g (ax_in (h.1 47 21) 279) (ax_run m_X8_passOne 38 [(0, .ref 47), (2, .int s0)] [] (wI h 60 (h.1 47 21).toNatClampNeg x1)) := (ax_run_eq _ _ _ _ _).trans rfl
set_option maxRecDepth 100000 in
theorem q_X8_passOne_38 (x2 : Int32) (h : ax_Hp) : ax_run m_X8_passOne 38 [(0, .ref 47), (2, .int x2)] [] h = some (some (.int x2), wI h 47 21 ((h.1 47 21) + 1)) := (ax_run_eq _ _ _ _ _).trans rfl
set_option maxRecDepth 100000 in
theorem q_X8_passes_0_k47_55  (h : ax_Hp) : ax_run m_X8_passes 0 [(0, .ref 47), (1, .ref 55)] [] h = ax_run m_X8_passes 2 [(0, .ref 47), (1, .ref 55), (2, .int 0)] [] h := (ax_run_eq _ _ _ _ _).trans rfl
set_option maxRecDepth 100000 in
theorem q_X8_passes_2_k47_55 (x2 : Int32) (h : ax_Hp) : ax_run m_X8_passes 2 [(0, .ref 47), (1, .ref 55), (2, .int x2)] [] h = if 8 ≤ x2 then ax_run m_X8_passes 58 [] [] h else if h.1 47 20 = 0 then ax_run m_X8_passes 30 [(0, .ref 47), (1, .ref 55), (2, .int x2)] [] h else ax_g (ax_in x2 8) (ax_g (ax_in (h.1 47 21) 279) (ax_run m_X8_passes 42 [(0, .ref 47), (1, .ref 55), (2, .int x2)] [] (wI h 60 (h.1 47 21).toNatClampNeg (h.1 55 x2.toNatClampNeg)))) := (ax_run_eq _ _ _ _ _).trans rfl
set_option maxRecDepth 100000 in
theorem q_X8_passes_30_k47_55 (x2 : Int32) (h : ax_Hp) : ax_run m_X8_passes 30 [(0, .ref 47), (1, .ref 55), (2, .int x2)] [] h = ax_g (ax_in (h.1 47 21) 279) (ax_g (ax_in x2 8) (ax_run m_X8_passes 42 [(0, .ref 47), (1, .ref 55), (2, .int x2)] [] (wI h 55 x2.toNatClampNeg (h.1 60 (h.1 47 21).toNatClampNeg)))) := (ax_run_eq _ _ _ _ _).trans rfl
set_option maxRecDepth 100000 in
theorem q_X8_passes_42_k47_55 (x2 : Int32) (h : ax_Hp) : ax_run m_X8_passes 42 [(0, .ref 47), (1, .ref 55), (2, .int x2)] [] h = ax_run m_X8_passes 2 [(0, .ref 47), (1, .ref 55), (2, .int (x2 + 1))] [] (wI h 47 21 ((h.1 47 21) + 1)) := (ax_run_eq _ _ _ _ _).trans rfl
set_option maxRecDepth 100000 in
theorem q_X8_passes_58_k47_55  (h : ax_Hp) : ax_run m_X8_passes 58 [] [] h = some (none, h) := (ax_run_eq _ _ _ _ _).trans rfl
set_option maxRecDepth 100000 in
theorem q_X8_isSo_0 (x1 : Int32) (h : ax_Hp) : ax_run m_X8_isSo 0 [(0, .ref 47), (1, .int x1)] [] h = (rV m_X8_minds [.ref 47] h).bind (fun q1 => ax_run m_X8_isSo 8 [(0, .ref 47), (1, .int x1), (2, .int 1), (3, .int 0)] [] q1) := (ax_run_eq _ _ _ _ _).trans rfl
set_option maxRecDepth 100000 in
theorem q_X8_isSo_8 (x1 : Int32) (x2 : Int32) (x3 : Int32) (h : ax_Hp) : ax_run m_X8_isSo 8 [(0, .ref 47), (1, .int x1), (2, .int x2), (3, .int x3)] [] h = if h.1 47 34 ≤ x3 then ax_run m_X8_isSo 51 [(0, .ref 47), (2, .int x2)] [] h else if x2 = 0 then ax_run m_X8_isSo 51 [(0, .ref 47), (2, .int x2)] [] h else ax_g (ax_in x1 7) (ax_g (ax_in x3 16) (if h.1 52 x1.toNatClampNeg = h.1 65 x3.toNatClampNeg then ax_run m_X8_isSo 40 [(0, .ref 47), (1, .int x1), (3, .int x3)] [.int 1] h else ax_run m_X8_isSo 39 [(0, .ref 47), (1, .int x1), (3, .int x3)] [] h)) := (ax_run_eq _ _ _ _ _).trans rfl
set_option maxRecDepth 100000 in
theorem q_X8_isSo_39 (x1 : Int32) (x3 : Int32) (h : ax_Hp) : ax_run m_X8_isSo 39 [(0, .ref 47), (1, .int x1), (3, .int x3)] [] h = ax_run m_X8_isSo 40 [(0, .ref 47), (1, .int x1), (3, .int x3)] [.int 0] h := (ax_run_eq _ _ _ _ _).trans rfl
set_option maxRecDepth 100000 in
theorem q_X8_isSo_40 (x1 : Int32) (x3 : Int32) (s0 : Int32) (h : ax_Hp) : ax_run m_X8_isSo 40 [(0, .ref 47), (1, .int x1), (3, .int x3)] [.int s0] h = (rV m_X8_goesHour [.ref 47] h).bind (fun q1 => ax_run m_X8_isSo 8 [(0, .ref 47), (1, .int x1), (2, .int s0), (3, .int (x3 + 1))] [] q1) := (ax_run_eq _ _ _ _ _).trans rfl
set_option maxRecDepth 100000 in
theorem q_X8_isSo_51 (x2 : Int32) (h : ax_Hp) : ax_run m_X8_isSo 51 [(0, .ref 47), (2, .int x2)] [] h = (rV m_X8_forgets [.ref 47] h).bind (fun q1 => if x2 = 0 ∨ x2 = 1 then some (some (.int x2), q1) else none) := (ax_run_eq _ _ _ _ _).trans rfl
set_option maxRecDepth 100000 in
theorem q_X8_passes_0_k47_51  (h : ax_Hp) : ax_run m_X8_passes 0 [(0, .ref 47), (1, .ref 51)] [] h = ax_run m_X8_passes 2 [(0, .ref 47), (1, .ref 51), (2, .int 0)] [] h := (ax_run_eq _ _ _ _ _).trans rfl
set_option maxRecDepth 100000 in
theorem q_X8_passes_2_k47_51 (x2 : Int32) (h : ax_Hp) : ax_run m_X8_passes 2 [(0, .ref 47), (1, .ref 51), (2, .int x2)] [] h = if 7 ≤ x2 then ax_run m_X8_passes 58 [] [] h else if h.1 47 20 = 0 then ax_run m_X8_passes 30 [(0, .ref 47), (1, .ref 51), (2, .int x2)] [] h else ax_g (ax_in x2 7) (ax_g (ax_in (h.1 47 21) 279) (ax_run m_X8_passes 42 [(0, .ref 47), (1, .ref 51), (2, .int x2)] [] (wI h 60 (h.1 47 21).toNatClampNeg (h.1 51 x2.toNatClampNeg)))) := (ax_run_eq _ _ _ _ _).trans rfl
set_option maxRecDepth 100000 in
theorem q_X8_passes_30_k47_51 (x2 : Int32) (h : ax_Hp) : ax_run m_X8_passes 30 [(0, .ref 47), (1, .ref 51), (2, .int x2)] [] h = ax_g (ax_in (h.1 47 21) 279) (ax_g (ax_in x2 7) (ax_run m_X8_passes 42 [(0, .ref 47), (1, .ref 51), (2, .int x2)] [] (wI h 51 x2.toNatClampNeg (h.1 60 (h.1 47 21).toNatClampNeg)))) := (ax_run_eq _ _ _ _ _).trans rfl
set_option maxRecDepth 100000 in
theorem q_X8_passes_42_k47_51 (x2 : Int32) (h : ax_Hp) : ax_run m_X8_passes 42 [(0, .ref 47), (1, .ref 51), (2, .int x2)] [] h = ax_run m_X8_passes 2 [(0, .ref 47), (1, .ref 51), (2, .int (x2 + 1))] [] (wI h 47 21 ((h.1 47 21) + 1)) := (ax_run_eq _ _ _ _ _).trans rfl
set_option maxRecDepth 100000 in
theorem q_X8_passes_58_k47_51  (h : ax_Hp) : ax_run m_X8_passes 58 [] [] h = some (none, h) := (ax_run_eq _ _ _ _ _).trans rfl
set_option maxRecDepth 100000 in
theorem q_X8_readsAll_0 (x1 : Int32) (h : ax_Hp) : ax_run m_X8_readsAll 0 [(0, .ref 47), (1, .int x1)] [] h = if x1 = 104 then ax_run m_X8_readsAll 64 [(0, .ref 47)] [] h else if x1 = 110 then ax_run m_X8_readsAll 57 [(0, .ref 47)] [] h else if x1 = 119 then ax_run m_X8_readsAll 36 [(0, .ref 47)] [] h else ax_run m_X8_readsAll 70 [(0, .ref 47)] [] h := (ax_run_eq _ _ _ _ _).trans rfl
set_option maxRecDepth 100000 in
theorem q_X8_readsAll_36  (h : ax_Hp) : ax_run m_X8_readsAll 36 [(0, .ref 47)] [] h = (rI m_X8_readsKind [.ref 47] h).bind (fun q1 => if q1.1 = 0 then ax_run m_X8_readsAll 55 [] [] q1.2 else (rI m_X8_readsMany [.ref 47, .int 2] q1.2).bind (fun q2 => if q2.1 = 0 then ax_run m_X8_readsAll 55 [] [] q2.2 else ax_run m_X8_readsAll 56 [] [.int 1] q2.2)) := (ax_run_eq _ _ _ _ _).trans rfl
set_option maxRecDepth 100000 in
theorem q_X8_readsAll_55  (h : ax_Hp) : ax_run m_X8_readsAll 55 [] [] h = ax_run m_X8_readsAll 56 [] [.int 0] h := (ax_run_eq _ _ _ _ _).trans rfl
set_option maxRecDepth 100000 in
theorem q_X8_readsAll_56 (s0 : Int32) (h : ax_Hp) : ax_run m_X8_readsAll 56 [] [.int s0] h = if s0 = 0 ∨ s0 = 1 then some (some (.int s0), h) else none := (ax_run_eq _ _ _ _ _).trans rfl
set_option maxRecDepth 100000 in
theorem q_X8_readsAll_57  (h : ax_Hp) : ax_run m_X8_readsAll 57 [(0, .ref 47)] [] h = (rI m_X8_readsMany [.ref 47, .int 7] h).bind (fun q1 => if q1.1 = 0 ∨ q1.1 = 1 then some (some (.int q1.1), q1.2) else none) := (ax_run_eq _ _ _ _ _).trans rfl
set_option maxRecDepth 100000 in
theorem q_X8_readsAll_64  (h : ax_Hp) : ax_run m_X8_readsAll 64 [(0, .ref 47)] [] h = (rI m_X8_readsDigits [.ref 47, .int 2] h).bind (fun q1 => if q1.1 = 0 ∨ q1.1 = 1 then some (some (.int q1.1), q1.2) else none) := (ax_run_eq _ _ _ _ _).trans rfl
set_option maxRecDepth 100000 in
theorem q_X8_readsAll_70  (h : ax_Hp) : ax_run m_X8_readsAll 70 [(0, .ref 47)] [] h = (rI m_X8_readsMany [.ref 47, .int 2] h).bind (fun q1 => if q1.1 = 0 ∨ q1.1 = 1 then some (some (.int q1.1), q1.2) else none) := (ax_run_eq _ _ _ _ _).trans rfl
set_option maxRecDepth 100000 in
theorem q_X8_comesWall_0 (x1 : Int32) (x2 : Int32) (x3 : Int32) (h : ax_Hp) : ax_run m_X8_comesWall 0 [(0, .ref 47), (1, .int x1), (2, .int x2), (3, .int x3)] [] h = (rI m_X8_isHouse [.int x3] h).bind (fun q1 => if q1.1 = 0 then ax_run m_X8_comesWall 16 [] [] q1.2 else if q1.2.1 47 8 = 7 then ax_run m_X8_comesWall 16 [] [] q1.2 else ax_run m_X8_comesWall 18 [(0, .ref 47), (1, .int x1), (2, .int x2), (3, .int x3)] [] q1.2) := (ax_run_eq _ _ _ _ _).trans rfl
set_option maxRecDepth 100000 in
theorem q_X8_comesWall_16  (h : ax_Hp) : ax_run m_X8_comesWall 16 [] [] h = some (some (.int 0), h) := (ax_run_eq _ _ _ _ _).trans rfl
set_option maxRecDepth 100000 in
theorem q_X8_comesWall_18 (x1 : Int32) (x2 : Int32) (x3 : Int32) (h : ax_Hp) : ax_run m_X8_comesWall 18 [(0, .ref 47), (1, .int x1), (2, .int x2), (3, .int x3)] [] h = ax_g (ax_in (h.1 47 8) 7) (ax_g (ax_in ((wI h 49 (h.1 47 8).toNatClampNeg x1).1 47 8) 7) (ax_g (ax_in ((wI (wI h 49 (h.1 47 8).toNatClampNeg x1) 50 ((wI h 49 (h.1 47 8).toNatClampNeg x1).1 47 8).toNatClampNeg x2).1 47 8) 7) (ax_g (ax_in ((wI (wI (wI h 49 (h.1 47 8).toNatClampNeg x1) 50 ((wI h 49 (h.1 47 8).toNatClampNeg x1).1 47 8).toNatClampNeg x2) 51 ((wI (wI h 49 (h.1 47 8).toNatClampNeg x1) 50 ((wI h 49 (h.1 47 8).toNatClampNeg x1).1 47 8).toNatClampNeg x2).1 47 8).toNatClampNeg x3).1 47 8) 7) (ax_g (ax_in ((wI (wI (wI (wI h 49 (h.1 47 8).toNatClampNeg x1) 50 ((wI h 49 (h.1 47 8).toNatClampNeg x1).1 47 8).toNatClampNeg x2) 51 ((wI (wI h 49 (h.1 47 8).toNatClampNeg x1) 50 ((wI h 49 (h.1 47 8).toNatClampNeg x1).1 47 8).toNatClampNeg x2).1 47 8).toNatClampNeg x3) 52 ((wI (wI (wI h 49 (h.1 47 8).toNatClampNeg x1) 50 ((wI h 49 (h.1 47 8).toNatClampNeg x1).1 47 8).toNatClampNeg x2) 51 ((wI (wI h 49 (h.1 47 8).toNatClampNeg x1) 50 ((wI h 49 (h.1 47 8).toNatClampNeg x1).1 47 8).toNatClampNeg x2).1 47 8).toNatClampNeg x3).1 47 8).toNatClampNeg x3).1 47 8) 7) (some (some (.int 1), wI (wI (wI (wI (wI (wI h 49 (h.1 47 8).toNatClampNeg x1) 50 ((wI h 49 (h.1 47 8).toNatClampNeg x1).1 47 8).toNatClampNeg x2) 51 ((wI (wI h 49 (h.1 47 8).toNatClampNeg x1) 50 ((wI h 49 (h.1 47 8).toNatClampNeg x1).1 47 8).toNatClampNeg x2).1 47 8).toNatClampNeg x3) 52 ((wI (wI (wI h 49 (h.1 47 8).toNatClampNeg x1) 50 ((wI h 49 (h.1 47 8).toNatClampNeg x1).1 47 8).toNatClampNeg x2) 51 ((wI (wI h 49 (h.1 47 8).toNatClampNeg x1) 50 ((wI h 49 (h.1 47 8).toNatClampNeg x1).1 47 8).toNatClampNeg x2).1 47 8).toNatClampNeg x3).1 47 8).toNatClampNeg x3) 53 ((wI (wI (wI (wI h 49 (h.1 47 8).toNatClampNeg x1) 50 ((wI h 49 (h.1 47 8).toNatClampNeg x1).1 47 8).toNatClampNeg x2) 51 ((wI (wI h 49 (h.1 47 8).toNatClampNeg x1) 50 ((wI h 49 (h.1 47 8).toNatClampNeg x1).1 47 8).toNatClampNeg x2).1 47 8).toNatClampNeg x3) 52 ((wI (wI (wI h 49 (h.1 47 8).toNatClampNeg x1) 50 ((wI h 49 (h.1 47 8).toNatClampNeg x1).1 47 8).toNatClampNeg x2) 51 ((wI (wI h 49 (h.1 47 8).toNatClampNeg x1) 50 ((wI h 49 (h.1 47 8).toNatClampNeg x1).1 47 8).toNatClampNeg x2).1 47 8).toNatClampNeg x3).1 47 8).toNatClampNeg x3).1 47 8).toNatClampNeg 0) 47 8 (((wI (wI (wI (wI (wI h 49 (h.1 47 8).toNatClampNeg x1) 50 ((wI h 49 (h.1 47 8).toNatClampNeg x1).1 47 8).toNatClampNeg x2) 51 ((wI (wI h 49 (h.1 47 8).toNatClampNeg x1) 50 ((wI h 49 (h.1 47 8).toNatClampNeg x1).1 47 8).toNatClampNeg x2).1 47 8).toNatClampNeg x3) 52 ((wI (wI (wI h 49 (h.1 47 8).toNatClampNeg x1) 50 ((wI h 49 (h.1 47 8).toNatClampNeg x1).1 47 8).toNatClampNeg x2) 51 ((wI (wI h 49 (h.1 47 8).toNatClampNeg x1) 50 ((wI h 49 (h.1 47 8).toNatClampNeg x1).1 47 8).toNatClampNeg x2).1 47 8).toNatClampNeg x3).1 47 8).toNatClampNeg x3) 53 ((wI (wI (wI (wI h 49 (h.1 47 8).toNatClampNeg x1) 50 ((wI h 49 (h.1 47 8).toNatClampNeg x1).1 47 8).toNatClampNeg x2) 51 ((wI (wI h 49 (h.1 47 8).toNatClampNeg x1) 50 ((wI h 49 (h.1 47 8).toNatClampNeg x1).1 47 8).toNatClampNeg x2).1 47 8).toNatClampNeg x3) 52 ((wI (wI (wI h 49 (h.1 47 8).toNatClampNeg x1) 50 ((wI h 49 (h.1 47 8).toNatClampNeg x1).1 47 8).toNatClampNeg x2) 51 ((wI (wI h 49 (h.1 47 8).toNatClampNeg x1) 50 ((wI h 49 (h.1 47 8).toNatClampNeg x1).1 47 8).toNatClampNeg x2).1 47 8).toNatClampNeg x3).1 47 8).toNatClampNeg x3).1 47 8).toNatClampNeg 0).1 47 8) + 1))))))) := (ax_run_eq _ _ _ _ _).trans rfl
set_option maxRecDepth 100000 in
theorem q_X8_readsDigits_0 (x1 : Int32) (h : ax_Hp) : ax_run m_X8_readsDigits 0 [(0, .ref 47), (1, .int x1)] [] h = ax_run m_X8_readsDigits 4 [(0, .ref 47), (1, .int x1), (2, .int 0), (3, .int 0)] [] h := (ax_run_eq _ _ _ _ _).trans rfl
set_option maxRecDepth 100000 in
theorem q_X8_readsDigits_4 (x1 : Int32) (x2 : Int32) (x3 : Int32) (h : ax_Hp) : ax_run m_X8_readsDigits 4 [(0, .ref 47), (1, .int x1), (2, .int x2), (3, .int x3)] [] h = if x1 ≤ x3 then ax_run m_X8_readsDigits 54 [(0, .ref 47), (2, .int x2)] [] h else (rI m_X8_letterNow [.ref 47] h).bind (fun q1 => (rI m_X8_isIn [.int q1.1, .int 48, .int 57] q1.2).bind (fun q2 => if q2.1 = 0 then some (some (.int 0), q2.2) else ax_run m_X8_readsDigits 25 [(0, .ref 47), (1, .int x1), (2, .int x2), (3, .int x3)] [] q2.2)) := (ax_run_eq _ _ _ _ _).trans rfl
set_option maxRecDepth 100000 in
theorem q_X8_readsDigits_25 (x1 : Int32) (x2 : Int32) (x3 : Int32) (h : ax_Hp) : ax_run m_X8_readsDigits 25 [(0, .ref 47), (1, .int x1), (2, .int x2), (3, .int x3)] [] h = (rI m_X8_letterNow [.ref 47] h).bind (fun q1 => ax_run m_X8_readsDigits 4 [(0, .ref 47), (1, .int x1), (2, .int (((10 * x2) + q1.1) - 48)), (3, .int (x3 + 1))] [] (wI q1.2 47 15 ((q1.2.1 47 15) + 1))) := (ax_run_eq _ _ _ _ _).trans rfl
set_option maxRecDepth 100000 in
theorem q_X8_readsDigits_54 (x2 : Int32) (h : ax_Hp) : ax_run m_X8_readsDigits 54 [(0, .ref 47), (2, .int x2)] [] h = ax_g (ax_in (h.1 47 17) 224) (some (some (.int 1), wI (wI h 59 (h.1 47 17).toNatClampNeg x2) 47 17 (((wI h 59 (h.1 47 17).toNatClampNeg x2).1 47 17) + 1))) := (ax_run_eq _ _ _ _ _).trans rfl
set_option maxRecDepth 100000 in
theorem q_X8_readsKind_0  (h : ax_Hp) : ax_run m_X8_readsKind 0 [(0, .ref 47)] [] h = (rI m_X8_letterNow [.ref 47] h).bind (fun q1 => (rI m_X8_kindTold [.int q1.1] q1.2).bind (fun q2 => if 0 ≤ q2.1 then ax_run m_X8_readsKind 14 [(0, .ref 47), (1, .int q2.1)] [] q2.2 else some (some (.int 0), q2.2))) := (ax_run_eq _ _ _ _ _).trans rfl
set_option maxRecDepth 100000 in
theorem q_X8_readsKind_14 (x1 : Int32) (h : ax_Hp) : ax_run m_X8_readsKind 14 [(0, .ref 47), (1, .int x1)] [] h = ax_g (ax_in (h.1 47 17) 224) (some (some (.int 1), wI (wI (wI h 59 (h.1 47 17).toNatClampNeg x1) 47 17 (((wI h 59 (h.1 47 17).toNatClampNeg x1).1 47 17) + 1)) 47 15 (((wI (wI h 59 (h.1 47 17).toNatClampNeg x1) 47 17 (((wI h 59 (h.1 47 17).toNatClampNeg x1).1 47 17) + 1)).1 47 15) + 1))) := (ax_run_eq _ _ _ _ _).trans rfl
set_option maxRecDepth 100000 in
theorem q_X8_readsMany_0 (x1 : Int32) (h : ax_Hp) : ax_run m_X8_readsMany 0 [(0, .ref 47), (1, .int x1)] [] h = ax_run m_X8_readsMany 2 [(0, .ref 47), (1, .int x1), (2, .int 0)] [] h := (ax_run_eq _ _ _ _ _).trans rfl
set_option maxRecDepth 100000 in
theorem q_X8_readsMany_2 (x1 : Int32) (x2 : Int32) (h : ax_Hp) : ax_run m_X8_readsMany 2 [(0, .ref 47), (1, .int x1), (2, .int x2)] [] h = if x1 ≤ x2 then ax_run m_X8_readsMany 23 [] [] h else (rI m_X8_readsDigits [.ref 47, .int 1] h).bind (fun q1 => if q1.1 = 0 then some (some (.int 0), q1.2) else ax_run m_X8_readsMany 17 [(0, .ref 47), (1, .int x1), (2, .int x2)] [] q1.2) := (ax_run_eq _ _ _ _ _).trans rfl
set_option maxRecDepth 100000 in
theorem q_X8_readsMany_17 (x1 : Int32) (x2 : Int32) (h : ax_Hp) : ax_run m_X8_readsMany 17 [(0, .ref 47), (1, .int x1), (2, .int x2)] [] h = ax_run m_X8_readsMany 2 [(0, .ref 47), (1, .int x1), (2, .int (x2 + 1))] [] h := (ax_run_eq _ _ _ _ _).trans rfl
set_option maxRecDepth 100000 in
theorem q_X8_readsMany_23  (h : ax_Hp) : ax_run m_X8_readsMany 23 [] [] h = some (some (.int 1), h) := (ax_run_eq _ _ _ _ _).trans rfl
set_option maxRecDepth 100000 in
theorem q_X8_goesSteps_0 (x1 : Int32) (x2 : Int32) (h : ax_Hp) : ax_run m_X8_goesSteps 0 [(0, .ref 47), (1, .int x1), (2, .int x2)] [] h = ax_g (ax_in x1 7) (if h.1 49 x1.toNatClampNeg = 2 then ax_run m_X8_goesSteps 36 [] [] h else if h.1 49 x1.toNatClampNeg = 3 then ax_run m_X8_goesSteps 38 [(2, .int x2)] [] h else if h.1 49 x1.toNatClampNeg = 4 then ax_run m_X8_goesSteps 50 [(2, .int x2)] [] h else if h.1 49 x1.toNatClampNeg = 5 then ax_run m_X8_goesSteps 61 [(2, .int x2)] [] h else ax_run m_X8_goesSteps 78 [(2, .int x2)] [] h) := (ax_run_eq _ _ _ _ _).trans rfl
set_option maxRecDepth 100000 in
theorem q_X8_goesSteps_36  (h : ax_Hp) : ax_run m_X8_goesSteps 36 [] [] h = some (some (.int 1), h) := (ax_run_eq _ _ _ _ _).trans rfl
set_option maxRecDepth 100000 in
theorem q_X8_goesSteps_38 (x2 : Int32) (h : ax_Hp) : ax_run m_X8_goesSteps 38 [(2, .int x2)] [] h = if x2 - x2 / 2 * 2 = 0 then ax_run m_X8_goesSteps 49 [] [.int 1] h else ax_run m_X8_goesSteps 48 [] [] h := (ax_run_eq _ _ _ _ _).trans rfl
set_option maxRecDepth 100000 in
theorem q_X8_goesSteps_48  (h : ax_Hp) : ax_run m_X8_goesSteps 48 [] [] h = ax_run m_X8_goesSteps 49 [] [.int 0] h := (ax_run_eq _ _ _ _ _).trans rfl
set_option maxRecDepth 100000 in
theorem q_X8_goesSteps_49 (s0 : Int32) (h : ax_Hp) : ax_run m_X8_goesSteps 49 [] [.int s0] h = if s0 = 0 ∨ s0 = 1 then some (some (.int s0), h) else none := (ax_run_eq _ _ _ _ _).trans rfl
set_option maxRecDepth 100000 in
theorem q_X8_goesSteps_50 (x2 : Int32) (h : ax_Hp) : ax_run m_X8_goesSteps 50 [(2, .int x2)] [] h = if x2 = 1 then ax_run m_X8_goesSteps 60 [] [.int 1] h else ax_run m_X8_goesSteps 59 [] [] h := (ax_run_eq _ _ _ _ _).trans rfl
set_option maxRecDepth 100000 in
theorem q_X8_goesSteps_59  (h : ax_Hp) : ax_run m_X8_goesSteps 59 [] [] h = ax_run m_X8_goesSteps 60 [] [.int 0] h := (ax_run_eq _ _ _ _ _).trans rfl
set_option maxRecDepth 100000 in
theorem q_X8_goesSteps_60 (s0 : Int32) (h : ax_Hp) : ax_run m_X8_goesSteps 60 [] [.int s0] h = if s0 = 0 ∨ s0 = 1 then some (some (.int s0), h) else none := (ax_run_eq _ _ _ _ _).trans rfl
set_option maxRecDepth 100000 in
theorem q_X8_goesSteps_61 (x2 : Int32) (h : ax_Hp) : ax_run m_X8_goesSteps 61 [(2, .int x2)] [] h = if x2 - x2 / 2 * 2 = 0 then ax_run m_X8_goesSteps 72 [] [] h else if x2 = 1 then ax_run m_X8_goesSteps 72 [] [] h else ax_run m_X8_goesSteps 76 [] [] h := (ax_run_eq _ _ _ _ _).trans rfl
set_option maxRecDepth 100000 in
theorem q_X8_goesSteps_72  (h : ax_Hp) : ax_run m_X8_goesSteps 72 [] [] h = ax_run m_X8_goesSteps 77 [] [.int 1] h := (ax_run_eq _ _ _ _ _).trans rfl
set_option maxRecDepth 100000 in
theorem q_X8_goesSteps_76  (h : ax_Hp) : ax_run m_X8_goesSteps 76 [] [] h = ax_run m_X8_goesSteps 77 [] [.int 0] h := (ax_run_eq _ _ _ _ _).trans rfl
set_option maxRecDepth 100000 in
theorem q_X8_goesSteps_77 (s0 : Int32) (h : ax_Hp) : ax_run m_X8_goesSteps 77 [] [.int s0] h = if s0 = 0 ∨ s0 = 1 then some (some (.int s0), h) else none := (ax_run_eq _ _ _ _ _).trans rfl
set_option maxRecDepth 100000 in
theorem q_X8_goesSteps_78 (x2 : Int32) (h : ax_Hp) : ax_run m_X8_goesSteps 78 [(2, .int x2)] [] h = if 3 < x2 then ax_run m_X8_goesSteps 87 [] [] h else ax_run m_X8_goesSteps 88 [] [.int 1] h := (ax_run_eq _ _ _ _ _).trans rfl
set_option maxRecDepth 100000 in
theorem q_X8_goesSteps_87  (h : ax_Hp) : ax_run m_X8_goesSteps 87 [] [] h = ax_run m_X8_goesSteps 88 [] [.int 0] h := (ax_run_eq _ _ _ _ _).trans rfl
set_option maxRecDepth 100000 in
theorem q_X8_goesSteps_88 (s0 : Int32) (h : ax_Hp) : ax_run m_X8_goesSteps 88 [] [.int s0] h = if s0 = 0 ∨ s0 = 1 then some (some (.int s0), h) else none := (ax_run_eq _ _ _ _ _).trans rfl
set_option maxRecDepth 100000 in
theorem q_X8_whereTo_0 (x1 : Int32) (h : ax_Hp) : ax_run m_X8_whereTo 0 [(0, .ref 47), (1, .int x1)] [] h = (rI m_X8_isLent [.ref 47, .int x1] h).bind (fun q1 => if q1.1 = 0 then ax_run m_X8_whereTo 48 [(0, .ref 47), (1, .int x1)] [] q1.2 else ax_g (ax_in x1 7) ((rI m_X8_lacks [.ref 47, .int (q1.2.1 51 x1.toNatClampNeg)] q1.2).bind (fun q2 => if q2.1 ≤ 0 then ax_run m_X8_whereTo 48 [(0, .ref 47), (1, .int x1)] [] q2.2 else ax_g (ax_in x1 7) (ax_g (ax_in x1 7) ((rI m_X8_canGo [.ref 47, .int x1, .int (q2.2.1 52 x1.toNatClampNeg), .int (q2.2.1 51 x1.toNatClampNeg)] q2.2).bind (fun q3 => if q3.1 = 0 then ax_run m_X8_whereTo 48 [(0, .ref 47), (1, .int x1)] [] q3.2 else ax_g (ax_in x1 7) (some (some (.int (q3.2.1 51 x1.toNatClampNeg)), q3.2)))))))) := (ax_run_eq _ _ _ _ _).trans rfl
set_option maxRecDepth 100000 in
theorem q_X8_whereTo_48 (x1 : Int32) (h : ax_Hp) : ax_run m_X8_whereTo 48 [(0, .ref 47), (1, .int x1)] [] h = ax_g (ax_in x1 7) ((rI m_X8_lacksWithout [.ref 47, .int x1] h).bind (fun q1 => ax_run m_X8_whereTo 64 [(0, .ref 47), (1, .int x1), (2, .int (h.1 52 x1.toNatClampNeg)), (3, .int q1.1), (4, .int 0)] [] q1.2)) := (ax_run_eq _ _ _ _ _).trans rfl
set_option maxRecDepth 100000 in
theorem q_X8_whereTo_64 (x1 : Int32) (x2 : Int32) (x3 : Int32) (x4 : Int32) (h : ax_Hp) : ax_run m_X8_whereTo 64 [(0, .ref 47), (1, .int x1), (2, .int x2), (3, .int x3), (4, .int x4)] [] h = if 8 ≤ x4 then ax_run m_X8_whereTo 116 [(2, .int x2)] [] h else ax_g (ax_in x1 7) ((rI m_X8_canGo [.ref 47, .int x1, .int (h.1 52 x1.toNatClampNeg), .int x4] h).bind (fun q1 => if q1.1 = 0 then ax_run m_X8_whereTo 110 [(0, .ref 47), (1, .int x1), (2, .int x2), (3, .int x3), (4, .int x4)] [] q1.2 else (rI m_X8_lacks [.ref 47, .int x4] q1.2).bind (fun q2 => if x3 < q2.1 then ax_run m_X8_whereTo 100 [(0, .ref 47), (1, .int x1), (4, .int x4)] [] q2.2 else ax_run m_X8_whereTo 110 [(0, .ref 47), (1, .int x1), (2, .int x2), (3, .int x3), (4, .int x4)] [] q2.2))) := (ax_run_eq _ _ _ _ _).trans rfl
set_option maxRecDepth 100000 in
theorem q_X8_whereTo_100 (x1 : Int32) (x4 : Int32) (h : ax_Hp) : ax_run m_X8_whereTo 100 [(0, .ref 47), (1, .int x1), (4, .int x4)] [] h = (rI m_X8_lacks [.ref 47, .int x4] h).bind (fun q1 => ax_run m_X8_whereTo 110 [(0, .ref 47), (1, .int x1), (2, .int x4), (3, .int q1.1), (4, .int x4)] [] q1.2) := (ax_run_eq _ _ _ _ _).trans rfl
set_option maxRecDepth 100000 in
theorem q_X8_whereTo_110 (x1 : Int32) (x2 : Int32) (x3 : Int32) (x4 : Int32) (h : ax_Hp) : ax_run m_X8_whereTo 110 [(0, .ref 47), (1, .int x1), (2, .int x2), (3, .int x3), (4, .int x4)] [] h = ax_run m_X8_whereTo 64 [(0, .ref 47), (1, .int x1), (2, .int x2), (3, .int x3), (4, .int (x4 + 1))] [] h := (ax_run_eq _ _ _ _ _).trans rfl
set_option maxRecDepth 100000 in
theorem q_X8_whereTo_116 (x2 : Int32) (h : ax_Hp) : ax_run m_X8_whereTo 116 [(2, .int x2)] [] h = some (some (.int x2), h) := (ax_run_eq _ _ _ _ _).trans rfl
set_option maxRecDepth 100000 in
theorem q_X8_kindTold_0 (x0 : Int32) (h : ax_Hp) : ax_run m_X8_kindTold 0 [(0, .int x0)] [] h = if x0 = 98 then ax_run m_X8_kindTold 64 [] [] h else if x0 = 102 then ax_run m_X8_kindTold 70 [] [] h else if x0 = 108 then ax_run m_X8_kindTold 68 [] [] h else if x0 = 111 then ax_run m_X8_kindTold 62 [] [] h else if x0 = 112 then ax_run m_X8_kindTold 66 [] [] h else if x0 = 119 then ax_run m_X8_kindTold 60 [] [] h else ax_run m_X8_kindTold 72 [] [] h := (ax_run_eq _ _ _ _ _).trans rfl
set_option maxRecDepth 100000 in
theorem q_X8_kindTold_60  (h : ax_Hp) : ax_run m_X8_kindTold 60 [] [] h = some (some (.int 0), h) := (ax_run_eq _ _ _ _ _).trans rfl
set_option maxRecDepth 100000 in
theorem q_X8_kindTold_62  (h : ax_Hp) : ax_run m_X8_kindTold 62 [] [] h = some (some (.int 1), h) := (ax_run_eq _ _ _ _ _).trans rfl
set_option maxRecDepth 100000 in
theorem q_X8_kindTold_64  (h : ax_Hp) : ax_run m_X8_kindTold 64 [] [] h = some (some (.int 2), h) := (ax_run_eq _ _ _ _ _).trans rfl
set_option maxRecDepth 100000 in
theorem q_X8_kindTold_66  (h : ax_Hp) : ax_run m_X8_kindTold 66 [] [] h = some (some (.int 3), h) := (ax_run_eq _ _ _ _ _).trans rfl
set_option maxRecDepth 100000 in
theorem q_X8_kindTold_68  (h : ax_Hp) : ax_run m_X8_kindTold 68 [] [] h = some (some (.int 4), h) := (ax_run_eq _ _ _ _ _).trans rfl
set_option maxRecDepth 100000 in
theorem q_X8_kindTold_70  (h : ax_Hp) : ax_run m_X8_kindTold 70 [] [] h = some (some (.int 5), h) := (ax_run_eq _ _ _ _ _).trans rfl
set_option maxRecDepth 100000 in
theorem q_X8_kindTold_72  (h : ax_Hp) : ax_run m_X8_kindTold 72 [] [] h = some (some (.int ((-9))), h) := (ax_run_eq _ _ _ _ _).trans rfl
