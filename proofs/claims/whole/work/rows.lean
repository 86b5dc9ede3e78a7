section
-- ===== PART A: goes FIRST, ahead of the names: the tables' words, and 'selects' of the private methods out of them =====
/-- a private method of a class that the tables say can be made, by its rows of tables_1 -/
def lw_okq (q : MethodName × Nat) : Prop := (q.1.cls ≠ "java/lang/invoke/MethodHandle" ∧ q.1.cls ≠ "java/lang/invoke/VarHandle") ∧ Cond.instantiable q.1.cls q.2 ∈ tables_1 ∧ Cond.privateMethod q.1 ∈ tables_1 ∧ Cond.instanceMethod q.1 ∈ tables_1
theorem lw_p0 : lw_okq (⟨"WallsByTheHour", "refuse", "(I)I"⟩, 9) := ⟨⟨by decide +kernel, by decide +kernel⟩, List.mem_of_getElem? (i := 19) (by decide +kernel), List.mem_of_getElem? (i := 198) (by decide +kernel), List.mem_of_getElem? (i := 199) (by decide +kernel)⟩
theorem lw_p1 : lw_okq (⟨"WallsByTheHour$Letters", "misformedAt", "()I"⟩, 2) := ⟨⟨by decide +kernel, by decide +kernel⟩, List.mem_of_getElem? (i := 105) (by decide +kernel), List.mem_of_getElem? (i := 214) (by decide +kernel), List.mem_of_getElem? (i := 215) (by decide +kernel)⟩
theorem lw_p2 : lw_okq (⟨"WallsByTheHour$Letters", "fits", "(III)Z"⟩, 2) := ⟨⟨by decide +kernel, by decide +kernel⟩, List.mem_of_getElem? (i := 105) (by decide +kernel), List.mem_of_getElem? (i := 225) (by decide +kernel), List.mem_of_getElem? (i := 226) (by decide +kernel)⟩
theorem lw_p3 : lw_okq (⟨"WallsByTheHour$Letters", "senselessAt", "(II)I"⟩, 2) := ⟨⟨by decide +kernel, by decide +kernel⟩, List.mem_of_getElem? (i := 105) (by decide +kernel), List.mem_of_getElem? (i := 324) (by decide +kernel), List.mem_of_getElem? (i := 325) (by decide +kernel)⟩
theorem lw_p4 : lw_okq (⟨"WallsByTheHour$Letters", "hasSense", "(III)Z"⟩, 2) := ⟨⟨by decide +kernel, by decide +kernel⟩, List.mem_of_getElem? (i := 105) (by decide +kernel), List.mem_of_getElem? (i := 328) (by decide +kernel), List.mem_of_getElem? (i := 329) (by decide +kernel)⟩
theorem lw_p5 : lw_okq (⟨"WallsByTheHour$Letters", "hoursAt", "(I)I"⟩, 2) := ⟨⟨by decide +kernel, by decide +kernel⟩, List.mem_of_getElem? (i := 105) (by decide +kernel), List.mem_of_getElem? (i := 339) (by decide +kernel), List.mem_of_getElem? (i := 340) (by decide +kernel)⟩
theorem lw_p6 : lw_okq (⟨"WallsByTheHour", "tell", "(I)V"⟩, 9) := ⟨⟨by decide +kernel, by decide +kernel⟩, List.mem_of_getElem? (i := 19) (by decide +kernel), List.mem_of_getElem? (i := 346) (by decide +kernel), List.mem_of_getElem? (i := 347) (by decide +kernel)⟩
theorem lw_p7 : lw_okq (⟨"WallsByTheHour$Street", "weigh", "()V"⟩, 13) := ⟨⟨by decide +kernel, by decide +kernel⟩, List.mem_of_getElem? (i := 27) (by decide +kernel), List.mem_of_getElem? (i := 358) (by decide +kernel), List.mem_of_getElem? (i := 359) (by decide +kernel)⟩
theorem lw_p8 : lw_okq (⟨"WallsByTheHour", "pass", "(I)V"⟩, 9) := ⟨⟨by decide +kernel, by decide +kernel⟩, List.mem_of_getElem? (i := 19) (by decide +kernel), List.mem_of_getElem? (i := 389) (by decide +kernel), List.mem_of_getElem? (i := 390) (by decide +kernel)⟩
theorem lw_p9 : lw_okq (⟨"WallsByTheHour$Street", "nextHouse", "(I)I"⟩, 13) := ⟨⟨by decide +kernel, by decide +kernel⟩, List.mem_of_getElem? (i := 27) (by decide +kernel), List.mem_of_getElem? (i := 397) (by decide +kernel), List.mem_of_getElem? (i := 398) (by decide +kernel)⟩
theorem lw_p10 : lw_okq (⟨"WallsByTheHour$Thought", "begin", "(LWallsByTheHour$Street;)V"⟩, 3) := ⟨⟨by decide +kernel, by decide +kernel⟩, List.mem_of_getElem? (i := 148) (by decide +kernel), List.mem_of_getElem? (i := 502) (by decide +kernel), List.mem_of_getElem? (i := 503) (by decide +kernel)⟩
theorem lw_p11 : lw_okq (⟨"WallsByTheHour$Thought", "goOn", "(I)V"⟩, 3) := ⟨⟨by decide +kernel, by decide +kernel⟩, List.mem_of_getElem? (i := 148) (by decide +kernel), List.mem_of_getElem? (i := 513) (by decide +kernel), List.mem_of_getElem? (i := 514) (by decide +kernel)⟩
theorem lw_p12 : lw_okq (⟨"WallsByTheHour$Choices", "stepsTo", "(LWallsByTheHour$Street;II)I"⟩, 2) := ⟨⟨by decide +kernel, by decide +kernel⟩, List.mem_of_getElem? (i := 134) (by decide +kernel), List.mem_of_getElem? (i := 600) (by decide +kernel), List.mem_of_getElem? (i := 601) (by decide +kernel)⟩
theorem lw_p13 : lw_okq (⟨"WallsByTheHour$Choices", "coverOfAll", "(LWallsByTheHour$Street;I)I"⟩, 2) := ⟨⟨by decide +kernel, by decide +kernel⟩, List.mem_of_getElem? (i := 134) (by decide +kernel), List.mem_of_getElem? (i := 606) (by decide +kernel), List.mem_of_getElem? (i := 607) (by decide +kernel)⟩
theorem lw_p14 : lw_okq (⟨"WallsByTheHour$Choices", "chosen", "(LWallsByTheHour$Street;II)I"⟩, 2) := ⟨⟨by decide +kernel, by decide +kernel⟩, List.mem_of_getElem? (i := 134) (by decide +kernel), List.mem_of_getElem? (i := 622) (by decide +kernel), List.mem_of_getElem? (i := 623) (by decide +kernel)⟩
theorem lw_p15 : lw_okq (⟨"WallsByTheHour$Choices", "isClosed", "(LWallsByTheHour$Street;III)Z"⟩, 2) := ⟨⟨by decide +kernel, by decide +kernel⟩, List.mem_of_getElem? (i := 134) (by decide +kernel), List.mem_of_getElem? (i := 626) (by decide +kernel), List.mem_of_getElem? (i := 627) (by decide +kernel)⟩
def lw_privs_1 : List (MethodName × Nat) := [(⟨"WallsByTheHour", "refuse", "(I)I"⟩, 9), (⟨"WallsByTheHour$Letters", "misformedAt", "()I"⟩, 2), (⟨"WallsByTheHour$Letters", "fits", "(III)Z"⟩, 2), (⟨"WallsByTheHour$Letters", "senselessAt", "(II)I"⟩, 2), (⟨"WallsByTheHour$Letters", "hasSense", "(III)Z"⟩, 2), (⟨"WallsByTheHour$Letters", "hoursAt", "(I)I"⟩, 2), (⟨"WallsByTheHour", "tell", "(I)V"⟩, 9), (⟨"WallsByTheHour$Street", "weigh", "()V"⟩, 13), (⟨"WallsByTheHour", "pass", "(I)V"⟩, 9), (⟨"WallsByTheHour$Street", "nextHouse", "(I)I"⟩, 13), (⟨"WallsByTheHour$Thought", "begin", "(LWallsByTheHour$Street;)V"⟩, 3), (⟨"WallsByTheHour$Thought", "goOn", "(I)V"⟩, 3), (⟨"WallsByTheHour$Choices", "stepsTo", "(LWallsByTheHour$Street;II)I"⟩, 2), (⟨"WallsByTheHour$Choices", "coverOfAll", "(LWallsByTheHour$Street;I)I"⟩, 2), (⟨"WallsByTheHour$Choices", "chosen", "(LWallsByTheHour$Street;II)I"⟩, 2), (⟨"WallsByTheHour$Choices", "isClosed", "(LWallsByTheHour$Street;III)Z"⟩, 2)]
theorem lw_r1 : ∀ q ∈ lw_privs_1, lw_okq q := List.forall_mem_cons.mpr ⟨lw_p0, List.forall_mem_cons.mpr ⟨lw_p1, List.forall_mem_cons.mpr ⟨lw_p2, List.forall_mem_cons.mpr ⟨lw_p3, List.forall_mem_cons.mpr ⟨lw_p4, List.forall_mem_cons.mpr ⟨lw_p5, List.forall_mem_cons.mpr ⟨lw_p6, List.forall_mem_cons.mpr ⟨lw_p7, List.forall_mem_cons.mpr ⟨lw_p8, List.forall_mem_cons.mpr ⟨lw_p9, List.forall_mem_cons.mpr ⟨lw_p10, List.forall_mem_cons.mpr ⟨lw_p11, List.forall_mem_cons.mpr ⟨lw_p12, List.forall_mem_cons.mpr ⟨lw_p13, List.forall_mem_cons.mpr ⟨lw_p14, List.forall_mem_cons.mpr ⟨lw_p15, fun _ h => absurd h List.not_mem_nil⟩⟩⟩⟩⟩⟩⟩⟩⟩⟩⟩⟩⟩⟩⟩⟩
theorem lw_p16 : lw_okq (⟨"WallsByTheHour$Choices", "worthOf", "(LWallsByTheHour$Street;II)I"⟩, 2) := ⟨⟨by decide +kernel, by decide +kernel⟩, List.mem_of_getElem? (i := 134) (by decide +kernel), List.mem_of_getElem? (i := 663) (by decide +kernel), List.mem_of_getElem? (i := 664) (by decide +kernel)⟩
theorem lw_p17 : lw_okq (⟨"WallsByTheHour", "refuseLong", "(I)J"⟩, 9) := ⟨⟨by decide +kernel, by decide +kernel⟩, List.mem_of_getElem? (i := 19) (by decide +kernel), List.mem_of_getElem? (i := 737) (by decide +kernel), List.mem_of_getElem? (i := 738) (by decide +kernel)⟩
theorem lw_p18 : lw_okq (⟨"WallsByTheHour$Choices", "goOn", "(LWallsByTheHour$Street;I)V"⟩, 2) := ⟨⟨by decide +kernel, by decide +kernel⟩, List.mem_of_getElem? (i := 134) (by decide +kernel), List.mem_of_getElem? (i := 746) (by decide +kernel), List.mem_of_getElem? (i := 747) (by decide +kernel)⟩
theorem lw_p19 : lw_okq (⟨"WallsByTheHour$History", "had", "(II)Z"⟩, 1) := ⟨⟨by decide +kernel, by decide +kernel⟩, List.mem_of_getElem? (i := 95) (by decide +kernel), List.mem_of_getElem? (i := 781) (by decide +kernel), List.mem_of_getElem? (i := 782) (by decide +kernel)⟩
theorem lw_p20 : lw_okq (⟨"WallsByTheHour$Thought", "isWhereTold", "(ILWallsByTheHour$Row;)Z"⟩, 3) := ⟨⟨by decide +kernel, by decide +kernel⟩, List.mem_of_getElem? (i := 148) (by decide +kernel), List.mem_of_getElem? (i := 812) (by decide +kernel), List.mem_of_getElem? (i := 813) (by decide +kernel)⟩
theorem lw_p21 : lw_okq (⟨"WallsByTheHourModel", "no", "(I)I"⟩, 36) := ⟨⟨by decide +kernel, by decide +kernel⟩, List.mem_of_getElem? (i := 873) (by decide +kernel), List.mem_of_getElem? (i := 994) (by decide +kernel), List.mem_of_getElem? (i := 995) (by decide +kernel)⟩
theorem lw_p22 : lw_okq (⟨"WallsByTheHourModel", "statement", "()Z"⟩, 36) := ⟨⟨by decide +kernel, by decide +kernel⟩, List.mem_of_getElem? (i := 873) (by decide +kernel), List.mem_of_getElem? (i := 1002) (by decide +kernel), List.mem_of_getElem? (i := 1003) (by decide +kernel)⟩
theorem lw_p23 : lw_okq (⟨"WallsByTheHourModel", "letterNow", "()I"⟩, 36) := ⟨⟨by decide +kernel, by decide +kernel⟩, List.mem_of_getElem? (i := 873) (by decide +kernel), List.mem_of_getElem? (i := 1006) (by decide +kernel), List.mem_of_getElem? (i := 1007) (by decide +kernel)⟩
theorem lw_p24 : lw_okq (⟨"WallsByTheHourModel", "readsAll", "(I)Z"⟩, 36) := ⟨⟨by decide +kernel, by decide +kernel⟩, List.mem_of_getElem? (i := 873) (by decide +kernel), List.mem_of_getElem? (i := 1010) (by decide +kernel), List.mem_of_getElem? (i := 1011) (by decide +kernel)⟩
theorem lw_p25 : lw_okq (⟨"WallsByTheHourModel", "readsKind", "()Z"⟩, 36) := ⟨⟨by decide +kernel, by decide +kernel⟩, List.mem_of_getElem? (i := 873) (by decide +kernel), List.mem_of_getElem? (i := 1014) (by decide +kernel), List.mem_of_getElem? (i := 1015) (by decide +kernel)⟩
theorem lw_p26 : lw_okq (⟨"WallsByTheHourModel", "readsMany", "(I)Z"⟩, 36) := ⟨⟨by decide +kernel, by decide +kernel⟩, List.mem_of_getElem? (i := 873) (by decide +kernel), List.mem_of_getElem? (i := 1021) (by decide +kernel), List.mem_of_getElem? (i := 1022) (by decide +kernel)⟩
theorem lw_p27 : lw_okq (⟨"WallsByTheHourModel", "readsDigits", "(I)Z"⟩, 36) := ⟨⟨by decide +kernel, by decide +kernel⟩, List.mem_of_getElem? (i := 873) (by decide +kernel), List.mem_of_getElem? (i := 1025) (by decide +kernel), List.mem_of_getElem? (i := 1026) (by decide +kernel)⟩
theorem lw_p28 : lw_okq (⟨"WallsByTheHourModel", "passesAll", "(IZ)V"⟩, 36) := ⟨⟨by decide +kernel, by decide +kernel⟩, List.mem_of_getElem? (i := 873) (by decide +kernel), List.mem_of_getElem? (i := 1032) (by decide +kernel), List.mem_of_getElem? (i := 1033) (by decide +kernel)⟩
theorem lw_p29 : lw_okq (⟨"WallsByTheHourModel", "passes", "([I)V"⟩, 36) := ⟨⟨by decide +kernel, by decide +kernel⟩, List.mem_of_getElem? (i := 873) (by decide +kernel), List.mem_of_getElem? (i := 1036) (by decide +kernel), List.mem_of_getElem? (i := 1037) (by decide +kernel)⟩
theorem lw_p30 : lw_okq (⟨"WallsByTheHourModel", "passOne", "(I)I"⟩, 36) := ⟨⟨by decide +kernel, by decide +kernel⟩, List.mem_of_getElem? (i := 873) (by decide +kernel), List.mem_of_getElem? (i := 1040) (by decide +kernel), List.mem_of_getElem? (i := 1041) (by decide +kernel)⟩
theorem lw_p31 : lw_okq (⟨"WallsByTheHourModel", "comesTold", "(I)Z"⟩, 36) := ⟨⟨by decide +kernel, by decide +kernel⟩, List.mem_of_getElem? (i := 873) (by decide +kernel), List.mem_of_getElem? (i := 1044) (by decide +kernel), List.mem_of_getElem? (i := 1045) (by decide +kernel)⟩
def lw_privs_2 : List (MethodName × Nat) := [(⟨"WallsByTheHour$Choices", "worthOf", "(LWallsByTheHour$Street;II)I"⟩, 2), (⟨"WallsByTheHour", "refuseLong", "(I)J"⟩, 9), (⟨"WallsByTheHour$Choices", "goOn", "(LWallsByTheHour$Street;I)V"⟩, 2), (⟨"WallsByTheHour$History", "had", "(II)Z"⟩, 1), (⟨"WallsByTheHour$Thought", "isWhereTold", "(ILWallsByTheHour$Row;)Z"⟩, 3), (⟨"WallsByTheHourModel", "no", "(I)I"⟩, 36), (⟨"WallsByTheHourModel", "statement", "()Z"⟩, 36), (⟨"WallsByTheHourModel", "letterNow", "()I"⟩, 36), (⟨"WallsByTheHourModel", "readsAll", "(I)Z"⟩, 36), (⟨"WallsByTheHourModel", "readsKind", "()Z"⟩, 36), (⟨"WallsByTheHourModel", "readsMany", "(I)Z"⟩, 36), (⟨"WallsByTheHourModel", "readsDigits", "(I)Z"⟩, 36), (⟨"WallsByTheHourModel", "passesAll", "(IZ)V"⟩, 36), (⟨"WallsByTheHourModel", "passes", "([I)V"⟩, 36), (⟨"WallsByTheHourModel", "passOne", "(I)I"⟩, 36), (⟨"WallsByTheHourModel", "comesTold", "(I)Z"⟩, 36)]
theorem lw_r2 : ∀ q ∈ lw_privs_2, lw_okq q := List.forall_mem_cons.mpr ⟨lw_p16, List.forall_mem_cons.mpr ⟨lw_p17, List.forall_mem_cons.mpr ⟨lw_p18, List.forall_mem_cons.mpr ⟨lw_p19, List.forall_mem_cons.mpr ⟨lw_p20, List.forall_mem_cons.mpr ⟨lw_p21, List.forall_mem_cons.mpr ⟨lw_p22, List.forall_mem_cons.mpr ⟨lw_p23, List.forall_mem_cons.mpr ⟨lw_p24, List.forall_mem_cons.mpr ⟨lw_p25, List.forall_mem_cons.mpr ⟨lw_p26, List.forall_mem_cons.mpr ⟨lw_p27, List.forall_mem_cons.mpr ⟨lw_p28, List.forall_mem_cons.mpr ⟨lw_p29, List.forall_mem_cons.mpr ⟨lw_p30, List.forall_mem_cons.mpr ⟨lw_p31, fun _ h => absurd h List.not_mem_nil⟩⟩⟩⟩⟩⟩⟩⟩⟩⟩⟩⟩⟩⟩⟩⟩
theorem lw_p32 : lw_okq (⟨"WallsByTheHourModel", "comesWall", "(III)Z"⟩, 36) := ⟨⟨by decide +kernel, by decide +kernel⟩, List.mem_of_getElem? (i := 873) (by decide +kernel), List.mem_of_getElem? (i := 1048) (by decide +kernel), List.mem_of_getElem? (i := 1049) (by decide +kernel)⟩
theorem lw_p33 : lw_okq (⟨"WallsByTheHourModel", "comesPlace", "([III)Z"⟩, 36) := ⟨⟨by decide +kernel, by decide +kernel⟩, List.mem_of_getElem? (i := 873) (by decide +kernel), List.mem_of_getElem? (i := 1055) (by decide +kernel), List.mem_of_getElem? (i := 1056) (by decide +kernel)⟩
theorem lw_p34 : lw_okq (⟨"WallsByTheHourModel", "isWall", "(I)Z"⟩, 36) := ⟨⟨by decide +kernel, by decide +kernel⟩, List.mem_of_getElem? (i := 873) (by decide +kernel), List.mem_of_getElem? (i := 1059) (by decide +kernel), List.mem_of_getElem? (i := 1060) (by decide +kernel)⟩
theorem lw_p35 : lw_okq (⟨"WallsByTheHourModel", "comesNeeds", "(I)Z"⟩, 36) := ⟨⟨by decide +kernel, by decide +kernel⟩, List.mem_of_getElem? (i := 873) (by decide +kernel), List.mem_of_getElem? (i := 1063) (by decide +kernel), List.mem_of_getElem? (i := 1064) (by decide +kernel)⟩
theorem lw_p36 : lw_okq (⟨"WallsByTheHourModel", "comesBar", "(II)Z"⟩, 36) := ⟨⟨by decide +kernel, by decide +kernel⟩, List.mem_of_getElem? (i := 873) (by decide +kernel), List.mem_of_getElem? (i := 1067) (by decide +kernel), List.mem_of_getElem? (i := 1068) (by decide +kernel)⟩
theorem lw_p37 : lw_okq (⟨"WallsByTheHourModel", "comesHours", "(I)Z"⟩, 36) := ⟨⟨by decide +kernel, by decide +kernel⟩, List.mem_of_getElem? (i := 873) (by decide +kernel), List.mem_of_getElem? (i := 1074) (by decide +kernel), List.mem_of_getElem? (i := 1075) (by decide +kernel)⟩
theorem lw_p38 : lw_okq (⟨"WallsByTheHourModel", "goes_", "(I)V"⟩, 36) := ⟨⟨by decide +kernel, by decide +kernel⟩, List.mem_of_getElem? (i := 873) (by decide +kernel), List.mem_of_getElem? (i := 1078) (by decide +kernel), List.mem_of_getElem? (i := 1079) (by decide +kernel)⟩
theorem lw_p39 : lw_okq (⟨"WallsByTheHourModel", "goesHour", "()V"⟩, 36) := ⟨⟨by decide +kernel, by decide +kernel⟩, List.mem_of_getElem? (i := 873) (by decide +kernel), List.mem_of_getElem? (i := 1082) (by decide +kernel), List.mem_of_getElem? (i := 1083) (by decide +kernel)⟩
theorem lw_p40 : lw_okq (⟨"WallsByTheHourModel", "goesWall", "(I)V"⟩, 36) := ⟨⟨by decide +kernel, by decide +kernel⟩, List.mem_of_getElem? (i := 873) (by decide +kernel), List.mem_of_getElem? (i := 1086) (by decide +kernel), List.mem_of_getElem? (i := 1087) (by decide +kernel)⟩
theorem lw_p41 : lw_okq (⟨"WallsByTheHourModel", "whereTo", "(I)I"⟩, 36) := ⟨⟨by decide +kernel, by decide +kernel⟩, List.mem_of_getElem? (i := 873) (by decide +kernel), List.mem_of_getElem? (i := 1090) (by decide +kernel), List.mem_of_getElem? (i := 1091) (by decide +kernel)⟩
theorem lw_p42 : lw_okq (⟨"WallsByTheHourModel", "isLent", "(I)Z"⟩, 36) := ⟨⟨by decide +kernel, by decide +kernel⟩, List.mem_of_getElem? (i := 873) (by decide +kernel), List.mem_of_getElem? (i := 1094) (by decide +kernel), List.mem_of_getElem? (i := 1095) (by decide +kernel)⟩
theorem lw_p43 : lw_okq (⟨"WallsByTheHourModel", "lacks", "(I)I"⟩, 36) := ⟨⟨by decide +kernel, by decide +kernel⟩, List.mem_of_getElem? (i := 873) (by decide +kernel), List.mem_of_getElem? (i := 1098) (by decide +kernel), List.mem_of_getElem? (i := 1099) (by decide +kernel)⟩
theorem lw_p44 : lw_okq (⟨"WallsByTheHourModel", "hasAt", "(I)I"⟩, 36) := ⟨⟨by decide +kernel, by decide +kernel⟩, List.mem_of_getElem? (i := 873) (by decide +kernel), List.mem_of_getElem? (i := 1102) (by decide +kernel), List.mem_of_getElem? (i := 1103) (by decide +kernel)⟩
theorem lw_p45 : lw_okq (⟨"WallsByTheHourModel", "covers", "(I)I"⟩, 36) := ⟨⟨by decide +kernel, by decide +kernel⟩, List.mem_of_getElem? (i := 873) (by decide +kernel), List.mem_of_getElem? (i := 1106) (by decide +kernel), List.mem_of_getElem? (i := 1107) (by decide +kernel)⟩
theorem lw_p46 : lw_okq (⟨"WallsByTheHourModel", "coversAt", "(II)I"⟩, 36) := ⟨⟨by decide +kernel, by decide +kernel⟩, List.mem_of_getElem? (i := 873) (by decide +kernel), List.mem_of_getElem? (i := 1110) (by decide +kernel), List.mem_of_getElem? (i := 1111) (by decide +kernel)⟩
theorem lw_p47 : lw_okq (⟨"WallsByTheHourModel", "lacksWith", "(II)I"⟩, 36) := ⟨⟨by decide +kernel, by decide +kernel⟩, List.mem_of_getElem? (i := 873) (by decide +kernel), List.mem_of_getElem? (i := 1114) (by decide +kernel), List.mem_of_getElem? (i := 1115) (by decide +kernel)⟩
def lw_privs_3 : List (MethodName × Nat) := [(⟨"WallsByTheHourModel", "comesWall", "(III)Z"⟩, 36), (⟨"WallsByTheHourModel", "comesPlace", "([III)Z"⟩, 36), (⟨"WallsByTheHourModel", "isWall", "(I)Z"⟩, 36), (⟨"WallsByTheHourModel", "comesNeeds", "(I)Z"⟩, 36), (⟨"WallsByTheHourModel", "comesBar", "(II)Z"⟩, 36), (⟨"WallsByTheHourModel", "comesHours", "(I)Z"⟩, 36), (⟨"WallsByTheHourModel", "goes_", "(I)V"⟩, 36), (⟨"WallsByTheHourModel", "goesHour", "()V"⟩, 36), (⟨"WallsByTheHourModel", "goesWall", "(I)V"⟩, 36), (⟨"WallsByTheHourModel", "whereTo", "(I)I"⟩, 36), (⟨"WallsByTheHourModel", "isLent", "(I)Z"⟩, 36), (⟨"WallsByTheHourModel", "lacks", "(I)I"⟩, 36), (⟨"WallsByTheHourModel", "hasAt", "(I)I"⟩, 36), (⟨"WallsByTheHourModel", "covers", "(I)I"⟩, 36), (⟨"WallsByTheHourModel", "coversAt", "(II)I"⟩, 36), (⟨"WallsByTheHourModel", "lacksWith", "(II)I"⟩, 36)]
theorem lw_r3 : ∀ q ∈ lw_privs_3, lw_okq q := List.forall_mem_cons.mpr ⟨lw_p32, List.forall_mem_cons.mpr ⟨lw_p33, List.forall_mem_cons.mpr ⟨lw_p34, List.forall_mem_cons.mpr ⟨lw_p35, List.forall_mem_cons.mpr ⟨lw_p36, List.forall_mem_cons.mpr ⟨lw_p37, List.forall_mem_cons.mpr ⟨lw_p38, List.forall_mem_cons.mpr ⟨lw_p39, List.forall_mem_cons.mpr ⟨lw_p40, List.forall_mem_cons.mpr ⟨lw_p41, List.forall_mem_cons.mpr ⟨lw_p42, List.forall_mem_cons.mpr ⟨lw_p43, List.forall_mem_cons.mpr ⟨lw_p44, List.forall_mem_cons.mpr ⟨lw_p45, List.forall_mem_cons.mpr ⟨lw_p46, List.forall_mem_cons.mpr ⟨lw_p47, fun _ h => absurd h List.not_mem_nil⟩⟩⟩⟩⟩⟩⟩⟩⟩⟩⟩⟩⟩⟩⟩⟩
theorem lw_p48 : lw_okq (⟨"WallsByTheHourModel", "canGo", "(III)Z"⟩, 36) := ⟨⟨by decide +kernel, by decide +kernel⟩, List.mem_of_getElem? (i := 873) (by decide +kernel), List.mem_of_getElem? (i := 1118) (by decide +kernel), List.mem_of_getElem? (i := 1119) (by decide +kernel)⟩
theorem lw_p49 : lw_okq (⟨"WallsByTheHourModel", "goesSteps", "(II)Z"⟩, 36) := ⟨⟨by decide +kernel, by decide +kernel⟩, List.mem_of_getElem? (i := 873) (by decide +kernel), List.mem_of_getElem? (i := 1125) (by decide +kernel), List.mem_of_getElem? (i := 1126) (by decide +kernel)⟩
theorem lw_p50 : lw_okq (⟨"WallsByTheHourModel", "lacksWithout", "(I)I"⟩, 36) := ⟨⟨by decide +kernel, by decide +kernel⟩, List.mem_of_getElem? (i := 873) (by decide +kernel), List.mem_of_getElem? (i := 1132) (by decide +kernel), List.mem_of_getElem? (i := 1133) (by decide +kernel)⟩
theorem lw_p51 : lw_okq (⟨"WallsByTheHourModel", "seenNow", "()I"⟩, 36) := ⟨⟨by decide +kernel, by decide +kernel⟩, List.mem_of_getElem? (i := 873) (by decide +kernel), List.mem_of_getElem? (i := 1136) (by decide +kernel), List.mem_of_getElem? (i := 1137) (by decide +kernel)⟩
theorem lw_p52 : lw_okq (⟨"WallsByTheHourModel", "wallsOf", "([II)I"⟩, 36) := ⟨⟨by decide +kernel, by decide +kernel⟩, List.mem_of_getElem? (i := 873) (by decide +kernel), List.mem_of_getElem? (i := 1156) (by decide +kernel), List.mem_of_getElem? (i := 1157) (by decide +kernel)⟩
theorem lw_p53 : lw_okq (⟨"WallsByTheHourModel", "all", "()I"⟩, 36) := ⟨⟨by decide +kernel, by decide +kernel⟩, List.mem_of_getElem? (i := 873) (by decide +kernel), List.mem_of_getElem? (i := 1184) (by decide +kernel), List.mem_of_getElem? (i := 1185) (by decide +kernel)⟩
theorem lw_p54 : lw_okq (⟨"WallsByTheHourModel", "minds", "()V"⟩, 36) := ⟨⟨by decide +kernel, by decide +kernel⟩, List.mem_of_getElem? (i := 873) (by decide +kernel), List.mem_of_getElem? (i := 1195) (by decide +kernel), List.mem_of_getElem? (i := 1196) (by decide +kernel)⟩
theorem lw_p55 : lw_okq (⟨"WallsByTheHourModel", "forgets", "()V"⟩, 36) := ⟨⟨by decide +kernel, by decide +kernel⟩, List.mem_of_getElem? (i := 873) (by decide +kernel), List.mem_of_getElem? (i := 1199) (by decide +kernel), List.mem_of_getElem? (i := 1200) (by decide +kernel)⟩
theorem lw_p56 : lw_okq (⟨"WallsByTheHourModel", "lacksIn", "(II)I"⟩, 36) := ⟨⟨by decide +kernel, by decide +kernel⟩, List.mem_of_getElem? (i := 873) (by decide +kernel), List.mem_of_getElem? (i := 1207) (by decide +kernel), List.mem_of_getElem? (i := 1208) (by decide +kernel)⟩
theorem lw_p57 : lw_okq (⟨"WallsByTheHourModel", "allIn", "(I)I"⟩, 36) := ⟨⟨by decide +kernel, by decide +kernel⟩, List.mem_of_getElem? (i := 873) (by decide +kernel), List.mem_of_getElem? (i := 1215) (by decide +kernel), List.mem_of_getElem? (i := 1216) (by decide +kernel)⟩
theorem lw_p58 : lw_okq (⟨"WallsByTheHourModel", "homeWhen", "(I)I"⟩, 36) := ⟨⟨by decide +kernel, by decide +kernel⟩, List.mem_of_getElem? (i := 873) (by decide +kernel), List.mem_of_getElem? (i := 1223) (by decide +kernel), List.mem_of_getElem? (i := 1224) (by decide +kernel)⟩
theorem lw_p59 : lw_okq (⟨"WallsByTheHourModel", "goneWhen", "(I)I"⟩, 36) := ⟨⟨by decide +kernel, by decide +kernel⟩, List.mem_of_getElem? (i := 873) (by decide +kernel), List.mem_of_getElem? (i := 1227) (by decide +kernel), List.mem_of_getElem? (i := 1228) (by decide +kernel)⟩
theorem lw_p60 : lw_okq (⟨"WallsByTheHourModel", "lentNow", "()I"⟩, 36) := ⟨⟨by decide +kernel, by decide +kernel⟩, List.mem_of_getElem? (i := 873) (by decide +kernel), List.mem_of_getElem? (i := 1239) (by decide +kernel), List.mem_of_getElem? (i := 1240) (by decide +kernel)⟩
theorem lw_p61 : lw_okq (⟨"WallsByTheHourModel", "coversAll", "(I)I"⟩, 36) := ⟨⟨by decide +kernel, by decide +kernel⟩, List.mem_of_getElem? (i := 873) (by decide +kernel), List.mem_of_getElem? (i := 1258) (by decide +kernel), List.mem_of_getElem? (i := 1259) (by decide +kernel)⟩
theorem lw_p62 : lw_okq (⟨"WallsByTheHourModel", "stepsTo", "(II)I"⟩, 36) := ⟨⟨by decide +kernel, by decide +kernel⟩, List.mem_of_getElem? (i := 873) (by decide +kernel), List.mem_of_getElem? (i := 1262) (by decide +kernel), List.mem_of_getElem? (i := 1263) (by decide +kernel)⟩
theorem lw_p63 : lw_okq (⟨"WallsByTheHourModel", "isSplit", "(III)Z"⟩, 36) := ⟨⟨by decide +kernel, by decide +kernel⟩, List.mem_of_getElem? (i := 873) (by decide +kernel), List.mem_of_getElem? (i := 1273) (by decide +kernel), List.mem_of_getElem? (i := 1274) (by decide +kernel)⟩
def lw_privs_4 : List (MethodName × Nat) := [(⟨"WallsByTheHourModel", "canGo", "(III)Z"⟩, 36), (⟨"WallsByTheHourModel", "goesSteps", "(II)Z"⟩, 36), (⟨"WallsByTheHourModel", "lacksWithout", "(I)I"⟩, 36), (⟨"WallsByTheHourModel", "seenNow", "()I"⟩, 36), (⟨"WallsByTheHourModel", "wallsOf", "([II)I"⟩, 36), (⟨"WallsByTheHourModel", "all", "()I"⟩, 36), (⟨"WallsByTheHourModel", "minds", "()V"⟩, 36), (⟨"WallsByTheHourModel", "forgets", "()V"⟩, 36), (⟨"WallsByTheHourModel", "lacksIn", "(II)I"⟩, 36), (⟨"WallsByTheHourModel", "allIn", "(I)I"⟩, 36), (⟨"WallsByTheHourModel", "homeWhen", "(I)I"⟩, 36), (⟨"WallsByTheHourModel", "goneWhen", "(I)I"⟩, 36), (⟨"WallsByTheHourModel", "lentNow", "()I"⟩, 36), (⟨"WallsByTheHourModel", "coversAll", "(I)I"⟩, 36), (⟨"WallsByTheHourModel", "stepsTo", "(II)I"⟩, 36), (⟨"WallsByTheHourModel", "isSplit", "(III)Z"⟩, 36)]
theorem lw_r4 : ∀ q ∈ lw_privs_4, lw_okq q := List.forall_mem_cons.mpr ⟨lw_p48, List.forall_mem_cons.mpr ⟨lw_p49, List.forall_mem_cons.mpr ⟨lw_p50, List.forall_mem_cons.mpr ⟨lw_p51, List.forall_mem_cons.mpr ⟨lw_p52, List.forall_mem_cons.mpr ⟨lw_p53, List.forall_mem_cons.mpr ⟨lw_p54, List.forall_mem_cons.mpr ⟨lw_p55, List.forall_mem_cons.mpr ⟨lw_p56, List.forall_mem_cons.mpr ⟨lw_p57, List.forall_mem_cons.mpr ⟨lw_p58, List.forall_mem_cons.mpr ⟨lw_p59, List.forall_mem_cons.mpr ⟨lw_p60, List.forall_mem_cons.mpr ⟨lw_p61, List.forall_mem_cons.mpr ⟨lw_p62, List.forall_mem_cons.mpr ⟨lw_p63, fun _ h => absurd h List.not_mem_nil⟩⟩⟩⟩⟩⟩⟩⟩⟩⟩⟩⟩⟩⟩⟩⟩
theorem lw_p64 : lw_okq (⟨"WallsByTheHourModel", "buyerBut", "(II)I"⟩, 36) := ⟨⟨by decide +kernel, by decide +kernel⟩, List.mem_of_getElem? (i := 873) (by decide +kernel), List.mem_of_getElem? (i := 1285) (by decide +kernel), List.mem_of_getElem? (i := 1286) (by decide +kernel)⟩
theorem lw_p65 : lw_okq (⟨"WallsByTheHourModel", "gives", "(II)I"⟩, 36) := ⟨⟨by decide +kernel, by decide +kernel⟩, List.mem_of_getElem? (i := 873) (by decide +kernel), List.mem_of_getElem? (i := 1289) (by decide +kernel), List.mem_of_getElem? (i := 1290) (by decide +kernel)⟩
theorem lw_p66 : lw_okq (⟨"WallsByTheHourModel", "worth", "(II)I"⟩, 36) := ⟨⟨by decide +kernel, by decide +kernel⟩, List.mem_of_getElem? (i := 873) (by decide +kernel), List.mem_of_getElem? (i := 1297) (by decide +kernel), List.mem_of_getElem? (i := 1298) (by decide +kernel)⟩
theorem lw_p67 : lw_okq (⟨"WallsByTheHourModel", "needAt", "(I)I"⟩, 36) := ⟨⟨by decide +kernel, by decide +kernel⟩, List.mem_of_getElem? (i := 873) (by decide +kernel), List.mem_of_getElem? (i := 1305) (by decide +kernel), List.mem_of_getElem? (i := 1306) (by decide +kernel)⟩
theorem lw_p68 : lw_okq (⟨"WallsByTheHourModel", "bestWall", "()I"⟩, 36) := ⟨⟨by decide +kernel, by decide +kernel⟩, List.mem_of_getElem? (i := 873) (by decide +kernel), List.mem_of_getElem? (i := 1313) (by decide +kernel), List.mem_of_getElem? (i := 1314) (by decide +kernel)⟩
theorem lw_p69 : lw_okq (⟨"WallsByTheHourModel", "warmer", "()I"⟩, 36) := ⟨⟨by decide +kernel, by decide +kernel⟩, List.mem_of_getElem? (i := 873) (by decide +kernel), List.mem_of_getElem? (i := 1317) (by decide +kernel), List.mem_of_getElem? (i := 1318) (by decide +kernel)⟩
theorem lw_p70 : lw_okq (⟨"WallsByTheHourModel", "sees_", "(II)Z"⟩, 36) := ⟨⟨by decide +kernel, by decide +kernel⟩, List.mem_of_getElem? (i := 873) (by decide +kernel), List.mem_of_getElem? (i := 1333) (by decide +kernel), List.mem_of_getElem? (i := 1334) (by decide +kernel)⟩
theorem lw_p71 : lw_okq (⟨"WallsByTheHourModel", "isBetween", "(III)Z"⟩, 36) := ⟨⟨by decide +kernel, by decide +kernel⟩, List.mem_of_getElem? (i := 873) (by decide +kernel), List.mem_of_getElem? (i := 1337) (by decide +kernel), List.mem_of_getElem? (i := 1338) (by decide +kernel)⟩
theorem lw_p72 : lw_okq (⟨"WallsByTheHourModel", "findEnds", "(III)V"⟩, 36) := ⟨⟨by decide +kernel, by decide +kernel⟩, List.mem_of_getElem? (i := 873) (by decide +kernel), List.mem_of_getElem? (i := 1349) (by decide +kernel), List.mem_of_getElem? (i := 1350) (by decide +kernel)⟩
theorem lw_p73 : lw_okq (⟨"WallsByTheHourModel", "lowestOf", "(I)J"⟩, 36) := ⟨⟨by decide +kernel, by decide +kernel⟩, List.mem_of_getElem? (i := 873) (by decide +kernel), List.mem_of_getElem? (i := 1357) (by decide +kernel), List.mem_of_getElem? (i := 1358) (by decide +kernel)⟩
theorem lw_p74 : lw_okq (⟨"WallsByTheHourModel", "waysOn", "(I)V"⟩, 36) := ⟨⟨by decide +kernel, by decide +kernel⟩, List.mem_of_getElem? (i := 873) (by decide +kernel), List.mem_of_getElem? (i := 1362) (by decide +kernel), List.mem_of_getElem? (i := 1363) (by decide +kernel)⟩
theorem lw_p75 : lw_okq (⟨"WallsByTheHourModel", "wasSeenAt", "(II)Z"⟩, 36) := ⟨⟨by decide +kernel, by decide +kernel⟩, List.mem_of_getElem? (i := 873) (by decide +kernel), List.mem_of_getElem? (i := 1384) (by decide +kernel), List.mem_of_getElem? (i := 1385) (by decide +kernel)⟩
theorem lw_p76 : lw_okq (⟨"WallsByTheHourModel", "bitsFor", "([III)I"⟩, 36) := ⟨⟨by decide +kernel, by decide +kernel⟩, List.mem_of_getElem? (i := 873) (by decide +kernel), List.mem_of_getElem? (i := 1400) (by decide +kernel), List.mem_of_getElem? (i := 1401) (by decide +kernel)⟩
theorem lw_p77 : lw_okq (⟨"WallsByTheHourModel", "isSo", "(I)Z"⟩, 36) := ⟨⟨by decide +kernel, by decide +kernel⟩, List.mem_of_getElem? (i := 873) (by decide +kernel), List.mem_of_getElem? (i := 1404) (by decide +kernel), List.mem_of_getElem? (i := 1405) (by decide +kernel)⟩
theorem lw_p78 : lw_okq (⟨"WallsByTheHourModel", "draw", "(I)I"⟩, 36) := ⟨⟨by decide +kernel, by decide +kernel⟩, List.mem_of_getElem? (i := 873) (by decide +kernel), List.mem_of_getElem? (i := 1424) (by decide +kernel), List.mem_of_getElem? (i := 1425) (by decide +kernel)⟩
theorem lw_p79 : lw_okq (⟨"WallsByTheHourModel", "allHoles", "()I"⟩, 36) := ⟨⟨by decide +kernel, by decide +kernel⟩, List.mem_of_getElem? (i := 873) (by decide +kernel), List.mem_of_getElem? (i := 1435) (by decide +kernel), List.mem_of_getElem? (i := 1436) (by decide +kernel)⟩
def lw_privs_5 : List (MethodName × Nat) := [(⟨"WallsByTheHourModel", "buyerBut", "(II)I"⟩, 36), (⟨"WallsByTheHourModel", "gives", "(II)I"⟩, 36), (⟨"WallsByTheHourModel", "worth", "(II)I"⟩, 36), (⟨"WallsByTheHourModel", "needAt", "(I)I"⟩, 36), (⟨"WallsByTheHourModel", "bestWall", "()I"⟩, 36), (⟨"WallsByTheHourModel", "warmer", "()I"⟩, 36), (⟨"WallsByTheHourModel", "sees_", "(II)Z"⟩, 36), (⟨"WallsByTheHourModel", "isBetween", "(III)Z"⟩, 36), (⟨"WallsByTheHourModel", "findEnds", "(III)V"⟩, 36), (⟨"WallsByTheHourModel", "lowestOf", "(I)J"⟩, 36), (⟨"WallsByTheHourModel", "waysOn", "(I)V"⟩, 36), (⟨"WallsByTheHourModel", "wasSeenAt", "(II)Z"⟩, 36), (⟨"WallsByTheHourModel", "bitsFor", "([III)I"⟩, 36), (⟨"WallsByTheHourModel", "isSo", "(I)Z"⟩, 36), (⟨"WallsByTheHourModel", "draw", "(I)I"⟩, 36), (⟨"WallsByTheHourModel", "allHoles", "()I"⟩, 36)]
theorem lw_r5 : ∀ q ∈ lw_privs_5, lw_okq q := List.forall_mem_cons.mpr ⟨lw_p64, List.forall_mem_cons.mpr ⟨lw_p65, List.forall_mem_cons.mpr ⟨lw_p66, List.forall_mem_cons.mpr ⟨lw_p67, List.forall_mem_cons.mpr ⟨lw_p68, List.forall_mem_cons.mpr ⟨lw_p69, List.forall_mem_cons.mpr ⟨lw_p70, List.forall_mem_cons.mpr ⟨lw_p71, List.forall_mem_cons.mpr ⟨lw_p72, List.forall_mem_cons.mpr ⟨lw_p73, List.forall_mem_cons.mpr ⟨lw_p74, List.forall_mem_cons.mpr ⟨lw_p75, List.forall_mem_cons.mpr ⟨lw_p76, List.forall_mem_cons.mpr ⟨lw_p77, List.forall_mem_cons.mpr ⟨lw_p78, List.forall_mem_cons.mpr ⟨lw_p79, fun _ h => absurd h List.not_mem_nil⟩⟩⟩⟩⟩⟩⟩⟩⟩⟩⟩⟩⟩⟩⟩⟩
def lw_privs : List (MethodName × Nat) := lw_privs_1 ++ (lw_privs_2 ++ (lw_privs_3 ++ (lw_privs_4 ++ (lw_privs_5))))
def lw_tbl : List Cond := k2_sels lw_privs ++ tables_1
theorem lw_privs_ok : ∀ q ∈ lw_privs, lw_okq q := by
  show ∀ q ∈ lw_privs_1 ++ (lw_privs_2 ++ (lw_privs_3 ++ (lw_privs_4 ++ (lw_privs_5)))), lw_okq q
  exact List.forall_mem_append.mpr ⟨lw_r1, List.forall_mem_append.mpr ⟨lw_r2, List.forall_mem_append.mpr ⟨lw_r3, List.forall_mem_append.mpr ⟨lw_r4, lw_r5⟩⟩⟩⟩
end
section
/-! ===== BEGIN words of one list among another's, by their places ===== -/
theorem goodIn_r {big : List Cond} (ws : List Cond) (ps : List Nat) (hp : ws = ps.filterMap (fun i => big[i]?)) (h : ws.all goodWord = true) : GoodIn big ws := by
  intro w hw
  have h1 := List.all_eq_true.mp h w hw
  rw [hp] at hw
  obtain ⟨i, -, hi⟩ := List.mem_filterMap.mp hw
  have hm : w ∈ big := by first | exact List.mem_of_getElem? hi | exact List.getElem?_mem hi
  exact ⟨hm, good_of_word h1⟩
theorem goodIn_app {big a b : List Cond} (ha : GoodIn big a) (hb : GoodIn big b) : GoodIn big (a ++ b) := fun w h => (List.mem_append.mp h).elim (ha w) (hb w)
theorem goodIn_ca {big a b : List Cond} {c : Cond} (ha : GoodIn big (c :: a)) (hb : GoodIn big b) : GoodIn big (c :: (a ++ b)) := fun w h => (List.mem_cons.mp h).elim (fun e => ha w (List.mem_cons.mpr (Or.inl e))) (fun h => (List.mem_append.mp h).elim (fun h => ha w (List.mem_cons.mpr (Or.inr h))) (hb w))
theorem goodIn_sub {big ws : List Cond} (hm : ∀ w ∈ ws, w ∈ big) (h : ws.all goodWord = true) : GoodIn big ws := fun w hw => ⟨hm w hw, good_of_word (List.all_eq_true.mp h w hw)⟩
/-! ===== END ===== -/

/-! names: out of the printed names -/
def RL : String := "WallsByTheHourLaw"
def RJ9 : String := "java/lang/Math"
def RJ10 : String := "java/lang/System"
def RX0 : String := "WallsByTheHour$Choices"
def TX0 : u_T := fun k => match k with
  | 0 => ("WallsByTheHour$Choices", "waysHere", "[J", true)
  | _ => ("WallsByTheHour$Choices", "waysNext", "[J", true)
def tyX0 : Nat → FieldType := fun k => match k with
  | 0 => .array .long
  | _ => .array .long
theorem nmX0 : ∀ a, a < 2 → ∀ b, b < 2 → a ≠ b → (TX0 a).2.1 ≠ (TX0 b).2.1 := by decide +kernel
theorem tyX0_ok : ∀ k, k < 2 → parseFieldDescriptor (TX0 k).2.2.1 = some (tyX0 k) := by decide +kernel
abbrev cX0_init : ByteArray := prog_2_method_1_code
def yX0_init : MethodName := ⟨RX0, "<init>", "()V"⟩
abbrev cX0_closeIn : ByteArray := prog_2_method_2_code
def yX0_closeIn : MethodName := ⟨RX0, "closeIn", "(LWallsByTheHour$Street;IZ)I"⟩
abbrev cX0_stepsTo : ByteArray := prog_2_method_3_code
def yX0_stepsTo : MethodName := ⟨RX0, "stepsTo", "(LWallsByTheHour$Street;II)I"⟩
abbrev cX0_coverOfAll : ByteArray := prog_2_method_4_code
def yX0_coverOfAll : MethodName := ⟨RX0, "coverOfAll", "(LWallsByTheHour$Street;I)I"⟩
abbrev cX0_closeBoth : ByteArray := prog_2_method_5_code
def yX0_closeBoth : MethodName := ⟨RX0, "closeBoth", "(LWallsByTheHour$Street;III)I"⟩
abbrev cX0_chosen : ByteArray := prog_2_method_6_code
def yX0_chosen : MethodName := ⟨RX0, "chosen", "(LWallsByTheHour$Street;II)I"⟩
abbrev cX0_isClosed : ByteArray := prog_2_method_7_code
def yX0_isClosed : MethodName := ⟨RX0, "isClosed", "(LWallsByTheHour$Street;III)Z"⟩
abbrev cX0_spareBits : ByteArray := prog_2_method_8_code
def yX0_spareBits : MethodName := ⟨RX0, "spareBits", "(LWallsByTheHour$Street;)I"⟩
abbrev cX0_gift : ByteArray := prog_2_method_9_code
def yX0_gift : MethodName := ⟨RX0, "gift", "(LWallsByTheHour$Street;II)I"⟩
abbrev cX0_mostGiving : ByteArray := prog_2_method_10_code
def yX0_mostGiving : MethodName := ⟨RX0, "mostGiving", "(LWallsByTheHour$Street;II)I"⟩
abbrev cX0_fairShares : ByteArray := prog_2_method_11_code
def yX0_fairShares : MethodName := ⟨RX0, "fairShares", "(LWallsByTheHour$Street;II)I"⟩
abbrev cX0_worthOf : ByteArray := prog_2_method_12_code
def yX0_worthOf : MethodName := ⟨RX0, "worthOf", "(LWallsByTheHour$Street;II)I"⟩
abbrev cX0_screen : ByteArray := prog_2_method_13_code
def yX0_screen : MethodName := ⟨RX0, "screen", "(LWallsByTheHour$Street;II)I"⟩
abbrev cX0_waysTo : ByteArray := prog_2_method_14_code
def yX0_waysTo : MethodName := ⟨RX0, "waysTo", "(LWallsByTheHour$Street;III)J"⟩
abbrev cX0_goOn : ByteArray := prog_2_method_15_code
def yX0_goOn : MethodName := ⟨RX0, "goOn", "(LWallsByTheHour$Street;I)V"⟩
def RX1 : String := "WallsByTheHour$History"
def TX1 : u_T := fun k => match k with
  | _ => ("WallsByTheHour$History", "seenAt", "[I", true)
def tyX1 : Nat → FieldType := fun k => match k with
  | _ => .array .int
theorem nmX1 : ∀ a, a < 1 → ∀ b, b < 1 → a ≠ b → (TX1 a).2.1 ≠ (TX1 b).2.1 := by decide +kernel
theorem tyX1_ok : ∀ k, k < 1 → parseFieldDescriptor (TX1 k).2.2.1 = some (tyX1 k) := by decide +kernel
abbrev cX1_init : ByteArray := prog_3_method_1_code
def yX1_init : MethodName := ⟨RX1, "<init>", "()V"⟩
abbrev cX1_write : ByteArray := prog_3_method_2_code
def yX1_write : MethodName := ⟨RX1, "write", "(II)V"⟩
abbrev cX1_had : ByteArray := prog_3_method_3_code
def yX1_had : MethodName := ⟨RX1, "had", "(II)Z"⟩
abbrev cX1_hoursOf : ByteArray := prog_3_method_4_code
def yX1_hoursOf : MethodName := ⟨RX1, "hoursOf", "(III)I"⟩
abbrev cX1_hoursOfBoth : ByteArray := prog_3_method_5_code
def yX1_hoursOfBoth : MethodName := ⟨RX1, "hoursOfBoth", "(III)I"⟩
abbrev cX1_longestOf : ByteArray := prog_3_method_6_code
def yX1_longestOf : MethodName := ⟨RX1, "longestOf", "(II)I"⟩
def RX2 : String := "WallsByTheHour$Kinds"
def TX2 : u_T := fun k => match k with
  | _ => ("", "", "", false)
def tyX2 : Nat → FieldType := fun k => match k with
  | _ => .int
theorem nmX2 : ∀ a, a < 0 → ∀ b, b < 0 → a ≠ b → (TX2 a).2.1 ≠ (TX2 b).2.1 := by decide +kernel
theorem tyX2_ok : ∀ k, k < 0 → parseFieldDescriptor (TX2 k).2.2.1 = some (tyX2 k) := by decide +kernel
abbrev cX2_coverOf : ByteArray := prog_4_method_2_code
def yX2_coverOf : MethodName := ⟨RX2, "coverOf", "(III)I"⟩
abbrev cX2_strides : ByteArray := prog_4_method_3_code
def yX2_strides : MethodName := ⟨RX2, "strides", "(II)Z"⟩
abbrev cX2_panesOf : ByteArray := prog_4_method_4_code
def yX2_panesOf : MethodName := ⟨RX2, "panesOf", "(II)I"⟩
def RX3 : String := "WallsByTheHour$Letters"
def TX3 : u_T := fun k => match k with
  | 0 => ("WallsByTheHour$Letters", "text", "[I", true)
  | _ => ("WallsByTheHour$Letters", "length", "I", false)
def tyX3 : Nat → FieldType := fun k => match k with
  | 0 => .array .int
  | _ => .int
theorem nmX3 : ∀ a, a < 2 → ∀ b, b < 2 → a ≠ b → (TX3 a).2.1 ≠ (TX3 b).2.1 := by decide +kernel
theorem tyX3_ok : ∀ k, k < 2 → parseFieldDescriptor (TX3 k).2.2.1 = some (tyX3 k) := by decide +kernel
abbrev cX3_init : ByteArray := prog_5_method_1_code
def yX3_init : MethodName := ⟨RX3, "<init>", "()V"⟩
abbrev cX3_add : ByteArray := prog_5_method_2_code
def yX3_add : MethodName := ⟨RX3, "add", "(I)I"⟩
abbrev cX3_signAt : ByteArray := prog_5_method_3_code
def yX3_signAt : MethodName := ⟨RX3, "signAt", "(I)I"⟩
abbrev cX3_digitAt : ByteArray := prog_5_method_4_code
def yX3_digitAt : MethodName := ⟨RX3, "digitAt", "(I)I"⟩
abbrev cX3_kindAt : ByteArray := prog_5_method_5_code
def yX3_kindAt : MethodName := ⟨RX3, "kindAt", "(I)I"⟩
abbrev cX3_sizeOf : ByteArray := prog_5_method_6_code
def yX3_sizeOf : MethodName := ⟨RX3, "sizeOf", "(I)I"⟩
abbrev cX3_fault : ByteArray := prog_5_method_7_code
def yX3_fault : MethodName := ⟨RX3, "fault", "(II)I"⟩
abbrev cX3_misformedAt : ByteArray := prog_5_method_8_code
def yX3_misformedAt : MethodName := ⟨RX3, "misformedAt", "()I"⟩
abbrev cX3_fits : ByteArray := prog_5_method_9_code
def yX3_fits : MethodName := ⟨RX3, "fits", "(III)Z"⟩
abbrev cX3_senselessAt : ByteArray := prog_5_method_10_code
def yX3_senselessAt : MethodName := ⟨RX3, "senselessAt", "(II)I"⟩
abbrev cX3_hasSense : ByteArray := prog_5_method_11_code
def yX3_hasSense : MethodName := ⟨RX3, "hasSense", "(III)Z"⟩
abbrev cX3_hoursAt : ByteArray := prog_5_method_12_code
def yX3_hoursAt : MethodName := ⟨RX3, "hoursAt", "(I)I"⟩
def RX4 : String := "WallsByTheHour$Row"
def TX4 : u_T := fun k => match k with
  | 0 => ("WallsByTheHour$Row", "numbers", "[I", true)
  | _ => ("WallsByTheHour$Row", "length", "I", false)
def tyX4 : Nat → FieldType := fun k => match k with
  | 0 => .array .int
  | _ => .int
theorem nmX4 : ∀ a, a < 2 → ∀ b, b < 2 → a ≠ b → (TX4 a).2.1 ≠ (TX4 b).2.1 := by decide +kernel
theorem tyX4_ok : ∀ k, k < 2 → parseFieldDescriptor (TX4 k).2.2.1 = some (tyX4 k) := by decide +kernel
abbrev cX4_init : ByteArray := prog_6_method_1_code
def yX4_init : MethodName := ⟨RX4, "<init>", "()V"⟩
abbrev cX4_add : ByteArray := prog_6_method_2_code
def yX4_add : MethodName := ⟨RX4, "add", "(I)I"⟩
abbrev cX4_numberAt : ByteArray := prog_6_method_3_code
def yX4_numberAt : MethodName := ⟨RX4, "numberAt", "(I)I"⟩
def RX5 : String := "WallsByTheHour$Street"
def TX5 : u_T := fun k => match k with
  | 0 => ("WallsByTheHour$Street", "walls", "I", false)
  | 1 => ("WallsByTheHour$Street", "hour", "I", false)
  | 2 => ("WallsByTheHour$Street", "wet", "I", false)
  | 3 => ("WallsByTheHour$Street", "kind", "[I", true)
  | 4 => ("WallsByTheHour$Street", "figure", "[I", true)
  | 5 => ("WallsByTheHour$Street", "owner", "[I", true)
  | 6 => ("WallsByTheHour$Street", "at", "[I", true)
  | 7 => ("WallsByTheHour$Street", "holes", "[I", true)
  | 8 => ("WallsByTheHour$Street", "cameFrom", "[I", true)
  | 9 => ("WallsByTheHour$Street", "need", "[I", true)
  | 10 => ("WallsByTheHour$Street", "barred", "[I", true)
  | 11 => ("WallsByTheHour$Street", "cover", "[I", true)
  | _ => ("WallsByTheHour$Street", "has", "[I", true)
def tyX5 : Nat → FieldType := fun k => match k with
  | 0 => .int
  | 1 => .int
  | 2 => .int
  | 3 => .array .int
  | 4 => .array .int
  | 5 => .array .int
  | 6 => .array .int
  | 7 => .array .int
  | 8 => .array .int
  | 9 => .array .int
  | 10 => .array .int
  | 11 => .array .int
  | _ => .array .int
theorem nmX5 : ∀ a, a < 13 → ∀ b, b < 13 → a ≠ b → (TX5 a).2.1 ≠ (TX5 b).2.1 := by decide +kernel
theorem tyX5_ok : ∀ k, k < 13 → parseFieldDescriptor (TX5 k).2.2.1 = some (tyX5 k) := by decide +kernel
abbrev cX5_init : ByteArray := prog_7_method_1_code
def yX5_init : MethodName := ⟨RX5, "<init>", "()V"⟩
abbrev cX5_copyFrom : ByteArray := prog_7_method_2_code
def yX5_copyFrom : MethodName := ⟨RX5, "copyFrom", "(LWallsByTheHour$Street;)V"⟩
abbrev cX5_addWall : ByteArray := prog_7_method_3_code
def yX5_addWall : MethodName := ⟨RX5, "addWall", "(III)V"⟩
abbrev cX5_takeTo : ByteArray := prog_7_method_4_code
def yX5_takeTo : MethodName := ⟨RX5, "takeTo", "(II)V"⟩
abbrev cX5_sellTo : ByteArray := prog_7_method_5_code
def yX5_sellTo : MethodName := ⟨RX5, "sellTo", "(II)V"⟩
abbrev cX5_turnInto : ByteArray := prog_7_method_6_code
def yX5_turnInto : MethodName := ⟨RX5, "turnInto", "(III)V"⟩
abbrev cX5_setNeed : ByteArray := prog_7_method_7_code
def yX5_setNeed : MethodName := ⟨RX5, "setNeed", "(III)V"⟩
abbrev cX5_turnBar : ByteArray := prog_7_method_8_code
def yX5_turnBar : MethodName := ⟨RX5, "turnBar", "(II)I"⟩
abbrev cX5_passHour : ByteArray := prog_7_method_9_code
def yX5_passHour : MethodName := ⟨RX5, "passHour", "()V"⟩
abbrev cX5_nextHouse : ByteArray := prog_7_method_10_code
def yX5_nextHouse : MethodName := ⟨RX5, "nextHouse", "(I)I"⟩
abbrev cX5_canGo : ByteArray := prog_7_method_11_code
def yX5_canGo : MethodName := ⟨RX5, "canGo", "(III)Z"⟩
abbrev cX5_weigh : ByteArray := prog_7_method_12_code
def yX5_weigh : MethodName := ⟨RX5, "weigh", "()V"⟩
abbrev cX5_isWall : ByteArray := prog_7_method_13_code
def yX5_isWall : MethodName := ⟨RX5, "isWall", "(I)Z"⟩
abbrev cX5_isLent : ByteArray := prog_7_method_14_code
def yX5_isLent : MethodName := ⟨RX5, "isLent", "(I)Z"⟩
abbrev cX5_needAt : ByteArray := prog_7_method_15_code
def yX5_needAt : MethodName := ⟨RX5, "needAt", "(II)I"⟩
abbrev cX5_needOf : ByteArray := prog_7_method_16_code
def yX5_needOf : MethodName := ⟨RX5, "needOf", "(I)I"⟩
abbrev cX5_lackOf : ByteArray := prog_7_method_17_code
def yX5_lackOf : MethodName := ⟨RX5, "lackOf", "(I)I"⟩
abbrev cX5_lackWithout : ByteArray := prog_7_method_18_code
def yX5_lackWithout : MethodName := ⟨RX5, "lackWithout", "(I)I"⟩
abbrev cX5_allLacking : ByteArray := prog_7_method_19_code
def yX5_allLacking : MethodName := ⟨RX5, "allLacking", "()I"⟩
abbrev cX5_seenBits : ByteArray := prog_7_method_20_code
def yX5_seenBits : MethodName := ⟨RX5, "seenBits", "()I"⟩
abbrev cX5_lentBits : ByteArray := prog_7_method_21_code
def yX5_lentBits : MethodName := ⟨RX5, "lentBits", "()I"⟩
abbrev cX5_wallsAt : ByteArray := prog_7_method_22_code
def yX5_wallsAt : MethodName := ⟨RX5, "wallsAt", "(I)I"⟩
abbrev cX5_wallsOwnedBy : ByteArray := prog_7_method_23_code
def yX5_wallsOwnedBy : MethodName := ⟨RX5, "wallsOwnedBy", "(I)I"⟩
abbrev cX5_allHoles : ByteArray := prog_7_method_24_code
def yX5_allHoles : MethodName := ⟨RX5, "allHoles", "()I"⟩
abbrev cX5_needsAt : ByteArray := prog_7_method_25_code
def yX5_needsAt : MethodName := ⟨RX5, "needsAt", "(I)I"⟩
abbrev cX5_coldestPart : ByteArray := prog_7_method_26_code
def yX5_coldestPart : MethodName := ⟨RX5, "coldestPart", "()I"⟩
abbrev cX5_bestWall : ByteArray := prog_7_method_27_code
def yX5_bestWall : MethodName := ⟨RX5, "bestWall", "()I"⟩
abbrev cX5_warmerBits : ByteArray := prog_7_method_28_code
def yX5_warmerBits : MethodName := ⟨RX5, "warmerBits", "()I"⟩
abbrev cX5_looksAt : ByteArray := prog_7_method_29_code
def yX5_looksAt : MethodName := ⟨RX5, "looksAt", "(II)Z"⟩
def RX6 : String := "WallsByTheHour$Thought"
def TX6 : u_T := fun k => match k with
  | 0 => ("WallsByTheHour$Thought", "mind", "LWallsByTheHour$Street;", true)
  | 1 => ("WallsByTheHour$Thought", "lackOfFirst", "[I", true)
  | _ => ("WallsByTheHour$Thought", "lackOfSecond", "[I", true)
def tyX6 : Nat → FieldType := fun k => match k with
  | 0 => .object "WallsByTheHour$Street"
  | 1 => .array .int
  | _ => .array .int
theorem nmX6 : ∀ a, a < 3 → ∀ b, b < 3 → a ≠ b → (TX6 a).2.1 ≠ (TX6 b).2.1 := by decide +kernel
theorem tyX6_ok : ∀ k, k < 3 → parseFieldDescriptor (TX6 k).2.2.1 = some (tyX6 k) := by decide +kernel
abbrev cX6_init : ByteArray := prog_8_method_1_code
def yX6_init : MethodName := ⟨RX6, "<init>", "()V"⟩
abbrev cX6_begin : ByteArray := prog_8_method_2_code
def yX6_begin : MethodName := ⟨RX6, "begin", "(LWallsByTheHour$Street;)V"⟩
abbrev cX6_goOn : ByteArray := prog_8_method_3_code
def yX6_goOn : MethodName := ⟨RX6, "goOn", "(I)V"⟩
abbrev cX6_after : ByteArray := prog_8_method_4_code
def yX6_after : MethodName := ⟨RX6, "after", "(LWallsByTheHour$Street;I)LWallsByTheHour$Street;"⟩
abbrev cX6_hoursToHome : ByteArray := prog_8_method_5_code
def yX6_hoursToHome : MethodName := ⟨RX6, "hoursToHome", "(LWallsByTheHour$Street;I)I"⟩
abbrev cX6_hoursToGone : ByteArray := prog_8_method_6_code
def yX6_hoursToGone : MethodName := ⟨RX6, "hoursToGone", "(LWallsByTheHour$Street;I)I"⟩
abbrev cX6_hoursToSeen : ByteArray := prog_8_method_7_code
def yX6_hoursToSeen : MethodName := ⟨RX6, "hoursToSeen", "(LWallsByTheHour$Street;I)I"⟩
abbrev cX6_hoursToAllLent : ByteArray := prog_8_method_8_code
def yX6_hoursToAllLent : MethodName := ⟨RX6, "hoursToAllLent", "(LWallsByTheHour$Street;)I"⟩
abbrev cX6_goingsBetween : ByteArray := prog_8_method_9_code
def yX6_goingsBetween : MethodName := ⟨RX6, "goingsBetween", "(LWallsByTheHour$Street;III)I"⟩
abbrev cX6_bestLoan : ByteArray := prog_8_method_10_code
def yX6_bestLoan : MethodName := ⟨RX6, "bestLoan", "(LWallsByTheHour$Street;I)I"⟩
abbrev cX6_settledPair : ByteArray := prog_8_method_11_code
def yX6_settledPair : MethodName := ⟨RX6, "settledPair", "(LWallsByTheHour$Street;III)I"⟩
abbrev cX6_seenWeight : ByteArray := prog_8_method_12_code
def yX6_seenWeight : MethodName := ⟨RX6, "seenWeight", "(LWallsByTheHour$Street;III)J"⟩
abbrev cX6_fittingKinds : ByteArray := prog_8_method_13_code
def yX6_fittingKinds : MethodName := ⟨RX6, "fittingKinds", "(LWallsByTheHour$Street;ILWallsByTheHour$Row;)I"⟩
abbrev cX6_fittingFigures : ByteArray := prog_8_method_14_code
def yX6_fittingFigures : MethodName := ⟨RX6, "fittingFigures", "(LWallsByTheHour$Street;ILWallsByTheHour$Row;)I"⟩
abbrev cX6_isWhereTold : ByteArray := prog_8_method_15_code
def yX6_isWhereTold : MethodName := ⟨RX6, "isWhereTold", "(ILWallsByTheHour$Row;)Z"⟩
abbrev cX6_firstNotSo : ByteArray := prog_8_method_16_code
def yX6_firstNotSo : MethodName := ⟨RX6, "firstNotSo", "(LWallsByTheHour$Street;LWallsByTheHour$Row;)I"⟩
abbrev cX6_overLots : ByteArray := prog_8_method_17_code
def yX6_overLots : MethodName := ⟨RX6, "overLots", "(LWallsByTheHour$Street;IIZ)I"⟩
def RX7 : String := "WallsByTheHour"
def TX7 : u_T := fun k => match k with
  | 0 => ("WallsByTheHour", "now", "LWallsByTheHour$Street;", true)
  | 1 => ("WallsByTheHour", "keptStreet", "LWallsByTheHour$Street;", true)
  | 2 => ("WallsByTheHour", "seen", "LWallsByTheHour$History;", true)
  | 3 => ("WallsByTheHour", "hasImage", "Z", false)
  | 4 => ("WallsByTheHour", "letters", "LWallsByTheHour$Letters;", true)
  | 5 => ("WallsByTheHour", "told", "LWallsByTheHour$Row;", true)
  | 6 => ("WallsByTheHour", "choices", "LWallsByTheHour$Choices;", true)
  | 7 => ("WallsByTheHour", "thought", "LWallsByTheHour$Thought;", true)
  | _ => ("WallsByTheHour", "refusals", "[I", true)
def tyX7 : Nat → FieldType := fun k => match k with
  | 0 => .object "WallsByTheHour$Street"
  | 1 => .object "WallsByTheHour$Street"
  | 2 => .object "WallsByTheHour$History"
  | 3 => .boolean
  | 4 => .object "WallsByTheHour$Letters"
  | 5 => .object "WallsByTheHour$Row"
  | 6 => .object "WallsByTheHour$Choices"
  | 7 => .object "WallsByTheHour$Thought"
  | _ => .array .int
theorem nmX7 : ∀ a, a < 9 → ∀ b, b < 9 → a ≠ b → (TX7 a).2.1 ≠ (TX7 b).2.1 := by decide +kernel
theorem tyX7_ok : ∀ k, k < 9 → parseFieldDescriptor (TX7 k).2.2.1 = some (tyX7 k) := by decide +kernel
abbrev cX7_init : ByteArray := prog_1_method_1_code
def yX7_init : MethodName := ⟨RX7, "<init>", "()V"⟩
abbrev cX7_letter : ByteArray := prog_1_method_2_code
def yX7_letter : MethodName := ⟨RX7, "letter", "(I)I"⟩
abbrev cX7_street : ByteArray := prog_1_method_3_code
def yX7_street : MethodName := ⟨RX7, "street", "()I"⟩
abbrev cX7_tell : ByteArray := prog_1_method_4_code
def yX7_tell : MethodName := ⟨RX7, "tell", "(I)V"⟩
abbrev cX7_pass : ByteArray := prog_1_method_5_code
def yX7_pass : MethodName := ⟨RX7, "pass", "(I)V"⟩
abbrev cX7_wall : ByteArray := prog_1_method_6_code
def yX7_wall : MethodName := ⟨RX7, "wall", "(II)I"⟩
abbrev cX7_house : ByteArray := prog_1_method_7_code
def yX7_house : MethodName := ⟨RX7, "house", "(II)I"⟩
abbrev cX7_takes : ByteArray := prog_1_method_8_code
def yX7_takes : MethodName := ⟨RX7, "takes", "(II)I"⟩
abbrev cX7_sells : ByteArray := prog_1_method_9_code
def yX7_sells : MethodName := ⟨RX7, "sells", "(II)I"⟩
abbrev cX7_needs : ByteArray := prog_1_method_10_code
def yX7_needs : MethodName := ⟨RX7, "needs", "(III)I"⟩
abbrev cX7_bars : ByteArray := prog_1_method_11_code
def yX7_bars : MethodName := ⟨RX7, "bars", "(II)I"⟩
abbrev cX7_turn : ByteArray := prog_1_method_12_code
def yX7_turn : MethodName := ⟨RX7, "turn", "(III)I"⟩
abbrev cX7_hours : ByteArray := prog_1_method_13_code
def yX7_hours : MethodName := ⟨RX7, "hours", "(I)I"⟩
abbrev cX7_atThen : ByteArray := prog_1_method_14_code
def yX7_atThen : MethodName := ⟨RX7, "atThen", "(II)I"⟩
abbrev cX7_lacksThen : ByteArray := prog_1_method_15_code
def yX7_lacksThen : MethodName := ⟨RX7, "lacksThen", "(II)I"⟩
abbrev cX7_allLack : ByteArray := prog_1_method_16_code
def yX7_allLack : MethodName := ⟨RX7, "allLack", "(I)I"⟩
abbrev cX7_goes : ByteArray := prog_1_method_17_code
def yX7_goes : MethodName := ⟨RX7, "goes", "(II)I"⟩
abbrev cX7_shown : ByteArray := prog_1_method_18_code
def yX7_shown : MethodName := ⟨RX7, "shown", "(I)I"⟩
abbrev cX7_asked : ByteArray := prog_1_method_19_code
def yX7_asked : MethodName := ⟨RX7, "asked", "()I"⟩
abbrev cX7_coughs : ByteArray := prog_1_method_20_code
def yX7_coughs : MethodName := ⟨RX7, "coughs", "(III)I"⟩
abbrev cX7_lend : ByteArray := prog_1_method_21_code
def yX7_lend : MethodName := ⟨RX7, "lend", "(I)I"⟩
abbrev cX7_close : ByteArray := prog_1_method_22_code
def yX7_close : MethodName := ⟨RX7, "close", "(II)I"⟩
abbrev cX7_split : ByteArray := prog_1_method_23_code
def yX7_split : MethodName := ⟨RX7, "split", "(III)I"⟩
abbrev cX7_spare : ByteArray := prog_1_method_24_code
def yX7_spare : MethodName := ⟨RX7, "spare", "()I"⟩
abbrev cX7_price : ByteArray := prog_1_method_25_code
def yX7_price : MethodName := ⟨RX7, "price", "(II)I"⟩
abbrev cX7_shares : ByteArray := prog_1_method_26_code
def yX7_shares : MethodName := ⟨RX7, "shares", "(II)I"⟩
abbrev cX7_coldest : ByteArray := prog_1_method_27_code
def yX7_coldest : MethodName := ⟨RX7, "coldest", "(I)I"⟩
abbrev cX7_best : ByteArray := prog_1_method_28_code
def yX7_best : MethodName := ⟨RX7, "best", "(I)I"⟩
abbrev cX7_each : ByteArray := prog_1_method_29_code
def yX7_each : MethodName := ⟨RX7, "each", "(I)I"⟩
abbrev cX7_panes : ByteArray := prog_1_method_30_code
def yX7_panes : MethodName := ⟨RX7, "panes", "(I)I"⟩
abbrev cX7_sees : ByteArray := prog_1_method_31_code
def yX7_sees : MethodName := ⟨RX7, "sees", "(I)I"⟩
abbrev cX7_hide : ByteArray := prog_1_method_32_code
def yX7_hide : MethodName := ⟨RX7, "hide", "(II)I"⟩
abbrev cX7_two : ByteArray := prog_1_method_33_code
def yX7_two : MethodName := ⟨RX7, "two", "(III)I"⟩
abbrev cX7_ways : ByteArray := prog_1_method_34_code
def yX7_ways : MethodName := ⟨RX7, "ways", "(III)J"⟩
abbrev cX7_rain : ByteArray := prog_1_method_35_code
def yX7_rain : MethodName := ⟨RX7, "rain", "(IIII)J"⟩
abbrev cX7_mean : ByteArray := prog_1_method_36_code
def yX7_mean : MethodName := ⟨RX7, "mean", "(I)J"⟩
abbrev cX7_wasSeen : ByteArray := prog_1_method_37_code
def yX7_wasSeen : MethodName := ⟨RX7, "wasSeen", "(III)I"⟩
abbrev cX7_longest : ByteArray := prog_1_method_38_code
def yX7_longest : MethodName := ⟨RX7, "longest", "(I)I"⟩
abbrev cX7_together : ByteArray := prog_1_method_39_code
def yX7_together : MethodName := ⟨RX7, "together", "(III)I"⟩
abbrev cX7_whatIs : ByteArray := prog_1_method_40_code
def yX7_whatIs : MethodName := ⟨RX7, "whatIs", "(II)I"⟩
abbrev cX7_row : ByteArray := prog_1_method_41_code
def yX7_row : MethodName := ⟨RX7, "row", "(I)I"⟩
abbrev cX7_judge : ByteArray := prog_1_method_42_code
def yX7_judge : MethodName := ⟨RX7, "judge", "()I"⟩
abbrev cX7_clear : ByteArray := prog_1_method_43_code
def yX7_clear : MethodName := ⟨RX7, "clear", "()I"⟩
abbrev cX7_lots : ByteArray := prog_1_method_44_code
def yX7_lots : MethodName := ⟨RX7, "lots", "(III)I"⟩
abbrev cX7_image : ByteArray := prog_1_method_45_code
def yX7_image : MethodName := ⟨RX7, "image", "()I"⟩
abbrev cX7_on : ByteArray := prog_1_method_46_code
def yX7_on : MethodName := ⟨RX7, "on", "()I"⟩
abbrev cX7_count : ByteArray := prog_1_method_47_code
def yX7_count : MethodName := ⟨RX7, "count", "(I)I"⟩
abbrev cX7_refuse : ByteArray := prog_1_method_48_code
def yX7_refuse : MethodName := ⟨RX7, "refuse", "(I)I"⟩
abbrev cX7_refuseLong : ByteArray := prog_1_method_49_code
def yX7_refuseLong : MethodName := ⟨RX7, "refuseLong", "(I)J"⟩
abbrev cX7_isHouse : ByteArray := prog_1_method_50_code
def yX7_isHouse : MethodName := ⟨RX7, "isHouse", "(I)Z"⟩
abbrev cX7_areTwoHouses : ByteArray := prog_1_method_51_code
def yX7_areTwoHouses : MethodName := ⟨RX7, "areTwoHouses", "(II)Z"⟩
abbrev cX7_outside : ByteArray := prog_1_method_52_code
def yX7_outside : MethodName := ⟨RX7, "outside", "(III)I"⟩
abbrev cX7_stepsBetween : ByteArray := prog_1_method_53_code
def yX7_stepsBetween : MethodName := ⟨RX7, "stepsBetween", "(II)I"⟩
abbrev cX7_hasBit : ByteArray := prog_1_method_54_code
def yX7_hasBit : MethodName := ⟨RX7, "hasBit", "(II)Z"⟩
abbrev cX7_bitsIn : ByteArray := prog_1_method_55_code
def yX7_bitsIn : MethodName := ⟨RX7, "bitsIn", "(I)I"⟩
abbrev cX7_power : ByteArray := prog_1_method_56_code
def yX7_power : MethodName := ⟨RX7, "power", "(II)J"⟩
abbrev cX7_inLeastTerms : ByteArray := prog_1_method_57_code
def yX7_inLeastTerms : MethodName := ⟨RX7, "inLeastTerms", "(JJI)J"⟩
abbrev cX7_commonDivisor : ByteArray := prog_1_method_58_code
def yX7_commonDivisor : MethodName := ⟨RX7, "commonDivisor", "(JJ)J"⟩
def RX8 : String := "WallsByTheHourModel"
def TX8 : u_T := fun k => match k with
  | 0 => ("WallsByTheHourModel", "refused", "[I", true)
  | 1 => ("WallsByTheHourModel", "kind", "[I", true)
  | 2 => ("WallsByTheHourModel", "figure", "[I", true)
  | 3 => ("WallsByTheHourModel", "owner", "[I", true)
  | 4 => ("WallsByTheHourModel", "at", "[I", true)
  | 5 => ("WallsByTheHourModel", "holes", "[I", true)
  | 6 => ("WallsByTheHourModel", "need", "[I", true)
  | 7 => ("WallsByTheHourModel", "barred", "[I", true)
  | 8 => ("WallsByTheHourModel", "walls", "I", false)
  | 9 => ("WallsByTheHourModel", "hour", "I", false)
  | 10 => ("WallsByTheHourModel", "tape", "[I", true)
  | 11 => ("WallsByTheHourModel", "sort", "[I", true)
  | 12 => ("WallsByTheHourModel", "sortAt", "[I", true)
  | 13 => ("WallsByTheHourModel", "told", "[I", true)
  | 14 => ("WallsByTheHourModel", "taped", "I", false)
  | 15 => ("WallsByTheHourModel", "reading", "I", false)
  | 16 => ("WallsByTheHourModel", "statements", "I", false)
  | 17 => ("WallsByTheHourModel", "telling", "I", false)
  | 18 => ("WallsByTheHourModel", "kept", "[I", true)
  | 19 => ("WallsByTheHourModel", "hasImage", "Z", false)
  | 20 => ("WallsByTheHourModel", "isKeeping", "Z", false)
  | 21 => ("WallsByTheHourModel", "cursor", "I", false)
  | 22 => ("WallsByTheHourModel", "isRain", "Z", false)
  | 23 => ("WallsByTheHourModel", "seenBy", "[I", true)
  | 24 => ("WallsByTheHourModel", "cougher", "I", false)
  | 25 => ("WallsByTheHourModel", "neighbour", "I", false)
  | 26 => ("WallsByTheHourModel", "coughed", "I", false)
  | 27 => ("WallsByTheHourModel", "fewestSteps", "I", false)
  | 28 => ("WallsByTheHourModel", "toOne", "I", false)
  | 29 => ("WallsByTheHourModel", "toOther", "I", false)
  | 30 => ("WallsByTheHourModel", "ends", "[I", true)
  | 31 => ("WallsByTheHourModel", "many", "[J", true)
  | 32 => ("WallsByTheHourModel", "next", "[J", true)
  | 33 => ("WallsByTheHourModel", "row", "[I", true)
  | 34 => ("WallsByTheHourModel", "rowMany", "I", false)
  | _ => ("WallsByTheHourModel", "lots", "I", false)
def tyX8 : Nat → FieldType := fun k => match k with
  | 0 => .array .int
  | 1 => .array .int
  | 2 => .array .int
  | 3 => .array .int
  | 4 => .array .int
  | 5 => .array .int
  | 6 => .array .int
  | 7 => .array .int
  | 8 => .int
  | 9 => .int
  | 10 => .array .int
  | 11 => .array .int
  | 12 => .array .int
  | 13 => .array .int
  | 14 => .int
  | 15 => .int
  | 16 => .int
  | 17 => .int
  | 18 => .array .int
  | 19 => .boolean
  | 20 => .boolean
  | 21 => .int
  | 22 => .boolean
  | 23 => .array .int
  | 24 => .int
  | 25 => .int
  | 26 => .int
  | 27 => .int
  | 28 => .int
  | 29 => .int
  | 30 => .array .int
  | 31 => .array .long
  | 32 => .array .long
  | 33 => .array .int
  | 34 => .int
  | _ => .int
theorem nmX8 : ∀ a, a < 36 → ∀ b, b < 36 → a ≠ b → (TX8 a).2.1 ≠ (TX8 b).2.1 := by decide +kernel
theorem tyX8_ok : ∀ k, k < 36 → parseFieldDescriptor (TX8 k).2.2.1 = some (tyX8 k) := by decide +kernel
abbrev cX8_init : ByteArray := prog_10_method_1_code
def yX8_init : MethodName := ⟨RX8, "<init>", "()V"⟩
abbrev cX8_no : ByteArray := prog_10_method_2_code
def yX8_no : MethodName := ⟨RX8, "no", "(I)I"⟩
abbrev cX8_lowestOf : ByteArray := prog_10_method_3_code
def yX8_lowestOf : MethodName := ⟨RX8, "lowestOf", "(I)J"⟩
abbrev cX8_isIn : ByteArray := prog_10_method_4_code
def yX8_isIn : MethodName := ⟨RX8, "isIn", "(III)Z"⟩
abbrev cX8_bound : ByteArray := prog_10_method_5_code
def yX8_bound : MethodName := ⟨RX8, "bound", "(III)I"⟩
abbrev cX8_has : ByteArray := prog_10_method_6_code
def yX8_has : MethodName := ⟨RX8, "has", "(II)Z"⟩
abbrev cX8_bits : ByteArray := prog_10_method_7_code
def yX8_bits : MethodName := ⟨RX8, "bits", "(I)I"⟩
abbrev cX8_apart : ByteArray := prog_10_method_8_code
def yX8_apart : MethodName := ⟨RX8, "apart", "(II)I"⟩
abbrev cX8_isWall : ByteArray := prog_10_method_9_code
def yX8_isWall : MethodName := ⟨RX8, "isWall", "(I)Z"⟩
abbrev cX8_isHouse : ByteArray := prog_10_method_10_code
def yX8_isHouse : MethodName := ⟨RX8, "isHouse", "(I)Z"⟩
abbrev cX8_areTwo : ByteArray := prog_10_method_11_code
def yX8_areTwo : MethodName := ⟨RX8, "areTwo", "(II)Z"⟩
abbrev cX8_letter : ByteArray := prog_10_method_12_code
def yX8_letter : MethodName := ⟨RX8, "letter", "(I)I"⟩
abbrev cX8_letterNow : ByteArray := prog_10_method_13_code
def yX8_letterNow : MethodName := ⟨RX8, "letterNow", "()I"⟩
abbrev cX8_readsDigits : ByteArray := prog_10_method_14_code
def yX8_readsDigits : MethodName := ⟨RX8, "readsDigits", "(I)Z"⟩
abbrev cX8_kindTold : ByteArray := prog_10_method_15_code
def yX8_kindTold : MethodName := ⟨RX8, "kindTold", "(I)I"⟩
abbrev cX8_readsKind : ByteArray := prog_10_method_16_code
def yX8_readsKind : MethodName := ⟨RX8, "readsKind", "()Z"⟩
abbrev cX8_readsMany : ByteArray := prog_10_method_17_code
def yX8_readsMany : MethodName := ⟨RX8, "readsMany", "(I)Z"⟩
abbrev cX8_readsAll : ByteArray := prog_10_method_18_code
def yX8_readsAll : MethodName := ⟨RX8, "readsAll", "(I)Z"⟩
abbrev cX8_statement : ByteArray := prog_10_method_19_code
def yX8_statement : MethodName := ⟨RX8, "statement", "()Z"⟩
abbrev cX8_comesWall : ByteArray := prog_10_method_20_code
def yX8_comesWall : MethodName := ⟨RX8, "comesWall", "(III)Z"⟩
abbrev cX8_comesPlace : ByteArray := prog_10_method_21_code
def yX8_comesPlace : MethodName := ⟨RX8, "comesPlace", "([III)Z"⟩
abbrev cX8_comesNeeds : ByteArray := prog_10_method_22_code
def yX8_comesNeeds : MethodName := ⟨RX8, "comesNeeds", "(I)Z"⟩
abbrev cX8_comesBar : ByteArray := prog_10_method_23_code
def yX8_comesBar : MethodName := ⟨RX8, "comesBar", "(II)Z"⟩
abbrev cX8_comesHours : ByteArray := prog_10_method_24_code
def yX8_comesHours : MethodName := ⟨RX8, "comesHours", "(I)Z"⟩
abbrev cX8_comesTold : ByteArray := prog_10_method_25_code
def yX8_comesTold : MethodName := ⟨RX8, "comesTold", "(I)Z"⟩
abbrev cX8_street : ByteArray := prog_10_method_26_code
def yX8_street : MethodName := ⟨RX8, "street", "()I"⟩
abbrev cX8_passes : ByteArray := prog_10_method_27_code
def yX8_passes : MethodName := ⟨RX8, "passes", "([I)V"⟩
abbrev cX8_passOne : ByteArray := prog_10_method_28_code
def yX8_passOne : MethodName := ⟨RX8, "passOne", "(I)I"⟩
abbrev cX8_passesAll : ByteArray := prog_10_method_29_code
def yX8_passesAll : MethodName := ⟨RX8, "passesAll", "(IZ)V"⟩
abbrev cX8_minds : ByteArray := prog_10_method_30_code
def yX8_minds : MethodName := ⟨RX8, "minds", "()V"⟩
abbrev cX8_forgets : ByteArray := prog_10_method_31_code
def yX8_forgets : MethodName := ⟨RX8, "forgets", "()V"⟩
abbrev cX8_image : ByteArray := prog_10_method_32_code
def yX8_image : MethodName := ⟨RX8, "image", "()I"⟩
abbrev cX8_on : ByteArray := prog_10_method_33_code
def yX8_on : MethodName := ⟨RX8, "on", "()I"⟩
abbrev cX8_coversAt : ByteArray := prog_10_method_34_code
def yX8_coversAt : MethodName := ⟨RX8, "coversAt", "(II)I"⟩
abbrev cX8_covers : ByteArray := prog_10_method_35_code
def yX8_covers : MethodName := ⟨RX8, "covers", "(I)I"⟩
abbrev cX8_goesSteps : ByteArray := prog_10_method_36_code
def yX8_goesSteps : MethodName := ⟨RX8, "goesSteps", "(II)Z"⟩
abbrev cX8_canGo : ByteArray := prog_10_method_37_code
def yX8_canGo : MethodName := ⟨RX8, "canGo", "(III)Z"⟩
abbrev cX8_hasAt : ByteArray := prog_10_method_38_code
def yX8_hasAt : MethodName := ⟨RX8, "hasAt", "(I)I"⟩
abbrev cX8_lacksWith : ByteArray := prog_10_method_39_code
def yX8_lacksWith : MethodName := ⟨RX8, "lacksWith", "(II)I"⟩
abbrev cX8_lacks : ByteArray := prog_10_method_40_code
def yX8_lacks : MethodName := ⟨RX8, "lacks", "(I)I"⟩
abbrev cX8_lacksWithout : ByteArray := prog_10_method_41_code
def yX8_lacksWithout : MethodName := ⟨RX8, "lacksWithout", "(I)I"⟩
abbrev cX8_all : ByteArray := prog_10_method_42_code
def yX8_all : MethodName := ⟨RX8, "all", "()I"⟩
abbrev cX8_seenNow : ByteArray := prog_10_method_43_code
def yX8_seenNow : MethodName := ⟨RX8, "seenNow", "()I"⟩
abbrev cX8_isLent : ByteArray := prog_10_method_44_code
def yX8_isLent : MethodName := ⟨RX8, "isLent", "(I)Z"⟩
abbrev cX8_lentNow : ByteArray := prog_10_method_45_code
def yX8_lentNow : MethodName := ⟨RX8, "lentNow", "()I"⟩
abbrev cX8_wallsOf : ByteArray := prog_10_method_46_code
def yX8_wallsOf : MethodName := ⟨RX8, "wallsOf", "([II)I"⟩
abbrev cX8_whereTo : ByteArray := prog_10_method_47_code
def yX8_whereTo : MethodName := ⟨RX8, "whereTo", "(I)I"⟩
abbrev cX8_goesWall : ByteArray := prog_10_method_48_code
def yX8_goesWall : MethodName := ⟨RX8, "goesWall", "(I)V"⟩
abbrev cX8_goesHour : ByteArray := prog_10_method_49_code
def yX8_goesHour : MethodName := ⟨RX8, "goesHour", "()V"⟩
abbrev cX8_goes_ : ByteArray := prog_10_method_50_code
def yX8_goes_ : MethodName := ⟨RX8, "goes_", "(I)V"⟩
abbrev cX8_wall : ByteArray := prog_10_method_51_code
def yX8_wall : MethodName := ⟨RX8, "wall", "(II)I"⟩
abbrev cX8_house : ByteArray := prog_10_method_52_code
def yX8_house : MethodName := ⟨RX8, "house", "(II)I"⟩
abbrev cX8_takes : ByteArray := prog_10_method_53_code
def yX8_takes : MethodName := ⟨RX8, "takes", "(II)I"⟩
abbrev cX8_sells : ByteArray := prog_10_method_54_code
def yX8_sells : MethodName := ⟨RX8, "sells", "(II)I"⟩
abbrev cX8_needs : ByteArray := prog_10_method_55_code
def yX8_needs : MethodName := ⟨RX8, "needs", "(III)I"⟩
abbrev cX8_bars : ByteArray := prog_10_method_56_code
def yX8_bars : MethodName := ⟨RX8, "bars", "(II)I"⟩
abbrev cX8_turn : ByteArray := prog_10_method_57_code
def yX8_turn : MethodName := ⟨RX8, "turn", "(III)I"⟩
abbrev cX8_hours : ByteArray := prog_10_method_58_code
def yX8_hours : MethodName := ⟨RX8, "hours", "(I)I"⟩
abbrev cX8_notHours : ByteArray := prog_10_method_59_code
def yX8_notHours : MethodName := ⟨RX8, "notHours", "(I)I"⟩
abbrev cX8_atThen : ByteArray := prog_10_method_60_code
def yX8_atThen : MethodName := ⟨RX8, "atThen", "(II)I"⟩
abbrev cX8_lacksIn : ByteArray := prog_10_method_61_code
def yX8_lacksIn : MethodName := ⟨RX8, "lacksIn", "(II)I"⟩
abbrev cX8_lacksThen : ByteArray := prog_10_method_62_code
def yX8_lacksThen : MethodName := ⟨RX8, "lacksThen", "(II)I"⟩
abbrev cX8_allIn : ByteArray := prog_10_method_63_code
def yX8_allIn : MethodName := ⟨RX8, "allIn", "(I)I"⟩
abbrev cX8_allLack : ByteArray := prog_10_method_64_code
def yX8_allLack : MethodName := ⟨RX8, "allLack", "(I)I"⟩
abbrev cX8_homeWhen : ByteArray := prog_10_method_65_code
def yX8_homeWhen : MethodName := ⟨RX8, "homeWhen", "(I)I"⟩
abbrev cX8_goneWhen : ByteArray := prog_10_method_66_code
def yX8_goneWhen : MethodName := ⟨RX8, "goneWhen", "(I)I"⟩
abbrev cX8_goes : ByteArray := prog_10_method_67_code
def yX8_goes : MethodName := ⟨RX8, "goes", "(II)I"⟩
abbrev cX8_shown : ByteArray := prog_10_method_68_code
def yX8_shown : MethodName := ⟨RX8, "shown", "(I)I"⟩
abbrev cX8_asked : ByteArray := prog_10_method_69_code
def yX8_asked : MethodName := ⟨RX8, "asked", "()I"⟩
abbrev cX8_coughs : ByteArray := prog_10_method_70_code
def yX8_coughs : MethodName := ⟨RX8, "coughs", "(III)I"⟩
abbrev cX8_lend : ByteArray := prog_10_method_71_code
def yX8_lend : MethodName := ⟨RX8, "lend", "(I)I"⟩
abbrev cX8_coversAll : ByteArray := prog_10_method_72_code
def yX8_coversAll : MethodName := ⟨RX8, "coversAll", "(I)I"⟩
abbrev cX8_stepsTo : ByteArray := prog_10_method_73_code
def yX8_stepsTo : MethodName := ⟨RX8, "stepsTo", "(II)I"⟩
abbrev cX8_close : ByteArray := prog_10_method_74_code
def yX8_close : MethodName := ⟨RX8, "close", "(II)I"⟩
abbrev cX8_isSplit : ByteArray := prog_10_method_75_code
def yX8_isSplit : MethodName := ⟨RX8, "isSplit", "(III)Z"⟩
abbrev cX8_threes : ByteArray := prog_10_method_76_code
def yX8_threes : MethodName := ⟨RX8, "threes", "(I)I"⟩
abbrev cX8_split : ByteArray := prog_10_method_77_code
def yX8_split : MethodName := ⟨RX8, "split", "(III)I"⟩
abbrev cX8_spare : ByteArray := prog_10_method_78_code
def yX8_spare : MethodName := ⟨RX8, "spare", "()I"⟩
abbrev cX8_gives : ByteArray := prog_10_method_79_code
def yX8_gives : MethodName := ⟨RX8, "gives", "(II)I"⟩
abbrev cX8_buyerBut : ByteArray := prog_10_method_80_code
def yX8_buyerBut : MethodName := ⟨RX8, "buyerBut", "(II)I"⟩
abbrev cX8_price : ByteArray := prog_10_method_81_code
def yX8_price : MethodName := ⟨RX8, "price", "(II)I"⟩
abbrev cX8_worth : ByteArray := prog_10_method_82_code
def yX8_worth : MethodName := ⟨RX8, "worth", "(II)I"⟩
abbrev cX8_shares : ByteArray := prog_10_method_83_code
def yX8_shares : MethodName := ⟨RX8, "shares", "(II)I"⟩
abbrev cX8_needAt : ByteArray := prog_10_method_84_code
def yX8_needAt : MethodName := ⟨RX8, "needAt", "(I)I"⟩
abbrev cX8_coldest : ByteArray := prog_10_method_85_code
def yX8_coldest : MethodName := ⟨RX8, "coldest", "(I)I"⟩
abbrev cX8_bestWall : ByteArray := prog_10_method_86_code
def yX8_bestWall : MethodName := ⟨RX8, "bestWall", "()I"⟩
abbrev cX8_warmer : ByteArray := prog_10_method_87_code
def yX8_warmer : MethodName := ⟨RX8, "warmer", "()I"⟩
abbrev cX8_best : ByteArray := prog_10_method_88_code
def yX8_best : MethodName := ⟨RX8, "best", "(I)I"⟩
abbrev cX8_each : ByteArray := prog_10_method_89_code
def yX8_each : MethodName := ⟨RX8, "each", "(I)I"⟩
abbrev cX8_panes : ByteArray := prog_10_method_90_code
def yX8_panes : MethodName := ⟨RX8, "panes", "(I)I"⟩
abbrev cX8_isBetween : ByteArray := prog_10_method_91_code
def yX8_isBetween : MethodName := ⟨RX8, "isBetween", "(III)Z"⟩
abbrev cX8_sees_ : ByteArray := prog_10_method_92_code
def yX8_sees_ : MethodName := ⟨RX8, "sees_", "(II)Z"⟩
abbrev cX8_sees : ByteArray := prog_10_method_93_code
def yX8_sees : MethodName := ⟨RX8, "sees", "(I)I"⟩
abbrev cX8_hide : ByteArray := prog_10_method_94_code
def yX8_hide : MethodName := ⟨RX8, "hide", "(II)I"⟩
abbrev cX8_findEnds : ByteArray := prog_10_method_95_code
def yX8_findEnds : MethodName := ⟨RX8, "findEnds", "(III)V"⟩
abbrev cX8_two : ByteArray := prog_10_method_96_code
def yX8_two : MethodName := ⟨RX8, "two", "(III)I"⟩
abbrev cX8_waysOn : ByteArray := prog_10_method_97_code
def yX8_waysOn : MethodName := ⟨RX8, "waysOn", "(I)V"⟩
abbrev cX8_ways : ByteArray := prog_10_method_98_code
def yX8_ways : MethodName := ⟨RX8, "ways", "(III)J"⟩
abbrev cX8_divisor : ByteArray := prog_10_method_99_code
def yX8_divisor : MethodName := ⟨RX8, "divisor", "(JJ)J"⟩
abbrev cX8_partOf : ByteArray := prog_10_method_100_code
def yX8_partOf : MethodName := ⟨RX8, "partOf", "(JJI)J"⟩
abbrev cX8_rain : ByteArray := prog_10_method_101_code
def yX8_rain : MethodName := ⟨RX8, "rain", "(IIII)J"⟩
abbrev cX8_mean : ByteArray := prog_10_method_102_code
def yX8_mean : MethodName := ⟨RX8, "mean", "(I)J"⟩
abbrev cX8_wasSeenAt : ByteArray := prog_10_method_103_code
def yX8_wasSeenAt : MethodName := ⟨RX8, "wasSeenAt", "(II)Z"⟩
abbrev cX8_wasSeen : ByteArray := prog_10_method_104_code
def yX8_wasSeen : MethodName := ⟨RX8, "wasSeen", "(III)I"⟩
abbrev cX8_longest : ByteArray := prog_10_method_105_code
def yX8_longest : MethodName := ⟨RX8, "longest", "(I)I"⟩
abbrev cX8_together : ByteArray := prog_10_method_106_code
def yX8_together : MethodName := ⟨RX8, "together", "(III)I"⟩
abbrev cX8_isSo : ByteArray := prog_10_method_107_code
def yX8_isSo : MethodName := ⟨RX8, "isSo", "(I)Z"⟩
abbrev cX8_bitsFor : ByteArray := prog_10_method_108_code
def yX8_bitsFor : MethodName := ⟨RX8, "bitsFor", "([III)I"⟩
abbrev cX8_whatIs : ByteArray := prog_10_method_109_code
def yX8_whatIs : MethodName := ⟨RX8, "whatIs", "(II)I"⟩
abbrev cX8_row : ByteArray := prog_10_method_110_code
def yX8_row : MethodName := ⟨RX8, "row", "(I)I"⟩
abbrev cX8_judge : ByteArray := prog_10_method_111_code
def yX8_judge : MethodName := ⟨RX8, "judge", "()I"⟩
abbrev cX8_clear : ByteArray := prog_10_method_112_code
def yX8_clear : MethodName := ⟨RX8, "clear", "()I"⟩
abbrev cX8_draw : ByteArray := prog_10_method_113_code
def yX8_draw : MethodName := ⟨RX8, "draw", "(I)I"⟩
abbrev cX8_lots : ByteArray := prog_10_method_114_code
def yX8_lots : MethodName := ⟨RX8, "lots", "(III)I"⟩
abbrev cX8_allHoles : ByteArray := prog_10_method_115_code
def yX8_allHoles : MethodName := ⟨RX8, "allHoles", "()I"⟩
abbrev cX8_count : ByteArray := prog_10_method_116_code
def yX8_count : MethodName := ⟨RX8, "count", "(I)I"⟩
def RJ6 : String := "java/lang/Integer"
def TJ6 : u_T := fun k => match k with
  | _ => ("", "", "", false)
def tyJ6 : Nat → FieldType := fun k => match k with
  | _ => .int
abbrev cJ6_bitCount_0f7a4 : ByteArray := prog_12_method_49_code
def yJ6_bitCount_0f7a4 : MethodName := ⟨RJ6, "bitCount", "(I)I"⟩
def RJ0 : String := "java/lang/String"
def TJ0 : u_T := fun k => match k with
  | _ => ("", "", "", false)
def tyJ0 : Nat → FieldType := fun k => match k with
  | _ => .int
abbrev cJ0_length_8abf5 : ByteArray := prog_14_method_54_code
def yJ0_length_8abf5 : MethodName := ⟨RJ0, "length", "()I"⟩
abbrev cJ0_indexOf_0f7a4 : ByteArray := prog_14_method_79_code
def yJ0_indexOf_0f7a4 : MethodName := ⟨RJ0, "indexOf", "(I)I"⟩
abbrev cJ0_indexOf_7cf53 : ByteArray := prog_14_method_80_code
def yJ0_indexOf_7cf53 : MethodName := ⟨RJ0, "indexOf", "(II)I"⟩
abbrev cJ0_coder_7d493 : ByteArray := prog_14_method_152_code
def yJ0_coder_7d493 : MethodName := ⟨RJ0, "coder", "()B"⟩
abbrev cJ0_isLatin1_aae02 : ByteArray := prog_14_method_154_code
def yJ0_isLatin1_aae02 : MethodName := ⟨RJ0, "isLatin1", "()Z"⟩
def RJ1 : String := "java/lang/StringLatin1"
def TJ1 : u_T := fun k => match k with
  | _ => ("", "", "", false)
def tyJ1 : Nat → FieldType := fun k => match k with
  | _ => .int
abbrev cJ1_canEncode_9a6ad : ByteArray := prog_15_method_4_code
def yJ1_canEncode_9a6ad : MethodName := ⟨RJ1, "canEncode", "(I)Z"⟩
abbrev cJ1_indexOf_4cfef : ByteArray := prog_15_method_22_code
def yJ1_indexOf_4cfef : MethodName := ⟨RJ1, "indexOf", "([BIII)I"⟩
abbrev cJ1_indexOfChar_4cfef : ByteArray := prog_15_method_23_code
def yJ1_indexOfChar_4cfef : MethodName := ⟨RJ1, "indexOfChar", "([BIII)I"⟩
end
section
/-! the cells of the system: tag (0 object, 1 ints, 2 longs, 3 the script), class or length, the fields that are references -/
abbrev ax_If : Type := List (Value × Nat × List Nat)
abbrev ax_Op : Type := Nat × Instr × Nat × ax_If
abbrev ax_Bl : Type := (Nat × List Nat) × List ax_Op
abbrev ax_Sh : Type := Nat × Nat × List (Option Nat)
def ax_shl : List ax_Sh := [
  (0, 6, [some 1, some 12, some 34, none, some 36, some 38, some 40, some 43, some 46]),
  (0, 4, [none, none, none, some 2, some 3, some 4, some 5, some 6, some 7, some 8, some 9, some 10, some 11]),
  (1, 7, []),
  (1, 7, []),
  (1, 7, []),
  (1, 7, []),
  (1, 7, []),
  (1, 7, []),
  (1, 48, []),
  (1, 8, []),
  (1, 7, []),
  (1, 8, []),
  (0, 4, [none, none, none, some 13, some 14, some 15, some 16, some 17, some 18, some 19, some 20, some 21, some 22]),
  (1, 7, []),
  (1, 7, []),
  (1, 7, []),
  (1, 7, []),
  (1, 7, []),
  (1, 7, []),
  (1, 48, []),
  (1, 8, []),
  (1, 7, []),
  (1, 8, []),
  (0, 4, [none, none, none, some 24, some 25, some 26, some 27, some 28, some 29, some 30, some 31, some 32, some 33]),
  (1, 7, []),
  (1, 7, []),
  (1, 7, []),
  (1, 7, []),
  (1, 7, []),
  (1, 7, []),
  (1, 48, []),
  (1, 8, []),
  (1, 7, []),
  (1, 8, []),
  (0, 1, [some 35]),
  (1, 1000, []),
  (0, 2, [some 37, none]),
  (1, 96, []),
  (0, 3, [some 39, none]),
  (1, 16, []),
  (0, 0, [some 41, some 42]),
  (2, 8, []),
  (2, 8, []),
  (0, 5, [some 23, some 44, some 45]),
  (1, 4, []),
  (1, 4, []),
  (1, 7, []),
  (0, 7, [some 48, some 49, some 50, some 51, some 52, some 53, some 54, some 55, none, none, some 56, some 57, some 58, some 59, none, none, none, none, some 60, none, none, none, none, some 61, none, none, none, none, none, none, some 62, some 63, some 64, some 65, none, none]),
  (1, 7, []),
  (1, 7, []),
  (1, 7, []),
  (1, 7, []),
  (1, 7, []),
  (1, 7, []),
  (1, 48, []),
  (1, 8, []),
  (1, 96, []),
  (1, 32, []),
  (1, 32, []),
  (1, 224, []),
  (1, 279, []),
  (1, 1000, []),
  (1, 8, []),
  (2, 8, []),
  (2, 8, []),
  (1, 16, []),
  (3, 0, []),
  (4, 0, []),
  (5, 6, [])]
def ax_shp (k : Nat) : ax_Sh := ax_shl.getD k (9, 0, [])
abbrev ax_cl : List vw_C := [(RX0, TX0, 2), (RX1, TX1, 1), (RX3, TX3, 2), (RX4, TX4, 2), (RX5, TX5, 13), (RX6, TX6, 3), (RX7, TX7, 9), (RX8, TX8, 36)]
/-- WallsByTheHour$Choices.closeIn (LWallsByTheHour$Street;IZ)I -/
def kd_0 : List (Nat × ax_Bl) := [(0, (18, [0, 1, 2, 3, 4, 5, 6, 7]), [(0, .aload_n 1, 1, [(.null, 1, [])]),
    (1, .iload_n 2, 1, [(.null, 2, [])]),
    (2, .invokevirtual 18, 3, [(.null, 55, [2, 1, 4, 4, 515])]),
    (5, .istore 4, 2, [(.null, 4, [])]),
    (7, .bipush (-9), 2, [(.int (-9), 0, [])]),
    (9, .istore 5, 2, [(.null, 5, [])]),
    (11, .bipush (-9), 2, [(.int (-9), 0, [])]),
    (13, .istore 6, 2, [(.null, 6, [])]),
    (15, .iconst 0, 1, [(.int 0, 0, [])]),
    (16, .istore 7, 2, [(.null, 7, [])])]),
  (18, (53, [0, 1, 2, 3, 4, 5, 6, 7, 8]), [(18, .iload 7, 2, [(.null, 7, [])]),
    (20, .iconst 1, 1, [(.int 1, 0, [])]),
    (21, .aload_n 1, 1, [(.null, 1, [])]),
    (22, .getfield 24, 3, [(.null, 4, [0, 95])]),
    (25, .ishl, 1, []),
    (26, .if_icmp .ge 76, 3, [(.null, 102, [3, 5, 6])]),
    (29, .aload_n 0, 1, [(.null, 0, [])]),
    (30, .aload_n 1, 1, [(.null, 1, [])]),
    (31, .iload_n 2, 1, [(.null, 2, [])]),
    (32, .iload 7, 2, [(.null, 7, [])]),
    (34, .invokevirtual 28, 3, [(.null, 1, [4, 1, 0, 6, 516])]),
    (37, .istore 8, 2, [(.null, 8, [])]),
    (39, .iload 5, 2, [(.null, 5, [])]),
    (41, .bipush (-9), 2, [(.int (-9), 0, [])]),
    (43, .if_icmp .eq 10, 3, [(.null, 53, [0, 1, 2, 3, 4, 5, 6, 7, 8])]),
    (46, .iload 8, 2, [(.null, 8, [])]),
    (48, .iload 6, 2, [(.null, 6, [])]),
    (50, .if_icmp .ge 7, 3, [(.null, 57, [0, 1, 2, 3, 4, 5, 6, 7, 8])])]),
  (53, (0, []), [(53, .iconst 1, 1, [(.int 1, 0, [])]),
    (54, .goto 4, 3, [(.null, 58, [0, 1, 2, 3, 4, 5, 6, 7, 8])])]),
  (57, (58, [0, 1, 2, 3, 4, 5, 6, 7, 8]), [(57, .iconst 0, 1, [(.int 0, 0, [])])]),
  (58, (96, [0, 1, 2, 3, 4, 5, 6, 7]), [(58, .istore 9, 2, [(.null, 9, [])]),
    (60, .iload 7, 2, [(.null, 7, [])]),
    (62, .iload 4, 2, [(.null, 4, [])]),
    (64, .iand, 1, []),
    (65, .ifCond .ne 31, 3, [(.null, 96, [0, 1, 2, 3, 4, 5, 6, 7])]),
    (68, .iload 9, 2, [(.null, 9, [])]),
    (70, .ifCond .eq 26, 3, [(.null, 96, [0, 1, 2, 3, 4, 5, 6, 7])]),
    (73, .aload_n 0, 1, [(.null, 0, [])]),
    (74, .aload_n 1, 1, [(.null, 1, [])]),
    (75, .iload 7, 2, [(.null, 7, [])]),
    (77, .invokevirtual 32, 3, [(.null, 2, [3, 1, 0, 5, 519])]),
    (80, .aload_n 1, 1, [(.null, 1, [])]),
    (81, .iload_n 2, 1, [(.null, 2, [])]),
    (82, .invokevirtual 36, 3, [(.null, 50, [2, 1, 4, 2, 522])]),
    (85, .if_icmp .lt 11, 3, [(.null, 96, [0, 1, 2, 3, 4, 5, 6, 7])]),
    (88, .iload 7, 2, [(.null, 7, [])]),
    (90, .istore 5, 2, [(.null, 5, [])]),
    (92, .iload 8, 2, [(.null, 8, [])]),
    (94, .istore 6, 2, [(.null, 6, [])])]),
  (96, (0, []), [(96, .iinc 7 1, 3, [(.int 1, 7, [])]),
    (99, .goto (-81), 3, [(.null, 18, [0, 1, 2, 3, 4, 5, 6, 7])])]),
  (102, (0, []), [(102, .iload_n 3, 1, [(.null, 3, [])]),
    (103, .ifCond .eq 8, 3, [(.null, 111, [5])]),
    (106, .iload 6, 2, [(.null, 6, [])]),
    (108, .goto 5, 3, [(.null, 113, [])])]),
  (111, (113, []), [(111, .iload 5, 2, [(.null, 5, [])])]),
  (113, (0, []), [(113, .ireturn, 1, [])])]
/-- WallsByTheHour$Choices.stepsTo (LWallsByTheHour$Street;II)I -/
def kd_1 : List (Nat × ax_Bl) := [(0, (6, [1, 2, 3, 4, 5]), [(0, .iconst 0, 1, [(.int 0, 0, [])]),
    (1, .istore 4, 2, [(.null, 4, [])]),
    (3, .iconst 0, 1, [(.int 0, 0, [])]),
    (4, .istore 5, 2, [(.null, 5, [])])]),
  (6, (40, [1, 2, 3, 4, 5]), [(6, .iload 5, 2, [(.null, 5, [])]),
    (8, .aload_n 1, 1, [(.null, 1, [])]),
    (9, .getfield 24, 3, [(.null, 4, [0, 95])]),
    (12, .if_icmp .ge 34, 3, [(.null, 46, [4])]),
    (15, .iload_n 3, 1, [(.null, 3, [])]),
    (16, .iload 5, 2, [(.null, 5, [])]),
    (18, .invokestatic 39, 3, [(.null, 131, [2, 1, 99, 2, 5000])]),
    (21, .ifCond .eq 19, 3, [(.null, 40, [1, 2, 3, 4, 5])]),
    (24, .iload 4, 2, [(.null, 4, [])]),
    (26, .aload_n 1, 1, [(.null, 1, [])]),
    (27, .getfield 43, 3, [(.null, 4, [6, 113])]),
    (30, .iload 5, 2, [(.null, 5, [])]),
    (32, .iaload, 1, []),
    (33, .iload_n 2, 1, [(.null, 2, [])]),
    (34, .invokestatic 47, 3, [(.null, 130, [2, 1, 99, 2, 5001])]),
    (37, .iadd, 1, []),
    (38, .istore 4, 2, [(.null, 4, [])])]),
  (40, (0, []), [(40, .iinc 5 1, 3, [(.int 1, 5, [])]),
    (43, .goto (-37), 3, [(.null, 6, [1, 2, 3, 4, 5])])]),
  (46, (0, []), [(46, .iload 4, 2, [(.null, 4, [])]),
    (48, .ireturn, 1, [])])]
/-- WallsByTheHour$Choices.coverOfAll (LWallsByTheHour$Street;I)I -/
def kd_2 : List (Nat × ax_Bl) := [(0, (5, [1, 2, 3, 4]), [(0, .iconst 0, 1, [(.int 0, 0, [])]),
    (1, .istore_n 3, 1, [(.null, 3, [])]),
    (2, .iconst 0, 1, [(.int 0, 0, [])]),
    (3, .istore 4, 2, [(.null, 4, [])])]),
  (5, (33, [1, 2, 3, 4]), [(5, .iload 4, 2, [(.null, 4, [])]),
    (7, .aload_n 1, 1, [(.null, 1, [])]),
    (8, .getfield 24, 3, [(.null, 4, [0, 95])]),
    (11, .if_icmp .ge 28, 3, [(.null, 39, [3])]),
    (14, .iload_n 2, 1, [(.null, 2, [])]),
    (15, .iload 4, 2, [(.null, 4, [])]),
    (17, .invokestatic 39, 3, [(.null, 131, [2, 1, 99, 2, 5000])]),
    (20, .ifCond .eq 13, 3, [(.null, 33, [1, 2, 3, 4])]),
    (23, .iload_n 3, 1, [(.null, 3, [])]),
    (24, .aload_n 1, 1, [(.null, 1, [])]),
    (25, .getfield 51, 3, [(.null, 4, [11, 124])]),
    (28, .iload 4, 2, [(.null, 4, [])]),
    (30, .iaload, 1, []),
    (31, .iadd, 1, []),
    (32, .istore_n 3, 1, [(.null, 3, [])])]),
  (33, (0, []), [(33, .iinc 4 1, 3, [(.int 1, 4, [])]),
    (36, .goto (-31), 3, [(.null, 5, [1, 2, 3, 4])])]),
  (39, (0, []), [(39, .iload_n 3, 1, [(.null, 3, [])]),
    (40, .ireturn, 1, [])])]
/-- WallsByTheHour$Choices.closeBoth (LWallsByTheHour$Street;III)I -/
def kd_3 : List (Nat × ax_Bl) := [(0, (22, [0, 1, 2, 3, 4, 5, 6, 7, 8]), [(0, .bipush (-9), 2, [(.int (-9), 0, [])]),
    (2, .istore 5, 2, [(.null, 5, [])]),
    (4, .bipush (-9), 2, [(.int (-9), 0, [])]),
    (6, .istore 6, 2, [(.null, 6, [])]),
    (8, .iconst 3, 1, [(.int 3, 0, [])]),
    (9, .aload_n 1, 1, [(.null, 1, [])]),
    (10, .getfield 24, 3, [(.null, 4, [0, 95])]),
    (13, .invokestatic 54, 3, [(.null, 133, [2, 2, 99, 5, 5002])]),
    (16, .l2i, 1, []),
    (17, .istore 7, 2, [(.null, 7, [])]),
    (19, .iconst 0, 1, [(.int 0, 0, [])]),
    (20, .istore 8, 2, [(.null, 8, [])])]),
  (22, (82, [0, 1, 2, 3, 4, 5, 6, 7, 8, 9, 10, 11]), [(22, .iload 8, 2, [(.null, 8, [])]),
    (24, .iload 7, 2, [(.null, 7, [])]),
    (26, .if_icmp .ge 96, 3, [(.null, 122, [0, 1, 4, 5, 6])]),
    (29, .aload_n 0, 1, [(.null, 0, [])]),
    (30, .aload_n 1, 1, [(.null, 1, [])]),
    (31, .iload 8, 2, [(.null, 8, [])]),
    (33, .iconst 1, 1, [(.int 1, 0, [])]),
    (34, .invokevirtual 58, 3, [(.null, 4, [4, 1, 0, 7, 533])]),
    (37, .istore 9, 2, [(.null, 9, [])]),
    (39, .aload_n 0, 1, [(.null, 0, [])]),
    (40, .aload_n 1, 1, [(.null, 1, [])]),
    (41, .iload 8, 2, [(.null, 8, [])]),
    (43, .iconst 2, 1, [(.int 2, 0, [])]),
    (44, .invokevirtual 58, 3, [(.null, 4, [4, 1, 0, 7, 533])]),
    (47, .istore 10, 2, [(.null, 10, [])]),
    (49, .aload_n 0, 1, [(.null, 0, [])]),
    (50, .aload_n 1, 1, [(.null, 1, [])]),
    (51, .iload_n 2, 1, [(.null, 2, [])]),
    (52, .iload 9, 2, [(.null, 9, [])]),
    (54, .invokevirtual 28, 3, [(.null, 1, [4, 1, 0, 6, 516])]),
    (57, .aload_n 0, 1, [(.null, 0, [])]),
    (58, .aload_n 1, 1, [(.null, 1, [])]),
    (59, .iload_n 3, 1, [(.null, 3, [])]),
    (60, .iload 10, 2, [(.null, 10, [])]),
    (62, .invokevirtual 28, 3, [(.null, 1, [4, 1, 0, 6, 516])]),
    (65, .iadd, 1, []),
    (66, .istore 11, 2, [(.null, 11, [])]),
    (68, .iload 5, 2, [(.null, 5, [])]),
    (70, .bipush (-9), 2, [(.int (-9), 0, [])]),
    (72, .if_icmp .eq 10, 3, [(.null, 82, [0, 1, 2, 3, 4, 5, 6, 7, 8, 9, 10, 11])]),
    (75, .iload 11, 2, [(.null, 11, [])]),
    (77, .iload 6, 2, [(.null, 6, [])]),
    (79, .if_icmp .ge 37, 3, [(.null, 116, [0, 1, 2, 3, 4, 5, 6, 7, 8])])]),
  (82, (116, [0, 1, 2, 3, 4, 5, 6, 7, 8]), [(82, .aload_n 0, 1, [(.null, 0, [])]),
    (83, .aload_n 1, 1, [(.null, 1, [])]),
    (84, .iload_n 2, 1, [(.null, 2, [])]),
    (85, .iload 9, 2, [(.null, 9, [])]),
    (87, .iload 10, 2, [(.null, 10, [])]),
    (89, .invokevirtual 61, 3, [(.null, 5, [5, 1, 0, 6, 536])]),
    (92, .ifCond .eq 24, 3, [(.null, 116, [0, 1, 2, 3, 4, 5, 6, 7, 8])]),
    (95, .aload_n 0, 1, [(.null, 0, [])]),
    (96, .aload_n 1, 1, [(.null, 1, [])]),
    (97, .iload_n 3, 1, [(.null, 3, [])]),
    (98, .iload 10, 2, [(.null, 10, [])]),
    (100, .iload 9, 2, [(.null, 9, [])]),
    (102, .invokevirtual 61, 3, [(.null, 5, [5, 1, 0, 6, 536])]),
    (105, .ifCond .eq 11, 3, [(.null, 116, [0, 1, 2, 3, 4, 5, 6, 7, 8])]),
    (108, .iload 8, 2, [(.null, 8, [])]),
    (110, .istore 5, 2, [(.null, 5, [])]),
    (112, .iload 11, 2, [(.null, 11, [])]),
    (114, .istore 6, 2, [(.null, 6, [])])]),
  (116, (0, []), [(116, .iinc 8 1, 3, [(.int 1, 8, [])]),
    (119, .goto (-97), 3, [(.null, 22, [0, 1, 2, 3, 4, 5, 6, 7, 8])])]),
  (122, (134, [6]), [(122, .iload 4, 2, [(.null, 4, [])]),
    (124, .ifCond .eq 10, 3, [(.null, 134, [6])]),
    (127, .iload 5, 2, [(.null, 5, [])]),
    (129, .bipush (-9), 2, [(.int (-9), 0, [])]),
    (131, .if_icmp .ne 6, 3, [(.null, 137, [0, 1, 4, 5])])]),
  (134, (0, []), [(134, .iload 6, 2, [(.null, 6, [])]),
    (136, .ireturn, 1, [])]),
  (137, (0, []), [(137, .aload_n 0, 1, [(.null, 0, [])]),
    (138, .aload_n 1, 1, [(.null, 1, [])]),
    (139, .iload 5, 2, [(.null, 5, [])]),
    (141, .iload 4, 2, [(.null, 4, [])]),
    (143, .invokevirtual 58, 3, [(.null, 4, [4, 1, 0, 7, 533])]),
    (146, .ireturn, 1, [])])]
/-- WallsByTheHour$Choices.chosen (LWallsByTheHour$Street;II)I -/
def kd_4 : List (Nat × ax_Bl) := [(0, (9, [1, 3, 4, 5, 6]), [(0, .iconst 0, 1, [(.int 0, 0, [])]),
    (1, .istore 4, 2, [(.null, 4, [])]),
    (3, .iload_n 2, 1, [(.null, 2, [])]),
    (4, .istore 5, 2, [(.null, 5, [])]),
    (6, .iconst 0, 1, [(.int 0, 0, [])]),
    (7, .istore 6, 2, [(.null, 6, [])])]),
  (9, (35, [1, 3, 4, 5, 6]), [(9, .iload 6, 2, [(.null, 6, [])]),
    (11, .aload_n 1, 1, [(.null, 1, [])]),
    (12, .getfield 24, 3, [(.null, 4, [0, 95])]),
    (15, .if_icmp .ge 32, 3, [(.null, 47, [4])]),
    (18, .iload 5, 2, [(.null, 5, [])]),
    (20, .iconst 3, 1, [(.int 3, 0, [])]),
    (21, .irem, 1, []),
    (22, .iload_n 3, 1, [(.null, 3, [])]),
    (23, .if_icmp .ne 12, 3, [(.null, 35, [1, 3, 4, 5, 6])]),
    (26, .iload 4, 2, [(.null, 4, [])]),
    (28, .iconst 1, 1, [(.int 1, 0, [])]),
    (29, .iload 6, 2, [(.null, 6, [])]),
    (31, .ishl, 1, []),
    (32, .ior, 1, []),
    (33, .istore 4, 2, [(.null, 4, [])])]),
  (35, (0, []), [(35, .iload 5, 2, [(.null, 5, [])]),
    (37, .iconst 3, 1, [(.int 3, 0, [])]),
    (38, .idiv, 1, []),
    (39, .istore 5, 2, [(.null, 5, [])]),
    (41, .iinc 6 1, 3, [(.int 1, 6, [])]),
    (44, .goto (-35), 3, [(.null, 9, [1, 3, 4, 5, 6])])]),
  (47, (0, []), [(47, .iload 4, 2, [(.null, 4, [])]),
    (49, .ireturn, 1, [])])]
/-- WallsByTheHour$Choices.isClosed (LWallsByTheHour$Street;III)Z -/
def kd_5 : List (Nat × ax_Bl) := [(0, (0, []), [(0, .aload_n 1, 1, [(.null, 1, [])]),
    (1, .iload_n 2, 1, [(.null, 2, [])]),
    (2, .invokevirtual 18, 3, [(.null, 55, [2, 1, 4, 4, 515])]),
    (5, .iload 4, 2, [(.null, 4, [])]),
    (7, .iconst (-1), 1, [(.int (-1), 0, [])]),
    (8, .ixor, 1, []),
    (9, .iand, 1, []),
    (10, .iload_n 3, 1, [(.null, 3, [])]),
    (11, .ior, 1, []),
    (12, .istore 5, 2, [(.null, 5, [])]),
    (14, .aload_n 0, 1, [(.null, 0, [])]),
    (15, .aload_n 1, 1, [(.null, 1, [])]),
    (16, .iload 5, 2, [(.null, 5, [])]),
    (18, .invokevirtual 32, 3, [(.null, 2, [3, 1, 0, 5, 519])]),
    (21, .aload_n 1, 1, [(.null, 1, [])]),
    (22, .iload_n 2, 1, [(.null, 2, [])]),
    (23, .invokevirtual 65, 3, [(.null, 49, [2, 1, 4, 2, 539])]),
    (26, .if_icmp .lt 7, 3, [(.null, 33, [])]),
    (29, .iconst 1, 1, [(.int 1, 0, [])]),
    (30, .goto 4, 3, [(.null, 34, [])])]),
  (33, (34, []), [(33, .iconst 0, 1, [(.int 0, 0, [])])]),
  (34, (0, []), [(34, .ireturn, 1, [])])]
/-- WallsByTheHour$Choices.spareBits (LWallsByTheHour$Street;)I -/
def kd_6 : List (Nat × ax_Bl) := [(0, (4, [1, 2, 3]), [(0, .iconst 0, 1, [(.int 0, 0, [])]),
    (1, .istore_n 2, 1, [(.null, 2, [])]),
    (2, .iconst 0, 1, [(.int 0, 0, [])]),
    (3, .istore_n 3, 1, [(.null, 3, [])])]),
  (4, (36, [1, 2, 3]), [(4, .iload_n 3, 1, [(.null, 3, [])]),
    (5, .aload_n 1, 1, [(.null, 1, [])]),
    (6, .getfield 24, 3, [(.null, 4, [0, 95])]),
    (9, .if_icmp .ge 33, 3, [(.null, 42, [2])]),
    (12, .aload_n 1, 1, [(.null, 1, [])]),
    (13, .iload_n 3, 1, [(.null, 3, [])]),
    (14, .invokevirtual 68, 3, [(.null, 51, [2, 1, 4, 3, 548])]),
    (17, .aload_n 1, 1, [(.null, 1, [])]),
    (18, .aload_n 1, 1, [(.null, 1, [])]),
    (19, .getfield 43, 3, [(.null, 4, [6, 113])]),
    (22, .iload_n 3, 1, [(.null, 3, [])]),
    (23, .iaload, 1, []),
    (24, .invokevirtual 36, 3, [(.null, 50, [2, 1, 4, 2, 522])]),
    (27, .if_icmp .gt 9, 3, [(.null, 36, [1, 2, 3])]),
    (30, .iload_n 2, 1, [(.null, 2, [])]),
    (31, .iconst 1, 1, [(.int 1, 0, [])]),
    (32, .iload_n 3, 1, [(.null, 3, [])]),
    (33, .ishl, 1, []),
    (34, .ior, 1, []),
    (35, .istore_n 2, 1, [(.null, 2, [])])]),
  (36, (0, []), [(36, .iinc 3 1, 3, [(.int 1, 3, [])]),
    (39, .goto (-35), 3, [(.null, 4, [1, 2, 3])])]),
  (42, (0, []), [(42, .iload_n 2, 1, [(.null, 2, [])]),
    (43, .ireturn, 1, [])])]
/-- WallsByTheHour$Choices.gift (LWallsByTheHour$Street;II)I -/
def kd_7 : List (Nat × ax_Bl) := [(0, (0, []), [(0, .aload_n 1, 1, [(.null, 1, [])]),
    (1, .iload_n 2, 1, [(.null, 2, [])]),
    (2, .invokevirtual 36, 3, [(.null, 50, [2, 1, 4, 2, 522])]),
    (5, .aload_n 1, 1, [(.null, 1, [])]),
    (6, .getfield 51, 3, [(.null, 4, [11, 124])]),
    (9, .iload_n 3, 1, [(.null, 3, [])]),
    (10, .iaload, 1, []),
    (11, .invokestatic 71, 3, [(.null, 2, [561])]),
    (14, .istore 4, 2, [(.null, 4, [])]),
    (16, .iconst 0, 1, [(.int 0, 0, [])]),
    (17, .iload 4, 2, [(.null, 4, [])]),
    (19, .iload_n 2, 1, [(.null, 2, [])]),
    (20, .aload_n 1, 1, [(.null, 1, [])]),
    (21, .getfield 43, 3, [(.null, 4, [6, 113])]),
    (24, .iload_n 3, 1, [(.null, 3, [])]),
    (25, .iaload, 1, []),
    (26, .invokestatic 47, 3, [(.null, 130, [2, 1, 99, 2, 5001])]),
    (29, .isub, 1, []),
    (30, .invokestatic 76, 3, [(.null, 1, [562])]),
    (33, .ireturn, 1, [])])]
/-- WallsByTheHour$Choices.mostGiving (LWallsByTheHour$Street;II)I -/
def kd_8 : List (Nat × ax_Bl) := [(0, (10, [0, 1, 2, 3, 4, 5, 6]), [(0, .bipush (-9), 2, [(.int (-9), 0, [])]),
    (2, .istore 4, 2, [(.null, 4, [])]),
    (4, .iconst 0, 1, [(.int 0, 0, [])]),
    (5, .istore 5, 2, [(.null, 5, [])]),
    (7, .iconst 0, 1, [(.int 0, 0, [])]),
    (8, .istore 6, 2, [(.null, 6, [])])]),
  (10, (50, [0, 1, 2, 3, 4, 5, 6]), [(10, .iload 6, 2, [(.null, 6, [])]),
    (12, .bipush 8, 2, [(.int 8, 0, [])]),
    (14, .if_icmp .ge 42, 3, [(.null, 56, [4])]),
    (17, .iload 6, 2, [(.null, 6, [])]),
    (19, .iload_n 3, 1, [(.null, 3, [])]),
    (20, .if_icmp .eq 30, 3, [(.null, 50, [0, 1, 2, 3, 4, 5, 6])]),
    (23, .aload_n 0, 1, [(.null, 0, [])]),
    (24, .aload_n 1, 1, [(.null, 1, [])]),
    (25, .iload 6, 2, [(.null, 6, [])]),
    (27, .iload_n 2, 1, [(.null, 2, [])]),
    (28, .invokevirtual 79, 3, [(.null, 7, [4, 1, 0, 5, 557])]),
    (31, .iload 5, 2, [(.null, 5, [])]),
    (33, .if_icmp .le 17, 3, [(.null, 50, [0, 1, 2, 3, 4, 5, 6])]),
    (36, .iload 6, 2, [(.null, 6, [])]),
    (38, .istore 4, 2, [(.null, 4, [])]),
    (40, .aload_n 0, 1, [(.null, 0, [])]),
    (41, .aload_n 1, 1, [(.null, 1, [])]),
    (42, .iload 6, 2, [(.null, 6, [])]),
    (44, .iload_n 2, 1, [(.null, 2, [])]),
    (45, .invokevirtual 79, 3, [(.null, 7, [4, 1, 0, 5, 557])]),
    (48, .istore 5, 2, [(.null, 5, [])])]),
  (50, (0, []), [(50, .iinc 6 1, 3, [(.int 1, 6, [])]),
    (53, .goto (-43), 3, [(.null, 10, [0, 1, 2, 3, 4, 5, 6])])]),
  (56, (0, []), [(56, .iload 4, 2, [(.null, 4, [])]),
    (58, .ireturn, 1, [])])]
/-- WallsByTheHour$Choices.fairShares (LWallsByTheHour$Street;II)I -/
def kd_9 : List (Nat × ax_Bl) := [(0, (21, [0, 1, 2, 3, 4, 5, 6, 7]), [(0, .bipush (-9), 2, [(.int (-9), 0, [])]),
    (2, .istore 4, 2, [(.null, 4, [])]),
    (4, .bipush (-9), 2, [(.int (-9), 0, [])]),
    (6, .istore 5, 2, [(.null, 5, [])]),
    (8, .iconst 1, 1, [(.int 1, 0, [])]),
    (9, .aload_n 1, 1, [(.null, 1, [])]),
    (10, .getfield 24, 3, [(.null, 4, [0, 95])]),
    (13, .ishl, 1, []),
    (14, .iconst 1, 1, [(.int 1, 0, [])]),
    (15, .isub, 1, []),
    (16, .istore 6, 2, [(.null, 6, [])]),
    (18, .iconst 0, 1, [(.int 0, 0, [])]),
    (19, .istore 7, 2, [(.null, 7, [])])]),
  (21, (0, []), [(21, .iload 7, 2, [(.null, 7, [])]),
    (23, .iload 6, 2, [(.null, 6, [])]),
    (25, .if_icmp .gt 105, 3, [(.null, 130, [4])]),
    (28, .aload_n 0, 1, [(.null, 0, [])]),
    (29, .aload_n 1, 1, [(.null, 1, [])]),
    (30, .iload 7, 2, [(.null, 7, [])]),
    (32, .iload_n 2, 1, [(.null, 2, [])]),
    (33, .invokevirtual 82, 3, [(.null, 10, [4, 1, 0, 6, 572])]),
    (36, .istore 8, 2, [(.null, 8, [])]),
    (38, .aload_n 0, 1, [(.null, 0, [])]),
    (39, .aload_n 1, 1, [(.null, 1, [])]),
    (40, .iload 6, 2, [(.null, 6, [])]),
    (42, .iload 7, 2, [(.null, 7, [])]),
    (44, .iconst (-1), 1, [(.int (-1), 0, [])]),
    (45, .ixor, 1, []),
    (46, .iand, 1, []),
    (47, .iload_n 3, 1, [(.null, 3, [])]),
    (48, .invokevirtual 82, 3, [(.null, 10, [4, 1, 0, 6, 572])]),
    (51, .istore 9, 2, [(.null, 9, [])]),
    (53, .iload 8, 2, [(.null, 8, [])]),
    (55, .aload_n 0, 1, [(.null, 0, [])]),
    (56, .aload_n 1, 1, [(.null, 1, [])]),
    (57, .iload 6, 2, [(.null, 6, [])]),
    (59, .iload 7, 2, [(.null, 7, [])]),
    (61, .iconst (-1), 1, [(.int (-1), 0, [])]),
    (62, .ixor, 1, []),
    (63, .iand, 1, []),
    (64, .iload_n 2, 1, [(.null, 2, [])]),
    (65, .invokevirtual 82, 3, [(.null, 10, [4, 1, 0, 6, 572])]),
    (68, .if_icmp .lt 20, 3, [(.null, 88, [0, 1, 2, 3, 4, 5, 6, 7, 8, 9])]),
    (71, .iload 9, 2, [(.null, 9, [])]),
    (73, .aload_n 0, 1, [(.null, 0, [])]),
    (74, .aload_n 1, 1, [(.null, 1, [])]),
    (75, .iload 7, 2, [(.null, 7, [])]),
    (77, .iload_n 3, 1, [(.null, 3, [])]),
    (78, .invokevirtual 82, 3, [(.null, 10, [4, 1, 0, 6, 572])]),
    (81, .if_icmp .lt 7, 3, [(.null, 88, [0, 1, 2, 3, 4, 5, 6, 7, 8, 9])]),
    (84, .iconst 1, 1, [(.int 1, 0, [])]),
    (85, .goto 4, 3, [(.null, 89, [0, 1, 2, 3, 4, 5, 6, 7, 8, 9])])]),
  (88, (89, [0, 1, 2, 3, 4, 5, 6, 7, 8, 9]), [(88, .iconst 0, 1, [(.int 0, 0, [])])]),
  (89, (113, [0, 1, 2, 3, 6, 7, 8, 9]), [(89, .istore 10, 2, [(.null, 10, [])]),
    (91, .iload 10, 2, [(.null, 10, [])]),
    (93, .ifCond .eq 31, 3, [(.null, 124, [0, 1, 2, 3, 4, 5, 6, 7])]),
    (96, .iload 4, 2, [(.null, 4, [])]),
    (98, .bipush (-9), 2, [(.int (-9), 0, [])]),
    (100, .if_icmp .eq 13, 3, [(.null, 113, [0, 1, 2, 3, 6, 7, 8, 9])]),
    (103, .iload 8, 2, [(.null, 8, [])]),
    (105, .iload 9, 2, [(.null, 9, [])]),
    (107, .iadd, 1, []),
    (108, .iload 5, 2, [(.null, 5, [])]),
    (110, .if_icmp .le 14, 3, [(.null, 124, [0, 1, 2, 3, 4, 5, 6, 7])])]),
  (113, (124, [0, 1, 2, 3, 4, 5, 6, 7]), [(113, .iload 7, 2, [(.null, 7, [])]),
    (115, .istore 4, 2, [(.null, 4, [])]),
    (117, .iload 8, 2, [(.null, 8, [])]),
    (119, .iload 9, 2, [(.null, 9, [])]),
    (121, .iadd, 1, []),
    (122, .istore 5, 2, [(.null, 5, [])])]),
  (124, (0, []), [(124, .iinc 7 1, 3, [(.int 1, 7, [])]),
    (127, .goto (-106), 3, [(.null, 21, [0, 1, 2, 3, 4, 5, 6, 7])])]),
  (130, (0, []), [(130, .iload 4, 2, [(.null, 4, [])]),
    (132, .ireturn, 1, [])])]
/-- WallsByTheHour$Choices.worthOf (LWallsByTheHour$Street;II)I -/
def kd_10 : List (Nat × ax_Bl) := [(0, (6, [1, 2, 3, 4, 5]), [(0, .iconst 0, 1, [(.int 0, 0, [])]),
    (1, .istore 4, 2, [(.null, 4, [])]),
    (3, .iconst 0, 1, [(.int 0, 0, [])]),
    (4, .istore 5, 2, [(.null, 5, [])])]),
  (6, (51, [1, 2, 3, 4, 5]), [(6, .iload 5, 2, [(.null, 5, [])]),
    (8, .aload_n 1, 1, [(.null, 1, [])]),
    (9, .getfield 24, 3, [(.null, 4, [0, 95])]),
    (12, .if_icmp .ge 45, 3, [(.null, 57, [4])]),
    (15, .iload_n 2, 1, [(.null, 2, [])]),
    (16, .iload 5, 2, [(.null, 5, [])]),
    (18, .invokestatic 39, 3, [(.null, 131, [2, 1, 99, 2, 5000])]),
    (21, .ifCond .eq 30, 3, [(.null, 51, [1, 2, 3, 4, 5])]),
    (24, .iload 4, 2, [(.null, 4, [])]),
    (26, .aload_n 1, 1, [(.null, 1, [])]),
    (27, .getfield 51, 3, [(.null, 4, [11, 124])]),
    (30, .iload 5, 2, [(.null, 5, [])]),
    (32, .iaload, 1, []),
    (33, .bipush 8, 2, [(.int 8, 0, [])]),
    (35, .iadd, 1, []),
    (36, .aload_n 1, 1, [(.null, 1, [])]),
    (37, .getfield 85, 3, [(.null, 4, [5, 111])]),
    (40, .iload 5, 2, [(.null, 5, [])]),
    (42, .iaload, 1, []),
    (43, .iload_n 3, 1, [(.null, 3, [])]),
    (44, .invokestatic 47, 3, [(.null, 130, [2, 1, 99, 2, 5001])]),
    (47, .isub, 1, []),
    (48, .iadd, 1, []),
    (49, .istore 4, 2, [(.null, 4, [])])]),
  (51, (0, []), [(51, .iinc 5 1, 3, [(.int 1, 5, [])]),
    (54, .goto (-48), 3, [(.null, 6, [1, 2, 3, 4, 5])])]),
  (57, (0, []), [(57, .iload 4, 2, [(.null, 4, [])]),
    (59, .ireturn, 1, [])])]
/-- WallsByTheHour$Choices.screen (LWallsByTheHour$Street;II)I -/
def kd_11 : List (Nat × ax_Bl) := [(0, (11, [1, 2, 3, 4, 5, 6]), [(0, .bipush (-9), 2, [(.int (-9), 0, [])]),
    (2, .istore 4, 2, [(.null, 4, [])]),
    (4, .bipush 8, 2, [(.int 8, 0, [])]),
    (6, .istore 5, 2, [(.null, 5, [])]),
    (8, .iconst 0, 1, [(.int 0, 0, [])]),
    (9, .istore 6, 2, [(.null, 6, [])])]),
  (11, (29, [1, 2, 3, 4, 5, 6, 7]), [(11, .iload 6, 2, [(.null, 6, [])]),
    (13, .aload_n 1, 1, [(.null, 1, [])]),
    (14, .getfield 24, 3, [(.null, 4, [0, 95])]),
    (17, .if_icmp .ge 69, 3, [(.null, 86, [4])]),
    (20, .iload_n 2, 1, [(.null, 2, [])]),
    (21, .iload_n 3, 1, [(.null, 3, [])]),
    (22, .invokestatic 71, 3, [(.null, 2, [561])]),
    (25, .iconst 1, 1, [(.int 1, 0, [])]),
    (26, .iadd, 1, []),
    (27, .istore 7, 2, [(.null, 7, [])])]),
  (29, (74, [1, 2, 3, 4, 5, 6, 7]), [(29, .iload 7, 2, [(.null, 7, [])]),
    (31, .iload_n 2, 1, [(.null, 2, [])]),
    (32, .iload_n 3, 1, [(.null, 3, [])]),
    (33, .invokestatic 76, 3, [(.null, 1, [562])]),
    (36, .if_icmp .ge 44, 3, [(.null, 80, [1, 2, 3, 4, 5, 6])]),
    (39, .aload_n 1, 1, [(.null, 1, [])]),
    (40, .getfield 43, 3, [(.null, 4, [6, 113])]),
    (43, .iload 6, 2, [(.null, 6, [])]),
    (45, .iaload, 1, []),
    (46, .iload 7, 2, [(.null, 7, [])]),
    (48, .invokestatic 47, 3, [(.null, 130, [2, 1, 99, 2, 5001])]),
    (51, .istore 8, 2, [(.null, 8, [])]),
    (53, .iload 8, 2, [(.null, 8, [])]),
    (55, .iload 5, 2, [(.null, 5, [])]),
    (57, .if_icmp .ge 17, 3, [(.null, 74, [1, 2, 3, 4, 5, 6, 7])]),
    (60, .bipush 10, 2, [(.int 10, 0, [])]),
    (62, .iload 6, 2, [(.null, 6, [])]),
    (64, .imul, 1, []),
    (65, .iload 7, 2, [(.null, 7, [])]),
    (67, .iadd, 1, []),
    (68, .istore 4, 2, [(.null, 4, [])]),
    (70, .iload 8, 2, [(.null, 8, [])]),
    (72, .istore 5, 2, [(.null, 5, [])])]),
  (74, (0, []), [(74, .iinc 7 1, 3, [(.int 1, 7, [])]),
    (77, .goto (-48), 3, [(.null, 29, [1, 2, 3, 4, 5, 6, 7])])]),
  (80, (0, []), [(80, .iinc 6 1, 3, [(.int 1, 6, [])]),
    (83, .goto (-72), 3, [(.null, 11, [1, 2, 3, 4, 5, 6])])]),
  (86, (0, []), [(86, .iload 4, 2, [(.null, 4, [])]),
    (88, .ireturn, 1, [])])]
/-- WallsByTheHour$Choices.waysTo (LWallsByTheHour$Street;III)J -/
def kd_12 : List (Nat × ax_Bl) := [(0, (3, [0, 1, 2, 3, 4, 5]), [(0, .iconst 0, 1, [(.int 0, 0, [])]),
    (1, .istore 5, 2, [(.null, 5, [])])]),
  (3, (0, []), [(3, .iload 5, 2, [(.null, 5, [])]),
    (5, .bipush 8, 2, [(.int 8, 0, [])]),
    (7, .if_icmp .ge 32, 3, [(.null, 39, [0, 1, 2, 3, 4])]),
    (10, .aload_n 0, 1, [(.null, 0, [])]),
    (11, .getfield 9, 3, [(.null, 0, [0, 154])]),
    (14, .iload 5, 2, [(.null, 5, [])]),
    (16, .iload 5, 2, [(.null, 5, [])]),
    (18, .aload_n 1, 1, [(.null, 1, [])]),
    (19, .getfield 43, 3, [(.null, 4, [6, 113])]),
    (22, .iload_n 2, 1, [(.null, 2, [])]),
    (23, .iaload, 1, []),
    (24, .if_icmp .ne 7, 3, [(.null, 31, [0, 1, 2, 3, 4, 5])]),
    (27, .lconst 1, 1, [(.long 1, 0, [])]),
    (28, .goto 4, 3, [(.null, 32, [0, 1, 2, 3, 4, 5])])]),
  (31, (32, [0, 1, 2, 3, 4, 5]), [(31, .lconst 0, 1, [(.long 0, 0, [])])]),
  (32, (0, []), [(32, .lastore, 1, []),
    (33, .iinc 5 1, 3, [(.int 1, 5, [])]),
    (36, .goto (-33), 3, [(.null, 3, [0, 1, 2, 3, 4, 5])])]),
  (39, (42, [0, 1, 2, 3, 4, 5]), [(39, .iconst 0, 1, [(.int 0, 0, [])]),
    (40, .istore 5, 2, [(.null, 5, [])])]),
  (42, (0, []), [(42, .iload 5, 2, [(.null, 5, [])]),
    (44, .iload 4, 2, [(.null, 4, [])]),
    (46, .if_icmp .ge 15, 3, [(.null, 61, [0, 3])]),
    (49, .aload_n 0, 1, [(.null, 0, [])]),
    (50, .aload_n 1, 1, [(.null, 1, [])]),
    (51, .iload_n 2, 1, [(.null, 2, [])]),
    (52, .invokevirtual 88, 3, [(.null, 13, [3, 0, 0, 5, 652])]),
    (55, .iinc 5 1, 3, [(.int 1, 5, [])]),
    (58, .goto (-16), 3, [(.null, 42, [0, 1, 2, 3, 4, 5])])]),
  (61, (0, []), [(61, .aload_n 0, 1, [(.null, 0, [])]),
    (62, .getfield 9, 3, [(.null, 0, [0, 154])]),
    (65, .iload_n 3, 1, [(.null, 3, [])]),
    (66, .laload, 1, []),
    (67, .lreturn, 1, [])])]
/-- WallsByTheHour$Choices.goOn (LWallsByTheHour$Street;I)V -/
def kd_13 : List (Nat × ax_Bl) := [(0, (2, [0, 1, 2, 3]), [(0, .iconst 0, 1, [(.int 0, 0, [])]),
    (1, .istore_n 3, 1, [(.null, 3, [])])]),
  (2, (18, [0, 1, 2, 3, 4]), [(2, .iload_n 3, 1, [(.null, 3, [])]),
    (3, .bipush 8, 2, [(.int 8, 0, [])]),
    (5, .if_icmp .ge 59, 3, [(.null, 64, [0])]),
    (8, .aload_n 0, 1, [(.null, 0, [])]),
    (9, .getfield 15, 3, [(.null, 0, [1, 155])]),
    (12, .iload_n 3, 1, [(.null, 3, [])]),
    (13, .lconst 0, 1, [(.long 0, 0, [])]),
    (14, .lastore, 1, []),
    (15, .iconst 0, 1, [(.int 0, 0, [])]),
    (16, .istore 4, 2, [(.null, 4, [])])]),
  (18, (52, [0, 1, 2, 3, 4]), [(18, .iload 4, 2, [(.null, 4, [])]),
    (20, .bipush 8, 2, [(.int 8, 0, [])]),
    (22, .if_icmp .ge 36, 3, [(.null, 58, [0, 1, 2, 3])]),
    (25, .aload_n 1, 1, [(.null, 1, [])]),
    (26, .iload_n 2, 1, [(.null, 2, [])]),
    (27, .iload 4, 2, [(.null, 4, [])]),
    (29, .iload_n 3, 1, [(.null, 3, [])]),
    (30, .invokevirtual 92, 3, [(.null, 44, [4, 1, 4, 4, 655])]),
    (33, .ifCond .eq 19, 3, [(.null, 52, [0, 1, 2, 3, 4])]),
    (36, .aload_n 0, 1, [(.null, 0, [])]),
    (37, .getfield 15, 3, [(.null, 0, [1, 155])]),
    (40, .iload_n 3, 1, [(.null, 3, [])]),
    (41, .dup2, 1, []),
    (42, .laload, 1, []),
    (43, .aload_n 0, 1, [(.null, 0, [])]),
    (44, .getfield 9, 3, [(.null, 0, [0, 154])]),
    (47, .iload 4, 2, [(.null, 4, [])]),
    (49, .laload, 1, []),
    (50, .ladd, 1, []),
    (51, .lastore, 1, [])]),
  (52, (0, []), [(52, .iinc 4 1, 3, [(.int 1, 4, [])]),
    (55, .goto (-37), 3, [(.null, 18, [0, 1, 2, 3, 4])])]),
  (58, (0, []), [(58, .iinc 3 1, 3, [(.int 1, 3, [])]),
    (61, .goto (-59), 3, [(.null, 2, [0, 1, 2, 3])])]),
  (64, (0, []), [(64, .aload_n 0, 1, [(.null, 0, [])]),
    (65, .getfield 15, 3, [(.null, 0, [1, 155])]),
    (68, .iconst 0, 1, [(.int 0, 0, [])]),
    (69, .aload_n 0, 1, [(.null, 0, [])]),
    (70, .getfield 9, 3, [(.null, 0, [0, 154])]),
    (73, .iconst 0, 1, [(.int 0, 0, [])]),
    (74, .bipush 8, 2, [(.int 8, 0, [])]),
    (76, .invokestatic 96, 3, [(.null, 4, [656])]),
    (79, .return_, 1, [])])]
/-- WallsByTheHour$History.write (II)V -/
def kd_14 : List (Nat × ax_Bl) := [(0, (18, []), [(0, .iload_n 1, 1, [(.null, 1, [])]),
    (1, .ifCond .lt 17, 3, [(.null, 18, [])]),
    (4, .iload_n 1, 1, [(.null, 1, [])]),
    (5, .sipush 999, 3, [(.int 999, 0, [])]),
    (8, .if_icmp .gt 10, 3, [(.null, 18, [])]),
    (11, .aload_n 0, 1, [(.null, 0, [])]),
    (12, .getfield 9, 3, [(.null, 1, [0, 141])]),
    (15, .iload_n 1, 1, [(.null, 1, [])]),
    (16, .iload_n 2, 1, [(.null, 2, [])]),
    (17, .iastore, 1, [])]),
  (18, (0, []), [(18, .return_, 1, [])])]
/-- WallsByTheHour$History.had (II)Z -/
def kd_15 : List (Nat × ax_Bl) := [(0, (0, []), [(0, .iload_n 1, 1, [(.null, 1, [])]),
    (1, .ifCond .le 27, 3, [(.null, 28, [])]),
    (4, .iload_n 1, 1, [(.null, 1, [])]),
    (5, .sipush 999, 3, [(.int 999, 0, [])]),
    (8, .if_icmp .gt 20, 3, [(.null, 28, [])]),
    (11, .aload_n 0, 1, [(.null, 0, [])]),
    (12, .getfield 9, 3, [(.null, 1, [0, 141])]),
    (15, .iload_n 1, 1, [(.null, 1, [])]),
    (16, .iaload, 1, []),
    (17, .iload_n 2, 1, [(.null, 2, [])]),
    (18, .invokestatic 15, 3, [(.null, 131, [2, 1, 99, 2, 5003])]),
    (21, .ifCond .eq 7, 3, [(.null, 28, [])]),
    (24, .iconst 1, 1, [(.int 1, 0, [])]),
    (25, .goto 4, 3, [(.null, 29, [])])]),
  (28, (29, []), [(28, .iconst 0, 1, [(.int 0, 0, [])])]),
  (29, (0, []), [(29, .ireturn, 1, [])])]
/-- WallsByTheHour$History.hoursOf (III)I -/
def kd_16 : List (Nat × ax_Bl) := [(0, (6, [0, 1, 3, 4, 5]), [(0, .iconst 0, 1, [(.int 0, 0, [])]),
    (1, .istore 4, 2, [(.null, 4, [])]),
    (3, .iload_n 2, 1, [(.null, 2, [])]),
    (4, .istore 5, 2, [(.null, 5, [])])]),
  (6, (25, [0, 1, 3, 4, 5]), [(6, .iload 5, 2, [(.null, 5, [])]),
    (8, .iload_n 3, 1, [(.null, 3, [])]),
    (9, .if_icmp .gt 22, 3, [(.null, 31, [4])]),
    (12, .aload_n 0, 1, [(.null, 0, [])]),
    (13, .iload 5, 2, [(.null, 5, [])]),
    (15, .iload_n 1, 1, [(.null, 1, [])]),
    (16, .invokevirtual 19, 3, [(.null, 15, [3, 1, 1, 3, 685])]),
    (19, .ifCond .eq 6, 3, [(.null, 25, [0, 1, 3, 4, 5])]),
    (22, .iinc 4 1, 3, [(.int 1, 4, [])])]),
  (25, (0, []), [(25, .iinc 5 1, 3, [(.int 1, 5, [])]),
    (28, .goto (-22), 3, [(.null, 6, [0, 1, 3, 4, 5])])]),
  (31, (0, []), [(31, .iload 4, 2, [(.null, 4, [])]),
    (33, .ireturn, 1, [])])]
/-- WallsByTheHour$History.hoursOfBoth (III)I -/
def kd_17 : List (Nat × ax_Bl) := [(0, (6, [0, 1, 2, 3, 4, 5]), [(0, .iconst 0, 1, [(.int 0, 0, [])]),
    (1, .istore 4, 2, [(.null, 4, [])]),
    (3, .iconst 0, 1, [(.int 0, 0, [])]),
    (4, .istore 5, 2, [(.null, 5, [])])]),
  (6, (35, [0, 1, 2, 3, 4, 5]), [(6, .iload 5, 2, [(.null, 5, [])]),
    (8, .iload_n 3, 1, [(.null, 3, [])]),
    (9, .if_icmp .gt 32, 3, [(.null, 41, [4])]),
    (12, .aload_n 0, 1, [(.null, 0, [])]),
    (13, .iload 5, 2, [(.null, 5, [])]),
    (15, .iload_n 1, 1, [(.null, 1, [])]),
    (16, .invokevirtual 19, 3, [(.null, 15, [3, 1, 1, 3, 685])]),
    (19, .ifCond .eq 16, 3, [(.null, 35, [0, 1, 2, 3, 4, 5])]),
    (22, .aload_n 0, 1, [(.null, 0, [])]),
    (23, .iload 5, 2, [(.null, 5, [])]),
    (25, .iload_n 2, 1, [(.null, 2, [])]),
    (26, .invokevirtual 19, 3, [(.null, 15, [3, 1, 1, 3, 685])]),
    (29, .ifCond .eq 6, 3, [(.null, 35, [0, 1, 2, 3, 4, 5])]),
    (32, .iinc 4 1, 3, [(.int 1, 4, [])])]),
  (35, (0, []), [(35, .iinc 5 1, 3, [(.int 1, 5, [])]),
    (38, .goto (-32), 3, [(.null, 6, [0, 1, 2, 3, 4, 5])])]),
  (41, (0, []), [(41, .iload 4, 2, [(.null, 4, [])]),
    (43, .ireturn, 1, [])])]
/-- WallsByTheHour$History.longestOf (II)I -/
def kd_18 : List (Nat × ax_Bl) := [(0, (8, [0, 1, 2, 3, 4, 5]), [(0, .iconst 0, 1, [(.int 0, 0, [])]),
    (1, .istore_n 3, 1, [(.null, 3, [])]),
    (2, .iconst 0, 1, [(.int 0, 0, [])]),
    (3, .istore 4, 2, [(.null, 4, [])]),
    (5, .iconst 0, 1, [(.int 0, 0, [])]),
    (6, .istore 5, 2, [(.null, 5, [])])]),
  (8, (0, []), [(8, .iload 5, 2, [(.null, 5, [])]),
    (10, .iload_n 2, 1, [(.null, 2, [])]),
    (11, .if_icmp .gt 36, 3, [(.null, 47, [3])]),
    (14, .aload_n 0, 1, [(.null, 0, [])]),
    (15, .iload 5, 2, [(.null, 5, [])]),
    (17, .iload_n 1, 1, [(.null, 1, [])]),
    (18, .invokevirtual 19, 3, [(.null, 15, [3, 1, 1, 3, 685])]),
    (21, .ifCond .eq 10, 3, [(.null, 31, [0, 1, 2, 3, 5])]),
    (24, .iload 4, 2, [(.null, 4, [])]),
    (26, .iconst 1, 1, [(.int 1, 0, [])]),
    (27, .iadd, 1, []),
    (28, .goto 4, 3, [(.null, 32, [0, 1, 2, 3, 5])])]),
  (31, (32, [0, 1, 2, 3, 5]), [(31, .iconst 0, 1, [(.int 0, 0, [])])]),
  (32, (0, []), [(32, .istore 4, 2, [(.null, 4, [])]),
    (34, .iload_n 3, 1, [(.null, 3, [])]),
    (35, .iload 4, 2, [(.null, 4, [])]),
    (37, .invokestatic 22, 3, [(.null, 1, [696])]),
    (40, .istore_n 3, 1, [(.null, 3, [])]),
    (41, .iinc 5 1, 3, [(.int 1, 5, [])]),
    (44, .goto (-36), 3, [(.null, 8, [0, 1, 2, 3, 4, 5])])]),
  (47, (0, []), [(47, .iload_n 3, 1, [(.null, 3, [])]),
    (48, .ireturn, 1, [])])]
/-- WallsByTheHour$Kinds.coverOf (III)I -/
def kd_19 : List (Nat × ax_Bl) := [(0, (0, []), [(0, .iload_n 1, 1, [(.null, 1, [])]),
    (1, .iconst 1, 1, [(.int 1, 0, [])]),
    (2, .iadd, 1, []),
    (3, .istore_n 3, 1, [(.null, 3, [])]),
    (4, .iload_n 0, 1, [(.null, 0, [])]),
    (5, .tableswitch 62 1 5 #[35, 48, 62, 52, 58], 35, [(.int 1, 40, [2, 3]), (.int 2, 53, [3]), (.int 3, 67, [3]), (.int 4, 57, [3]), (.int 5, 63, [3]), (.null, 67, [3])])]),
  (40, (0, []), [(40, .iload_n 2, 1, [(.null, 2, [])]),
    (41, .iconst 2, 1, [(.int 2, 0, [])]),
    (42, .if_icmp .gt 9, 3, [(.null, 51, [3])]),
    (45, .iload_n 3, 1, [(.null, 3, [])]),
    (46, .iconst 3, 1, [(.int 3, 0, [])]),
    (47, .iadd, 1, []),
    (48, .goto 4, 3, [(.null, 52, [])])]),
  (51, (52, []), [(51, .iload_n 3, 1, [(.null, 3, [])])]),
  (52, (0, []), [(52, .ireturn, 1, [])]),
  (53, (0, []), [(53, .iload_n 3, 1, [(.null, 3, [])]),
    (54, .iconst 2, 1, [(.int 2, 0, [])]),
    (55, .idiv, 1, []),
    (56, .ireturn, 1, [])]),
  (57, (0, []), [(57, .iload_n 3, 1, [(.null, 3, [])]),
    (58, .iconst 2, 1, [(.int 2, 0, [])]),
    (59, .idiv, 1, []),
    (60, .iconst 1, 1, [(.int 1, 0, [])]),
    (61, .iadd, 1, []),
    (62, .ireturn, 1, [])]),
  (63, (0, []), [(63, .iconst 2, 1, [(.int 2, 0, [])]),
    (64, .iload_n 3, 1, [(.null, 3, [])]),
    (65, .imul, 1, []),
    (66, .ireturn, 1, [])]),
  (67, (0, []), [(67, .iload_n 3, 1, [(.null, 3, [])]),
    (68, .ireturn, 1, [])])]
/-- WallsByTheHour$Kinds.strides (II)Z -/
def kd_20 : List (Nat × ax_Bl) := [(0, (0, []), [(0, .iload_n 1, 1, [(.null, 1, [])]),
    (1, .iconst 2, 1, [(.int 2, 0, [])]),
    (2, .irem, 1, []),
    (3, .ifCond .ne 7, 3, [(.null, 10, [0, 1])]),
    (6, .iconst 1, 1, [(.int 1, 0, [])]),
    (7, .goto 4, 3, [(.null, 11, [0, 1])])]),
  (10, (11, [0, 1]), [(10, .iconst 0, 1, [(.int 0, 0, [])])]),
  (11, (0, []), [(11, .istore_n 2, 1, [(.null, 2, [])]),
    (12, .iload_n 0, 1, [(.null, 0, [])]),
    (13, .tableswitch 61 2 5 #[31, 33, 35, 46], 31, [(.int 2, 44, []), (.int 3, 46, [2]), (.int 4, 48, [1]), (.int 5, 59, [1, 2]), (.null, 74, [1])])]),
  (44, (0, []), [(44, .iconst 1, 1, [(.int 1, 0, [])]),
    (45, .ireturn, 1, [])]),
  (46, (0, []), [(46, .iload_n 2, 1, [(.null, 2, [])]),
    (47, .ireturn, 1, [])]),
  (48, (0, []), [(48, .iload_n 1, 1, [(.null, 1, [])]),
    (49, .iconst 1, 1, [(.int 1, 0, [])]),
    (50, .if_icmp .ne 7, 3, [(.null, 57, [])]),
    (53, .iconst 1, 1, [(.int 1, 0, [])]),
    (54, .goto 4, 3, [(.null, 58, [])])]),
  (57, (58, []), [(57, .iconst 0, 1, [(.int 0, 0, [])])]),
  (58, (0, []), [(58, .ireturn, 1, [])]),
  (59, (68, []), [(59, .iload_n 2, 1, [(.null, 2, [])]),
    (60, .ifCond .ne 8, 3, [(.null, 68, [])]),
    (63, .iload_n 1, 1, [(.null, 1, [])]),
    (64, .iconst 1, 1, [(.int 1, 0, [])]),
    (65, .if_icmp .ne 7, 3, [(.null, 72, [])])]),
  (68, (0, []), [(68, .iconst 1, 1, [(.int 1, 0, [])]),
    (69, .goto 4, 3, [(.null, 73, [])])]),
  (72, (73, []), [(72, .iconst 0, 1, [(.int 0, 0, [])])]),
  (73, (0, []), [(73, .ireturn, 1, [])]),
  (74, (0, []), [(74, .iload_n 1, 1, [(.null, 1, [])]),
    (75, .iconst 3, 1, [(.int 3, 0, [])]),
    (76, .if_icmp .gt 7, 3, [(.null, 83, [])]),
    (79, .iconst 1, 1, [(.int 1, 0, [])]),
    (80, .goto 4, 3, [(.null, 84, [])])]),
  (83, (84, []), [(83, .iconst 0, 1, [(.int 0, 0, [])])]),
  (84, (0, []), [(84, .ireturn, 1, [])])]
/-- WallsByTheHour$Kinds.panesOf (II)I -/
def kd_21 : List (Nat × ax_Bl) := [(0, (0, []), [(0, .iconst 1, 1, [(.int 1, 0, [])]),
    (1, .iload_n 1, 1, [(.null, 1, [])]),
    (2, .iconst 2, 1, [(.int 2, 0, [])]),
    (3, .idiv, 1, []),
    (4, .iadd, 1, []),
    (5, .istore_n 2, 1, [(.null, 2, [])]),
    (6, .iload_n 0, 1, [(.null, 0, [])]),
    (7, .iconst 3, 1, [(.int 3, 0, [])]),
    (8, .if_icmp .ne 5, 3, [(.null, 13, [0, 2])]),
    (11, .iload_n 2, 1, [(.null, 2, [])]),
    (12, .ireturn, 1, [])]),
  (13, (0, []), [(13, .iload_n 0, 1, [(.null, 0, [])]),
    (14, .iconst 5, 1, [(.int 5, 0, [])]),
    (15, .if_icmp .ne 9, 3, [(.null, 24, [])]),
    (18, .iload_n 2, 1, [(.null, 2, [])]),
    (19, .iconst 3, 1, [(.int 3, 0, [])]),
    (20, .iadd, 1, []),
    (21, .goto 4, 3, [(.null, 25, [])])]),
  (24, (25, []), [(24, .iconst 0, 1, [(.int 0, 0, [])])]),
  (25, (0, []), [(25, .ireturn, 1, [])])]
/-- WallsByTheHour$Letters.add (I)I -/
def kd_22 : List (Nat × ax_Bl) := [(0, (29, [0]), [(0, .aload_n 0, 1, [(.null, 0, [])]),
    (1, .getfield 15, 3, [(.null, 2, [1, 144])]),
    (4, .bipush 96, 2, [(.int 96, 0, [])]),
    (6, .if_icmp .ge 23, 3, [(.null, 29, [0])]),
    (9, .aload_n 0, 1, [(.null, 0, [])]),
    (10, .getfield 9, 3, [(.null, 2, [0, 143])]),
    (13, .aload_n 0, 1, [(.null, 0, [])]),
    (14, .getfield 15, 3, [(.null, 2, [1, 144])]),
    (17, .iload_n 1, 1, [(.null, 1, [])]),
    (18, .iastore, 1, []),
    (19, .aload_n 0, 1, [(.null, 0, [])]),
    (20, .dup, 1, []),
    (21, .getfield 15, 3, [(.null, 2, [1, 144])]),
    (24, .iconst 1, 1, [(.int 1, 0, [])]),
    (25, .iadd, 1, []),
    (26, .putfield 15, 3, [(.null, 2, [1, 144])])]),
  (29, (0, []), [(29, .aload_n 0, 1, [(.null, 0, [])]),
    (30, .getfield 15, 3, [(.null, 2, [1, 144])]),
    (33, .ireturn, 1, [])])]
/-- WallsByTheHour$Letters.signAt (I)I -/
def kd_23 : List (Nat × ax_Bl) := [(0, (0, []), [(0, .iload_n 1, 1, [(.null, 1, [])]),
    (1, .ifCond .lt 20, 3, [(.null, 21, [])]),
    (4, .iload_n 1, 1, [(.null, 1, [])]),
    (5, .aload_n 0, 1, [(.null, 0, [])]),
    (6, .getfield 15, 3, [(.null, 2, [1, 144])]),
    (9, .if_icmp .ge 12, 3, [(.null, 21, [])]),
    (12, .aload_n 0, 1, [(.null, 0, [])]),
    (13, .getfield 9, 3, [(.null, 2, [0, 143])]),
    (16, .iload_n 1, 1, [(.null, 1, [])]),
    (17, .iaload, 1, []),
    (18, .goto 4, 3, [(.null, 22, [])])]),
  (21, (22, []), [(21, .iconst (-1), 1, [(.int (-1), 0, [])])]),
  (22, (0, []), [(22, .ireturn, 1, [])])]
/-- WallsByTheHour$Letters.digitAt (I)I -/
def kd_24 : List (Nat × ax_Bl) := [(0, (0, []), [(0, .aload_n 0, 1, [(.null, 0, [])]),
    (1, .iload_n 1, 1, [(.null, 1, [])]),
    (2, .invokevirtual 19, 3, [(.null, 23, [2, 1, 2, 2, 204])]),
    (5, .bipush 48, 2, [(.int 48, 0, [])]),
    (7, .isub, 1, []),
    (8, .ireturn, 1, [])])]
/-- WallsByTheHour$Letters.kindAt (I)I -/
def kd_25 : List (Nat × ax_Bl) := [(0, (0, []), [(0, .ldc 23, 2, [(.ref 67, 0, [])]),
    (2, .aload_n 0, 1, [(.null, 0, [])]),
    (3, .iload_n 1, 1, [(.null, 1, [])]),
    (4, .invokevirtual 19, 3, [(.null, 23, [2, 1, 2, 2, 204])]),
    (7, .i2c, 1, []),
    (8, .invokevirtual 25, 3, [(.null, 252, [2, 1, 98, 2, 218])]),
    (11, .ireturn, 1, [])])]
/-- WallsByTheHour$Letters.sizeOf (I)I -/
def kd_26 : List (Nat × ax_Bl) := [(0, (0, []), [(0, .iload_n 0, 1, [(.null, 0, [])]),
    (1, .lookupswitch 66 #[(98, 64), (104, 64), (109, 64), (110, 61), (115, 64), (119, 59)], 59, [(.int 98, 65, []), (.int 104, 65, []), (.int 109, 65, []), (.int 110, 62, []), (.int 115, 65, []), (.int 119, 60, []), (.null, 67, [])])]),
  (60, (0, []), [(60, .iconst 5, 1, [(.int 5, 0, [])]),
    (61, .ireturn, 1, [])]),
  (62, (0, []), [(62, .bipush 9, 2, [(.int 9, 0, [])]),
    (64, .ireturn, 1, [])]),
  (65, (0, []), [(65, .iconst 4, 1, [(.int 4, 0, [])]),
    (66, .ireturn, 1, [])]),
  (67, (0, []), [(67, .iconst 0, 1, [(.int 0, 0, [])]),
    (68, .ireturn, 1, [])])]
/-- WallsByTheHour$Letters.fault (II)I -/
def kd_27 : List (Nat × ax_Bl) := [(0, (0, []), [(0, .aload_n 0, 1, [(.null, 0, [])]),
    (1, .invokevirtual 30, 3, [(.null, 28, [1, 1, 2, 5, 201])]),
    (4, .istore_n 3, 1, [(.null, 3, [])]),
    (5, .iload_n 3, 1, [(.null, 3, [])]),
    (6, .ifCond .lt 9, 3, [(.null, 15, [0, 1, 2])]),
    (9, .sipush (-1000), 3, [(.int (-1000), 0, [])]),
    (12, .iload_n 3, 1, [(.null, 3, [])]),
    (13, .isub, 1, []),
    (14, .ireturn, 1, [])]),
  (15, (0, []), [(15, .aload_n 0, 1, [(.null, 0, [])]),
    (16, .iload_n 1, 1, [(.null, 1, [])]),
    (17, .iload_n 2, 1, [(.null, 2, [])]),
    (18, .invokevirtual 34, 3, [(.null, 30, [3, 1, 2, 7, 258])]),
    (21, .istore_n 3, 1, [(.null, 3, [])]),
    (22, .iload_n 3, 1, [(.null, 3, [])]),
    (23, .ifCond .lt 11, 3, [(.null, 34, [])]),
    (26, .sipush (-2000), 3, [(.int (-2000), 0, [])]),
    (29, .iload_n 3, 1, [(.null, 3, [])]),
    (30, .isub, 1, []),
    (31, .goto 4, 3, [(.null, 35, [])])]),
  (34, (35, []), [(34, .iconst 0, 1, [(.int 0, 0, [])])]),
  (35, (0, []), [(35, .ireturn, 1, [])])]
/-- WallsByTheHour$Letters.misformedAt ()I -/
def kd_28 : List (Nat × ax_Bl) := [(0, (0, []), [(0, .aload_n 0, 1, [(.null, 0, [])]),
    (1, .getfield 15, 3, [(.null, 2, [1, 144])]),
    (4, .ifCond .ne 5, 3, [(.null, 9, [0])]),
    (7, .iconst 0, 1, [(.int 0, 0, [])]),
    (8, .ireturn, 1, [])]),
  (9, (13, [0, 1, 2]), [(9, .iconst 0, 1, [(.int 0, 0, [])]),
    (10, .istore_n 1, 1, [(.null, 1, [])]),
    (11, .iconst 0, 1, [(.int 0, 0, [])]),
    (12, .istore_n 2, 1, [(.null, 2, [])])]),
  (13, (0, []), [(13, .iload_n 2, 1, [(.null, 2, [])]),
    (14, .bipush 96, 2, [(.int 96, 0, [])]),
    (16, .if_icmp .ge 69, 3, [(.null, 85, [])]),
    (19, .iload_n 1, 1, [(.null, 1, [])]),
    (20, .aload_n 0, 1, [(.null, 0, [])]),
    (21, .getfield 15, 3, [(.null, 2, [1, 144])]),
    (24, .if_icmp .ge 61, 3, [(.null, 85, [])]),
    (27, .aload_n 0, 1, [(.null, 0, [])]),
    (28, .iload_n 1, 1, [(.null, 1, [])]),
    (29, .invokevirtual 19, 3, [(.null, 23, [2, 1, 2, 2, 204])]),
    (32, .invokestatic 38, 3, [(.null, 26, [1, 1, 99, 1, 208])]),
    (35, .istore_n 3, 1, [(.null, 3, [])]),
    (36, .iload_n 3, 1, [(.null, 3, [])]),
    (37, .ifCond .ne 5, 3, [(.null, 42, [0, 1, 2, 3])]),
    (40, .iload_n 1, 1, [(.null, 1, [])]),
    (41, .ireturn, 1, [])]),
  (42, (47, [0, 1, 2, 3, 4]), [(42, .iload_n 1, 1, [(.null, 1, [])]),
    (43, .iconst 1, 1, [(.int 1, 0, [])]),
    (44, .iadd, 1, []),
    (45, .istore 4, 2, [(.null, 4, [])])]),
  (47, (0, []), [(47, .iload 4, 2, [(.null, 4, [])]),
    (49, .iload_n 1, 1, [(.null, 1, [])]),
    (50, .iload_n 3, 1, [(.null, 3, [])]),
    (51, .iadd, 1, []),
    (52, .if_icmp .ge 23, 3, [(.null, 75, [0, 1, 2, 3])]),
    (55, .aload_n 0, 1, [(.null, 0, [])]),
    (56, .iload_n 1, 1, [(.null, 1, [])]),
    (57, .iload 4, 2, [(.null, 4, [])]),
    (59, .iload_n 3, 1, [(.null, 3, [])]),
    (60, .invokevirtual 41, 3, [(.null, 29, [4, 1, 2, 4, 211])]),
    (63, .ifCond .ne 6, 3, [(.null, 69, [0, 1, 2, 3, 4])]),
    (66, .iload 4, 2, [(.null, 4, [])]),
    (68, .ireturn, 1, [])]),
  (69, (0, []), [(69, .iinc 4 1, 3, [(.int 1, 4, [])]),
    (72, .goto (-25), 3, [(.null, 47, [0, 1, 2, 3, 4])])]),
  (75, (0, []), [(75, .iload_n 1, 1, [(.null, 1, [])]),
    (76, .iload_n 3, 1, [(.null, 3, [])]),
    (77, .iadd, 1, []),
    (78, .istore_n 1, 1, [(.null, 1, [])]),
    (79, .iinc 2 1, 3, [(.int 1, 2, [])]),
    (82, .goto (-69), 3, [(.null, 13, [0, 1, 2])])]),
  (85, (0, []), [(85, .bipush (-9), 2, [(.int (-9), 0, [])]),
    (87, .ireturn, 1, [])])]
/-- WallsByTheHour$Letters.fits (III)Z -/
def kd_29 : List (Nat × ax_Bl) := [(0, (0, []), [(0, .iload_n 2, 1, [(.null, 2, [])]),
    (1, .aload_n 0, 1, [(.null, 0, [])]),
    (2, .getfield 15, 3, [(.null, 2, [1, 144])]),
    (5, .if_icmp .lt 5, 3, [(.null, 10, [0, 1, 2, 3])]),
    (8, .iconst 0, 1, [(.int 0, 0, [])]),
    (9, .ireturn, 1, [])]),
  (10, (0, []), [(10, .iload_n 2, 1, [(.null, 2, [])]),
    (11, .iload_n 1, 1, [(.null, 1, [])]),
    (12, .iload_n 3, 1, [(.null, 3, [])]),
    (13, .iadd, 1, []),
    (14, .iconst 1, 1, [(.int 1, 0, [])]),
    (15, .isub, 1, []),
    (16, .if_icmp .ne 19, 3, [(.null, 35, [0, 1, 2])]),
    (19, .aload_n 0, 1, [(.null, 0, [])]),
    (20, .iload_n 2, 1, [(.null, 2, [])]),
    (21, .invokevirtual 19, 3, [(.null, 23, [2, 1, 2, 2, 204])]),
    (24, .bipush 59, 2, [(.int 59, 0, [])]),
    (26, .if_icmp .ne 7, 3, [(.null, 33, [])]),
    (29, .iconst 1, 1, [(.int 1, 0, [])]),
    (30, .goto 4, 3, [(.null, 34, [])])]),
  (33, (34, []), [(33, .iconst 0, 1, [(.int 0, 0, [])])]),
  (34, (0, []), [(34, .ireturn, 1, [])]),
  (35, (0, []), [(35, .iload_n 2, 1, [(.null, 2, [])]),
    (36, .iload_n 1, 1, [(.null, 1, [])]),
    (37, .iconst 1, 1, [(.int 1, 0, [])]),
    (38, .iadd, 1, []),
    (39, .if_icmp .ne 27, 3, [(.null, 66, [0, 2])]),
    (42, .aload_n 0, 1, [(.null, 0, [])]),
    (43, .iload_n 1, 1, [(.null, 1, [])]),
    (44, .invokevirtual 19, 3, [(.null, 23, [2, 1, 2, 2, 204])]),
    (47, .bipush 119, 2, [(.int 119, 0, [])]),
    (49, .if_icmp .ne 17, 3, [(.null, 66, [0, 2])]),
    (52, .aload_n 0, 1, [(.null, 0, [])]),
    (53, .iload_n 2, 1, [(.null, 2, [])]),
    (54, .invokevirtual 45, 3, [(.null, 25, [2, 1, 2, 2, 214])]),
    (57, .ifCond .lt 7, 3, [(.null, 64, [])]),
    (60, .iconst 1, 1, [(.int 1, 0, [])]),
    (61, .goto 4, 3, [(.null, 65, [])])]),
  (64, (65, []), [(64, .iconst 0, 1, [(.int 0, 0, [])])]),
  (65, (0, []), [(65, .ireturn, 1, [])]),
  (66, (0, []), [(66, .aload_n 0, 1, [(.null, 0, [])]),
    (67, .iload_n 2, 1, [(.null, 2, [])]),
    (68, .invokevirtual 48, 3, [(.null, 24, [2, 1, 2, 2, 254])]),
    (71, .ifCond .lt 17, 3, [(.null, 88, [])]),
    (74, .aload_n 0, 1, [(.null, 0, [])]),
    (75, .iload_n 2, 1, [(.null, 2, [])]),
    (76, .invokevirtual 48, 3, [(.null, 24, [2, 1, 2, 2, 254])]),
    (79, .bipush 9, 2, [(.int 9, 0, [])]),
    (81, .if_icmp .gt 7, 3, [(.null, 88, [])]),
    (84, .iconst 1, 1, [(.int 1, 0, [])]),
    (85, .goto 4, 3, [(.null, 89, [])])]),
  (88, (89, []), [(88, .iconst 0, 1, [(.int 0, 0, [])])]),
  (89, (0, []), [(89, .ireturn, 1, [])])]
/-- WallsByTheHour$Letters.senselessAt (II)I -/
def kd_30 : List (Nat × ax_Bl) := [(0, (11, [0, 3, 4, 5, 6]), [(0, .iload_n 1, 1, [(.null, 1, [])]),
    (1, .istore_n 3, 1, [(.null, 3, [])]),
    (2, .iload_n 2, 1, [(.null, 2, [])]),
    (3, .istore 4, 2, [(.null, 4, [])]),
    (5, .iconst 0, 1, [(.int 0, 0, [])]),
    (6, .istore 5, 2, [(.null, 5, [])]),
    (8, .iconst 0, 1, [(.int 0, 0, [])]),
    (9, .istore 6, 2, [(.null, 6, [])])]),
  (11, (0, []), [(11, .iload 6, 2, [(.null, 6, [])]),
    (13, .bipush 96, 2, [(.int 96, 0, [])]),
    (15, .if_icmp .ge 83, 3, [(.null, 98, [])]),
    (18, .iload 5, 2, [(.null, 5, [])]),
    (20, .aload_n 0, 1, [(.null, 0, [])]),
    (21, .getfield 15, 3, [(.null, 2, [1, 144])]),
    (24, .if_icmp .ge 74, 3, [(.null, 98, [])]),
    (27, .aload_n 0, 1, [(.null, 0, [])]),
    (28, .iload 5, 2, [(.null, 5, [])]),
    (30, .iload_n 3, 1, [(.null, 3, [])]),
    (31, .iload 4, 2, [(.null, 4, [])]),
    (33, .invokevirtual 51, 3, [(.null, 31, [4, 1, 2, 6, 261])]),
    (36, .ifCond .ne 6, 3, [(.null, 42, [0, 3, 4, 5, 6])]),
    (39, .iload 5, 2, [(.null, 5, [])]),
    (41, .ireturn, 1, [])]),
  (42, (56, [0, 3, 4, 5, 6]), [(42, .aload_n 0, 1, [(.null, 0, [])]),
    (43, .iload 5, 2, [(.null, 5, [])]),
    (45, .invokevirtual 19, 3, [(.null, 23, [2, 1, 2, 2, 204])]),
    (48, .bipush 119, 2, [(.int 119, 0, [])]),
    (50, .if_icmp .ne 6, 3, [(.null, 56, [0, 3, 4, 5, 6])]),
    (53, .iinc 3 1, 3, [(.int 1, 3, [])])]),
  (56, (78, [0, 3, 4, 5, 6]), [(56, .aload_n 0, 1, [(.null, 0, [])]),
    (57, .iload 5, 2, [(.null, 5, [])]),
    (59, .invokevirtual 19, 3, [(.null, 23, [2, 1, 2, 2, 204])]),
    (62, .bipush 104, 2, [(.int 104, 0, [])]),
    (64, .if_icmp .ne 14, 3, [(.null, 78, [0, 3, 4, 5, 6])]),
    (67, .iload 4, 2, [(.null, 4, [])]),
    (69, .aload_n 0, 1, [(.null, 0, [])]),
    (70, .iload 5, 2, [(.null, 5, [])]),
    (72, .invokevirtual 54, 3, [(.null, 32, [2, 1, 2, 2, 269])]),
    (75, .iadd, 1, []),
    (76, .istore 4, 2, [(.null, 4, [])])]),
  (78, (0, []), [(78, .iload 5, 2, [(.null, 5, [])]),
    (80, .aload_n 0, 1, [(.null, 0, [])]),
    (81, .iload 5, 2, [(.null, 5, [])]),
    (83, .invokevirtual 19, 3, [(.null, 23, [2, 1, 2, 2, 204])]),
    (86, .invokestatic 38, 3, [(.null, 26, [1, 1, 99, 1, 208])]),
    (89, .iadd, 1, []),
    (90, .istore 5, 2, [(.null, 5, [])]),
    (92, .iinc 6 1, 3, [(.int 1, 6, [])]),
    (95, .goto (-84), 3, [(.null, 11, [0, 3, 4, 5, 6])])]),
  (98, (0, []), [(98, .bipush (-9), 2, [(.int (-9), 0, [])]),
    (100, .ireturn, 1, [])])]
/-- WallsByTheHour$Letters.hasSense (III)Z -/
def kd_31 : List (Nat × ax_Bl) := [(0, (0, []), [(0, .aload_n 0, 1, [(.null, 0, [])]),
    (1, .iload_n 1, 1, [(.null, 1, [])]),
    (2, .iconst 1, 1, [(.int 1, 0, [])]),
    (3, .iadd, 1, []),
    (4, .invokevirtual 48, 3, [(.null, 24, [2, 1, 2, 2, 254])]),
    (7, .istore 4, 2, [(.null, 4, [])]),
    (9, .aload_n 0, 1, [(.null, 0, [])]),
    (10, .iload_n 1, 1, [(.null, 1, [])]),
    (11, .iconst 2, 1, [(.int 2, 0, [])]),
    (12, .iadd, 1, []),
    (13, .invokevirtual 48, 3, [(.null, 24, [2, 1, 2, 2, 254])]),
    (16, .istore 5, 2, [(.null, 5, [])]),
    (18, .aload_n 0, 1, [(.null, 0, [])]),
    (19, .iload_n 1, 1, [(.null, 1, [])]),
    (20, .invokevirtual 19, 3, [(.null, 23, [2, 1, 2, 2, 204])]),
    (23, .lookupswitch 108 #[(98, 100), (109, 74), (110, 94), (115, 74), (119, 49)], 49, [(.int 98, 123, [4, 5]), (.int 109, 97, [2, 4, 5]), (.int 110, 117, [4]), (.int 115, 97, [2, 4, 5]), (.int 119, 72, [0, 1, 2]), (.null, 131, [0, 1, 3])])]),
  (72, (0, []), [(72, .iload_n 2, 1, [(.null, 2, [])]),
    (73, .bipush 7, 2, [(.int 7, 0, [])]),
    (75, .if_icmp .ge 20, 3, [(.null, 95, [])]),
    (78, .aload_n 0, 1, [(.null, 0, [])]),
    (79, .iload_n 1, 1, [(.null, 1, [])]),
    (80, .iconst 3, 1, [(.int 3, 0, [])]),
    (81, .iadd, 1, []),
    (82, .invokevirtual 48, 3, [(.null, 24, [2, 1, 2, 2, 254])]),
    (85, .invokestatic 57, 3, [(.null, 127, [1, 1, 99, 1, 5004])]),
    (88, .ifCond .eq 7, 3, [(.null, 95, [])]),
    (91, .iconst 1, 1, [(.int 1, 0, [])]),
    (92, .goto 4, 3, [(.null, 96, [])])]),
  (95, (96, []), [(95, .iconst 0, 1, [(.int 0, 0, [])])]),
  (96, (0, []), [(96, .ireturn, 1, [])]),
  (97, (0, []), [(97, .iload 4, 2, [(.null, 4, [])]),
    (99, .iload_n 2, 1, [(.null, 2, [])]),
    (100, .if_icmp .ge 15, 3, [(.null, 115, [])]),
    (103, .iload 5, 2, [(.null, 5, [])]),
    (105, .invokestatic 57, 3, [(.null, 127, [1, 1, 99, 1, 5004])]),
    (108, .ifCond .eq 7, 3, [(.null, 115, [])]),
    (111, .iconst 1, 1, [(.int 1, 0, [])]),
    (112, .goto 4, 3, [(.null, 116, [])])]),
  (115, (116, []), [(115, .iconst 0, 1, [(.int 0, 0, [])])]),
  (116, (0, []), [(116, .ireturn, 1, [])]),
  (117, (0, []), [(117, .iload 4, 2, [(.null, 4, [])]),
    (119, .invokestatic 57, 3, [(.null, 127, [1, 1, 99, 1, 5004])]),
    (122, .ireturn, 1, [])]),
  (123, (0, []), [(123, .iload 4, 2, [(.null, 4, [])]),
    (125, .iload 5, 2, [(.null, 5, [])]),
    (127, .invokestatic 61, 3, [(.null, 128, [2, 1, 99, 2, 5005])]),
    (130, .ireturn, 1, [])]),
  (131, (0, []), [(131, .aload_n 0, 1, [(.null, 0, [])]),
    (132, .iload_n 1, 1, [(.null, 1, [])]),
    (133, .invokevirtual 54, 3, [(.null, 32, [2, 1, 2, 2, 269])]),
    (136, .iconst 1, 1, [(.int 1, 0, [])]),
    (137, .bipush 60, 2, [(.int 60, 0, [])]),
    (139, .invokestatic 65, 3, [(.null, 129, [3, 1, 99, 3, 5006])]),
    (142, .ifCond .ne 20, 3, [(.null, 162, [])]),
    (145, .iload_n 3, 1, [(.null, 3, [])]),
    (146, .aload_n 0, 1, [(.null, 0, [])]),
    (147, .iload_n 1, 1, [(.null, 1, [])]),
    (148, .invokevirtual 54, 3, [(.null, 32, [2, 1, 2, 2, 269])]),
    (151, .iadd, 1, []),
    (152, .sipush 999, 3, [(.int 999, 0, [])]),
    (155, .if_icmp .gt 7, 3, [(.null, 162, [])]),
    (158, .iconst 1, 1, [(.int 1, 0, [])]),
    (159, .goto 4, 3, [(.null, 163, [])])]),
  (162, (163, []), [(162, .iconst 0, 1, [(.int 0, 0, [])])]),
  (163, (0, []), [(163, .ireturn, 1, [])])]
/-- WallsByTheHour$Letters.hoursAt (I)I -/
def kd_32 : List (Nat × ax_Bl) := [(0, (0, []), [(0, .bipush 10, 2, [(.int 10, 0, [])]),
    (2, .aload_n 0, 1, [(.null, 0, [])]),
    (3, .iload_n 1, 1, [(.null, 1, [])]),
    (4, .iconst 1, 1, [(.int 1, 0, [])]),
    (5, .iadd, 1, []),
    (6, .invokevirtual 48, 3, [(.null, 24, [2, 1, 2, 2, 254])]),
    (9, .imul, 1, []),
    (10, .aload_n 0, 1, [(.null, 0, [])]),
    (11, .iload_n 1, 1, [(.null, 1, [])]),
    (12, .iconst 2, 1, [(.int 2, 0, [])]),
    (13, .iadd, 1, []),
    (14, .invokevirtual 48, 3, [(.null, 24, [2, 1, 2, 2, 254])]),
    (17, .iadd, 1, []),
    (18, .ireturn, 1, [])])]
/-- WallsByTheHour$Row.add (I)I -/
def kd_33 : List (Nat × ax_Bl) := [(0, (29, [0]), [(0, .aload_n 0, 1, [(.null, 0, [])]),
    (1, .getfield 15, 3, [(.null, 3, [1, 149])]),
    (4, .bipush 16, 2, [(.int 16, 0, [])]),
    (6, .if_icmp .ge 23, 3, [(.null, 29, [0])]),
    (9, .aload_n 0, 1, [(.null, 0, [])]),
    (10, .getfield 9, 3, [(.null, 3, [0, 148])]),
    (13, .aload_n 0, 1, [(.null, 0, [])]),
    (14, .getfield 15, 3, [(.null, 3, [1, 149])]),
    (17, .iload_n 1, 1, [(.null, 1, [])]),
    (18, .iastore, 1, []),
    (19, .aload_n 0, 1, [(.null, 0, [])]),
    (20, .dup, 1, []),
    (21, .getfield 15, 3, [(.null, 3, [1, 149])]),
    (24, .iconst 1, 1, [(.int 1, 0, [])]),
    (25, .iadd, 1, []),
    (26, .putfield 15, 3, [(.null, 3, [1, 149])])]),
  (29, (0, []), [(29, .aload_n 0, 1, [(.null, 0, [])]),
    (30, .getfield 15, 3, [(.null, 3, [1, 149])]),
    (33, .ireturn, 1, [])])]
/-- WallsByTheHour$Row.numberAt (I)I -/
def kd_34 : List (Nat × ax_Bl) := [(0, (0, []), [(0, .iload_n 1, 1, [(.null, 1, [])]),
    (1, .ifCond .lt 20, 3, [(.null, 21, [])]),
    (4, .iload_n 1, 1, [(.null, 1, [])]),
    (5, .aload_n 0, 1, [(.null, 0, [])]),
    (6, .getfield 15, 3, [(.null, 3, [1, 149])]),
    (9, .if_icmp .ge 12, 3, [(.null, 21, [])]),
    (12, .aload_n 0, 1, [(.null, 0, [])]),
    (13, .getfield 9, 3, [(.null, 3, [0, 148])]),
    (16, .iload_n 1, 1, [(.null, 1, [])]),
    (17, .iaload, 1, []),
    (18, .goto 5, 3, [(.null, 23, [])])]),
  (21, (23, []), [(21, .bipush (-9), 2, [(.int (-9), 0, [])])]),
  (23, (0, []), [(23, .ireturn, 1, [])])]
/-- WallsByTheHour$Street.copyFrom (LWallsByTheHour$Street;)V -/
def kd_35 : List (Nat × ax_Bl) := [(0, (0, []), [(0, .aload_n 0, 1, [(.null, 0, [])]),
    (1, .aload_n 1, 1, [(.null, 1, [])]),
    (2, .getfield 9, 3, [(.null, 4, [0, 94])]),
    (5, .putfield 9, 3, [(.null, 4, [0, 94])]),
    (8, .aload_n 0, 1, [(.null, 0, [])]),
    (9, .aload_n 1, 1, [(.null, 1, [])]),
    (10, .getfield 15, 3, [(.null, 4, [1, 98])]),
    (13, .putfield 15, 3, [(.null, 4, [1, 98])]),
    (16, .aload_n 0, 1, [(.null, 0, [])]),
    (17, .aload_n 1, 1, [(.null, 1, [])]),
    (18, .getfield 18, 3, [(.null, 4, [2, 100])]),
    (21, .putfield 18, 3, [(.null, 4, [2, 100])]),
    (24, .aload_n 1, 1, [(.null, 1, [])]),
    (25, .getfield 21, 3, [(.null, 4, [3, 102])]),
    (28, .iconst 0, 1, [(.int 0, 0, [])]),
    (29, .aload_n 0, 1, [(.null, 0, [])]),
    (30, .getfield 21, 3, [(.null, 4, [3, 102])]),
    (33, .iconst 0, 1, [(.int 0, 0, [])]),
    (34, .bipush 7, 2, [(.int 7, 0, [])]),
    (36, .invokestatic 52, 3, [(.null, 4, [428])]),
    (39, .aload_n 1, 1, [(.null, 1, [])]),
    (40, .getfield 25, 3, [(.null, 4, [4, 105])]),
    (43, .iconst 0, 1, [(.int 0, 0, [])]),
    (44, .aload_n 0, 1, [(.null, 0, [])]),
    (45, .getfield 25, 3, [(.null, 4, [4, 105])]),
    (48, .iconst 0, 1, [(.int 0, 0, [])]),
    (49, .bipush 7, 2, [(.int 7, 0, [])]),
    (51, .invokestatic 52, 3, [(.null, 4, [428])]),
    (54, .aload_n 1, 1, [(.null, 1, [])]),
    (55, .getfield 28, 3, [(.null, 4, [5, 108])]),
    (58, .iconst 0, 1, [(.int 0, 0, [])]),
    (59, .aload_n 0, 1, [(.null, 0, [])]),
    (60, .getfield 28, 3, [(.null, 4, [5, 108])]),
    (63, .iconst 0, 1, [(.int 0, 0, [])]),
    (64, .bipush 7, 2, [(.int 7, 0, [])]),
    (66, .invokestatic 52, 3, [(.null, 4, [428])]),
    (69, .aload_n 1, 1, [(.null, 1, [])]),
    (70, .getfield 31, 3, [(.null, 4, [6, 112])]),
    (73, .iconst 0, 1, [(.int 0, 0, [])]),
    (74, .aload_n 0, 1, [(.null, 0, [])]),
    (75, .getfield 31, 3, [(.null, 4, [6, 112])]),
    (78, .iconst 0, 1, [(.int 0, 0, [])]),
    (79, .bipush 7, 2, [(.int 7, 0, [])]),
    (81, .invokestatic 52, 3, [(.null, 4, [428])]),
    (84, .aload_n 1, 1, [(.null, 1, [])]),
    (85, .getfield 34, 3, [(.null, 4, [7, 116])]),
    (88, .iconst 0, 1, [(.int 0, 0, [])]),
    (89, .aload_n 0, 1, [(.null, 0, [])]),
    (90, .getfield 34, 3, [(.null, 4, [7, 116])]),
    (93, .iconst 0, 1, [(.int 0, 0, [])]),
    (94, .bipush 7, 2, [(.int 7, 0, [])]),
    (96, .invokestatic 52, 3, [(.null, 4, [428])]),
    (99, .aload_n 1, 1, [(.null, 1, [])]),
    (100, .getfield 37, 3, [(.null, 4, [8, 118])]),
    (103, .iconst 0, 1, [(.int 0, 0, [])]),
    (104, .aload_n 0, 1, [(.null, 0, [])]),
    (105, .getfield 37, 3, [(.null, 4, [8, 118])]),
    (108, .iconst 0, 1, [(.int 0, 0, [])]),
    (109, .bipush 7, 2, [(.int 7, 0, [])]),
    (111, .invokestatic 52, 3, [(.null, 4, [428])]),
    (114, .aload_n 1, 1, [(.null, 1, [])]),
    (115, .getfield 40, 3, [(.null, 4, [9, 120])]),
    (118, .iconst 0, 1, [(.int 0, 0, [])]),
    (119, .aload_n 0, 1, [(.null, 0, [])]),
    (120, .getfield 40, 3, [(.null, 4, [9, 120])]),
    (123, .iconst 0, 1, [(.int 0, 0, [])]),
    (124, .bipush 48, 2, [(.int 48, 0, [])]),
    (126, .invokestatic 52, 3, [(.null, 4, [428])]),
    (129, .aload_n 1, 1, [(.null, 1, [])]),
    (130, .getfield 43, 3, [(.null, 4, [10, 121])]),
    (133, .iconst 0, 1, [(.int 0, 0, [])]),
    (134, .aload_n 0, 1, [(.null, 0, [])]),
    (135, .getfield 43, 3, [(.null, 4, [10, 121])]),
    (138, .iconst 0, 1, [(.int 0, 0, [])]),
    (139, .bipush 8, 2, [(.int 8, 0, [])]),
    (141, .invokestatic 52, 3, [(.null, 4, [428])]),
    (144, .aload_n 1, 1, [(.null, 1, [])]),
    (145, .getfield 46, 3, [(.null, 4, [11, 123])]),
    (148, .iconst 0, 1, [(.int 0, 0, [])]),
    (149, .aload_n 0, 1, [(.null, 0, [])]),
    (150, .getfield 46, 3, [(.null, 4, [11, 123])]),
    (153, .iconst 0, 1, [(.int 0, 0, [])]),
    (154, .bipush 7, 2, [(.int 7, 0, [])]),
    (156, .invokestatic 52, 3, [(.null, 4, [428])]),
    (159, .aload_n 1, 1, [(.null, 1, [])]),
    (160, .getfield 49, 3, [(.null, 4, [12, 126])]),
    (163, .iconst 0, 1, [(.int 0, 0, [])]),
    (164, .aload_n 0, 1, [(.null, 0, [])]),
    (165, .getfield 49, 3, [(.null, 4, [12, 126])]),
    (168, .iconst 0, 1, [(.int 0, 0, [])]),
    (169, .bipush 8, 2, [(.int 8, 0, [])]),
    (171, .invokestatic 52, 3, [(.null, 4, [428])]),
    (174, .return_, 1, [])])]
/-- WallsByTheHour$Street.addWall (III)V -/
def kd_36 : List (Nat × ax_Bl) := [(0, (16, []), [(0, .aload_n 0, 1, [(.null, 0, [])]),
    (1, .getfield 9, 3, [(.null, 4, [0, 94])]),
    (4, .bipush 7, 2, [(.int 7, 0, [])]),
    (6, .if_icmp .ge 10, 3, [(.null, 16, [])]),
    (9, .iload_n 3, 1, [(.null, 3, [])]),
    (10, .invokestatic 58, 3, [(.null, 127, [1, 1, 99, 1, 5007])]),
    (13, .ifCond .ne 4, 3, [(.null, 17, [0, 1, 2, 3])])]),
  (16, (0, []), [(16, .return_, 1, [])]),
  (17, (0, []), [(17, .aload_n 0, 1, [(.null, 0, [])]),
    (18, .getfield 9, 3, [(.null, 4, [0, 94])]),
    (21, .istore 4, 2, [(.null, 4, [])]),
    (23, .aload_n 0, 1, [(.null, 0, [])]),
    (24, .dup, 1, []),
    (25, .getfield 9, 3, [(.null, 4, [0, 94])]),
    (28, .iconst 1, 1, [(.int 1, 0, [])]),
    (29, .iadd, 1, []),
    (30, .putfield 9, 3, [(.null, 4, [0, 94])]),
    (33, .aload_n 0, 1, [(.null, 0, [])]),
    (34, .getfield 21, 3, [(.null, 4, [3, 102])]),
    (37, .iload 4, 2, [(.null, 4, [])]),
    (39, .iload_n 1, 1, [(.null, 1, [])]),
    (40, .iastore, 1, []),
    (41, .aload_n 0, 1, [(.null, 0, [])]),
    (42, .getfield 25, 3, [(.null, 4, [4, 105])]),
    (45, .iload 4, 2, [(.null, 4, [])]),
    (47, .iload_n 2, 1, [(.null, 2, [])]),
    (48, .iastore, 1, []),
    (49, .aload_n 0, 1, [(.null, 0, [])]),
    (50, .getfield 28, 3, [(.null, 4, [5, 108])]),
    (53, .iload 4, 2, [(.null, 4, [])]),
    (55, .iload_n 3, 1, [(.null, 3, [])]),
    (56, .iastore, 1, []),
    (57, .aload_n 0, 1, [(.null, 0, [])]),
    (58, .getfield 31, 3, [(.null, 4, [6, 112])]),
    (61, .iload 4, 2, [(.null, 4, [])]),
    (63, .iload_n 3, 1, [(.null, 3, [])]),
    (64, .iastore, 1, []),
    (65, .aload_n 0, 1, [(.null, 0, [])]),
    (66, .getfield 34, 3, [(.null, 4, [7, 116])]),
    (69, .iload 4, 2, [(.null, 4, [])]),
    (71, .iconst 0, 1, [(.int 0, 0, [])]),
    (72, .iastore, 1, []),
    (73, .aload_n 0, 1, [(.null, 0, [])]),
    (74, .invokevirtual 62, 3, [(.null, 45, [1, 0, 4, 2, 284])]),
    (77, .return_, 1, [])])]
/-- WallsByTheHour$Street.takeTo (II)V -/
def kd_37 : List (Nat × ax_Bl) := [(0, (26, []), [(0, .aload_n 0, 1, [(.null, 0, [])]),
    (1, .iload_n 1, 1, [(.null, 1, [])]),
    (2, .invokevirtual 65, 3, [(.null, 46, [2, 1, 4, 2, 294])]),
    (5, .ifCond .eq 21, 3, [(.null, 26, [])]),
    (8, .iload_n 2, 1, [(.null, 2, [])]),
    (9, .invokestatic 58, 3, [(.null, 127, [1, 1, 99, 1, 5007])]),
    (12, .ifCond .eq 14, 3, [(.null, 26, [])]),
    (15, .aload_n 0, 1, [(.null, 0, [])]),
    (16, .getfield 31, 3, [(.null, 4, [6, 112])]),
    (19, .iload_n 1, 1, [(.null, 1, [])]),
    (20, .iload_n 2, 1, [(.null, 2, [])]),
    (21, .iastore, 1, []),
    (22, .aload_n 0, 1, [(.null, 0, [])]),
    (23, .invokevirtual 62, 3, [(.null, 45, [1, 0, 4, 2, 284])])]),
  (26, (0, []), [(26, .return_, 1, [])])]
/-- WallsByTheHour$Street.sellTo (II)V -/
def kd_38 : List (Nat × ax_Bl) := [(0, (22, []), [(0, .aload_n 0, 1, [(.null, 0, [])]),
    (1, .iload_n 1, 1, [(.null, 1, [])]),
    (2, .invokevirtual 65, 3, [(.null, 46, [2, 1, 4, 2, 294])]),
    (5, .ifCond .eq 17, 3, [(.null, 22, [])]),
    (8, .iload_n 2, 1, [(.null, 2, [])]),
    (9, .invokestatic 58, 3, [(.null, 127, [1, 1, 99, 1, 5007])]),
    (12, .ifCond .eq 10, 3, [(.null, 22, [])]),
    (15, .aload_n 0, 1, [(.null, 0, [])]),
    (16, .getfield 28, 3, [(.null, 4, [5, 108])]),
    (19, .iload_n 1, 1, [(.null, 1, [])]),
    (20, .iload_n 2, 1, [(.null, 2, [])]),
    (21, .iastore, 1, [])]),
  (22, (0, []), [(22, .return_, 1, [])])]
/-- WallsByTheHour$Street.turnInto (III)V -/
def kd_39 : List (Nat × ax_Bl) := [(0, (26, []), [(0, .aload_n 0, 1, [(.null, 0, [])]),
    (1, .iload_n 1, 1, [(.null, 1, [])]),
    (2, .invokevirtual 65, 3, [(.null, 46, [2, 1, 4, 2, 294])]),
    (5, .ifCond .eq 21, 3, [(.null, 26, [])]),
    (8, .aload_n 0, 1, [(.null, 0, [])]),
    (9, .getfield 21, 3, [(.null, 4, [3, 102])]),
    (12, .iload_n 1, 1, [(.null, 1, [])]),
    (13, .iload_n 2, 1, [(.null, 2, [])]),
    (14, .iastore, 1, []),
    (15, .aload_n 0, 1, [(.null, 0, [])]),
    (16, .getfield 25, 3, [(.null, 4, [4, 105])]),
    (19, .iload_n 1, 1, [(.null, 1, [])]),
    (20, .iload_n 3, 1, [(.null, 3, [])]),
    (21, .iastore, 1, []),
    (22, .aload_n 0, 1, [(.null, 0, [])]),
    (23, .invokevirtual 62, 3, [(.null, 45, [1, 0, 4, 2, 284])])]),
  (26, (0, []), [(26, .return_, 1, [])])]
/-- WallsByTheHour$Street.setNeed (III)V -/
def kd_40 : List (Nat × ax_Bl) := [(0, (29, []), [(0, .iload_n 1, 1, [(.null, 1, [])]),
    (1, .invokestatic 58, 3, [(.null, 127, [1, 1, 99, 1, 5007])]),
    (4, .ifCond .eq 25, 3, [(.null, 29, [])]),
    (7, .iload_n 2, 1, [(.null, 2, [])]),
    (8, .ifCond .lt 21, 3, [(.null, 29, [])]),
    (11, .iload_n 2, 1, [(.null, 2, [])]),
    (12, .bipush 6, 2, [(.int 6, 0, [])]),
    (14, .if_icmp .ge 15, 3, [(.null, 29, [])]),
    (17, .aload_n 0, 1, [(.null, 0, [])]),
    (18, .getfield 40, 3, [(.null, 4, [9, 120])]),
    (21, .iload_n 1, 1, [(.null, 1, [])]),
    (22, .bipush 6, 2, [(.int 6, 0, [])]),
    (24, .imul, 1, []),
    (25, .iload_n 2, 1, [(.null, 2, [])]),
    (26, .iadd, 1, []),
    (27, .iload_n 3, 1, [(.null, 3, [])]),
    (28, .iastore, 1, [])]),
  (29, (0, []), [(29, .return_, 1, [])])]
/-- WallsByTheHour$Street.turnBar (II)I -/
def kd_41 : List (Nat × ax_Bl) := [(0, (0, []), [(0, .iload_n 1, 1, [(.null, 1, [])]),
    (1, .iload_n 2, 1, [(.null, 2, [])]),
    (2, .invokestatic 68, 3, [(.null, 128, [2, 1, 99, 2, 5008])]),
    (5, .ifCond .ne 5, 3, [(.null, 10, [0, 1, 2])]),
    (8, .iconst 0, 1, [(.int 0, 0, [])]),
    (9, .ireturn, 1, [])]),
  (10, (0, []), [(10, .aload_n 0, 1, [(.null, 0, [])]),
    (11, .getfield 43, 3, [(.null, 4, [10, 121])]),
    (14, .iload_n 1, 1, [(.null, 1, [])]),
    (15, .dup2, 1, []),
    (16, .iaload, 1, []),
    (17, .iconst 1, 1, [(.int 1, 0, [])]),
    (18, .iload_n 2, 1, [(.null, 2, [])]),
    (19, .ishl, 1, []),
    (20, .ixor, 1, []),
    (21, .iastore, 1, []),
    (22, .aload_n 0, 1, [(.null, 0, [])]),
    (23, .getfield 43, 3, [(.null, 4, [10, 121])]),
    (26, .iload_n 1, 1, [(.null, 1, [])]),
    (27, .iaload, 1, []),
    (28, .iload_n 2, 1, [(.null, 2, [])]),
    (29, .invokestatic 72, 3, [(.null, 131, [2, 1, 99, 2, 5009])]),
    (32, .ifCond .eq 7, 3, [(.null, 39, [])]),
    (35, .iconst 1, 1, [(.int 1, 0, [])]),
    (36, .goto 4, 3, [(.null, 40, [])])]),
  (39, (40, []), [(39, .iconst 0, 1, [(.int 0, 0, [])])]),
  (40, (0, []), [(40, .ireturn, 1, [])])]
/-- WallsByTheHour$Street.passHour ()V -/
def kd_42 : List (Nat × ax_Bl) := [(0, (16, [0, 1]), [(0, .aload_n 0, 1, [(.null, 0, [])]),
    (1, .dup, 1, []),
    (2, .getfield 15, 3, [(.null, 4, [1, 98])]),
    (5, .iconst 1, 1, [(.int 1, 0, [])]),
    (6, .iadd, 1, []),
    (7, .putfield 15, 3, [(.null, 4, [1, 98])]),
    (10, .aload_n 0, 1, [(.null, 0, [])]),
    (11, .invokevirtual 62, 3, [(.null, 45, [1, 0, 4, 2, 284])]),
    (14, .iconst 0, 1, [(.int 0, 0, [])]),
    (15, .istore_n 1, 1, [(.null, 1, [])])]),
  (16, (96, [0, 1]), [(16, .iload_n 1, 1, [(.null, 1, [])]),
    (17, .aload_n 0, 1, [(.null, 0, [])]),
    (18, .getfield 9, 3, [(.null, 4, [0, 94])]),
    (21, .if_icmp .ge 81, 3, [(.null, 102, [])]),
    (24, .aload_n 0, 1, [(.null, 0, [])]),
    (25, .getfield 31, 3, [(.null, 4, [6, 112])]),
    (28, .iload_n 1, 1, [(.null, 1, [])]),
    (29, .iaload, 1, []),
    (30, .istore_n 2, 1, [(.null, 2, [])]),
    (31, .aload_n 0, 1, [(.null, 0, [])]),
    (32, .iload_n 1, 1, [(.null, 1, [])]),
    (33, .invokevirtual 75, 3, [(.null, 43, [2, 1, 4, 7, 319])]),
    (36, .istore_n 3, 1, [(.null, 3, [])]),
    (37, .aload_n 0, 1, [(.null, 0, [])]),
    (38, .getfield 37, 3, [(.null, 4, [8, 118])]),
    (41, .iload_n 1, 1, [(.null, 1, [])]),
    (42, .iload_n 2, 1, [(.null, 2, [])]),
    (43, .iastore, 1, []),
    (44, .iload_n 3, 1, [(.null, 3, [])]),
    (45, .iload_n 2, 1, [(.null, 2, [])]),
    (46, .if_icmp .eq 50, 3, [(.null, 96, [0, 1])]),
    (49, .aload_n 0, 1, [(.null, 0, [])]),
    (50, .getfield 49, 3, [(.null, 4, [12, 126])]),
    (53, .iload_n 2, 1, [(.null, 2, [])]),
    (54, .dup2, 1, []),
    (55, .iaload, 1, []),
    (56, .aload_n 0, 1, [(.null, 0, [])]),
    (57, .getfield 46, 3, [(.null, 4, [11, 123])]),
    (60, .iload_n 1, 1, [(.null, 1, [])]),
    (61, .iaload, 1, []),
    (62, .isub, 1, []),
    (63, .iastore, 1, []),
    (64, .aload_n 0, 1, [(.null, 0, [])]),
    (65, .getfield 49, 3, [(.null, 4, [12, 126])]),
    (68, .iload_n 3, 1, [(.null, 3, [])]),
    (69, .dup2, 1, []),
    (70, .iaload, 1, []),
    (71, .aload_n 0, 1, [(.null, 0, [])]),
    (72, .getfield 46, 3, [(.null, 4, [11, 123])]),
    (75, .iload_n 1, 1, [(.null, 1, [])]),
    (76, .iaload, 1, []),
    (77, .iadd, 1, []),
    (78, .iastore, 1, []),
    (79, .aload_n 0, 1, [(.null, 0, [])]),
    (80, .getfield 31, 3, [(.null, 4, [6, 112])]),
    (83, .iload_n 1, 1, [(.null, 1, [])]),
    (84, .iload_n 3, 1, [(.null, 3, [])]),
    (85, .iastore, 1, []),
    (86, .aload_n 0, 1, [(.null, 0, [])]),
    (87, .getfield 34, 3, [(.null, 4, [7, 116])]),
    (90, .iload_n 1, 1, [(.null, 1, [])]),
    (91, .dup2, 1, []),
    (92, .iaload, 1, []),
    (93, .iconst 1, 1, [(.int 1, 0, [])]),
    (94, .iadd, 1, []),
    (95, .iastore, 1, [])]),
  (96, (0, []), [(96, .iinc 1 1, 3, [(.int 1, 1, [])]),
    (99, .goto (-83), 3, [(.null, 16, [0, 1])])]),
  (102, (0, []), [(102, .return_, 1, [])])]
/-- WallsByTheHour$Street.nextHouse (I)I -/
def kd_43 : List (Nat × ax_Bl) := [(0, (0, []), [(0, .aload_n 0, 1, [(.null, 0, [])]),
    (1, .getfield 31, 3, [(.null, 4, [6, 112])]),
    (4, .iload_n 1, 1, [(.null, 1, [])]),
    (5, .iaload, 1, []),
    (6, .istore_n 2, 1, [(.null, 2, [])]),
    (7, .aload_n 0, 1, [(.null, 0, [])]),
    (8, .getfield 28, 3, [(.null, 4, [5, 108])]),
    (11, .iload_n 1, 1, [(.null, 1, [])]),
    (12, .iaload, 1, []),
    (13, .istore_n 3, 1, [(.null, 3, [])]),
    (14, .iload_n 3, 1, [(.null, 3, [])]),
    (15, .iload_n 2, 1, [(.null, 2, [])]),
    (16, .if_icmp .eq 23, 3, [(.null, 39, [0, 1, 2])]),
    (19, .aload_n 0, 1, [(.null, 0, [])]),
    (20, .iload_n 3, 1, [(.null, 3, [])]),
    (21, .invokevirtual 79, 3, [(.null, 50, [2, 1, 4, 2, 322])]),
    (24, .ifCond .le 15, 3, [(.null, 39, [0, 1, 2])]),
    (27, .aload_n 0, 1, [(.null, 0, [])]),
    (28, .iload_n 1, 1, [(.null, 1, [])]),
    (29, .iload_n 2, 1, [(.null, 2, [])]),
    (30, .iload_n 3, 1, [(.null, 3, [])]),
    (31, .invokevirtual 82, 3, [(.null, 44, [4, 1, 4, 4, 331])]),
    (34, .ifCond .eq 5, 3, [(.null, 39, [0, 1, 2])]),
    (37, .iload_n 3, 1, [(.null, 3, [])]),
    (38, .ireturn, 1, [])]),
  (39, (52, [0, 1, 2, 4, 5, 6]), [(39, .iload_n 2, 1, [(.null, 2, [])]),
    (40, .istore 4, 2, [(.null, 4, [])]),
    (42, .aload_n 0, 1, [(.null, 0, [])]),
    (43, .iload_n 1, 1, [(.null, 1, [])]),
    (44, .invokevirtual 86, 3, [(.null, 51, [2, 1, 4, 3, 343])]),
    (47, .istore 5, 2, [(.null, 5, [])]),
    (49, .iconst 0, 1, [(.int 0, 0, [])]),
    (50, .istore 6, 2, [(.null, 6, [])])]),
  (52, (93, [0, 1, 2, 4, 5, 6]), [(52, .iload 6, 2, [(.null, 6, [])]),
    (54, .bipush 8, 2, [(.int 8, 0, [])]),
    (56, .if_icmp .ge 43, 3, [(.null, 99, [4])]),
    (59, .aload_n 0, 1, [(.null, 0, [])]),
    (60, .iload 6, 2, [(.null, 6, [])]),
    (62, .invokevirtual 79, 3, [(.null, 50, [2, 1, 4, 2, 322])]),
    (65, .iload 5, 2, [(.null, 5, [])]),
    (67, .if_icmp .le 26, 3, [(.null, 93, [0, 1, 2, 4, 5, 6])]),
    (70, .aload_n 0, 1, [(.null, 0, [])]),
    (71, .iload_n 1, 1, [(.null, 1, [])]),
    (72, .iload_n 2, 1, [(.null, 2, [])]),
    (73, .iload 6, 2, [(.null, 6, [])]),
    (75, .invokevirtual 82, 3, [(.null, 44, [4, 1, 4, 4, 331])]),
    (78, .ifCond .eq 15, 3, [(.null, 93, [0, 1, 2, 4, 5, 6])]),
    (81, .iload 6, 2, [(.null, 6, [])]),
    (83, .istore 4, 2, [(.null, 4, [])]),
    (85, .aload_n 0, 1, [(.null, 0, [])]),
    (86, .iload 6, 2, [(.null, 6, [])]),
    (88, .invokevirtual 79, 3, [(.null, 50, [2, 1, 4, 2, 322])]),
    (91, .istore 5, 2, [(.null, 5, [])])]),
  (93, (0, []), [(93, .iinc 6 1, 3, [(.int 1, 6, [])]),
    (96, .goto (-44), 3, [(.null, 52, [0, 1, 2, 4, 5, 6])])]),
  (99, (0, []), [(99, .iload 4, 2, [(.null, 4, [])]),
    (101, .ireturn, 1, [])])]
/-- WallsByTheHour$Street.canGo (III)Z -/
def kd_44 : List (Nat × ax_Bl) := [(0, (0, []), [(0, .iload_n 2, 1, [(.null, 2, [])]),
    (1, .iload_n 3, 1, [(.null, 3, [])]),
    (2, .if_icmp .eq 37, 3, [(.null, 39, [])]),
    (5, .aload_n 0, 1, [(.null, 0, [])]),
    (6, .getfield 43, 3, [(.null, 4, [10, 121])]),
    (9, .iload_n 2, 1, [(.null, 2, [])]),
    (10, .iaload, 1, []),
    (11, .iload_n 3, 1, [(.null, 3, [])]),
    (12, .invokestatic 72, 3, [(.null, 131, [2, 1, 99, 2, 5009])]),
    (15, .ifCond .ne 24, 3, [(.null, 39, [])]),
    (18, .aload_n 0, 1, [(.null, 0, [])]),
    (19, .getfield 21, 3, [(.null, 4, [3, 102])]),
    (22, .iload_n 1, 1, [(.null, 1, [])]),
    (23, .iaload, 1, []),
    (24, .iload_n 2, 1, [(.null, 2, [])]),
    (25, .iload_n 3, 1, [(.null, 3, [])]),
    (26, .invokestatic 89, 3, [(.null, 130, [2, 1, 99, 2, 5010])]),
    (29, .invokestatic 93, 3, [(.null, 20, [2, 1, 99, 3, 340])]),
    (32, .ifCond .eq 7, 3, [(.null, 39, [])]),
    (35, .iconst 1, 1, [(.int 1, 0, [])]),
    (36, .goto 4, 3, [(.null, 40, [])])]),
  (39, (40, []), [(39, .iconst 0, 1, [(.int 0, 0, [])])]),
  (40, (0, []), [(40, .ireturn, 1, [])])]
/-- WallsByTheHour$Street.weigh ()V -/
def kd_45 : List (Nat × ax_Bl) := [(0, (2, [0, 1]), [(0, .iconst 0, 1, [(.int 0, 0, [])]),
    (1, .istore_n 1, 1, [(.null, 1, [])])]),
  (2, (0, []), [(2, .iload_n 1, 1, [(.null, 1, [])]),
    (3, .bipush 8, 2, [(.int 8, 0, [])]),
    (5, .if_icmp .ge 16, 3, [(.null, 21, [0])]),
    (8, .aload_n 0, 1, [(.null, 0, [])]),
    (9, .getfield 49, 3, [(.null, 4, [12, 126])]),
    (12, .iload_n 1, 1, [(.null, 1, [])]),
    (13, .iconst 0, 1, [(.int 0, 0, [])]),
    (14, .iastore, 1, []),
    (15, .iinc 1 1, 3, [(.int 1, 1, [])]),
    (18, .goto (-16), 3, [(.null, 2, [0, 1])])]),
  (21, (23, [0, 1]), [(21, .iconst 0, 1, [(.int 0, 0, [])]),
    (22, .istore_n 1, 1, [(.null, 1, [])])]),
  (23, (0, []), [(23, .iload_n 1, 1, [(.null, 1, [])]),
    (24, .aload_n 0, 1, [(.null, 0, [])]),
    (25, .getfield 9, 3, [(.null, 4, [0, 94])]),
    (28, .if_icmp .ge 57, 3, [(.null, 85, [])]),
    (31, .aload_n 0, 1, [(.null, 0, [])]),
    (32, .getfield 46, 3, [(.null, 4, [11, 123])]),
    (35, .iload_n 1, 1, [(.null, 1, [])]),
    (36, .aload_n 0, 1, [(.null, 0, [])]),
    (37, .getfield 21, 3, [(.null, 4, [3, 102])]),
    (40, .iload_n 1, 1, [(.null, 1, [])]),
    (41, .iaload, 1, []),
    (42, .aload_n 0, 1, [(.null, 0, [])]),
    (43, .getfield 25, 3, [(.null, 4, [4, 105])]),
    (46, .iload_n 1, 1, [(.null, 1, [])]),
    (47, .iaload, 1, []),
    (48, .aload_n 0, 1, [(.null, 0, [])]),
    (49, .getfield 15, 3, [(.null, 4, [1, 98])]),
    (52, .bipush 6, 2, [(.int 6, 0, [])]),
    (54, .irem, 1, []),
    (55, .invokestatic 98, 3, [(.null, 19, [3, 1, 99, 4, 287])]),
    (58, .iastore, 1, []),
    (59, .aload_n 0, 1, [(.null, 0, [])]),
    (60, .getfield 49, 3, [(.null, 4, [12, 126])]),
    (63, .aload_n 0, 1, [(.null, 0, [])]),
    (64, .getfield 31, 3, [(.null, 4, [6, 112])]),
    (67, .iload_n 1, 1, [(.null, 1, [])]),
    (68, .iaload, 1, []),
    (69, .dup2, 1, []),
    (70, .iaload, 1, []),
    (71, .aload_n 0, 1, [(.null, 0, [])]),
    (72, .getfield 46, 3, [(.null, 4, [11, 123])]),
    (75, .iload_n 1, 1, [(.null, 1, [])]),
    (76, .iaload, 1, []),
    (77, .iadd, 1, []),
    (78, .iastore, 1, []),
    (79, .iinc 1 1, 3, [(.int 1, 1, [])]),
    (82, .goto (-59), 3, [(.null, 23, [0, 1])])]),
  (85, (0, []), [(85, .return_, 1, [])])]
/-- WallsByTheHour$Street.isWall (I)Z -/
def kd_46 : List (Nat × ax_Bl) := [(0, (0, []), [(0, .iload_n 1, 1, [(.null, 1, [])]),
    (1, .ifCond .lt 15, 3, [(.null, 16, [])]),
    (4, .iload_n 1, 1, [(.null, 1, [])]),
    (5, .aload_n 0, 1, [(.null, 0, [])]),
    (6, .getfield 9, 3, [(.null, 4, [0, 94])]),
    (9, .if_icmp .ge 7, 3, [(.null, 16, [])]),
    (12, .iconst 1, 1, [(.int 1, 0, [])]),
    (13, .goto 4, 3, [(.null, 17, [])])]),
  (16, (17, []), [(16, .iconst 0, 1, [(.int 0, 0, [])])]),
  (17, (0, []), [(17, .ireturn, 1, [])])]
/-- WallsByTheHour$Street.isLent (I)Z -/
def kd_47 : List (Nat × ax_Bl) := [(0, (0, []), [(0, .aload_n 0, 1, [(.null, 0, [])]),
    (1, .getfield 31, 3, [(.null, 4, [6, 112])]),
    (4, .iload_n 1, 1, [(.null, 1, [])]),
    (5, .iaload, 1, []),
    (6, .aload_n 0, 1, [(.null, 0, [])]),
    (7, .getfield 28, 3, [(.null, 4, [5, 108])]),
    (10, .iload_n 1, 1, [(.null, 1, [])]),
    (11, .iaload, 1, []),
    (12, .if_icmp .eq 7, 3, [(.null, 19, [])]),
    (15, .iconst 1, 1, [(.int 1, 0, [])]),
    (16, .goto 4, 3, [(.null, 20, [])])]),
  (19, (20, []), [(19, .iconst 0, 1, [(.int 0, 0, [])])]),
  (20, (0, []), [(20, .ireturn, 1, [])])]
/-- WallsByTheHour$Street.needAt (II)I -/
def kd_48 : List (Nat × ax_Bl) := [(0, (0, []), [(0, .aload_n 0, 1, [(.null, 0, [])]),
    (1, .getfield 40, 3, [(.null, 4, [9, 120])]),
    (4, .iload_n 1, 1, [(.null, 1, [])]),
    (5, .bipush 6, 2, [(.int 6, 0, [])]),
    (7, .imul, 1, []),
    (8, .iload_n 2, 1, [(.null, 2, [])]),
    (9, .iadd, 1, []),
    (10, .iaload, 1, []),
    (11, .ireturn, 1, [])])]
/-- WallsByTheHour$Street.needOf (I)I -/
def kd_49 : List (Nat × ax_Bl) := [(0, (0, []), [(0, .aload_n 0, 1, [(.null, 0, [])]),
    (1, .getfield 40, 3, [(.null, 4, [9, 120])]),
    (4, .iload_n 1, 1, [(.null, 1, [])]),
    (5, .bipush 6, 2, [(.int 6, 0, [])]),
    (7, .imul, 1, []),
    (8, .aload_n 0, 1, [(.null, 0, [])]),
    (9, .getfield 15, 3, [(.null, 4, [1, 98])]),
    (12, .bipush 6, 2, [(.int 6, 0, [])]),
    (14, .irem, 1, []),
    (15, .iadd, 1, []),
    (16, .iaload, 1, []),
    (17, .aload_n 0, 1, [(.null, 0, [])]),
    (18, .getfield 18, 3, [(.null, 4, [2, 100])]),
    (21, .iadd, 1, []),
    (22, .ireturn, 1, [])])]
/-- WallsByTheHour$Street.lackOf (I)I -/
def kd_50 : List (Nat × ax_Bl) := [(0, (0, []), [(0, .iconst 0, 1, [(.int 0, 0, [])]),
    (1, .aload_n 0, 1, [(.null, 0, [])]),
    (2, .iload_n 1, 1, [(.null, 1, [])]),
    (3, .invokevirtual 102, 3, [(.null, 49, [2, 1, 4, 2, 326])]),
    (6, .aload_n 0, 1, [(.null, 0, [])]),
    (7, .getfield 49, 3, [(.null, 4, [12, 126])]),
    (10, .iload_n 1, 1, [(.null, 1, [])]),
    (11, .iaload, 1, []),
    (12, .isub, 1, []),
    (13, .invokestatic 105, 3, [(.null, 1, [330])]),
    (16, .ireturn, 1, [])])]
/-- WallsByTheHour$Street.lackWithout (I)I -/
def kd_51 : List (Nat × ax_Bl) := [(0, (0, []), [(0, .aload_n 0, 1, [(.null, 0, [])]),
    (1, .getfield 31, 3, [(.null, 4, [6, 112])]),
    (4, .iload_n 1, 1, [(.null, 1, [])]),
    (5, .iaload, 1, []),
    (6, .istore_n 2, 1, [(.null, 2, [])]),
    (7, .iconst 0, 1, [(.int 0, 0, [])]),
    (8, .aload_n 0, 1, [(.null, 0, [])]),
    (9, .iload_n 2, 1, [(.null, 2, [])]),
    (10, .invokevirtual 102, 3, [(.null, 49, [2, 1, 4, 2, 326])]),
    (13, .aload_n 0, 1, [(.null, 0, [])]),
    (14, .getfield 49, 3, [(.null, 4, [12, 126])]),
    (17, .iload_n 2, 1, [(.null, 2, [])]),
    (18, .iaload, 1, []),
    (19, .isub, 1, []),
    (20, .aload_n 0, 1, [(.null, 0, [])]),
    (21, .getfield 46, 3, [(.null, 4, [11, 123])]),
    (24, .iload_n 1, 1, [(.null, 1, [])]),
    (25, .iaload, 1, []),
    (26, .iadd, 1, []),
    (27, .invokestatic 105, 3, [(.null, 1, [330])]),
    (30, .ireturn, 1, [])])]
/-- WallsByTheHour$Street.allLacking ()I -/
def kd_52 : List (Nat × ax_Bl) := [(0, (4, [0, 1, 2]), [(0, .iconst 0, 1, [(.int 0, 0, [])]),
    (1, .istore_n 1, 1, [(.null, 1, [])]),
    (2, .iconst 0, 1, [(.int 0, 0, [])]),
    (3, .istore_n 2, 1, [(.null, 2, [])])]),
  (4, (0, []), [(4, .iload_n 2, 1, [(.null, 2, [])]),
    (5, .bipush 8, 2, [(.int 8, 0, [])]),
    (7, .if_icmp .ge 17, 3, [(.null, 24, [1])]),
    (10, .iload_n 1, 1, [(.null, 1, [])]),
    (11, .aload_n 0, 1, [(.null, 0, [])]),
    (12, .iload_n 2, 1, [(.null, 2, [])]),
    (13, .invokevirtual 79, 3, [(.null, 50, [2, 1, 4, 2, 322])]),
    (16, .iadd, 1, []),
    (17, .istore_n 1, 1, [(.null, 1, [])]),
    (18, .iinc 2 1, 3, [(.int 1, 2, [])]),
    (21, .goto (-17), 3, [(.null, 4, [0, 1, 2])])]),
  (24, (0, []), [(24, .iload_n 1, 1, [(.null, 1, [])]),
    (25, .ireturn, 1, [])])]
/-- WallsByTheHour$Street.seenBits ()I -/
def kd_53 : List (Nat × ax_Bl) := [(0, (4, [0, 1, 2]), [(0, .iconst 0, 1, [(.int 0, 0, [])]),
    (1, .istore_n 1, 1, [(.null, 1, [])]),
    (2, .iconst 0, 1, [(.int 0, 0, [])]),
    (3, .istore_n 2, 1, [(.null, 2, [])])]),
  (4, (24, [0, 1, 2]), [(4, .iload_n 2, 1, [(.null, 2, [])]),
    (5, .bipush 8, 2, [(.int 8, 0, [])]),
    (7, .if_icmp .ge 23, 3, [(.null, 30, [1])]),
    (10, .aload_n 0, 1, [(.null, 0, [])]),
    (11, .iload_n 2, 1, [(.null, 2, [])]),
    (12, .invokevirtual 79, 3, [(.null, 50, [2, 1, 4, 2, 322])]),
    (15, .ifCond .le 9, 3, [(.null, 24, [0, 1, 2])]),
    (18, .iload_n 1, 1, [(.null, 1, [])]),
    (19, .iconst 1, 1, [(.int 1, 0, [])]),
    (20, .iload_n 2, 1, [(.null, 2, [])]),
    (21, .ishl, 1, []),
    (22, .ior, 1, []),
    (23, .istore_n 1, 1, [(.null, 1, [])])]),
  (24, (0, []), [(24, .iinc 2 1, 3, [(.int 1, 2, [])]),
    (27, .goto (-23), 3, [(.null, 4, [0, 1, 2])])]),
  (30, (0, []), [(30, .iload_n 1, 1, [(.null, 1, [])]),
    (31, .ireturn, 1, [])])]
/-- WallsByTheHour$Street.lentBits ()I -/
def kd_54 : List (Nat × ax_Bl) := [(0, (4, [0, 1, 2]), [(0, .iconst 0, 1, [(.int 0, 0, [])]),
    (1, .istore_n 1, 1, [(.null, 1, [])]),
    (2, .iconst 0, 1, [(.int 0, 0, [])]),
    (3, .istore_n 2, 1, [(.null, 2, [])])]),
  (4, (26, [0, 1, 2]), [(4, .iload_n 2, 1, [(.null, 2, [])]),
    (5, .aload_n 0, 1, [(.null, 0, [])]),
    (6, .getfield 9, 3, [(.null, 4, [0, 94])]),
    (9, .if_icmp .ge 23, 3, [(.null, 32, [1])]),
    (12, .aload_n 0, 1, [(.null, 0, [])]),
    (13, .iload_n 2, 1, [(.null, 2, [])]),
    (14, .invokevirtual 110, 3, [(.null, 47, [2, 1, 4, 2, 480])]),
    (17, .ifCond .eq 9, 3, [(.null, 26, [0, 1, 2])]),
    (20, .iload_n 1, 1, [(.null, 1, [])]),
    (21, .iconst 1, 1, [(.int 1, 0, [])]),
    (22, .iload_n 2, 1, [(.null, 2, [])]),
    (23, .ishl, 1, []),
    (24, .ior, 1, []),
    (25, .istore_n 1, 1, [(.null, 1, [])])]),
  (26, (0, []), [(26, .iinc 2 1, 3, [(.int 1, 2, [])]),
    (29, .goto (-25), 3, [(.null, 4, [0, 1, 2])])]),
  (32, (0, []), [(32, .iload_n 1, 1, [(.null, 1, [])]),
    (33, .ireturn, 1, [])])]
/-- WallsByTheHour$Street.wallsAt (I)I -/
def kd_55 : List (Nat × ax_Bl) := [(0, (4, [0, 1, 2, 3]), [(0, .iconst 0, 1, [(.int 0, 0, [])]),
    (1, .istore_n 2, 1, [(.null, 2, [])]),
    (2, .iconst 0, 1, [(.int 0, 0, [])]),
    (3, .istore_n 3, 1, [(.null, 3, [])])]),
  (4, (28, [0, 1, 2, 3]), [(4, .iload_n 3, 1, [(.null, 3, [])]),
    (5, .aload_n 0, 1, [(.null, 0, [])]),
    (6, .getfield 9, 3, [(.null, 4, [0, 94])]),
    (9, .if_icmp .ge 25, 3, [(.null, 34, [2])]),
    (12, .aload_n 0, 1, [(.null, 0, [])]),
    (13, .getfield 31, 3, [(.null, 4, [6, 112])]),
    (16, .iload_n 3, 1, [(.null, 3, [])]),
    (17, .iaload, 1, []),
    (18, .iload_n 1, 1, [(.null, 1, [])]),
    (19, .if_icmp .ne 9, 3, [(.null, 28, [0, 1, 2, 3])]),
    (22, .iload_n 2, 1, [(.null, 2, [])]),
    (23, .iconst 1, 1, [(.int 1, 0, [])]),
    (24, .iload_n 3, 1, [(.null, 3, [])]),
    (25, .ishl, 1, []),
    (26, .ior, 1, []),
    (27, .istore_n 2, 1, [(.null, 2, [])])]),
  (28, (0, []), [(28, .iinc 3 1, 3, [(.int 1, 3, [])]),
    (31, .goto (-27), 3, [(.null, 4, [0, 1, 2, 3])])]),
  (34, (0, []), [(34, .iload_n 2, 1, [(.null, 2, [])]),
    (35, .ireturn, 1, [])])]
/-- WallsByTheHour$Street.wallsOwnedBy (I)I -/
def kd_56 : List (Nat × ax_Bl) := [(0, (4, [0, 1, 2, 3]), [(0, .iconst 0, 1, [(.int 0, 0, [])]),
    (1, .istore_n 2, 1, [(.null, 2, [])]),
    (2, .iconst 0, 1, [(.int 0, 0, [])]),
    (3, .istore_n 3, 1, [(.null, 3, [])])]),
  (4, (28, [0, 1, 2, 3]), [(4, .iload_n 3, 1, [(.null, 3, [])]),
    (5, .aload_n 0, 1, [(.null, 0, [])]),
    (6, .getfield 9, 3, [(.null, 4, [0, 94])]),
    (9, .if_icmp .ge 25, 3, [(.null, 34, [2])]),
    (12, .aload_n 0, 1, [(.null, 0, [])]),
    (13, .getfield 28, 3, [(.null, 4, [5, 108])]),
    (16, .iload_n 3, 1, [(.null, 3, [])]),
    (17, .iaload, 1, []),
    (18, .iload_n 1, 1, [(.null, 1, [])]),
    (19, .if_icmp .ne 9, 3, [(.null, 28, [0, 1, 2, 3])]),
    (22, .iload_n 2, 1, [(.null, 2, [])]),
    (23, .iconst 1, 1, [(.int 1, 0, [])]),
    (24, .iload_n 3, 1, [(.null, 3, [])]),
    (25, .ishl, 1, []),
    (26, .ior, 1, []),
    (27, .istore_n 2, 1, [(.null, 2, [])])]),
  (28, (0, []), [(28, .iinc 3 1, 3, [(.int 1, 3, [])]),
    (31, .goto (-27), 3, [(.null, 4, [0, 1, 2, 3])])]),
  (34, (0, []), [(34, .iload_n 2, 1, [(.null, 2, [])]),
    (35, .ireturn, 1, [])])]
/-- WallsByTheHour$Street.allHoles ()I -/
def kd_57 : List (Nat × ax_Bl) := [(0, (4, [0, 1, 2]), [(0, .iconst 0, 1, [(.int 0, 0, [])]),
    (1, .istore_n 1, 1, [(.null, 1, [])]),
    (2, .iconst 0, 1, [(.int 0, 0, [])]),
    (3, .istore_n 2, 1, [(.null, 2, [])])]),
  (4, (0, []), [(4, .iload_n 2, 1, [(.null, 2, [])]),
    (5, .aload_n 0, 1, [(.null, 0, [])]),
    (6, .getfield 9, 3, [(.null, 4, [0, 94])]),
    (9, .if_icmp .ge 18, 3, [(.null, 27, [1])]),
    (12, .iload_n 1, 1, [(.null, 1, [])]),
    (13, .aload_n 0, 1, [(.null, 0, [])]),
    (14, .getfield 34, 3, [(.null, 4, [7, 116])]),
    (17, .iload_n 2, 1, [(.null, 2, [])]),
    (18, .iaload, 1, []),
    (19, .iadd, 1, []),
    (20, .istore_n 1, 1, [(.null, 1, [])]),
    (21, .iinc 2 1, 3, [(.int 1, 2, [])]),
    (24, .goto (-20), 3, [(.null, 4, [0, 1, 2])])]),
  (27, (0, []), [(27, .iload_n 1, 1, [(.null, 1, [])]),
    (28, .ireturn, 1, [])])]
/-- WallsByTheHour$Street.needsAt (I)I -/
def kd_58 : List (Nat × ax_Bl) := [(0, (4, [0, 1, 2, 3]), [(0, .iconst 0, 1, [(.int 0, 0, [])]),
    (1, .istore_n 2, 1, [(.null, 2, [])]),
    (2, .iconst 0, 1, [(.int 0, 0, [])]),
    (3, .istore_n 3, 1, [(.null, 3, [])])]),
  (4, (0, []), [(4, .iload_n 3, 1, [(.null, 3, [])]),
    (5, .bipush 8, 2, [(.int 8, 0, [])]),
    (7, .if_icmp .ge 18, 3, [(.null, 25, [2])]),
    (10, .iload_n 2, 1, [(.null, 2, [])]),
    (11, .aload_n 0, 1, [(.null, 0, [])]),
    (12, .iload_n 3, 1, [(.null, 3, [])]),
    (13, .iload_n 1, 1, [(.null, 1, [])]),
    (14, .invokevirtual 113, 3, [(.null, 48, [3, 1, 4, 3, 587])]),
    (17, .iadd, 1, []),
    (18, .istore_n 2, 1, [(.null, 2, [])]),
    (19, .iinc 3 1, 3, [(.int 1, 3, [])]),
    (22, .goto (-18), 3, [(.null, 4, [0, 1, 2, 3])])]),
  (25, (0, []), [(25, .iload_n 2, 1, [(.null, 2, [])]),
    (26, .ireturn, 1, [])])]
/-- WallsByTheHour$Street.coldestPart ()I -/
def kd_59 : List (Nat × ax_Bl) := [(0, (4, [0, 1, 2]), [(0, .iconst 0, 1, [(.int 0, 0, [])]),
    (1, .istore_n 1, 1, [(.null, 1, [])]),
    (2, .iconst 1, 1, [(.int 1, 0, [])]),
    (3, .istore_n 2, 1, [(.null, 2, [])])]),
  (4, (25, [0, 1, 2]), [(4, .iload_n 2, 1, [(.null, 2, [])]),
    (5, .bipush 6, 2, [(.int 6, 0, [])]),
    (7, .if_icmp .ge 24, 3, [(.null, 31, [1])]),
    (10, .aload_n 0, 1, [(.null, 0, [])]),
    (11, .iload_n 2, 1, [(.null, 2, [])]),
    (12, .invokevirtual 116, 3, [(.null, 58, [2, 1, 4, 4, 583])]),
    (15, .aload_n 0, 1, [(.null, 0, [])]),
    (16, .iload_n 1, 1, [(.null, 1, [])]),
    (17, .invokevirtual 116, 3, [(.null, 58, [2, 1, 4, 4, 583])]),
    (20, .if_icmp .le 5, 3, [(.null, 25, [0, 1, 2])]),
    (23, .iload_n 2, 1, [(.null, 2, [])]),
    (24, .istore_n 1, 1, [(.null, 1, [])])]),
  (25, (0, []), [(25, .iinc 2 1, 3, [(.int 1, 2, [])]),
    (28, .goto (-24), 3, [(.null, 4, [0, 1, 2])])]),
  (31, (0, []), [(31, .iload_n 1, 1, [(.null, 1, [])]),
    (32, .ireturn, 1, [])])]
/-- WallsByTheHour$Street.bestWall ()I -/
def kd_60 : List (Nat × ax_Bl) := [(0, (7, [0, 1, 2, 3]), [(0, .bipush (-9), 2, [(.int (-9), 0, [])]),
    (2, .istore_n 1, 1, [(.null, 1, [])]),
    (3, .iconst (-1), 1, [(.int (-1), 0, [])]),
    (4, .istore_n 2, 1, [(.null, 2, [])]),
    (5, .iconst 0, 1, [(.int 0, 0, [])]),
    (6, .istore_n 3, 1, [(.null, 3, [])])]),
  (7, (34, [0, 1, 2, 3]), [(7, .iload_n 3, 1, [(.null, 3, [])]),
    (8, .aload_n 0, 1, [(.null, 0, [])]),
    (9, .getfield 9, 3, [(.null, 4, [0, 94])]),
    (12, .if_icmp .ge 28, 3, [(.null, 40, [1])]),
    (15, .aload_n 0, 1, [(.null, 0, [])]),
    (16, .getfield 46, 3, [(.null, 4, [11, 123])]),
    (19, .iload_n 3, 1, [(.null, 3, [])]),
    (20, .iaload, 1, []),
    (21, .iload_n 2, 1, [(.null, 2, [])]),
    (22, .if_icmp .le 12, 3, [(.null, 34, [0, 1, 2, 3])]),
    (25, .iload_n 3, 1, [(.null, 3, [])]),
    (26, .istore_n 1, 1, [(.null, 1, [])]),
    (27, .aload_n 0, 1, [(.null, 0, [])]),
    (28, .getfield 46, 3, [(.null, 4, [11, 123])]),
    (31, .iload_n 3, 1, [(.null, 3, [])]),
    (32, .iaload, 1, []),
    (33, .istore_n 2, 1, [(.null, 2, [])])]),
  (34, (0, []), [(34, .iinc 3 1, 3, [(.int 1, 3, [])]),
    (37, .goto (-30), 3, [(.null, 7, [0, 1, 2, 3])])]),
  (40, (0, []), [(40, .iload_n 1, 1, [(.null, 1, [])]),
    (41, .ireturn, 1, [])])]
/-- WallsByTheHour$Street.warmerBits ()I -/
def kd_61 : List (Nat × ax_Bl) := [(0, (4, [0, 1, 2]), [(0, .iconst 0, 1, [(.int 0, 0, [])]),
    (1, .istore_n 1, 1, [(.null, 1, [])]),
    (2, .iconst 0, 1, [(.int 0, 0, [])]),
    (3, .istore_n 2, 1, [(.null, 2, [])])]),
  (4, (51, [0, 1, 2]), [(4, .iload_n 2, 1, [(.null, 2, [])]),
    (5, .aload_n 0, 1, [(.null, 0, [])]),
    (6, .getfield 9, 3, [(.null, 4, [0, 94])]),
    (9, .if_icmp .ge 48, 3, [(.null, 57, [1])]),
    (12, .aload_n 0, 1, [(.null, 0, [])]),
    (13, .getfield 21, 3, [(.null, 4, [3, 102])]),
    (16, .iload_n 2, 1, [(.null, 2, [])]),
    (17, .iaload, 1, []),
    (18, .aload_n 0, 1, [(.null, 0, [])]),
    (19, .getfield 25, 3, [(.null, 4, [4, 105])]),
    (22, .iload_n 2, 1, [(.null, 2, [])]),
    (23, .iaload, 1, []),
    (24, .aload_n 0, 1, [(.null, 0, [])]),
    (25, .getfield 15, 3, [(.null, 4, [1, 98])]),
    (28, .iconst 1, 1, [(.int 1, 0, [])]),
    (29, .iadd, 1, []),
    (30, .bipush 6, 2, [(.int 6, 0, [])]),
    (32, .irem, 1, []),
    (33, .invokestatic 98, 3, [(.null, 19, [3, 1, 99, 4, 287])]),
    (36, .aload_n 0, 1, [(.null, 0, [])]),
    (37, .getfield 46, 3, [(.null, 4, [11, 123])]),
    (40, .iload_n 2, 1, [(.null, 2, [])]),
    (41, .iaload, 1, []),
    (42, .if_icmp .le 9, 3, [(.null, 51, [0, 1, 2])]),
    (45, .iload_n 1, 1, [(.null, 1, [])]),
    (46, .iconst 1, 1, [(.int 1, 0, [])]),
    (47, .iload_n 2, 1, [(.null, 2, [])]),
    (48, .ishl, 1, []),
    (49, .ior, 1, []),
    (50, .istore_n 1, 1, [(.null, 1, [])])]),
  (51, (0, []), [(51, .iinc 2 1, 3, [(.int 1, 2, [])]),
    (54, .goto (-50), 3, [(.null, 4, [0, 1, 2])])]),
  (57, (0, []), [(57, .iload_n 1, 1, [(.null, 1, [])]),
    (58, .ireturn, 1, [])])]
/-- WallsByTheHour$Street.looksAt (II)Z -/
def kd_62 : List (Nat × ax_Bl) := [(0, (13, []), [(0, .iload_n 1, 1, [(.null, 1, [])]),
    (1, .iload_n 2, 1, [(.null, 2, [])]),
    (2, .if_icmp .eq 11, 3, [(.null, 13, [])]),
    (5, .aload_n 0, 1, [(.null, 0, [])]),
    (6, .iload_n 2, 1, [(.null, 2, [])]),
    (7, .invokevirtual 79, 3, [(.null, 50, [2, 1, 4, 2, 322])]),
    (10, .ifCond .ne 5, 3, [(.null, 15, [0, 1, 2])])]),
  (13, (0, []), [(13, .iconst 0, 1, [(.int 0, 0, [])]),
    (14, .ireturn, 1, [])]),
  (15, (23, [0, 1, 2, 3]), [(15, .iload_n 1, 1, [(.null, 1, [])]),
    (16, .iload_n 2, 1, [(.null, 2, [])]),
    (17, .invokestatic 119, 3, [(.null, 2, [622])]),
    (20, .iconst 1, 1, [(.int 1, 0, [])]),
    (21, .iadd, 1, []),
    (22, .istore_n 3, 1, [(.null, 3, [])])]),
  (23, (0, []), [(23, .iload_n 3, 1, [(.null, 3, [])]),
    (24, .iload_n 1, 1, [(.null, 1, [])]),
    (25, .iload_n 2, 1, [(.null, 2, [])]),
    (26, .invokestatic 105, 3, [(.null, 1, [330])]),
    (29, .if_icmp .ge 19, 3, [(.null, 48, [])]),
    (32, .aload_n 0, 1, [(.null, 0, [])]),
    (33, .iload_n 3, 1, [(.null, 3, [])]),
    (34, .invokevirtual 122, 3, [(.null, 55, [2, 1, 4, 4, 623])]),
    (37, .ifCond .eq 5, 3, [(.null, 42, [0, 1, 2, 3])]),
    (40, .iconst 0, 1, [(.int 0, 0, [])]),
    (41, .ireturn, 1, [])]),
  (42, (0, []), [(42, .iinc 3 1, 3, [(.int 1, 3, [])]),
    (45, .goto (-22), 3, [(.null, 23, [0, 1, 2, 3])])]),
  (48, (0, []), [(48, .iconst 1, 1, [(.int 1, 0, [])]),
    (49, .ireturn, 1, [])])]
/-- WallsByTheHour$Thought.begin (LWallsByTheHour$Street;)V -/
def kd_63 : List (Nat × ax_Bl) := [(0, (0, []), [(0, .aload_n 0, 1, [(.null, 0, [])]),
    (1, .getfield 12, 3, [(.null, 5, [0, 158])]),
    (4, .aload_n 1, 1, [(.null, 1, [])]),
    (5, .invokevirtual 25, 3, [(.null, 35, [2, 0, 4, 2, 424])]),
    (8, .return_, 1, [])])]
/-- WallsByTheHour$Thought.goOn (I)V -/
def kd_64 : List (Nat × ax_Bl) := [(0, (2, [0, 1, 2]), [(0, .iconst 0, 1, [(.int 0, 0, [])]),
    (1, .istore_n 2, 1, [(.null, 2, [])])]),
  (2, (0, []), [(2, .iload_n 2, 1, [(.null, 2, [])]),
    (3, .iload_n 1, 1, [(.null, 1, [])]),
    (4, .if_icmp .ge 16, 3, [(.null, 20, [])]),
    (7, .aload_n 0, 1, [(.null, 0, [])]),
    (8, .getfield 12, 3, [(.null, 5, [0, 158])]),
    (11, .invokevirtual 29, 3, [(.null, 42, [1, 0, 4, 4, 434])]),
    (14, .iinc 2 1, 3, [(.int 1, 2, [])]),
    (17, .goto (-15), 3, [(.null, 2, [0, 1, 2])])]),
  (20, (0, []), [(20, .return_, 1, [])])]
/-- WallsByTheHour$Thought.after (LWallsByTheHour$Street;I)LWallsByTheHour$Street; -/
def kd_65 : List (Nat × ax_Bl) := [(0, (0, []), [(0, .aload_n 0, 1, [(.null, 0, [])]),
    (1, .aload_n 1, 1, [(.null, 1, [])]),
    (2, .invokevirtual 32, 3, [(.null, 63, [2, 0, 5, 2, 421])]),
    (5, .aload_n 0, 1, [(.null, 0, [])]),
    (6, .iload_n 2, 1, [(.null, 2, [])]),
    (7, .invokevirtual 35, 3, [(.null, 64, [2, 0, 5, 3, 431])]),
    (10, .aload_n 0, 1, [(.null, 0, [])]),
    (11, .getfield 12, 3, [(.null, 5, [0, 158])]),
    (14, .areturn, 1, [])])]
/-- WallsByTheHour$Thought.hoursToHome (LWallsByTheHour$Street;I)I -/
def kd_66 : List (Nat × ax_Bl) := [(0, (7, [0, 2, 3]), [(0, .aload_n 0, 1, [(.null, 0, [])]),
    (1, .aload_n 1, 1, [(.null, 1, [])]),
    (2, .invokevirtual 32, 3, [(.null, 63, [2, 0, 5, 2, 421])]),
    (5, .iconst 0, 1, [(.int 0, 0, [])]),
    (6, .istore_n 3, 1, [(.null, 3, [])])]),
  (7, (0, []), [(7, .iload_n 3, 1, [(.null, 3, [])]),
    (8, .bipush 60, 2, [(.int 60, 0, [])]),
    (10, .if_icmp .gt 29, 3, [(.null, 39, [])]),
    (13, .aload_n 0, 1, [(.null, 0, [])]),
    (14, .getfield 12, 3, [(.null, 5, [0, 158])]),
    (17, .iload_n 2, 1, [(.null, 2, [])]),
    (18, .invokevirtual 39, 3, [(.null, 47, [2, 1, 4, 2, 451])]),
    (21, .ifCond .ne 5, 3, [(.null, 26, [0, 2, 3])]),
    (24, .iload_n 3, 1, [(.null, 3, [])]),
    (25, .ireturn, 1, [])]),
  (26, (0, []), [(26, .aload_n 0, 1, [(.null, 0, [])]),
    (27, .getfield 12, 3, [(.null, 5, [0, 158])]),
    (30, .invokevirtual 29, 3, [(.null, 42, [1, 0, 4, 4, 434])]),
    (33, .iinc 3 1, 3, [(.int 1, 3, [])]),
    (36, .goto (-29), 3, [(.null, 7, [0, 2, 3])])]),
  (39, (0, []), [(39, .bipush (-9), 2, [(.int (-9), 0, [])]),
    (41, .ireturn, 1, [])])]
/-- WallsByTheHour$Thought.hoursToGone (LWallsByTheHour$Street;I)I -/
def kd_67 : List (Nat × ax_Bl) := [(0, (7, [0, 1, 2, 3]), [(0, .aload_n 0, 1, [(.null, 0, [])]),
    (1, .aload_n 1, 1, [(.null, 1, [])]),
    (2, .invokevirtual 32, 3, [(.null, 63, [2, 0, 5, 2, 421])]),
    (5, .iconst 1, 1, [(.int 1, 0, [])]),
    (6, .istore_n 3, 1, [(.null, 3, [])])]),
  (7, (0, []), [(7, .iload_n 3, 1, [(.null, 3, [])]),
    (8, .bipush 60, 2, [(.int 60, 0, [])]),
    (10, .if_icmp .gt 36, 3, [(.null, 46, [])]),
    (13, .aload_n 0, 1, [(.null, 0, [])]),
    (14, .getfield 12, 3, [(.null, 5, [0, 158])]),
    (17, .invokevirtual 29, 3, [(.null, 42, [1, 0, 4, 4, 434])]),
    (20, .aload_n 0, 1, [(.null, 0, [])]),
    (21, .getfield 12, 3, [(.null, 5, [0, 158])]),
    (24, .getfield 43, 3, [(.null, 4, [6, 114])]),
    (27, .iload_n 2, 1, [(.null, 2, [])]),
    (28, .iaload, 1, []),
    (29, .aload_n 1, 1, [(.null, 1, [])]),
    (30, .getfield 43, 3, [(.null, 4, [6, 114])]),
    (33, .iload_n 2, 1, [(.null, 2, [])]),
    (34, .iaload, 1, []),
    (35, .if_icmp .eq 5, 3, [(.null, 40, [0, 1, 2, 3])]),
    (38, .iload_n 3, 1, [(.null, 3, [])]),
    (39, .ireturn, 1, [])]),
  (40, (0, []), [(40, .iinc 3 1, 3, [(.int 1, 3, [])]),
    (43, .goto (-36), 3, [(.null, 7, [0, 1, 2, 3])])]),
  (46, (0, []), [(46, .bipush (-9), 2, [(.int (-9), 0, [])]),
    (48, .ireturn, 1, [])])]
/-- WallsByTheHour$Thought.hoursToSeen (LWallsByTheHour$Street;I)I -/
def kd_68 : List (Nat × ax_Bl) := [(0, (7, [0, 2, 3]), [(0, .aload_n 0, 1, [(.null, 0, [])]),
    (1, .aload_n 1, 1, [(.null, 1, [])]),
    (2, .invokevirtual 32, 3, [(.null, 63, [2, 0, 5, 2, 421])]),
    (5, .iconst 0, 1, [(.int 0, 0, [])]),
    (6, .istore_n 3, 1, [(.null, 3, [])])]),
  (7, (0, []), [(7, .iload_n 3, 1, [(.null, 3, [])]),
    (8, .bipush 60, 2, [(.int 60, 0, [])]),
    (10, .if_icmp .gt 29, 3, [(.null, 39, [])]),
    (13, .aload_n 0, 1, [(.null, 0, [])]),
    (14, .getfield 12, 3, [(.null, 5, [0, 158])]),
    (17, .iload_n 2, 1, [(.null, 2, [])]),
    (18, .invokevirtual 46, 3, [(.null, 50, [2, 1, 4, 2, 467])]),
    (21, .ifCond .le 5, 3, [(.null, 26, [0, 2, 3])]),
    (24, .iload_n 3, 1, [(.null, 3, [])]),
    (25, .ireturn, 1, [])]),
  (26, (0, []), [(26, .aload_n 0, 1, [(.null, 0, [])]),
    (27, .getfield 12, 3, [(.null, 5, [0, 158])]),
    (30, .invokevirtual 29, 3, [(.null, 42, [1, 0, 4, 4, 434])]),
    (33, .iinc 3 1, 3, [(.int 1, 3, [])]),
    (36, .goto (-29), 3, [(.null, 7, [0, 2, 3])])]),
  (39, (0, []), [(39, .bipush (-9), 2, [(.int (-9), 0, [])]),
    (41, .ireturn, 1, [])])]
/-- WallsByTheHour$Thought.hoursToAllLent (LWallsByTheHour$Street;)I -/
def kd_69 : List (Nat × ax_Bl) := [(0, (0, []), [(0, .aload_n 1, 1, [(.null, 1, [])]),
    (1, .getfield 50, 3, [(.null, 4, [0, 97])]),
    (4, .ifCond .ne 6, 3, [(.null, 10, [0, 1])]),
    (7, .bipush (-9), 2, [(.int (-9), 0, [])]),
    (9, .ireturn, 1, [])]),
  (10, (17, [0, 2]), [(10, .aload_n 0, 1, [(.null, 0, [])]),
    (11, .aload_n 1, 1, [(.null, 1, [])]),
    (12, .invokevirtual 32, 3, [(.null, 63, [2, 0, 5, 2, 421])]),
    (15, .iconst 0, 1, [(.int 0, 0, [])]),
    (16, .istore_n 2, 1, [(.null, 2, [])])]),
  (17, (0, []), [(17, .iload_n 2, 1, [(.null, 2, [])]),
    (18, .bipush 60, 2, [(.int 60, 0, [])]),
    (20, .if_icmp .gt 38, 3, [(.null, 58, [])]),
    (23, .aload_n 0, 1, [(.null, 0, [])]),
    (24, .getfield 12, 3, [(.null, 5, [0, 158])]),
    (27, .invokevirtual 54, 3, [(.null, 54, [1, 1, 4, 3, 476])]),
    (30, .invokestatic 58, 3, [(.null, 132, [1, 1, 99, 1, 5011])]),
    (33, .aload_n 0, 1, [(.null, 0, [])]),
    (34, .getfield 12, 3, [(.null, 5, [0, 158])]),
    (37, .getfield 50, 3, [(.null, 4, [0, 97])]),
    (40, .if_icmp .ne 5, 3, [(.null, 45, [0, 2])]),
    (43, .iload_n 2, 1, [(.null, 2, [])]),
    (44, .ireturn, 1, [])]),
  (45, (0, []), [(45, .aload_n 0, 1, [(.null, 0, [])]),
    (46, .getfield 12, 3, [(.null, 5, [0, 158])]),
    (49, .invokevirtual 29, 3, [(.null, 42, [1, 0, 4, 4, 434])]),
    (52, .iinc 2 1, 3, [(.int 1, 2, [])]),
    (55, .goto (-38), 3, [(.null, 17, [0, 2])])]),
  (58, (0, []), [(58, .bipush (-9), 2, [(.int (-9), 0, [])]),
    (60, .ireturn, 1, [])])]
/-- WallsByTheHour$Thought.goingsBetween (LWallsByTheHour$Street;III)I -/
def kd_70 : List (Nat × ax_Bl) := [(0, (11, [0, 2, 3, 4, 5, 6]), [(0, .iconst 0, 1, [(.int 0, 0, [])]),
    (1, .istore 5, 2, [(.null, 5, [])]),
    (3, .aload_n 0, 1, [(.null, 0, [])]),
    (4, .aload_n 1, 1, [(.null, 1, [])]),
    (5, .invokevirtual 32, 3, [(.null, 63, [2, 0, 5, 2, 421])]),
    (8, .iconst 0, 1, [(.int 0, 0, [])]),
    (9, .istore 6, 2, [(.null, 6, [])])]),
  (11, (28, [0, 2, 3, 4, 5, 6, 7]), [(11, .iload 6, 2, [(.null, 6, [])]),
    (13, .iload 4, 2, [(.null, 4, [])]),
    (15, .if_icmp .ge 88, 3, [(.null, 103, [5])]),
    (18, .aload_n 0, 1, [(.null, 0, [])]),
    (19, .getfield 12, 3, [(.null, 5, [0, 158])]),
    (22, .invokevirtual 29, 3, [(.null, 42, [1, 0, 4, 4, 434])]),
    (25, .iconst 0, 1, [(.int 0, 0, [])]),
    (26, .istore 7, 2, [(.null, 7, [])])]),
  (28, (76, [0, 2, 3, 4, 5, 6, 7, 8, 9]), [(28, .iload 7, 2, [(.null, 7, [])]),
    (30, .aload_n 0, 1, [(.null, 0, [])]),
    (31, .getfield 12, 3, [(.null, 5, [0, 158])]),
    (34, .getfield 50, 3, [(.null, 4, [0, 97])]),
    (37, .if_icmp .ge 60, 3, [(.null, 97, [0, 2, 3, 4, 5, 6])]),
    (40, .aload_n 0, 1, [(.null, 0, [])]),
    (41, .getfield 12, 3, [(.null, 5, [0, 158])]),
    (44, .getfield 61, 3, [(.null, 4, [8, 119])]),
    (47, .iload 7, 2, [(.null, 7, [])]),
    (49, .iaload, 1, []),
    (50, .istore 8, 2, [(.null, 8, [])]),
    (52, .aload_n 0, 1, [(.null, 0, [])]),
    (53, .getfield 12, 3, [(.null, 5, [0, 158])]),
    (56, .getfield 43, 3, [(.null, 4, [6, 114])]),
    (59, .iload 7, 2, [(.null, 7, [])]),
    (61, .iaload, 1, []),
    (62, .istore 9, 2, [(.null, 9, [])]),
    (64, .iload 8, 2, [(.null, 8, [])]),
    (66, .iload_n 2, 1, [(.null, 2, [])]),
    (67, .if_icmp .ne 9, 3, [(.null, 76, [0, 2, 3, 4, 5, 6, 7, 8, 9])]),
    (70, .iload 9, 2, [(.null, 9, [])]),
    (72, .iload_n 3, 1, [(.null, 3, [])]),
    (73, .if_icmp .eq 15, 3, [(.null, 88, [0, 2, 3, 4, 5, 6, 7])])]),
  (76, (88, [0, 2, 3, 4, 5, 6, 7]), [(76, .iload 8, 2, [(.null, 8, [])]),
    (78, .iload_n 3, 1, [(.null, 3, [])]),
    (79, .if_icmp .ne 12, 3, [(.null, 91, [0, 2, 3, 4, 5, 6, 7])]),
    (82, .iload 9, 2, [(.null, 9, [])]),
    (84, .iload_n 2, 1, [(.null, 2, [])]),
    (85, .if_icmp .ne 6, 3, [(.null, 91, [0, 2, 3, 4, 5, 6, 7])])]),
  (88, (91, [0, 2, 3, 4, 5, 6, 7]), [(88, .iinc 5 1, 3, [(.int 1, 5, [])])]),
  (91, (0, []), [(91, .iinc 7 1, 3, [(.int 1, 7, [])]),
    (94, .goto (-66), 3, [(.null, 28, [0, 2, 3, 4, 5, 6, 7])])]),
  (97, (0, []), [(97, .iinc 6 1, 3, [(.int 1, 6, [])]),
    (100, .goto (-89), 3, [(.null, 11, [0, 2, 3, 4, 5, 6])])]),
  (103, (0, []), [(103, .iload 5, 2, [(.null, 5, [])]),
    (105, .ireturn, 1, [])])]
/-- WallsByTheHour$Thought.bestLoan (LWallsByTheHour$Street;I)I -/
def kd_71 : List (Nat × ax_Bl) := [(0, (25, [0, 1, 2, 3, 4, 5]), [(0, .bipush (-9), 2, [(.int (-9), 0, [])]),
    (2, .istore_n 3, 1, [(.null, 3, [])]),
    (3, .aload_n 0, 1, [(.null, 0, [])]),
    (4, .aload_n 1, 1, [(.null, 1, [])]),
    (5, .invokevirtual 32, 3, [(.null, 63, [2, 0, 5, 2, 421])]),
    (8, .aload_n 0, 1, [(.null, 0, [])]),
    (9, .iload_n 2, 1, [(.null, 2, [])]),
    (10, .invokevirtual 35, 3, [(.null, 64, [2, 0, 5, 3, 431])]),
    (13, .aload_n 0, 1, [(.null, 0, [])]),
    (14, .getfield 12, 3, [(.null, 5, [0, 158])]),
    (17, .invokevirtual 64, 3, [(.null, 52, [1, 1, 4, 3, 505])]),
    (20, .istore 4, 2, [(.null, 4, [])]),
    (22, .iconst 0, 1, [(.int 0, 0, [])]),
    (23, .istore 5, 2, [(.null, 5, [])])]),
  (25, (37, [0, 1, 2, 3, 4, 5, 6]), [(25, .iload 5, 2, [(.null, 5, [])]),
    (27, .aload_n 1, 1, [(.null, 1, [])]),
    (28, .getfield 50, 3, [(.null, 4, [0, 97])]),
    (31, .if_icmp .ge 76, 3, [(.null, 107, [3])]),
    (34, .iconst 0, 1, [(.int 0, 0, [])]),
    (35, .istore 6, 2, [(.null, 6, [])])]),
  (37, (95, [0, 1, 2, 3, 4, 5, 6]), [(37, .iload 6, 2, [(.null, 6, [])]),
    (39, .bipush 8, 2, [(.int 8, 0, [])]),
    (41, .if_icmp .ge 60, 3, [(.null, 101, [0, 1, 2, 3, 4, 5])]),
    (44, .aload_n 0, 1, [(.null, 0, [])]),
    (45, .aload_n 1, 1, [(.null, 1, [])]),
    (46, .invokevirtual 32, 3, [(.null, 63, [2, 0, 5, 2, 421])]),
    (49, .aload_n 0, 1, [(.null, 0, [])]),
    (50, .getfield 12, 3, [(.null, 5, [0, 158])]),
    (53, .iload 5, 2, [(.null, 5, [])]),
    (55, .iload 6, 2, [(.null, 6, [])]),
    (57, .invokevirtual 67, 3, [(.null, 37, [3, 0, 4, 3, 506])]),
    (60, .aload_n 0, 1, [(.null, 0, [])]),
    (61, .iload_n 2, 1, [(.null, 2, [])]),
    (62, .invokevirtual 35, 3, [(.null, 64, [2, 0, 5, 3, 431])]),
    (65, .aload_n 0, 1, [(.null, 0, [])]),
    (66, .getfield 12, 3, [(.null, 5, [0, 158])]),
    (69, .invokevirtual 64, 3, [(.null, 52, [1, 1, 4, 3, 505])]),
    (72, .iload 4, 2, [(.null, 4, [])]),
    (74, .if_icmp .ge 21, 3, [(.null, 95, [0, 1, 2, 3, 4, 5, 6])]),
    (77, .bipush 10, 2, [(.int 10, 0, [])]),
    (79, .iload 5, 2, [(.null, 5, [])]),
    (81, .imul, 1, []),
    (82, .iload 6, 2, [(.null, 6, [])]),
    (84, .iadd, 1, []),
    (85, .istore_n 3, 1, [(.null, 3, [])]),
    (86, .aload_n 0, 1, [(.null, 0, [])]),
    (87, .getfield 12, 3, [(.null, 5, [0, 158])]),
    (90, .invokevirtual 64, 3, [(.null, 52, [1, 1, 4, 3, 505])]),
    (93, .istore 4, 2, [(.null, 4, [])])]),
  (95, (0, []), [(95, .iinc 6 1, 3, [(.int 1, 6, [])]),
    (98, .goto (-61), 3, [(.null, 37, [0, 1, 2, 3, 4, 5, 6])])]),
  (101, (0, []), [(101, .iinc 5 1, 3, [(.int 1, 5, [])]),
    (104, .goto (-79), 3, [(.null, 25, [0, 1, 2, 3, 4, 5])])]),
  (107, (0, []), [(107, .iload_n 3, 1, [(.null, 3, [])]),
    (108, .ireturn, 1, [])])]
/-- WallsByTheHour$Thought.settledPair (LWallsByTheHour$Street;III)I -/
def kd_72 : List (Nat × ax_Bl) := [(0, (3, [0, 1, 2, 3, 4, 5]), [(0, .iconst 0, 1, [(.int 0, 0, [])]),
    (1, .istore 5, 2, [(.null, 5, [])])]),
  (3, (37, [0, 1, 2, 3, 4, 5]), [(3, .iload 5, 2, [(.null, 5, [])]),
    (5, .iconst 4, 1, [(.int 4, 0, [])]),
    (6, .if_icmp .ge 106, 3, [(.null, 112, [0])]),
    (9, .aload_n 0, 1, [(.null, 0, [])]),
    (10, .aload_n 1, 1, [(.null, 1, [])]),
    (11, .invokevirtual 32, 3, [(.null, 63, [2, 0, 5, 2, 421])]),
    (14, .iload 5, 2, [(.null, 5, [])]),
    (16, .iconst 1, 1, [(.int 1, 0, [])]),
    (17, .invokestatic 71, 3, [(.null, 131, [2, 1, 99, 2, 5012])]),
    (20, .ifCond .eq 17, 3, [(.null, 37, [0, 1, 2, 3, 4, 5])]),
    (23, .aload_n 0, 1, [(.null, 0, [])]),
    (24, .getfield 12, 3, [(.null, 5, [0, 158])]),
    (27, .iload_n 2, 1, [(.null, 2, [])]),
    (28, .aload_n 1, 1, [(.null, 1, [])]),
    (29, .getfield 75, 3, [(.null, 4, [5, 110])]),
    (32, .iload_n 2, 1, [(.null, 2, [])]),
    (33, .iaload, 1, []),
    (34, .invokevirtual 67, 3, [(.null, 37, [3, 0, 4, 3, 506])])]),
  (37, (60, [0, 1, 2, 3, 4, 5]), [(37, .iload 5, 2, [(.null, 5, [])]),
    (39, .iconst 0, 1, [(.int 0, 0, [])]),
    (40, .invokestatic 71, 3, [(.null, 131, [2, 1, 99, 2, 5012])]),
    (43, .ifCond .eq 17, 3, [(.null, 60, [0, 1, 2, 3, 4, 5])]),
    (46, .aload_n 0, 1, [(.null, 0, [])]),
    (47, .getfield 12, 3, [(.null, 5, [0, 158])]),
    (50, .iload_n 3, 1, [(.null, 3, [])]),
    (51, .aload_n 1, 1, [(.null, 1, [])]),
    (52, .getfield 75, 3, [(.null, 4, [5, 110])]),
    (55, .iload_n 3, 1, [(.null, 3, [])]),
    (56, .iaload, 1, []),
    (57, .invokevirtual 67, 3, [(.null, 37, [3, 0, 4, 3, 506])])]),
  (60, (0, []), [(60, .aload_n 0, 1, [(.null, 0, [])]),
    (61, .iload 4, 2, [(.null, 4, [])]),
    (63, .invokevirtual 35, 3, [(.null, 64, [2, 0, 5, 3, 431])]),
    (66, .aload_n 0, 1, [(.null, 0, [])]),
    (67, .getfield 18, 3, [(.null, 5, [1, 159])]),
    (70, .iload 5, 2, [(.null, 5, [])]),
    (72, .aload_n 0, 1, [(.null, 0, [])]),
    (73, .getfield 12, 3, [(.null, 5, [0, 158])]),
    (76, .aload_n 1, 1, [(.null, 1, [])]),
    (77, .getfield 75, 3, [(.null, 4, [5, 110])]),
    (80, .iload_n 2, 1, [(.null, 2, [])]),
    (81, .iaload, 1, []),
    (82, .invokevirtual 46, 3, [(.null, 50, [2, 1, 4, 2, 467])]),
    (85, .iastore, 1, []),
    (86, .aload_n 0, 1, [(.null, 0, [])]),
    (87, .getfield 22, 3, [(.null, 5, [2, 160])]),
    (90, .iload 5, 2, [(.null, 5, [])]),
    (92, .aload_n 0, 1, [(.null, 0, [])]),
    (93, .getfield 12, 3, [(.null, 5, [0, 158])]),
    (96, .aload_n 1, 1, [(.null, 1, [])]),
    (97, .getfield 75, 3, [(.null, 4, [5, 110])]),
    (100, .iload_n 3, 1, [(.null, 3, [])]),
    (101, .iaload, 1, []),
    (102, .invokevirtual 46, 3, [(.null, 50, [2, 1, 4, 2, 467])]),
    (105, .iastore, 1, []),
    (106, .iinc 5 1, 3, [(.int 1, 5, [])]),
    (109, .goto (-106), 3, [(.null, 3, [0, 1, 2, 3, 4, 5])])]),
  (112, (115, [0, 5]), [(112, .iconst 0, 1, [(.int 0, 0, [])]),
    (113, .istore 5, 2, [(.null, 5, [])])]),
  (115, (0, []), [(115, .iload 5, 2, [(.null, 5, [])]),
    (117, .iconst 4, 1, [(.int 4, 0, [])]),
    (118, .if_icmp .ge 60, 3, [(.null, 178, [])]),
    (121, .aload_n 0, 1, [(.null, 0, [])]),
    (122, .getfield 18, 3, [(.null, 5, [1, 159])]),
    (125, .iload 5, 2, [(.null, 5, [])]),
    (127, .iaload, 1, []),
    (128, .aload_n 0, 1, [(.null, 0, [])]),
    (129, .getfield 18, 3, [(.null, 5, [1, 159])]),
    (132, .iload 5, 2, [(.null, 5, [])]),
    (134, .iconst 2, 1, [(.int 2, 0, [])]),
    (135, .ixor, 1, []),
    (136, .iaload, 1, []),
    (137, .if_icmp .gt 35, 3, [(.null, 172, [0, 5])]),
    (140, .aload_n 0, 1, [(.null, 0, [])]),
    (141, .getfield 22, 3, [(.null, 5, [2, 160])]),
    (144, .iload 5, 2, [(.null, 5, [])]),
    (146, .iaload, 1, []),
    (147, .aload_n 0, 1, [(.null, 0, [])]),
    (148, .getfield 22, 3, [(.null, 5, [2, 160])]),
    (151, .iload 5, 2, [(.null, 5, [])]),
    (153, .iconst 1, 1, [(.int 1, 0, [])]),
    (154, .ixor, 1, []),
    (155, .iaload, 1, []),
    (156, .if_icmp .gt 16, 3, [(.null, 172, [0, 5])]),
    (159, .bipush 10, 2, [(.int 10, 0, [])]),
    (161, .iload 5, 2, [(.null, 5, [])]),
    (163, .iconst 2, 1, [(.int 2, 0, [])]),
    (164, .idiv, 1, []),
    (165, .imul, 1, []),
    (166, .iload 5, 2, [(.null, 5, [])]),
    (168, .iconst 2, 1, [(.int 2, 0, [])]),
    (169, .irem, 1, []),
    (170, .iadd, 1, []),
    (171, .ireturn, 1, [])]),
  (172, (0, []), [(172, .iinc 5 1, 3, [(.int 1, 5, [])]),
    (175, .goto (-60), 3, [(.null, 115, [0, 5])])]),
  (178, (0, []), [(178, .bipush (-9), 2, [(.int (-9), 0, [])]),
    (180, .ireturn, 1, [])])]
/-- WallsByTheHour$Thought.seenWeight (LWallsByTheHour$Street;III)J -/
def kd_73 : List (Nat × ax_Bl) := [(0, (6, [0, 1, 2, 3, 4, 5, 7]), [(0, .lconst 0, 1, [(.long 0, 0, [])]),
    (1, .lstore 5, 2, [(.null, 5, [])]),
    (3, .iconst 0, 1, [(.int 0, 0, [])]),
    (4, .istore 7, 2, [(.null, 7, [])])]),
  (6, (22, [0, 1, 2, 3, 4, 5, 7, 8]), [(6, .iload 7, 2, [(.null, 7, [])]),
    (8, .iconst 1, 1, [(.int 1, 0, [])]),
    (9, .iload_n 3, 1, [(.null, 3, [])]),
    (10, .ishl, 1, []),
    (11, .if_icmp .ge 88, 3, [(.null, 99, [5])]),
    (14, .aload_n 0, 1, [(.null, 0, [])]),
    (15, .aload_n 1, 1, [(.null, 1, [])]),
    (16, .invokevirtual 32, 3, [(.null, 63, [2, 0, 5, 2, 421])]),
    (19, .iconst 0, 1, [(.int 0, 0, [])]),
    (20, .istore 8, 2, [(.null, 8, [])])]),
  (22, (0, []), [(22, .iload 8, 2, [(.null, 8, [])]),
    (24, .iload_n 3, 1, [(.null, 3, [])]),
    (25, .if_icmp .ge 38, 3, [(.null, 63, [0, 1, 2, 3, 4, 5, 7])]),
    (28, .aload_n 0, 1, [(.null, 0, [])]),
    (29, .getfield 12, 3, [(.null, 5, [0, 158])]),
    (32, .iload 7, 2, [(.null, 7, [])]),
    (34, .iload 8, 2, [(.null, 8, [])]),
    (36, .invokestatic 71, 3, [(.null, 131, [2, 1, 99, 2, 5012])]),
    (39, .ifCond .eq 7, 3, [(.null, 46, [0, 1, 2, 3, 4, 5, 7, 8])]),
    (42, .iconst 2, 1, [(.int 2, 0, [])]),
    (43, .goto 4, 3, [(.null, 47, [0, 1, 2, 3, 4, 5, 7, 8])])]),
  (46, (47, [0, 1, 2, 3, 4, 5, 7, 8]), [(46, .iconst 0, 1, [(.int 0, 0, [])])]),
  (47, (0, []), [(47, .putfield 78, 3, [(.null, 4, [2, 101])]),
    (50, .aload_n 0, 1, [(.null, 0, [])]),
    (51, .getfield 12, 3, [(.null, 5, [0, 158])]),
    (54, .invokevirtual 29, 3, [(.null, 42, [1, 0, 4, 4, 434])]),
    (57, .iinc 8 1, 3, [(.int 1, 8, [])]),
    (60, .goto (-38), 3, [(.null, 22, [0, 1, 2, 3, 4, 5, 7, 8])])]),
  (63, (93, [0, 1, 2, 3, 4, 5, 7]), [(63, .aload_n 0, 1, [(.null, 0, [])]),
    (64, .getfield 12, 3, [(.null, 5, [0, 158])]),
    (67, .iload_n 2, 1, [(.null, 2, [])]),
    (68, .invokevirtual 46, 3, [(.null, 50, [2, 1, 4, 2, 467])]),
    (71, .ifCond .le 22, 3, [(.null, 93, [0, 1, 2, 3, 4, 5, 7])]),
    (74, .lload 5, 2, [(.null, 5, [])]),
    (76, .iload 4, 2, [(.null, 4, [])]),
    (78, .iconst 1, 1, [(.int 1, 0, [])]),
    (79, .isub, 1, []),
    (80, .iload_n 3, 1, [(.null, 3, [])]),
    (81, .iload 7, 2, [(.null, 7, [])]),
    (83, .invokestatic 58, 3, [(.null, 132, [1, 1, 99, 1, 5011])]),
    (86, .isub, 1, []),
    (87, .invokestatic 81, 3, [(.null, 133, [2, 2, 99, 5, 5013])]),
    (90, .ladd, 1, []),
    (91, .lstore 5, 2, [(.null, 5, [])])]),
  (93, (0, []), [(93, .iinc 7 1, 3, [(.int 1, 7, [])]),
    (96, .goto (-90), 3, [(.null, 6, [0, 1, 2, 3, 4, 5, 7])])]),
  (99, (0, []), [(99, .lload 5, 2, [(.null, 5, [])]),
    (101, .lreturn, 1, [])])]
/-- WallsByTheHour$Thought.fittingKinds (LWallsByTheHour$Street;ILWallsByTheHour$Row;)I -/
def kd_74 : List (Nat × ax_Bl) := [(0, (6, [0, 1, 2, 3, 4, 5]), [(0, .iconst 0, 1, [(.int 0, 0, [])]),
    (1, .istore 4, 2, [(.null, 4, [])]),
    (3, .iconst 0, 1, [(.int 0, 0, [])]),
    (4, .istore 5, 2, [(.null, 5, [])])]),
  (6, (52, [0, 1, 2, 3, 4, 5]), [(6, .iload 5, 2, [(.null, 5, [])]),
    (8, .bipush 6, 2, [(.int 6, 0, [])]),
    (10, .if_icmp .ge 48, 3, [(.null, 58, [4])]),
    (13, .aload_n 0, 1, [(.null, 0, [])]),
    (14, .aload_n 1, 1, [(.null, 1, [])]),
    (15, .invokevirtual 32, 3, [(.null, 63, [2, 0, 5, 2, 421])]),
    (18, .aload_n 0, 1, [(.null, 0, [])]),
    (19, .getfield 12, 3, [(.null, 5, [0, 158])]),
    (22, .iload_n 2, 1, [(.null, 2, [])]),
    (23, .iload 5, 2, [(.null, 5, [])]),
    (25, .aload_n 1, 1, [(.null, 1, [])]),
    (26, .getfield 85, 3, [(.null, 4, [4, 107])]),
    (29, .iload_n 2, 1, [(.null, 2, [])]),
    (30, .iaload, 1, []),
    (31, .invokevirtual 88, 3, [(.null, 39, [4, 0, 4, 4, 713])]),
    (34, .aload_n 0, 1, [(.null, 0, [])]),
    (35, .iload_n 2, 1, [(.null, 2, [])]),
    (36, .aload_n 3, 1, [(.null, 3, [])]),
    (37, .invokevirtual 92, 3, [(.null, 76, [3, 1, 5, 4, 714])]),
    (40, .ifCond .eq 12, 3, [(.null, 52, [0, 1, 2, 3, 4, 5])]),
    (43, .iload 4, 2, [(.null, 4, [])]),
    (45, .iconst 1, 1, [(.int 1, 0, [])]),
    (46, .iload 5, 2, [(.null, 5, [])]),
    (48, .ishl, 1, []),
    (49, .ior, 1, []),
    (50, .istore 4, 2, [(.null, 4, [])])]),
  (52, (0, []), [(52, .iinc 5 1, 3, [(.int 1, 5, [])]),
    (55, .goto (-49), 3, [(.null, 6, [0, 1, 2, 3, 4, 5])])]),
  (58, (0, []), [(58, .iload 4, 2, [(.null, 4, [])]),
    (60, .ireturn, 1, [])])]
/-- WallsByTheHour$Thought.fittingFigures (LWallsByTheHour$Street;ILWallsByTheHour$Row;)I -/
def kd_75 : List (Nat × ax_Bl) := [(0, (6, [0, 1, 2, 3, 4, 5]), [(0, .iconst 0, 1, [(.int 0, 0, [])]),
    (1, .istore 4, 2, [(.null, 4, [])]),
    (3, .iconst 0, 1, [(.int 0, 0, [])]),
    (4, .istore 5, 2, [(.null, 5, [])])]),
  (6, (52, [0, 1, 2, 3, 4, 5]), [(6, .iload 5, 2, [(.null, 5, [])]),
    (8, .bipush 9, 2, [(.int 9, 0, [])]),
    (10, .if_icmp .gt 48, 3, [(.null, 58, [4])]),
    (13, .aload_n 0, 1, [(.null, 0, [])]),
    (14, .aload_n 1, 1, [(.null, 1, [])]),
    (15, .invokevirtual 32, 3, [(.null, 63, [2, 0, 5, 2, 421])]),
    (18, .aload_n 0, 1, [(.null, 0, [])]),
    (19, .getfield 12, 3, [(.null, 5, [0, 158])]),
    (22, .iload_n 2, 1, [(.null, 2, [])]),
    (23, .aload_n 1, 1, [(.null, 1, [])]),
    (24, .getfield 96, 3, [(.null, 4, [3, 104])]),
    (27, .iload_n 2, 1, [(.null, 2, [])]),
    (28, .iaload, 1, []),
    (29, .iload 5, 2, [(.null, 5, [])]),
    (31, .invokevirtual 88, 3, [(.null, 39, [4, 0, 4, 4, 713])]),
    (34, .aload_n 0, 1, [(.null, 0, [])]),
    (35, .iload_n 2, 1, [(.null, 2, [])]),
    (36, .aload_n 3, 1, [(.null, 3, [])]),
    (37, .invokevirtual 92, 3, [(.null, 76, [3, 1, 5, 4, 714])]),
    (40, .ifCond .eq 12, 3, [(.null, 52, [0, 1, 2, 3, 4, 5])]),
    (43, .iload 4, 2, [(.null, 4, [])]),
    (45, .iconst 1, 1, [(.int 1, 0, [])]),
    (46, .iload 5, 2, [(.null, 5, [])]),
    (48, .ishl, 1, []),
    (49, .ior, 1, []),
    (50, .istore 4, 2, [(.null, 4, [])])]),
  (52, (0, []), [(52, .iinc 5 1, 3, [(.int 1, 5, [])]),
    (55, .goto (-49), 3, [(.null, 6, [0, 1, 2, 3, 4, 5])])]),
  (58, (0, []), [(58, .iload 4, 2, [(.null, 4, [])]),
    (60, .ireturn, 1, [])])]
/-- WallsByTheHour$Thought.isWhereTold (ILWallsByTheHour$Row;)Z -/
def kd_76 : List (Nat × ax_Bl) := [(0, (2, [0, 1, 2, 3]), [(0, .iconst 0, 1, [(.int 0, 0, [])]),
    (1, .istore_n 3, 1, [(.null, 3, [])])]),
  (2, (0, []), [(2, .iload_n 3, 1, [(.null, 3, [])]),
    (3, .aload_n 2, 1, [(.null, 2, [])]),
    (4, .getfield 99, 3, [(.null, 3, [1, 150])]),
    (7, .if_icmp .ge 35, 3, [(.null, 42, [])]),
    (10, .aload_n 0, 1, [(.null, 0, [])]),
    (11, .getfield 12, 3, [(.null, 5, [0, 158])]),
    (14, .getfield 43, 3, [(.null, 4, [6, 114])]),
    (17, .iload_n 1, 1, [(.null, 1, [])]),
    (18, .iaload, 1, []),
    (19, .aload_n 2, 1, [(.null, 2, [])]),
    (20, .iload_n 3, 1, [(.null, 3, [])]),
    (21, .invokevirtual 104, 3, [(.null, 34, [2, 1, 3, 2, 717])]),
    (24, .if_icmp .eq 5, 3, [(.null, 29, [0, 1, 2, 3])]),
    (27, .iconst 0, 1, [(.int 0, 0, [])]),
    (28, .ireturn, 1, [])]),
  (29, (0, []), [(29, .aload_n 0, 1, [(.null, 0, [])]),
    (30, .getfield 12, 3, [(.null, 5, [0, 158])]),
    (33, .invokevirtual 29, 3, [(.null, 42, [1, 0, 4, 4, 434])]),
    (36, .iinc 3 1, 3, [(.int 1, 3, [])]),
    (39, .goto (-37), 3, [(.null, 2, [0, 1, 2, 3])])]),
  (42, (0, []), [(42, .iconst 1, 1, [(.int 1, 0, [])]),
    (43, .ireturn, 1, [])])]
/-- WallsByTheHour$Thought.firstNotSo (LWallsByTheHour$Street;LWallsByTheHour$Row;)I -/
def kd_77 : List (Nat × ax_Bl) := [(0, (7, [0, 2, 3]), [(0, .aload_n 0, 1, [(.null, 0, [])]),
    (1, .aload_n 1, 1, [(.null, 1, [])]),
    (2, .invokevirtual 32, 3, [(.null, 63, [2, 0, 5, 2, 421])]),
    (5, .iconst 0, 1, [(.int 0, 0, [])]),
    (6, .istore_n 3, 1, [(.null, 3, [])])]),
  (7, (0, []), [(7, .iload_n 3, 1, [(.null, 3, [])]),
    (8, .aload_n 2, 1, [(.null, 2, [])]),
    (9, .getfield 99, 3, [(.null, 3, [1, 150])]),
    (12, .if_icmp .ge 33, 3, [(.null, 45, [])]),
    (15, .aload_n 0, 1, [(.null, 0, [])]),
    (16, .getfield 12, 3, [(.null, 5, [0, 158])]),
    (19, .invokevirtual 64, 3, [(.null, 52, [1, 1, 4, 3, 505])]),
    (22, .aload_n 2, 1, [(.null, 2, [])]),
    (23, .iload_n 3, 1, [(.null, 3, [])]),
    (24, .invokevirtual 104, 3, [(.null, 34, [2, 1, 3, 2, 717])]),
    (27, .if_icmp .eq 5, 3, [(.null, 32, [0, 2, 3])]),
    (30, .iload_n 3, 1, [(.null, 3, [])]),
    (31, .ireturn, 1, [])]),
  (32, (0, []), [(32, .aload_n 0, 1, [(.null, 0, [])]),
    (33, .getfield 12, 3, [(.null, 5, [0, 158])]),
    (36, .invokevirtual 29, 3, [(.null, 42, [1, 0, 4, 4, 434])]),
    (39, .iinc 3 1, 3, [(.int 1, 3, [])]),
    (42, .goto (-35), 3, [(.null, 7, [0, 2, 3])])]),
  (45, (0, []), [(45, .bipush (-9), 2, [(.int (-9), 0, [])]),
    (47, .ireturn, 1, [])])]
/-- WallsByTheHour$Thought.overLots (LWallsByTheHour$Street;IIZ)I -/
def kd_78 : List (Nat × ax_Bl) := [(0, (9, [0, 1, 2, 4, 5, 6, 7]), [(0, .iload_n 3, 1, [(.null, 3, [])]),
    (1, .istore 5, 2, [(.null, 5, [])]),
    (3, .iconst 0, 1, [(.int 0, 0, [])]),
    (4, .istore 6, 2, [(.null, 6, [])]),
    (6, .iconst 0, 1, [(.int 0, 0, [])]),
    (7, .istore 7, 2, [(.null, 7, [])])]),
  (9, (23, [0, 1, 2, 4, 5, 6, 7, 8]), [(9, .iload 7, 2, [(.null, 7, [])]),
    (11, .iload_n 2, 1, [(.null, 2, [])]),
    (12, .if_icmp .ge 102, 3, [(.null, 114, [6])]),
    (15, .aload_n 0, 1, [(.null, 0, [])]),
    (16, .aload_n 1, 1, [(.null, 1, [])]),
    (17, .invokevirtual 32, 3, [(.null, 63, [2, 0, 5, 2, 421])]),
    (20, .iconst 0, 1, [(.int 0, 0, [])]),
    (21, .istore 8, 2, [(.null, 8, [])])]),
  (23, (0, []), [(23, .iload 8, 2, [(.null, 8, [])]),
    (25, .aload_n 0, 1, [(.null, 0, [])]),
    (26, .getfield 12, 3, [(.null, 5, [0, 158])]),
    (29, .getfield 50, 3, [(.null, 4, [0, 97])]),
    (32, .if_icmp .ge 40, 3, [(.null, 72, [0, 1, 2, 4, 5, 6, 7])]),
    (35, .iload 5, 2, [(.null, 5, [])]),
    (37, .ldc 107, 2, [(.int 1664525, 0, [753])]),
    (39, .imul, 1, []),
    (40, .ldc 108, 2, [(.int 1013904223, 0, [754])]),
    (42, .iadd, 1, []),
    (43, .istore 5, 2, [(.null, 5, [])]),
    (45, .aload_n 0, 1, [(.null, 0, [])]),
    (46, .getfield 12, 3, [(.null, 5, [0, 158])]),
    (49, .iload 8, 2, [(.null, 8, [])]),
    (51, .iload 5, 2, [(.null, 5, [])]),
    (53, .ldc 109, 2, [(.int 2147483647, 0, [755])]),
    (55, .iand, 1, []),
    (56, .sipush 256, 3, [(.int 256, 0, [])]),
    (59, .idiv, 1, []),
    (60, .bipush 8, 2, [(.int 8, 0, [])]),
    (62, .irem, 1, []),
    (63, .invokevirtual 67, 3, [(.null, 37, [3, 0, 4, 3, 506])]),
    (66, .iinc 8 1, 3, [(.int 1, 8, [])]),
    (69, .goto (-46), 3, [(.null, 23, [0, 1, 2, 4, 5, 6, 7, 8])])]),
  (72, (0, []), [(72, .aload_n 0, 1, [(.null, 0, [])]),
    (73, .bipush 6, 2, [(.int 6, 0, [])]),
    (75, .invokevirtual 35, 3, [(.null, 64, [2, 0, 5, 3, 431])]),
    (78, .iload 6, 2, [(.null, 6, [])]),
    (80, .iload 4, 2, [(.null, 4, [])]),
    (82, .ifCond .eq 16, 3, [(.null, 98, [0, 1, 2, 4, 5, 7])]),
    (85, .aload_n 0, 1, [(.null, 0, [])]),
    (86, .getfield 12, 3, [(.null, 5, [0, 158])]),
    (89, .invokevirtual 110, 3, [(.null, 53, [1, 1, 4, 3, 756])]),
    (92, .invokestatic 58, 3, [(.null, 132, [1, 1, 99, 1, 5011])]),
    (95, .goto 10, 3, [(.null, 105, [0, 1, 2, 4, 5, 7])])]),
  (98, (105, [0, 1, 2, 4, 5, 7]), [(98, .aload_n 0, 1, [(.null, 0, [])]),
    (99, .getfield 12, 3, [(.null, 5, [0, 158])]),
    (102, .invokevirtual 64, 3, [(.null, 52, [1, 1, 4, 3, 505])])]),
  (105, (0, []), [(105, .iadd, 1, []),
    (106, .istore 6, 2, [(.null, 6, [])]),
    (108, .iinc 7 1, 3, [(.int 1, 7, [])]),
    (111, .goto (-102), 3, [(.null, 9, [0, 1, 2, 4, 5, 6, 7])])]),
  (114, (0, []), [(114, .iload 6, 2, [(.null, 6, [])]),
    (116, .ireturn, 1, [])])]
/-- WallsByTheHour.letter (I)I -/
def kd_79 : List (Nat × ax_Bl) := [(0, (0, []), [(0, .iload_n 1, 1, [(.null, 1, [])]),
    (1, .ifCond .ge 10, 3, [(.null, 11, [0, 1])]),
    (4, .aload_n 0, 1, [(.null, 0, [])]),
    (5, .bipush (-4), 2, [(.int (-4), 0, [])]),
    (7, .invokevirtual 62, 3, [(.null, 125, [2, 1, 6, 3, 186])]),
    (10, .ireturn, 1, [])]),
  (11, (30, [0]), [(11, .iload_n 1, 1, [(.null, 1, [])]),
    (12, .sipush 255, 3, [(.int 255, 0, [])]),
    (15, .if_icmp .gt 15, 3, [(.null, 30, [0])]),
    (18, .aload_n 0, 1, [(.null, 0, [])]),
    (19, .getfield 33, 3, [(.null, 6, [4, 168])]),
    (22, .getfield 66, 3, [(.null, 2, [1, 145])]),
    (25, .bipush 96, 2, [(.int 96, 0, [])]),
    (27, .if_icmp .lt 10, 3, [(.null, 37, [0, 1])])]),
  (30, (0, []), [(30, .aload_n 0, 1, [(.null, 0, [])]),
    (31, .bipush (-6), 2, [(.int (-6), 0, [])]),
    (33, .invokevirtual 62, 3, [(.null, 125, [2, 1, 6, 3, 186])]),
    (36, .ireturn, 1, [])]),
  (37, (0, []), [(37, .aload_n 0, 1, [(.null, 0, [])]),
    (38, .getfield 33, 3, [(.null, 6, [4, 168])]),
    (41, .iload_n 1, 1, [(.null, 1, [])]),
    (42, .invokevirtual 70, 3, [(.null, 22, [2, 1, 2, 2, 189])]),
    (45, .ireturn, 1, [])])]
/-- WallsByTheHour.street ()I -/
def kd_80 : List (Nat × ax_Bl) := [(0, (29, [0, 1, 2, 3, 4]), [(0, .aload_n 0, 1, [(.null, 0, [])]),
    (1, .getfield 33, 3, [(.null, 6, [4, 168])]),
    (4, .aload_n 0, 1, [(.null, 0, [])]),
    (5, .getfield 10, 3, [(.null, 6, [0, 164])]),
    (8, .getfield 73, 3, [(.null, 4, [0, 96])]),
    (11, .aload_n 0, 1, [(.null, 0, [])]),
    (12, .getfield 10, 3, [(.null, 6, [0, 164])]),
    (15, .getfield 76, 3, [(.null, 4, [1, 99])]),
    (18, .invokevirtual 79, 3, [(.null, 27, [3, 1, 2, 4, 197])]),
    (21, .istore_n 1, 1, [(.null, 1, [])]),
    (22, .iconst 0, 1, [(.int 0, 0, [])]),
    (23, .istore_n 2, 1, [(.null, 2, [])]),
    (24, .iconst 0, 1, [(.int 0, 0, [])]),
    (25, .istore_n 3, 1, [(.null, 3, [])]),
    (26, .iconst 0, 1, [(.int 0, 0, [])]),
    (27, .istore 4, 2, [(.null, 4, [])])]),
  (29, (0, []), [(29, .iload 4, 2, [(.null, 4, [])]),
    (31, .bipush 96, 2, [(.int 96, 0, [])]),
    (33, .if_icmp .ge 46, 3, [(.null, 79, [0, 1, 2])]),
    (36, .iload_n 1, 1, [(.null, 1, [])]),
    (37, .ifCond .ne 42, 3, [(.null, 79, [0, 1, 2])]),
    (40, .iload_n 3, 1, [(.null, 3, [])]),
    (41, .aload_n 0, 1, [(.null, 0, [])]),
    (42, .getfield 33, 3, [(.null, 6, [4, 168])]),
    (45, .getfield 66, 3, [(.null, 2, [1, 145])]),
    (48, .if_icmp .ge 31, 3, [(.null, 79, [0, 1, 2])]),
    (51, .aload_n 0, 1, [(.null, 0, [])]),
    (52, .iload_n 3, 1, [(.null, 3, [])]),
    (53, .invokevirtual 83, 3, [(.null, 81, [2, 0, 6, 5, 274])]),
    (56, .iinc 2 1, 3, [(.int 1, 2, [])]),
    (59, .iload_n 3, 1, [(.null, 3, [])]),
    (60, .aload_n 0, 1, [(.null, 0, [])]),
    (61, .getfield 33, 3, [(.null, 6, [4, 168])]),
    (64, .iload_n 3, 1, [(.null, 3, [])]),
    (65, .invokevirtual 87, 3, [(.null, 23, [2, 1, 2, 2, 278])]),
    (68, .invokestatic 90, 3, [(.null, 26, [1, 1, 99, 1, 355])]),
    (71, .iadd, 1, []),
    (72, .istore_n 3, 1, [(.null, 3, [])]),
    (73, .iinc 4 1, 3, [(.int 1, 4, [])]),
    (76, .goto (-47), 3, [(.null, 29, [0, 1, 2, 3, 4])])]),
  (79, (0, []), [(79, .aload_n 0, 1, [(.null, 0, [])]),
    (80, .getfield 33, 3, [(.null, 6, [4, 168])]),
    (83, .iconst 0, 1, [(.int 0, 0, [])]),
    (84, .putfield 66, 3, [(.null, 2, [1, 145])]),
    (87, .iload_n 1, 1, [(.null, 1, [])]),
    (88, .ifCond .ne 7, 3, [(.null, 95, [1])]),
    (91, .iload_n 2, 1, [(.null, 2, [])]),
    (92, .goto 4, 3, [(.null, 96, [])])]),
  (95, (96, []), [(95, .iload_n 1, 1, [(.null, 1, [])])]),
  (96, (0, []), [(96, .ireturn, 1, [])])]
/-- WallsByTheHour.tell (I)V -/
def kd_81 : List (Nat × ax_Bl) := [(0, (0, []), [(0, .aload_n 0, 1, [(.null, 0, [])]),
    (1, .getfield 33, 3, [(.null, 6, [4, 168])]),
    (4, .iload_n 1, 1, [(.null, 1, [])]),
    (5, .iconst 1, 1, [(.int 1, 0, [])]),
    (6, .iadd, 1, []),
    (7, .invokevirtual 93, 3, [(.null, 24, [2, 1, 2, 2, 277])]),
    (10, .istore_n 2, 1, [(.null, 2, [])]),
    (11, .aload_n 0, 1, [(.null, 0, [])]),
    (12, .getfield 33, 3, [(.null, 6, [4, 168])]),
    (15, .iload_n 1, 1, [(.null, 1, [])]),
    (16, .iconst 2, 1, [(.int 2, 0, [])]),
    (17, .iadd, 1, []),
    (18, .invokevirtual 93, 3, [(.null, 24, [2, 1, 2, 2, 277])]),
    (21, .istore_n 3, 1, [(.null, 3, [])]),
    (22, .aload_n 0, 1, [(.null, 0, [])]),
    (23, .getfield 33, 3, [(.null, 6, [4, 168])]),
    (26, .iload_n 1, 1, [(.null, 1, [])]),
    (27, .invokevirtual 87, 3, [(.null, 23, [2, 1, 2, 2, 278])]),
    (30, .lookupswitch 160 #[(98, 147), (109, 81), (110, 105), (115, 93), (119, 50)], 50, [(.int 98, 177, [0, 2, 3]), (.int 109, 111, [0, 2, 3]), (.int 110, 135, [0, 1, 2]), (.int 115, 123, [0, 2, 3]), (.int 119, 80, [0, 1, 3]), (.null, 190, [0, 2, 3])])]),
  (80, (0, []), [(80, .aload_n 0, 1, [(.null, 0, [])]),
    (81, .getfield 10, 3, [(.null, 6, [0, 164])]),
    (84, .aload_n 0, 1, [(.null, 0, [])]),
    (85, .getfield 33, 3, [(.null, 6, [4, 168])]),
    (88, .iload_n 1, 1, [(.null, 1, [])]),
    (89, .iconst 1, 1, [(.int 1, 0, [])]),
    (90, .iadd, 1, []),
    (91, .invokevirtual 96, 3, [(.null, 25, [2, 1, 2, 2, 279])]),
    (94, .iload_n 3, 1, [(.null, 3, [])]),
    (95, .aload_n 0, 1, [(.null, 0, [])]),
    (96, .getfield 33, 3, [(.null, 6, [4, 168])]),
    (99, .iload_n 1, 1, [(.null, 1, [])]),
    (100, .iconst 3, 1, [(.int 3, 0, [])]),
    (101, .iadd, 1, []),
    (102, .invokevirtual 93, 3, [(.null, 24, [2, 1, 2, 2, 277])]),
    (105, .invokevirtual 99, 3, [(.null, 36, [4, 0, 4, 5, 280])]),
    (108, .goto 92, 3, [(.null, 200, [])])]),
  (111, (0, []), [(111, .aload_n 0, 1, [(.null, 0, [])]),
    (112, .getfield 10, 3, [(.null, 6, [0, 164])]),
    (115, .iload_n 2, 1, [(.null, 2, [])]),
    (116, .iload_n 3, 1, [(.null, 3, [])]),
    (117, .invokevirtual 103, 3, [(.null, 37, [3, 0, 4, 3, 290])]),
    (120, .goto 80, 3, [(.null, 200, [])])]),
  (123, (0, []), [(123, .aload_n 0, 1, [(.null, 0, [])]),
    (124, .getfield 10, 3, [(.null, 6, [0, 164])]),
    (127, .iload_n 2, 1, [(.null, 2, [])]),
    (128, .iload_n 3, 1, [(.null, 3, [])]),
    (129, .invokevirtual 107, 3, [(.null, 38, [3, 0, 4, 3, 298])]),
    (132, .goto 68, 3, [(.null, 200, [])])]),
  (135, (138, [0, 1, 2, 4]), [(135, .iconst 0, 1, [(.int 0, 0, [])]),
    (136, .istore 4, 2, [(.null, 4, [])])]),
  (138, (0, []), [(138, .iload 4, 2, [(.null, 4, [])]),
    (140, .bipush 6, 2, [(.int 6, 0, [])]),
    (142, .if_icmp .ge 32, 3, [(.null, 174, [])]),
    (145, .aload_n 0, 1, [(.null, 0, [])]),
    (146, .getfield 10, 3, [(.null, 6, [0, 164])]),
    (149, .iload_n 2, 1, [(.null, 2, [])]),
    (150, .iload 4, 2, [(.null, 4, [])]),
    (152, .aload_n 0, 1, [(.null, 0, [])]),
    (153, .getfield 33, 3, [(.null, 6, [4, 168])]),
    (156, .iload_n 1, 1, [(.null, 1, [])]),
    (157, .iconst 2, 1, [(.int 2, 0, [])]),
    (158, .iadd, 1, []),
    (159, .iload 4, 2, [(.null, 4, [])]),
    (161, .iadd, 1, []),
    (162, .invokevirtual 93, 3, [(.null, 24, [2, 1, 2, 2, 277])]),
    (165, .invokevirtual 110, 3, [(.null, 40, [4, 0, 4, 4, 302])]),
    (168, .iinc 4 1, 3, [(.int 1, 4, [])]),
    (171, .goto (-33), 3, [(.null, 138, [0, 1, 2, 4])])]),
  (174, (0, []), [(174, .goto 26, 3, [(.null, 200, [])])]),
  (177, (0, []), [(177, .aload_n 0, 1, [(.null, 0, [])]),
    (178, .getfield 10, 3, [(.null, 6, [0, 164])]),
    (181, .iload_n 2, 1, [(.null, 2, [])]),
    (182, .iload_n 3, 1, [(.null, 3, [])]),
    (183, .invokevirtual 113, 3, [(.null, 41, [3, 1, 4, 3, 306])]),
    (186, .pop, 1, []),
    (187, .goto 13, 3, [(.null, 200, [])])]),
  (190, (200, []), [(190, .aload_n 0, 1, [(.null, 0, [])]),
    (191, .bipush 10, 2, [(.int 10, 0, [])]),
    (193, .iload_n 2, 1, [(.null, 2, [])]),
    (194, .imul, 1, []),
    (195, .iload_n 3, 1, [(.null, 3, [])]),
    (196, .iadd, 1, []),
    (197, .invokevirtual 116, 3, [(.null, 82, [2, 0, 6, 3, 312])])]),
  (200, (0, []), [(200, .return_, 1, [])])]
/-- WallsByTheHour.pass (I)V -/
def kd_82 : List (Nat × ax_Bl) := [(0, (2, [0, 1, 2]), [(0, .iconst 0, 1, [(.int 0, 0, [])]),
    (1, .istore_n 2, 1, [(.null, 2, [])])]),
  (2, (0, []), [(2, .iload_n 2, 1, [(.null, 2, [])]),
    (3, .iload_n 1, 1, [(.null, 1, [])]),
    (4, .if_icmp .ge 37, 3, [(.null, 41, [])]),
    (7, .aload_n 0, 1, [(.null, 0, [])]),
    (8, .getfield 10, 3, [(.null, 6, [0, 164])]),
    (11, .invokevirtual 119, 3, [(.null, 42, [1, 0, 4, 4, 315])]),
    (14, .aload_n 0, 1, [(.null, 0, [])]),
    (15, .getfield 22, 3, [(.null, 6, [2, 166])]),
    (18, .aload_n 0, 1, [(.null, 0, [])]),
    (19, .getfield 10, 3, [(.null, 6, [0, 164])]),
    (22, .getfield 76, 3, [(.null, 4, [1, 99])]),
    (25, .aload_n 0, 1, [(.null, 0, [])]),
    (26, .getfield 10, 3, [(.null, 6, [0, 164])]),
    (29, .invokevirtual 122, 3, [(.null, 53, [1, 1, 4, 3, 347])]),
    (32, .invokevirtual 126, 3, [(.null, 14, [3, 0, 1, 3, 351])]),
    (35, .iinc 2 1, 3, [(.int 1, 2, [])]),
    (38, .goto (-36), 3, [(.null, 2, [0, 1, 2])])]),
  (41, (0, []), [(41, .return_, 1, [])])]
/-- WallsByTheHour.wall (II)I -/
def kd_83 : List (Nat × ax_Bl) := [(0, (0, []), [(0, .aload_n 0, 1, [(.null, 0, [])]),
    (1, .getfield 10, 3, [(.null, 6, [0, 164])]),
    (4, .iload_n 1, 1, [(.null, 1, [])]),
    (5, .invokevirtual 129, 3, [(.null, 46, [2, 1, 4, 2, 360])]),
    (8, .ifCond .ne 9, 3, [(.null, 17, [0, 1, 2])]),
    (11, .aload_n 0, 1, [(.null, 0, [])]),
    (12, .iconst (-1), 1, [(.int (-1), 0, [])]),
    (13, .invokevirtual 62, 3, [(.null, 125, [2, 1, 6, 3, 186])]),
    (16, .ireturn, 1, [])]),
  (17, (0, []), [(17, .iload_n 2, 1, [(.null, 2, [])]),
    (18, .tableswitch 98 0 5 #[38, 48, 58, 68, 78, 88], 38, [(.int 0, 56, [0, 1]), (.int 1, 66, [0, 1]), (.int 2, 76, [0, 1]), (.int 3, 86, [0, 1]), (.int 4, 96, [0, 1]), (.int 5, 106, [0, 1]), (.null, 116, [0])])]),
  (56, (0, []), [(56, .aload_n 0, 1, [(.null, 0, [])]),
    (57, .getfield 10, 3, [(.null, 6, [0, 164])]),
    (60, .getfield 133, 3, [(.null, 4, [3, 103])]),
    (63, .iload_n 1, 1, [(.null, 1, [])]),
    (64, .iaload, 1, []),
    (65, .ireturn, 1, [])]),
  (66, (0, []), [(66, .aload_n 0, 1, [(.null, 0, [])]),
    (67, .getfield 10, 3, [(.null, 6, [0, 164])]),
    (70, .getfield 136, 3, [(.null, 4, [4, 106])]),
    (73, .iload_n 1, 1, [(.null, 1, [])]),
    (74, .iaload, 1, []),
    (75, .ireturn, 1, [])]),
  (76, (0, []), [(76, .aload_n 0, 1, [(.null, 0, [])]),
    (77, .getfield 10, 3, [(.null, 6, [0, 164])]),
    (80, .getfield 139, 3, [(.null, 4, [5, 109])]),
    (83, .iload_n 1, 1, [(.null, 1, [])]),
    (84, .iaload, 1, []),
    (85, .ireturn, 1, [])]),
  (86, (0, []), [(86, .aload_n 0, 1, [(.null, 0, [])]),
    (87, .getfield 10, 3, [(.null, 6, [0, 164])]),
    (90, .getfield 142, 3, [(.null, 4, [6, 115])]),
    (93, .iload_n 1, 1, [(.null, 1, [])]),
    (94, .iaload, 1, []),
    (95, .ireturn, 1, [])]),
  (96, (0, []), [(96, .aload_n 0, 1, [(.null, 0, [])]),
    (97, .getfield 10, 3, [(.null, 6, [0, 164])]),
    (100, .getfield 145, 3, [(.null, 4, [7, 117])]),
    (103, .iload_n 1, 1, [(.null, 1, [])]),
    (104, .iaload, 1, []),
    (105, .ireturn, 1, [])]),
  (106, (0, []), [(106, .aload_n 0, 1, [(.null, 0, [])]),
    (107, .getfield 10, 3, [(.null, 6, [0, 164])]),
    (110, .getfield 148, 3, [(.null, 4, [11, 125])]),
    (113, .iload_n 1, 1, [(.null, 1, [])]),
    (114, .iaload, 1, []),
    (115, .ireturn, 1, [])]),
  (116, (0, []), [(116, .aload_n 0, 1, [(.null, 0, [])]),
    (117, .bipush (-2), 2, [(.int (-2), 0, [])]),
    (119, .invokevirtual 62, 3, [(.null, 125, [2, 1, 6, 3, 186])]),
    (122, .ireturn, 1, [])])]
/-- WallsByTheHour.house (II)I -/
def kd_84 : List (Nat × ax_Bl) := [(0, (0, []), [(0, .iload_n 1, 1, [(.null, 1, [])]),
    (1, .invokestatic 151, 3, [(.null, 127, [1, 1, 99, 1, 268])]),
    (4, .ifCond .ne 9, 3, [(.null, 13, [0, 1, 2])]),
    (7, .aload_n 0, 1, [(.null, 0, [])]),
    (8, .iconst (-1), 1, [(.int (-1), 0, [])]),
    (9, .invokevirtual 62, 3, [(.null, 125, [2, 1, 6, 3, 186])]),
    (12, .ireturn, 1, [])]),
  (13, (0, []), [(13, .iload_n 2, 1, [(.null, 2, [])]),
    (14, .tableswitch 94 0 5 #[38, 47, 57, 66, 75, 84], 38, [(.int 0, 52, [0, 1]), (.int 1, 61, [0, 1]), (.int 2, 71, [0, 1]), (.int 3, 80, [0, 1]), (.int 4, 89, [0, 1]), (.int 5, 98, [0, 1]), (.null, 108, [0])])]),
  (52, (0, []), [(52, .aload_n 0, 1, [(.null, 0, [])]),
    (53, .getfield 10, 3, [(.null, 6, [0, 164])]),
    (56, .iload_n 1, 1, [(.null, 1, [])]),
    (57, .invokevirtual 154, 3, [(.null, 49, [2, 1, 4, 2, 365])]),
    (60, .ireturn, 1, [])]),
  (61, (0, []), [(61, .aload_n 0, 1, [(.null, 0, [])]),
    (62, .getfield 10, 3, [(.null, 6, [0, 164])]),
    (65, .getfield 157, 3, [(.null, 4, [12, 127])]),
    (68, .iload_n 1, 1, [(.null, 1, [])]),
    (69, .iaload, 1, []),
    (70, .ireturn, 1, [])]),
  (71, (0, []), [(71, .aload_n 0, 1, [(.null, 0, [])]),
    (72, .getfield 10, 3, [(.null, 6, [0, 164])]),
    (75, .iload_n 1, 1, [(.null, 1, [])]),
    (76, .invokevirtual 160, 3, [(.null, 50, [2, 1, 4, 2, 366])]),
    (79, .ireturn, 1, [])]),
  (80, (0, []), [(80, .aload_n 0, 1, [(.null, 0, [])]),
    (81, .getfield 10, 3, [(.null, 6, [0, 164])]),
    (84, .iload_n 1, 1, [(.null, 1, [])]),
    (85, .invokevirtual 163, 3, [(.null, 55, [2, 1, 4, 4, 367])]),
    (88, .ireturn, 1, [])]),
  (89, (0, []), [(89, .aload_n 0, 1, [(.null, 0, [])]),
    (90, .getfield 10, 3, [(.null, 6, [0, 164])]),
    (93, .iload_n 1, 1, [(.null, 1, [])]),
    (94, .invokevirtual 166, 3, [(.null, 56, [2, 1, 4, 4, 371])]),
    (97, .ireturn, 1, [])]),
  (98, (0, []), [(98, .aload_n 0, 1, [(.null, 0, [])]),
    (99, .getfield 10, 3, [(.null, 6, [0, 164])]),
    (102, .getfield 169, 3, [(.null, 4, [10, 122])]),
    (105, .iload_n 1, 1, [(.null, 1, [])]),
    (106, .iaload, 1, []),
    (107, .ireturn, 1, [])]),
  (108, (0, []), [(108, .aload_n 0, 1, [(.null, 0, [])]),
    (109, .bipush (-2), 2, [(.int (-2), 0, [])]),
    (111, .invokevirtual 62, 3, [(.null, 125, [2, 1, 6, 3, 186])]),
    (114, .ireturn, 1, [])])]
/-- WallsByTheHour.takes (II)I -/
def kd_85 : List (Nat × ax_Bl) := [(0, (18, [0]), [(0, .aload_n 0, 1, [(.null, 0, [])]),
    (1, .getfield 10, 3, [(.null, 6, [0, 164])]),
    (4, .iload_n 1, 1, [(.null, 1, [])]),
    (5, .invokevirtual 129, 3, [(.null, 46, [2, 1, 4, 2, 360])]),
    (8, .ifCond .eq 10, 3, [(.null, 18, [0])]),
    (11, .iload_n 2, 1, [(.null, 2, [])]),
    (12, .invokestatic 151, 3, [(.null, 127, [1, 1, 99, 1, 268])]),
    (15, .ifCond .ne 9, 3, [(.null, 24, [0, 1, 2])])]),
  (18, (0, []), [(18, .aload_n 0, 1, [(.null, 0, [])]),
    (19, .iconst (-1), 1, [(.int (-1), 0, [])]),
    (20, .invokevirtual 62, 3, [(.null, 125, [2, 1, 6, 3, 186])]),
    (23, .ireturn, 1, [])]),
  (24, (0, []), [(24, .aload_n 0, 1, [(.null, 0, [])]),
    (25, .getfield 10, 3, [(.null, 6, [0, 164])]),
    (28, .getfield 142, 3, [(.null, 4, [6, 115])]),
    (31, .iload_n 1, 1, [(.null, 1, [])]),
    (32, .iaload, 1, []),
    (33, .istore_n 3, 1, [(.null, 3, [])]),
    (34, .aload_n 0, 1, [(.null, 0, [])]),
    (35, .getfield 10, 3, [(.null, 6, [0, 164])]),
    (38, .iload_n 1, 1, [(.null, 1, [])]),
    (39, .iload_n 2, 1, [(.null, 2, [])]),
    (40, .invokevirtual 103, 3, [(.null, 37, [3, 0, 4, 3, 290])]),
    (43, .iload_n 3, 1, [(.null, 3, [])]),
    (44, .ireturn, 1, [])])]
/-- WallsByTheHour.sells (II)I -/
def kd_86 : List (Nat × ax_Bl) := [(0, (18, [0]), [(0, .aload_n 0, 1, [(.null, 0, [])]),
    (1, .getfield 10, 3, [(.null, 6, [0, 164])]),
    (4, .iload_n 1, 1, [(.null, 1, [])]),
    (5, .invokevirtual 129, 3, [(.null, 46, [2, 1, 4, 2, 360])]),
    (8, .ifCond .eq 10, 3, [(.null, 18, [0])]),
    (11, .iload_n 2, 1, [(.null, 2, [])]),
    (12, .invokestatic 151, 3, [(.null, 127, [1, 1, 99, 1, 268])]),
    (15, .ifCond .ne 9, 3, [(.null, 24, [0, 1, 2])])]),
  (18, (0, []), [(18, .aload_n 0, 1, [(.null, 0, [])]),
    (19, .iconst (-1), 1, [(.int (-1), 0, [])]),
    (20, .invokevirtual 62, 3, [(.null, 125, [2, 1, 6, 3, 186])]),
    (23, .ireturn, 1, [])]),
  (24, (0, []), [(24, .aload_n 0, 1, [(.null, 0, [])]),
    (25, .getfield 10, 3, [(.null, 6, [0, 164])]),
    (28, .getfield 139, 3, [(.null, 4, [5, 109])]),
    (31, .iload_n 1, 1, [(.null, 1, [])]),
    (32, .iaload, 1, []),
    (33, .istore_n 3, 1, [(.null, 3, [])]),
    (34, .aload_n 0, 1, [(.null, 0, [])]),
    (35, .getfield 10, 3, [(.null, 6, [0, 164])]),
    (38, .iload_n 1, 1, [(.null, 1, [])]),
    (39, .iload_n 2, 1, [(.null, 2, [])]),
    (40, .invokevirtual 107, 3, [(.null, 38, [3, 0, 4, 3, 298])]),
    (43, .iload_n 3, 1, [(.null, 3, [])]),
    (44, .ireturn, 1, [])])]
/-- WallsByTheHour.needs (III)I -/
def kd_87 : List (Nat × ax_Bl) := [(0, (0, []), [(0, .iload_n 1, 1, [(.null, 1, [])]),
    (1, .invokestatic 151, 3, [(.null, 127, [1, 1, 99, 1, 268])]),
    (4, .ifCond .ne 9, 3, [(.null, 13, [0, 1, 2, 3])]),
    (7, .aload_n 0, 1, [(.null, 0, [])]),
    (8, .iconst (-1), 1, [(.int (-1), 0, [])]),
    (9, .invokevirtual 62, 3, [(.null, 125, [2, 1, 6, 3, 186])]),
    (12, .ireturn, 1, [])]),
  (13, (23, [0]), [(13, .iload_n 2, 1, [(.null, 2, [])]),
    (14, .ifCond .lt 9, 3, [(.null, 23, [0])]),
    (17, .iload_n 2, 1, [(.null, 2, [])]),
    (18, .bipush 6, 2, [(.int 6, 0, [])]),
    (20, .if_icmp .lt 10, 3, [(.null, 30, [0, 1, 2, 3])])]),
  (23, (0, []), [(23, .aload_n 0, 1, [(.null, 0, [])]),
    (24, .bipush (-2), 2, [(.int (-2), 0, [])]),
    (26, .invokevirtual 62, 3, [(.null, 125, [2, 1, 6, 3, 186])]),
    (29, .ireturn, 1, [])]),
  (30, (0, []), [(30, .iload_n 3, 1, [(.null, 3, [])]),
    (31, .iconst 0, 1, [(.int 0, 0, [])]),
    (32, .bipush 9, 2, [(.int 9, 0, [])]),
    (34, .invokestatic 172, 3, [(.null, 129, [3, 1, 99, 3, 387])]),
    (37, .istore 4, 2, [(.null, 4, [])]),
    (39, .iload 4, 2, [(.null, 4, [])]),
    (41, .ifCond .eq 10, 3, [(.null, 51, [0, 1, 2, 3])]),
    (44, .aload_n 0, 1, [(.null, 0, [])]),
    (45, .iload 4, 2, [(.null, 4, [])]),
    (47, .invokevirtual 62, 3, [(.null, 125, [2, 1, 6, 3, 186])]),
    (50, .ireturn, 1, [])]),
  (51, (0, []), [(51, .aload_n 0, 1, [(.null, 0, [])]),
    (52, .getfield 10, 3, [(.null, 6, [0, 164])]),
    (55, .iload_n 1, 1, [(.null, 1, [])]),
    (56, .iload_n 2, 1, [(.null, 2, [])]),
    (57, .invokevirtual 176, 3, [(.null, 48, [3, 1, 4, 3, 388])]),
    (60, .istore 5, 2, [(.null, 5, [])]),
    (62, .aload_n 0, 1, [(.null, 0, [])]),
    (63, .getfield 10, 3, [(.null, 6, [0, 164])]),
    (66, .iload_n 1, 1, [(.null, 1, [])]),
    (67, .iload_n 2, 1, [(.null, 2, [])]),
    (68, .iload_n 3, 1, [(.null, 3, [])]),
    (69, .invokevirtual 110, 3, [(.null, 40, [4, 0, 4, 4, 302])]),
    (72, .iload 5, 2, [(.null, 5, [])]),
    (74, .ireturn, 1, [])])]
/-- WallsByTheHour.bars (II)I -/
def kd_88 : List (Nat × ax_Bl) := [(0, (0, []), [(0, .iload_n 1, 1, [(.null, 1, [])]),
    (1, .iload_n 2, 1, [(.null, 2, [])]),
    (2, .invokestatic 179, 3, [(.null, 128, [2, 1, 99, 2, 396])]),
    (5, .ifCond .ne 9, 3, [(.null, 14, [0, 1, 2])]),
    (8, .aload_n 0, 1, [(.null, 0, [])]),
    (9, .iconst (-1), 1, [(.int (-1), 0, [])]),
    (10, .invokevirtual 62, 3, [(.null, 125, [2, 1, 6, 3, 186])]),
    (13, .ireturn, 1, [])]),
  (14, (0, []), [(14, .aload_n 0, 1, [(.null, 0, [])]),
    (15, .getfield 10, 3, [(.null, 6, [0, 164])]),
    (18, .iload_n 1, 1, [(.null, 1, [])]),
    (19, .iload_n 2, 1, [(.null, 2, [])]),
    (20, .invokevirtual 113, 3, [(.null, 41, [3, 1, 4, 3, 306])]),
    (23, .ireturn, 1, [])])]
/-- WallsByTheHour.turn (III)I -/
def kd_89 : List (Nat × ax_Bl) := [(0, (0, []), [(0, .aload_n 0, 1, [(.null, 0, [])]),
    (1, .getfield 10, 3, [(.null, 6, [0, 164])]),
    (4, .iload_n 1, 1, [(.null, 1, [])]),
    (5, .invokevirtual 129, 3, [(.null, 46, [2, 1, 4, 2, 360])]),
    (8, .ifCond .ne 9, 3, [(.null, 17, [0, 1, 2, 3])]),
    (11, .aload_n 0, 1, [(.null, 0, [])]),
    (12, .iconst (-1), 1, [(.int (-1), 0, [])]),
    (13, .invokevirtual 62, 3, [(.null, 125, [2, 1, 6, 3, 186])]),
    (16, .ireturn, 1, [])]),
  (17, (27, [0]), [(17, .iload_n 2, 1, [(.null, 2, [])]),
    (18, .ifCond .lt 9, 3, [(.null, 27, [0])]),
    (21, .iload_n 2, 1, [(.null, 2, [])]),
    (22, .bipush 6, 2, [(.int 6, 0, [])]),
    (24, .if_icmp .lt 10, 3, [(.null, 34, [0, 1, 2, 3])])]),
  (27, (0, []), [(27, .aload_n 0, 1, [(.null, 0, [])]),
    (28, .bipush (-2), 2, [(.int (-2), 0, [])]),
    (30, .invokevirtual 62, 3, [(.null, 125, [2, 1, 6, 3, 186])]),
    (33, .ireturn, 1, [])]),
  (34, (0, []), [(34, .iload_n 3, 1, [(.null, 3, [])]),
    (35, .iconst 0, 1, [(.int 0, 0, [])]),
    (36, .bipush 9, 2, [(.int 9, 0, [])]),
    (38, .invokestatic 172, 3, [(.null, 129, [3, 1, 99, 3, 387])]),
    (41, .istore 4, 2, [(.null, 4, [])]),
    (43, .iload 4, 2, [(.null, 4, [])]),
    (45, .ifCond .eq 10, 3, [(.null, 55, [0, 1, 2, 3])]),
    (48, .aload_n 0, 1, [(.null, 0, [])]),
    (49, .iload 4, 2, [(.null, 4, [])]),
    (51, .invokevirtual 62, 3, [(.null, 125, [2, 1, 6, 3, 186])]),
    (54, .ireturn, 1, [])]),
  (55, (0, []), [(55, .bipush 10, 2, [(.int 10, 0, [])]),
    (57, .aload_n 0, 1, [(.null, 0, [])]),
    (58, .getfield 10, 3, [(.null, 6, [0, 164])]),
    (61, .getfield 133, 3, [(.null, 4, [3, 103])]),
    (64, .iload_n 1, 1, [(.null, 1, [])]),
    (65, .iaload, 1, []),
    (66, .imul, 1, []),
    (67, .aload_n 0, 1, [(.null, 0, [])]),
    (68, .getfield 10, 3, [(.null, 6, [0, 164])]),
    (71, .getfield 136, 3, [(.null, 4, [4, 106])]),
    (74, .iload_n 1, 1, [(.null, 1, [])]),
    (75, .iaload, 1, []),
    (76, .iadd, 1, []),
    (77, .istore 5, 2, [(.null, 5, [])]),
    (79, .aload_n 0, 1, [(.null, 0, [])]),
    (80, .getfield 10, 3, [(.null, 6, [0, 164])]),
    (83, .iload_n 1, 1, [(.null, 1, [])]),
    (84, .iload_n 2, 1, [(.null, 2, [])]),
    (85, .iload_n 3, 1, [(.null, 3, [])]),
    (86, .invokevirtual 183, 3, [(.null, 39, [4, 0, 4, 4, 401])]),
    (89, .iload 5, 2, [(.null, 5, [])]),
    (91, .ireturn, 1, [])])]
/-- WallsByTheHour.hours (I)I -/
def kd_90 : List (Nat × ax_Bl) := [(0, (0, []), [(0, .iload_n 1, 1, [(.null, 1, [])]),
    (1, .iconst 1, 1, [(.int 1, 0, [])]),
    (2, .bipush 60, 2, [(.int 60, 0, [])]),
    (4, .invokestatic 172, 3, [(.null, 129, [3, 1, 99, 3, 387])]),
    (7, .istore_n 2, 1, [(.null, 2, [])]),
    (8, .iload_n 2, 1, [(.null, 2, [])]),
    (9, .ifCond .eq 9, 3, [(.null, 18, [0, 1])]),
    (12, .aload_n 0, 1, [(.null, 0, [])]),
    (13, .iload_n 2, 1, [(.null, 2, [])]),
    (14, .invokevirtual 62, 3, [(.null, 125, [2, 1, 6, 3, 186])]),
    (17, .ireturn, 1, [])]),
  (18, (0, []), [(18, .aload_n 0, 1, [(.null, 0, [])]),
    (19, .getfield 10, 3, [(.null, 6, [0, 164])]),
    (22, .getfield 76, 3, [(.null, 4, [1, 99])]),
    (25, .iload_n 1, 1, [(.null, 1, [])]),
    (26, .iadd, 1, []),
    (27, .sipush 999, 3, [(.int 999, 0, [])]),
    (30, .if_icmp .le 10, 3, [(.null, 40, [0, 1])]),
    (33, .aload_n 0, 1, [(.null, 0, [])]),
    (34, .bipush (-6), 2, [(.int (-6), 0, [])]),
    (36, .invokevirtual 62, 3, [(.null, 125, [2, 1, 6, 3, 186])]),
    (39, .ireturn, 1, [])]),
  (40, (0, []), [(40, .aload_n 0, 1, [(.null, 0, [])]),
    (41, .iload_n 1, 1, [(.null, 1, [])]),
    (42, .invokevirtual 116, 3, [(.null, 82, [2, 0, 6, 3, 312])]),
    (45, .aload_n 0, 1, [(.null, 0, [])]),
    (46, .getfield 10, 3, [(.null, 6, [0, 164])]),
    (49, .invokevirtual 186, 3, [(.null, 52, [1, 1, 4, 3, 409])]),
    (52, .ireturn, 1, [])])]
/-- WallsByTheHour.atThen (II)I -/
def kd_91 : List (Nat × ax_Bl) := [(0, (0, []), [(0, .aload_n 0, 1, [(.null, 0, [])]),
    (1, .getfield 10, 3, [(.null, 6, [0, 164])]),
    (4, .iload_n 1, 1, [(.null, 1, [])]),
    (5, .invokevirtual 129, 3, [(.null, 46, [2, 1, 4, 2, 360])]),
    (8, .ifCond .ne 9, 3, [(.null, 17, [0, 1, 2])]),
    (11, .aload_n 0, 1, [(.null, 0, [])]),
    (12, .iconst (-1), 1, [(.int (-1), 0, [])]),
    (13, .invokevirtual 62, 3, [(.null, 125, [2, 1, 6, 3, 186])]),
    (16, .ireturn, 1, [])]),
  (17, (0, []), [(17, .iload_n 2, 1, [(.null, 2, [])]),
    (18, .iconst 0, 1, [(.int 0, 0, [])]),
    (19, .bipush 60, 2, [(.int 60, 0, [])]),
    (21, .invokestatic 172, 3, [(.null, 129, [3, 1, 99, 3, 387])]),
    (24, .istore_n 3, 1, [(.null, 3, [])]),
    (25, .iload_n 3, 1, [(.null, 3, [])]),
    (26, .ifCond .eq 9, 3, [(.null, 35, [0, 1, 2])]),
    (29, .aload_n 0, 1, [(.null, 0, [])]),
    (30, .iload_n 3, 1, [(.null, 3, [])]),
    (31, .invokevirtual 62, 3, [(.null, 125, [2, 1, 6, 3, 186])]),
    (34, .ireturn, 1, [])]),
  (35, (0, []), [(35, .aload_n 0, 1, [(.null, 0, [])]),
    (36, .getfield 54, 3, [(.null, 6, [7, 171])]),
    (39, .aload_n 0, 1, [(.null, 0, [])]),
    (40, .getfield 10, 3, [(.null, 6, [0, 164])]),
    (43, .iload_n 2, 1, [(.null, 2, [])]),
    (44, .invokevirtual 189, 3, [(.null, 65, [3, 3, 5, 3, 417])]),
    (47, .getfield 142, 3, [(.null, 4, [6, 115])]),
    (50, .iload_n 1, 1, [(.null, 1, [])]),
    (51, .iaload, 1, []),
    (52, .ireturn, 1, [])])]
/-- WallsByTheHour.lacksThen (II)I -/
def kd_92 : List (Nat × ax_Bl) := [(0, (0, []), [(0, .iload_n 1, 1, [(.null, 1, [])]),
    (1, .invokestatic 151, 3, [(.null, 127, [1, 1, 99, 1, 268])]),
    (4, .ifCond .ne 9, 3, [(.null, 13, [0, 1, 2])]),
    (7, .aload_n 0, 1, [(.null, 0, [])]),
    (8, .iconst (-1), 1, [(.int (-1), 0, [])]),
    (9, .invokevirtual 62, 3, [(.null, 125, [2, 1, 6, 3, 186])]),
    (12, .ireturn, 1, [])]),
  (13, (0, []), [(13, .iload_n 2, 1, [(.null, 2, [])]),
    (14, .iconst 0, 1, [(.int 0, 0, [])]),
    (15, .bipush 60, 2, [(.int 60, 0, [])]),
    (17, .invokestatic 172, 3, [(.null, 129, [3, 1, 99, 3, 387])]),
    (20, .istore_n 3, 1, [(.null, 3, [])]),
    (21, .iload_n 3, 1, [(.null, 3, [])]),
    (22, .ifCond .eq 9, 3, [(.null, 31, [0, 1, 2])]),
    (25, .aload_n 0, 1, [(.null, 0, [])]),
    (26, .iload_n 3, 1, [(.null, 3, [])]),
    (27, .invokevirtual 62, 3, [(.null, 125, [2, 1, 6, 3, 186])]),
    (30, .ireturn, 1, [])]),
  (31, (0, []), [(31, .aload_n 0, 1, [(.null, 0, [])]),
    (32, .getfield 54, 3, [(.null, 6, [7, 171])]),
    (35, .aload_n 0, 1, [(.null, 0, [])]),
    (36, .getfield 10, 3, [(.null, 6, [0, 164])]),
    (39, .iload_n 2, 1, [(.null, 2, [])]),
    (40, .invokevirtual 189, 3, [(.null, 65, [3, 3, 5, 3, 417])]),
    (43, .iload_n 1, 1, [(.null, 1, [])]),
    (44, .invokevirtual 160, 3, [(.null, 50, [2, 1, 4, 2, 366])]),
    (47, .ireturn, 1, [])])]
/-- WallsByTheHour.allLack (I)I -/
def kd_93 : List (Nat × ax_Bl) := [(0, (0, []), [(0, .iload_n 1, 1, [(.null, 1, [])]),
    (1, .iconst 0, 1, [(.int 0, 0, [])]),
    (2, .bipush 60, 2, [(.int 60, 0, [])]),
    (4, .invokestatic 172, 3, [(.null, 129, [3, 1, 99, 3, 387])]),
    (7, .istore_n 2, 1, [(.null, 2, [])]),
    (8, .iload_n 2, 1, [(.null, 2, [])]),
    (9, .ifCond .eq 9, 3, [(.null, 18, [0, 1])]),
    (12, .aload_n 0, 1, [(.null, 0, [])]),
    (13, .iload_n 2, 1, [(.null, 2, [])]),
    (14, .invokevirtual 62, 3, [(.null, 125, [2, 1, 6, 3, 186])]),
    (17, .ireturn, 1, [])]),
  (18, (0, []), [(18, .aload_n 0, 1, [(.null, 0, [])]),
    (19, .getfield 54, 3, [(.null, 6, [7, 171])]),
    (22, .aload_n 0, 1, [(.null, 0, [])]),
    (23, .getfield 10, 3, [(.null, 6, [0, 164])]),
    (26, .iload_n 1, 1, [(.null, 1, [])]),
    (27, .invokevirtual 189, 3, [(.null, 65, [3, 3, 5, 3, 417])]),
    (30, .invokevirtual 186, 3, [(.null, 52, [1, 1, 4, 3, 409])]),
    (33, .ireturn, 1, [])])]
/-- WallsByTheHour.goes (II)I -/
def kd_94 : List (Nat × ax_Bl) := [(0, (0, []), [(0, .aload_n 0, 1, [(.null, 0, [])]),
    (1, .getfield 10, 3, [(.null, 6, [0, 164])]),
    (4, .iload_n 1, 1, [(.null, 1, [])]),
    (5, .invokevirtual 129, 3, [(.null, 46, [2, 1, 4, 2, 360])]),
    (8, .ifCond .ne 9, 3, [(.null, 17, [0, 1, 2])]),
    (11, .aload_n 0, 1, [(.null, 0, [])]),
    (12, .iconst (-1), 1, [(.int (-1), 0, [])]),
    (13, .invokevirtual 62, 3, [(.null, 125, [2, 1, 6, 3, 186])]),
    (16, .ireturn, 1, [])]),
  (17, (26, [0]), [(17, .iload_n 2, 1, [(.null, 2, [])]),
    (18, .ifCond .lt 8, 3, [(.null, 26, [0])]),
    (21, .iload_n 2, 1, [(.null, 2, [])]),
    (22, .iconst 1, 1, [(.int 1, 0, [])]),
    (23, .if_icmp .le 10, 3, [(.null, 33, [0, 1, 2])])]),
  (26, (0, []), [(26, .aload_n 0, 1, [(.null, 0, [])]),
    (27, .bipush (-2), 2, [(.int (-2), 0, [])]),
    (29, .invokevirtual 62, 3, [(.null, 125, [2, 1, 6, 3, 186])]),
    (32, .ireturn, 1, [])]),
  (33, (0, []), [(33, .iload_n 2, 1, [(.null, 2, [])]),
    (34, .ifCond .ne 18, 3, [(.null, 52, [0, 1])]),
    (37, .aload_n 0, 1, [(.null, 0, [])]),
    (38, .getfield 54, 3, [(.null, 6, [7, 171])]),
    (41, .aload_n 0, 1, [(.null, 0, [])]),
    (42, .getfield 10, 3, [(.null, 6, [0, 164])]),
    (45, .iload_n 1, 1, [(.null, 1, [])]),
    (46, .invokevirtual 193, 3, [(.null, 66, [3, 1, 5, 4, 447])]),
    (49, .goto 15, 3, [(.null, 64, [])])]),
  (52, (64, []), [(52, .aload_n 0, 1, [(.null, 0, [])]),
    (53, .getfield 54, 3, [(.null, 6, [7, 171])]),
    (56, .aload_n 0, 1, [(.null, 0, [])]),
    (57, .getfield 10, 3, [(.null, 6, [0, 164])]),
    (60, .iload_n 1, 1, [(.null, 1, [])]),
    (61, .invokevirtual 197, 3, [(.null, 67, [3, 1, 5, 4, 455])])]),
  (64, (0, []), [(64, .ireturn, 1, [])])]
/-- WallsByTheHour.shown (I)I -/
def kd_95 : List (Nat × ax_Bl) := [(0, (0, []), [(0, .iload_n 1, 1, [(.null, 1, [])]),
    (1, .invokestatic 151, 3, [(.null, 127, [1, 1, 99, 1, 268])]),
    (4, .ifCond .ne 9, 3, [(.null, 13, [0, 1])]),
    (7, .aload_n 0, 1, [(.null, 0, [])]),
    (8, .iconst (-1), 1, [(.int (-1), 0, [])]),
    (9, .invokevirtual 62, 3, [(.null, 125, [2, 1, 6, 3, 186])]),
    (12, .ireturn, 1, [])]),
  (13, (0, []), [(13, .aload_n 0, 1, [(.null, 0, [])]),
    (14, .getfield 54, 3, [(.null, 6, [7, 171])]),
    (17, .aload_n 0, 1, [(.null, 0, [])]),
    (18, .getfield 10, 3, [(.null, 6, [0, 164])]),
    (21, .iload_n 1, 1, [(.null, 1, [])]),
    (22, .invokevirtual 200, 3, [(.null, 68, [3, 1, 5, 4, 463])]),
    (25, .ireturn, 1, [])])]
/-- WallsByTheHour.asked ()I -/
def kd_96 : List (Nat × ax_Bl) := [(0, (0, []), [(0, .aload_n 0, 1, [(.null, 0, [])]),
    (1, .getfield 54, 3, [(.null, 6, [7, 171])]),
    (4, .aload_n 0, 1, [(.null, 0, [])]),
    (5, .getfield 10, 3, [(.null, 6, [0, 164])]),
    (8, .invokevirtual 203, 3, [(.null, 69, [2, 1, 5, 3, 472])]),
    (11, .ireturn, 1, [])])]
/-- WallsByTheHour.coughs (III)I -/
def kd_97 : List (Nat × ax_Bl) := [(0, (0, []), [(0, .iload_n 1, 1, [(.null, 1, [])]),
    (1, .iload_n 2, 1, [(.null, 2, [])]),
    (2, .invokestatic 179, 3, [(.null, 128, [2, 1, 99, 2, 396])]),
    (5, .ifCond .ne 9, 3, [(.null, 14, [0, 1, 2, 3])]),
    (8, .aload_n 0, 1, [(.null, 0, [])]),
    (9, .iconst (-1), 1, [(.int (-1), 0, [])]),
    (10, .invokevirtual 62, 3, [(.null, 125, [2, 1, 6, 3, 186])]),
    (13, .ireturn, 1, [])]),
  (14, (0, []), [(14, .iload_n 3, 1, [(.null, 3, [])]),
    (15, .iconst 0, 1, [(.int 0, 0, [])]),
    (16, .bipush 60, 2, [(.int 60, 0, [])]),
    (18, .invokestatic 172, 3, [(.null, 129, [3, 1, 99, 3, 387])]),
    (21, .istore 4, 2, [(.null, 4, [])]),
    (23, .iload 4, 2, [(.null, 4, [])]),
    (25, .ifCond .eq 10, 3, [(.null, 35, [0, 1, 2, 3])]),
    (28, .aload_n 0, 1, [(.null, 0, [])]),
    (29, .iload 4, 2, [(.null, 4, [])]),
    (31, .invokevirtual 62, 3, [(.null, 125, [2, 1, 6, 3, 186])]),
    (34, .ireturn, 1, [])]),
  (35, (0, []), [(35, .aload_n 0, 1, [(.null, 0, [])]),
    (36, .getfield 54, 3, [(.null, 6, [7, 171])]),
    (39, .aload_n 0, 1, [(.null, 0, [])]),
    (40, .getfield 10, 3, [(.null, 6, [0, 164])]),
    (43, .iload_n 1, 1, [(.null, 1, [])]),
    (44, .iload_n 2, 1, [(.null, 2, [])]),
    (45, .iload_n 3, 1, [(.null, 3, [])]),
    (46, .invokevirtual 207, 3, [(.null, 70, [5, 1, 5, 10, 493])]),
    (49, .ireturn, 1, [])])]
/-- WallsByTheHour.lend (I)I -/
def kd_98 : List (Nat × ax_Bl) := [(0, (0, []), [(0, .iload_n 1, 1, [(.null, 1, [])]),
    (1, .iconst 0, 1, [(.int 0, 0, [])]),
    (2, .bipush 12, 2, [(.int 12, 0, [])]),
    (4, .invokestatic 172, 3, [(.null, 129, [3, 1, 99, 3, 387])]),
    (7, .istore_n 2, 1, [(.null, 2, [])]),
    (8, .iload_n 2, 1, [(.null, 2, [])]),
    (9, .ifCond .eq 9, 3, [(.null, 18, [0, 1])]),
    (12, .aload_n 0, 1, [(.null, 0, [])]),
    (13, .iload_n 2, 1, [(.null, 2, [])]),
    (14, .invokevirtual 62, 3, [(.null, 125, [2, 1, 6, 3, 186])]),
    (17, .ireturn, 1, [])]),
  (18, (0, []), [(18, .aload_n 0, 1, [(.null, 0, [])]),
    (19, .getfield 54, 3, [(.null, 6, [7, 171])]),
    (22, .aload_n 0, 1, [(.null, 0, [])]),
    (23, .getfield 10, 3, [(.null, 6, [0, 164])]),
    (26, .iload_n 1, 1, [(.null, 1, [])]),
    (27, .invokevirtual 211, 3, [(.null, 71, [3, 1, 5, 7, 501])]),
    (30, .ireturn, 1, [])])]
/-- WallsByTheHour.close (II)I -/
def kd_99 : List (Nat × ax_Bl) := [(0, (0, []), [(0, .iload_n 1, 1, [(.null, 1, [])]),
    (1, .invokestatic 151, 3, [(.null, 127, [1, 1, 99, 1, 268])]),
    (4, .ifCond .ne 9, 3, [(.null, 13, [0, 1, 2])]),
    (7, .aload_n 0, 1, [(.null, 0, [])]),
    (8, .iconst (-1), 1, [(.int (-1), 0, [])]),
    (9, .invokevirtual 62, 3, [(.null, 125, [2, 1, 6, 3, 186])]),
    (12, .ireturn, 1, [])]),
  (13, (22, [0]), [(13, .iload_n 2, 1, [(.null, 2, [])]),
    (14, .ifCond .lt 8, 3, [(.null, 22, [0])]),
    (17, .iload_n 2, 1, [(.null, 2, [])]),
    (18, .iconst 1, 1, [(.int 1, 0, [])]),
    (19, .if_icmp .le 10, 3, [(.null, 29, [0, 1, 2])])]),
  (22, (0, []), [(22, .aload_n 0, 1, [(.null, 0, [])]),
    (23, .bipush (-2), 2, [(.int (-2), 0, [])]),
    (25, .invokevirtual 62, 3, [(.null, 125, [2, 1, 6, 3, 186])]),
    (28, .ireturn, 1, [])]),
  (29, (0, []), [(29, .aload_n 0, 1, [(.null, 0, [])]),
    (30, .getfield 47, 3, [(.null, 6, [6, 170])]),
    (33, .aload_n 0, 1, [(.null, 0, [])]),
    (34, .getfield 10, 3, [(.null, 6, [0, 164])]),
    (37, .iload_n 1, 1, [(.null, 1, [])]),
    (38, .iload_n 2, 1, [(.null, 2, [])]),
    (39, .iconst 1, 1, [(.int 1, 0, [])]),
    (40, .if_icmp .ne 7, 3, [(.null, 47, [])]),
    (43, .iconst 1, 1, [(.int 1, 0, [])]),
    (44, .goto 4, 3, [(.null, 48, [])])]),
  (47, (48, []), [(47, .iconst 0, 1, [(.int 0, 0, [])])]),
  (48, (0, []), [(48, .invokevirtual 214, 3, [(.null, 0, [4, 1, 0, 10, 511])]),
    (51, .ireturn, 1, [])])]
/-- WallsByTheHour.split (III)I -/
def kd_100 : List (Nat × ax_Bl) := [(0, (0, []), [(0, .iload_n 1, 1, [(.null, 1, [])]),
    (1, .iload_n 2, 1, [(.null, 2, [])]),
    (2, .invokestatic 179, 3, [(.null, 128, [2, 1, 99, 2, 396])]),
    (5, .ifCond .ne 9, 3, [(.null, 14, [0, 1, 2, 3])]),
    (8, .aload_n 0, 1, [(.null, 0, [])]),
    (9, .iconst (-1), 1, [(.int (-1), 0, [])]),
    (10, .invokevirtual 62, 3, [(.null, 125, [2, 1, 6, 3, 186])]),
    (13, .ireturn, 1, [])]),
  (14, (23, [0]), [(14, .iload_n 3, 1, [(.null, 3, [])]),
    (15, .ifCond .lt 8, 3, [(.null, 23, [0])]),
    (18, .iload_n 3, 1, [(.null, 3, [])]),
    (19, .iconst 2, 1, [(.int 2, 0, [])]),
    (20, .if_icmp .le 10, 3, [(.null, 30, [0, 1, 2, 3])])]),
  (23, (0, []), [(23, .aload_n 0, 1, [(.null, 0, [])]),
    (24, .bipush (-2), 2, [(.int (-2), 0, [])]),
    (26, .invokevirtual 62, 3, [(.null, 125, [2, 1, 6, 3, 186])]),
    (29, .ireturn, 1, [])]),
  (30, (0, []), [(30, .aload_n 0, 1, [(.null, 0, [])]),
    (31, .getfield 47, 3, [(.null, 6, [6, 170])]),
    (34, .aload_n 0, 1, [(.null, 0, [])]),
    (35, .getfield 10, 3, [(.null, 6, [0, 164])]),
    (38, .iload_n 1, 1, [(.null, 1, [])]),
    (39, .iload_n 2, 1, [(.null, 2, [])]),
    (40, .iload_n 3, 1, [(.null, 3, [])]),
    (41, .invokevirtual 218, 3, [(.null, 3, [5, 1, 0, 12, 527])]),
    (44, .ireturn, 1, [])])]
/-- WallsByTheHour.spare ()I -/
def kd_101 : List (Nat × ax_Bl) := [(0, (0, []), [(0, .aload_n 0, 1, [(.null, 0, [])]),
    (1, .getfield 47, 3, [(.null, 6, [6, 170])]),
    (4, .aload_n 0, 1, [(.null, 0, [])]),
    (5, .getfield 10, 3, [(.null, 6, [0, 164])]),
    (8, .invokevirtual 221, 3, [(.null, 6, [2, 1, 0, 4, 544])]),
    (11, .ireturn, 1, [])])]
/-- WallsByTheHour.price (II)I -/
def kd_102 : List (Nat × ax_Bl) := [(0, (0, []), [(0, .aload_n 0, 1, [(.null, 0, [])]),
    (1, .getfield 10, 3, [(.null, 6, [0, 164])]),
    (4, .iload_n 1, 1, [(.null, 1, [])]),
    (5, .invokevirtual 129, 3, [(.null, 46, [2, 1, 4, 2, 360])]),
    (8, .ifCond .ne 9, 3, [(.null, 17, [0, 1, 2])]),
    (11, .aload_n 0, 1, [(.null, 0, [])]),
    (12, .iconst (-1), 1, [(.int (-1), 0, [])]),
    (13, .invokevirtual 62, 3, [(.null, 125, [2, 1, 6, 3, 186])]),
    (16, .ireturn, 1, [])]),
  (17, (26, [0]), [(17, .iload_n 2, 1, [(.null, 2, [])]),
    (18, .ifCond .lt 8, 3, [(.null, 26, [0])]),
    (21, .iload_n 2, 1, [(.null, 2, [])]),
    (22, .iconst 1, 1, [(.int 1, 0, [])]),
    (23, .if_icmp .le 10, 3, [(.null, 33, [0, 1, 2])])]),
  (26, (0, []), [(26, .aload_n 0, 1, [(.null, 0, [])]),
    (27, .bipush (-2), 2, [(.int (-2), 0, [])]),
    (29, .invokevirtual 62, 3, [(.null, 125, [2, 1, 6, 3, 186])]),
    (32, .ireturn, 1, [])]),
  (33, (58, [2, 3]), [(33, .aload_n 0, 1, [(.null, 0, [])]),
    (34, .getfield 47, 3, [(.null, 6, [6, 170])]),
    (37, .aload_n 0, 1, [(.null, 0, [])]),
    (38, .getfield 10, 3, [(.null, 6, [0, 164])]),
    (41, .iload_n 1, 1, [(.null, 1, [])]),
    (42, .bipush (-9), 2, [(.int (-9), 0, [])]),
    (44, .invokevirtual 224, 3, [(.null, 8, [4, 1, 0, 7, 553])]),
    (47, .istore_n 3, 1, [(.null, 3, [])]),
    (48, .iload_n 2, 1, [(.null, 2, [])]),
    (49, .ifCond .eq 9, 3, [(.null, 58, [2, 3])]),
    (52, .iload_n 3, 1, [(.null, 3, [])]),
    (53, .bipush (-9), 2, [(.int (-9), 0, [])]),
    (55, .if_icmp .ne 13, 3, [(.null, 68, [0, 1, 3])])]),
  (58, (0, []), [(58, .iload_n 2, 1, [(.null, 2, [])]),
    (59, .ifCond .ne 7, 3, [(.null, 66, [])]),
    (62, .iload_n 3, 1, [(.null, 3, [])]),
    (63, .goto 4, 3, [(.null, 67, [])])]),
  (66, (67, []), [(66, .iconst 0, 1, [(.int 0, 0, [])])]),
  (67, (0, []), [(67, .ireturn, 1, [])]),
  (68, (0, []), [(68, .aload_n 0, 1, [(.null, 0, [])]),
    (69, .getfield 47, 3, [(.null, 6, [6, 170])]),
    (72, .aload_n 0, 1, [(.null, 0, [])]),
    (73, .getfield 10, 3, [(.null, 6, [0, 164])]),
    (76, .iload_n 1, 1, [(.null, 1, [])]),
    (77, .iload_n 3, 1, [(.null, 3, [])]),
    (78, .invokevirtual 224, 3, [(.null, 8, [4, 1, 0, 7, 553])]),
    (81, .istore 4, 2, [(.null, 4, [])]),
    (83, .iload 4, 2, [(.null, 4, [])]),
    (85, .bipush (-9), 2, [(.int (-9), 0, [])]),
    (87, .if_icmp .ne 7, 3, [(.null, 94, [0, 1, 4])]),
    (90, .iconst 0, 1, [(.int 0, 0, [])]),
    (91, .goto 17, 3, [(.null, 108, [])])]),
  (94, (108, []), [(94, .aload_n 0, 1, [(.null, 0, [])]),
    (95, .getfield 47, 3, [(.null, 6, [6, 170])]),
    (98, .aload_n 0, 1, [(.null, 0, [])]),
    (99, .getfield 10, 3, [(.null, 6, [0, 164])]),
    (102, .iload 4, 2, [(.null, 4, [])]),
    (104, .iload_n 1, 1, [(.null, 1, [])]),
    (105, .invokevirtual 228, 3, [(.null, 7, [4, 1, 0, 5, 563])])]),
  (108, (0, []), [(108, .ireturn, 1, [])])]
/-- WallsByTheHour.shares (II)I -/
def kd_103 : List (Nat × ax_Bl) := [(0, (0, []), [(0, .iload_n 1, 1, [(.null, 1, [])]),
    (1, .iload_n 2, 1, [(.null, 2, [])]),
    (2, .invokestatic 179, 3, [(.null, 128, [2, 1, 99, 2, 396])]),
    (5, .ifCond .ne 9, 3, [(.null, 14, [0, 1, 2])]),
    (8, .aload_n 0, 1, [(.null, 0, [])]),
    (9, .iconst (-1), 1, [(.int (-1), 0, [])]),
    (10, .invokevirtual 62, 3, [(.null, 125, [2, 1, 6, 3, 186])]),
    (13, .ireturn, 1, [])]),
  (14, (0, []), [(14, .aload_n 0, 1, [(.null, 0, [])]),
    (15, .getfield 47, 3, [(.null, 6, [6, 170])]),
    (18, .aload_n 0, 1, [(.null, 0, [])]),
    (19, .getfield 10, 3, [(.null, 6, [0, 164])]),
    (22, .iload_n 1, 1, [(.null, 1, [])]),
    (23, .iload_n 2, 1, [(.null, 2, [])]),
    (24, .invokevirtual 231, 3, [(.null, 9, [4, 1, 0, 11, 568])]),
    (27, .ireturn, 1, [])])]
/-- WallsByTheHour.coldest (I)I -/
def kd_104 : List (Nat × ax_Bl) := [(0, (9, [0]), [(0, .iload_n 1, 1, [(.null, 1, [])]),
    (1, .ifCond .lt 8, 3, [(.null, 9, [0])]),
    (4, .iload_n 1, 1, [(.null, 1, [])]),
    (5, .iconst 1, 1, [(.int 1, 0, [])]),
    (6, .if_icmp .le 10, 3, [(.null, 16, [0, 1])])]),
  (9, (0, []), [(9, .aload_n 0, 1, [(.null, 0, [])]),
    (10, .bipush (-2), 2, [(.int (-2), 0, [])]),
    (12, .invokevirtual 62, 3, [(.null, 125, [2, 1, 6, 3, 186])]),
    (15, .ireturn, 1, [])]),
  (16, (0, []), [(16, .aload_n 0, 1, [(.null, 0, [])]),
    (17, .getfield 10, 3, [(.null, 6, [0, 164])]),
    (20, .invokevirtual 234, 3, [(.null, 59, [1, 1, 4, 3, 579])]),
    (23, .istore_n 2, 1, [(.null, 2, [])]),
    (24, .iload_n 1, 1, [(.null, 1, [])]),
    (25, .ifCond .ne 7, 3, [(.null, 32, [0, 2])]),
    (28, .iload_n 2, 1, [(.null, 2, [])]),
    (29, .goto 11, 3, [(.null, 40, [])])]),
  (32, (40, []), [(32, .aload_n 0, 1, [(.null, 0, [])]),
    (33, .getfield 10, 3, [(.null, 6, [0, 164])]),
    (36, .iload_n 2, 1, [(.null, 2, [])]),
    (37, .invokevirtual 237, 3, [(.null, 58, [2, 1, 4, 4, 588])])]),
  (40, (0, []), [(40, .ireturn, 1, [])])]
/-- WallsByTheHour.best (I)I -/
def kd_105 : List (Nat × ax_Bl) := [(0, (0, []), [(0, .aload_n 0, 1, [(.null, 0, [])]),
    (1, .getfield 10, 3, [(.null, 6, [0, 164])]),
    (4, .invokevirtual 240, 3, [(.null, 60, [1, 1, 4, 4, 593])]),
    (7, .istore_n 2, 1, [(.null, 2, [])]),
    (8, .iload_n 1, 1, [(.null, 1, [])]),
    (9, .tableswitch 87 0 4 #[35, 37, 63, 71, 79], 35, [(.int 0, 44, [2]), (.int 1, 46, [0, 2]), (.int 2, 72, [0]), (.int 3, 80, [0]), (.int 4, 88, [0]), (.null, 96, [0])])]),
  (44, (0, []), [(44, .iload_n 2, 1, [(.null, 2, [])]),
    (45, .ireturn, 1, [])]),
  (46, (0, []), [(46, .aload_n 0, 1, [(.null, 0, [])]),
    (47, .getfield 10, 3, [(.null, 6, [0, 164])]),
    (50, .iload_n 2, 1, [(.null, 2, [])]),
    (51, .invokevirtual 129, 3, [(.null, 46, [2, 1, 4, 2, 360])]),
    (54, .ifCond .eq 15, 3, [(.null, 69, [])]),
    (57, .aload_n 0, 1, [(.null, 0, [])]),
    (58, .getfield 10, 3, [(.null, 6, [0, 164])]),
    (61, .getfield 142, 3, [(.null, 4, [6, 115])]),
    (64, .iload_n 2, 1, [(.null, 2, [])]),
    (65, .iaload, 1, []),
    (66, .goto 5, 3, [(.null, 71, [])])]),
  (69, (71, []), [(69, .bipush (-9), 2, [(.int (-9), 0, [])])]),
  (71, (0, []), [(71, .ireturn, 1, [])]),
  (72, (0, []), [(72, .aload_n 0, 1, [(.null, 0, [])]),
    (73, .getfield 10, 3, [(.null, 6, [0, 164])]),
    (76, .invokevirtual 243, 3, [(.null, 54, [1, 1, 4, 3, 597])]),
    (79, .ireturn, 1, [])]),
  (80, (0, []), [(80, .aload_n 0, 1, [(.null, 0, [])]),
    (81, .getfield 10, 3, [(.null, 6, [0, 164])]),
    (84, .invokevirtual 122, 3, [(.null, 53, [1, 1, 4, 3, 347])]),
    (87, .ireturn, 1, [])]),
  (88, (0, []), [(88, .aload_n 0, 1, [(.null, 0, [])]),
    (89, .getfield 10, 3, [(.null, 6, [0, 164])]),
    (92, .invokevirtual 246, 3, [(.null, 61, [1, 1, 4, 3, 598])]),
    (95, .ireturn, 1, [])]),
  (96, (0, []), [(96, .aload_n 0, 1, [(.null, 0, [])]),
    (97, .bipush (-2), 2, [(.int (-2), 0, [])]),
    (99, .invokevirtual 62, 3, [(.null, 125, [2, 1, 6, 3, 186])]),
    (102, .ireturn, 1, [])])]
/-- WallsByTheHour.each (I)I -/
def kd_106 : List (Nat × ax_Bl) := [(0, (0, []), [(0, .iload_n 1, 1, [(.null, 1, [])]),
    (1, .invokestatic 151, 3, [(.null, 127, [1, 1, 99, 1, 268])]),
    (4, .ifCond .ne 9, 3, [(.null, 13, [0, 1])]),
    (7, .aload_n 0, 1, [(.null, 0, [])]),
    (8, .iconst (-1), 1, [(.int (-1), 0, [])]),
    (9, .invokevirtual 62, 3, [(.null, 125, [2, 1, 6, 3, 186])]),
    (12, .ireturn, 1, [])]),
  (13, (0, []), [(13, .aload_n 0, 1, [(.null, 0, [])]),
    (14, .getfield 10, 3, [(.null, 6, [0, 164])]),
    (17, .iload_n 1, 1, [(.null, 1, [])]),
    (18, .invokevirtual 163, 3, [(.null, 55, [2, 1, 4, 4, 367])]),
    (21, .invokestatic 249, 3, [(.null, 132, [1, 1, 99, 1, 606])]),
    (24, .istore_n 2, 1, [(.null, 2, [])]),
    (25, .iload_n 2, 1, [(.null, 2, [])]),
    (26, .ifCond .ne 12, 3, [(.null, 38, [0, 1, 2])]),
    (29, .aload_n 0, 1, [(.null, 0, [])]),
    (30, .bipush (-3), 2, [(.int (-3), 0, [])]),
    (32, .invokevirtual 62, 3, [(.null, 125, [2, 1, 6, 3, 186])]),
    (35, .goto 14, 3, [(.null, 49, [])])]),
  (38, (49, []), [(38, .aload_n 0, 1, [(.null, 0, [])]),
    (39, .getfield 10, 3, [(.null, 6, [0, 164])]),
    (42, .getfield 157, 3, [(.null, 4, [12, 127])]),
    (45, .iload_n 1, 1, [(.null, 1, [])]),
    (46, .iaload, 1, []),
    (47, .iload_n 2, 1, [(.null, 2, [])]),
    (48, .idiv, 1, [])]),
  (49, (0, []), [(49, .ireturn, 1, [])])]
/-- WallsByTheHour.panes (I)I -/
def kd_107 : List (Nat × ax_Bl) := [(0, (0, []), [(0, .aload_n 0, 1, [(.null, 0, [])]),
    (1, .getfield 10, 3, [(.null, 6, [0, 164])]),
    (4, .iload_n 1, 1, [(.null, 1, [])]),
    (5, .invokevirtual 129, 3, [(.null, 46, [2, 1, 4, 2, 360])]),
    (8, .ifCond .ne 9, 3, [(.null, 17, [0, 1])]),
    (11, .aload_n 0, 1, [(.null, 0, [])]),
    (12, .iconst (-1), 1, [(.int (-1), 0, [])]),
    (13, .invokevirtual 62, 3, [(.null, 125, [2, 1, 6, 3, 186])]),
    (16, .ireturn, 1, [])]),
  (17, (0, []), [(17, .aload_n 0, 1, [(.null, 0, [])]),
    (18, .getfield 10, 3, [(.null, 6, [0, 164])]),
    (21, .getfield 133, 3, [(.null, 4, [3, 103])]),
    (24, .iload_n 1, 1, [(.null, 1, [])]),
    (25, .iaload, 1, []),
    (26, .aload_n 0, 1, [(.null, 0, [])]),
    (27, .getfield 10, 3, [(.null, 6, [0, 164])]),
    (30, .getfield 136, 3, [(.null, 4, [4, 106])]),
    (33, .iload_n 1, 1, [(.null, 1, [])]),
    (34, .iaload, 1, []),
    (35, .invokestatic 252, 3, [(.null, 21, [2, 1, 99, 3, 611])]),
    (38, .istore_n 2, 1, [(.null, 2, [])]),
    (39, .iload_n 2, 1, [(.null, 2, [])]),
    (40, .ifCond .ne 12, 3, [(.null, 52, [2])]),
    (43, .aload_n 0, 1, [(.null, 0, [])]),
    (44, .bipush (-3), 2, [(.int (-3), 0, [])]),
    (46, .invokevirtual 62, 3, [(.null, 125, [2, 1, 6, 3, 186])]),
    (49, .goto 4, 3, [(.null, 53, [])])]),
  (52, (53, []), [(52, .iload_n 2, 1, [(.null, 2, [])])]),
  (53, (0, []), [(53, .ireturn, 1, [])])]
/-- WallsByTheHour.sees (I)I -/
def kd_108 : List (Nat × ax_Bl) := [(0, (0, []), [(0, .iload_n 1, 1, [(.null, 1, [])]),
    (1, .invokestatic 151, 3, [(.null, 127, [1, 1, 99, 1, 268])]),
    (4, .ifCond .ne 9, 3, [(.null, 13, [0, 1])]),
    (7, .aload_n 0, 1, [(.null, 0, [])]),
    (8, .iconst (-1), 1, [(.int (-1), 0, [])]),
    (9, .invokevirtual 62, 3, [(.null, 125, [2, 1, 6, 3, 186])]),
    (12, .ireturn, 1, [])]),
  (13, (17, [0, 1, 2, 3]), [(13, .iconst 0, 1, [(.int 0, 0, [])]),
    (14, .istore_n 2, 1, [(.null, 2, [])]),
    (15, .iconst 0, 1, [(.int 0, 0, [])]),
    (16, .istore_n 3, 1, [(.null, 3, [])])]),
  (17, (41, [0, 1, 2, 3]), [(17, .iload_n 3, 1, [(.null, 3, [])]),
    (18, .bipush 8, 2, [(.int 8, 0, [])]),
    (20, .if_icmp .ge 27, 3, [(.null, 47, [2])]),
    (23, .aload_n 0, 1, [(.null, 0, [])]),
    (24, .getfield 10, 3, [(.null, 6, [0, 164])]),
    (27, .iload_n 3, 1, [(.null, 3, [])]),
    (28, .iload_n 1, 1, [(.null, 1, [])]),
    (29, .invokevirtual 257, 3, [(.null, 62, [3, 1, 4, 4, 618])]),
    (32, .ifCond .eq 9, 3, [(.null, 41, [0, 1, 2, 3])]),
    (35, .iload_n 2, 1, [(.null, 2, [])]),
    (36, .iconst 1, 1, [(.int 1, 0, [])]),
    (37, .iload_n 3, 1, [(.null, 3, [])]),
    (38, .ishl, 1, []),
    (39, .ior, 1, []),
    (40, .istore_n 2, 1, [(.null, 2, [])])]),
  (41, (0, []), [(41, .iinc 3 1, 3, [(.int 1, 3, [])]),
    (44, .goto (-27), 3, [(.null, 17, [0, 1, 2, 3])])]),
  (47, (0, []), [(47, .iload_n 2, 1, [(.null, 2, [])]),
    (48, .ireturn, 1, [])])]
/-- WallsByTheHour.hide (II)I -/
def kd_109 : List (Nat × ax_Bl) := [(0, (0, []), [(0, .iload_n 1, 1, [(.null, 1, [])]),
    (1, .iload_n 2, 1, [(.null, 2, [])]),
    (2, .invokestatic 179, 3, [(.null, 128, [2, 1, 99, 2, 396])]),
    (5, .ifCond .ne 9, 3, [(.null, 14, [0, 1, 2])]),
    (8, .aload_n 0, 1, [(.null, 0, [])]),
    (9, .iconst (-1), 1, [(.int (-1), 0, [])]),
    (10, .invokevirtual 62, 3, [(.null, 125, [2, 1, 6, 3, 186])]),
    (13, .ireturn, 1, [])]),
  (14, (0, []), [(14, .aload_n 0, 1, [(.null, 0, [])]),
    (15, .getfield 10, 3, [(.null, 6, [0, 164])]),
    (18, .iload_n 1, 1, [(.null, 1, [])]),
    (19, .iload_n 2, 1, [(.null, 2, [])]),
    (20, .invokevirtual 257, 3, [(.null, 62, [3, 1, 4, 4, 618])]),
    (23, .ifCond .ne 10, 3, [(.null, 33, [0, 1, 2])]),
    (26, .aload_n 0, 1, [(.null, 0, [])]),
    (27, .bipush (-3), 2, [(.int (-3), 0, [])]),
    (29, .invokevirtual 62, 3, [(.null, 125, [2, 1, 6, 3, 186])]),
    (32, .ireturn, 1, [])]),
  (33, (0, []), [(33, .aload_n 0, 1, [(.null, 0, [])]),
    (34, .getfield 47, 3, [(.null, 6, [6, 170])]),
    (37, .aload_n 0, 1, [(.null, 0, [])]),
    (38, .getfield 10, 3, [(.null, 6, [0, 164])]),
    (41, .iload_n 1, 1, [(.null, 1, [])]),
    (42, .iload_n 2, 1, [(.null, 2, [])]),
    (43, .invokevirtual 260, 3, [(.null, 11, [4, 1, 0, 9, 628])]),
    (46, .ireturn, 1, [])])]
/-- WallsByTheHour.two (III)I -/
def kd_110 : List (Nat × ax_Bl) := [(0, (27, [0]), [(0, .aload_n 0, 1, [(.null, 0, [])]),
    (1, .getfield 10, 3, [(.null, 6, [0, 164])]),
    (4, .iload_n 1, 1, [(.null, 1, [])]),
    (5, .invokevirtual 129, 3, [(.null, 46, [2, 1, 4, 2, 360])]),
    (8, .ifCond .eq 19, 3, [(.null, 27, [0])]),
    (11, .aload_n 0, 1, [(.null, 0, [])]),
    (12, .getfield 10, 3, [(.null, 6, [0, 164])]),
    (15, .iload_n 2, 1, [(.null, 2, [])]),
    (16, .invokevirtual 129, 3, [(.null, 46, [2, 1, 4, 2, 360])]),
    (19, .ifCond .eq 8, 3, [(.null, 27, [0])]),
    (22, .iload_n 1, 1, [(.null, 1, [])]),
    (23, .iload_n 2, 1, [(.null, 2, [])]),
    (24, .if_icmp .ne 9, 3, [(.null, 33, [0, 1, 2, 3])])]),
  (27, (0, []), [(27, .aload_n 0, 1, [(.null, 0, [])]),
    (28, .iconst (-1), 1, [(.int (-1), 0, [])]),
    (29, .invokevirtual 62, 3, [(.null, 125, [2, 1, 6, 3, 186])]),
    (32, .ireturn, 1, [])]),
  (33, (0, []), [(33, .iload_n 3, 1, [(.null, 3, [])]),
    (34, .iconst 0, 1, [(.int 0, 0, [])]),
    (35, .bipush 30, 2, [(.int 30, 0, [])]),
    (37, .invokestatic 172, 3, [(.null, 129, [3, 1, 99, 3, 387])]),
    (40, .istore 4, 2, [(.null, 4, [])]),
    (42, .iload 4, 2, [(.null, 4, [])]),
    (44, .ifCond .eq 10, 3, [(.null, 54, [0, 1, 2, 3])]),
    (47, .aload_n 0, 1, [(.null, 0, [])]),
    (48, .iload 4, 2, [(.null, 4, [])]),
    (50, .invokevirtual 62, 3, [(.null, 125, [2, 1, 6, 3, 186])]),
    (53, .ireturn, 1, [])]),
  (54, (0, []), [(54, .aload_n 0, 1, [(.null, 0, [])]),
    (55, .getfield 54, 3, [(.null, 6, [7, 171])]),
    (58, .aload_n 0, 1, [(.null, 0, [])]),
    (59, .getfield 10, 3, [(.null, 6, [0, 164])]),
    (62, .iload_n 1, 1, [(.null, 1, [])]),
    (63, .iload_n 2, 1, [(.null, 2, [])]),
    (64, .iload_n 3, 1, [(.null, 3, [])]),
    (65, .invokevirtual 263, 3, [(.null, 72, [5, 1, 5, 6, 636])]),
    (68, .ireturn, 1, [])])]
/-- WallsByTheHour.ways (III)J -/
def kd_111 : List (Nat × ax_Bl) := [(0, (18, [0]), [(0, .aload_n 0, 1, [(.null, 0, [])]),
    (1, .getfield 10, 3, [(.null, 6, [0, 164])]),
    (4, .iload_n 1, 1, [(.null, 1, [])]),
    (5, .invokevirtual 129, 3, [(.null, 46, [2, 1, 4, 2, 360])]),
    (8, .ifCond .eq 10, 3, [(.null, 18, [0])]),
    (11, .iload_n 2, 1, [(.null, 2, [])]),
    (12, .invokestatic 151, 3, [(.null, 127, [1, 1, 99, 1, 268])]),
    (15, .ifCond .ne 9, 3, [(.null, 24, [0, 1, 2, 3])])]),
  (18, (0, []), [(18, .aload_n 0, 1, [(.null, 0, [])]),
    (19, .iconst (-1), 1, [(.int (-1), 0, [])]),
    (20, .invokevirtual 266, 3, [(.null, 126, [2, 2, 6, 2, 644])]),
    (23, .lreturn, 1, [])]),
  (24, (0, []), [(24, .iload_n 3, 1, [(.null, 3, [])]),
    (25, .iconst 0, 1, [(.int 0, 0, [])]),
    (26, .bipush 20, 2, [(.int 20, 0, [])]),
    (28, .invokestatic 172, 3, [(.null, 129, [3, 1, 99, 3, 387])]),
    (31, .istore 4, 2, [(.null, 4, [])]),
    (33, .iload 4, 2, [(.null, 4, [])]),
    (35, .ifCond .eq 10, 3, [(.null, 45, [0, 1, 2, 3])]),
    (38, .aload_n 0, 1, [(.null, 0, [])]),
    (39, .iload 4, 2, [(.null, 4, [])]),
    (41, .invokevirtual 266, 3, [(.null, 126, [2, 2, 6, 2, 644])]),
    (44, .lreturn, 1, [])]),
  (45, (0, []), [(45, .aload_n 0, 1, [(.null, 0, [])]),
    (46, .getfield 47, 3, [(.null, 6, [6, 170])]),
    (49, .aload_n 0, 1, [(.null, 0, [])]),
    (50, .getfield 10, 3, [(.null, 6, [0, 164])]),
    (53, .iload_n 1, 1, [(.null, 1, [])]),
    (54, .iload_n 2, 1, [(.null, 2, [])]),
    (55, .iload_n 3, 1, [(.null, 3, [])]),
    (56, .invokevirtual 270, 3, [(.null, 12, [5, 2, 0, 6, 648])]),
    (59, .lreturn, 1, [])])]
/-- WallsByTheHour.rain (IIII)J -/
def kd_112 : List (Nat × ax_Bl) := [(0, (0, []), [(0, .iload_n 1, 1, [(.null, 1, [])]),
    (1, .invokestatic 151, 3, [(.null, 127, [1, 1, 99, 1, 268])]),
    (4, .ifCond .ne 9, 3, [(.null, 13, [0, 1, 2, 3, 4])]),
    (7, .aload_n 0, 1, [(.null, 0, [])]),
    (8, .iconst (-1), 1, [(.int (-1), 0, [])]),
    (9, .invokevirtual 266, 3, [(.null, 126, [2, 2, 6, 2, 644])]),
    (12, .lreturn, 1, [])]),
  (13, (22, [0]), [(13, .iload_n 2, 1, [(.null, 2, [])]),
    (14, .ifCond .lt 8, 3, [(.null, 22, [0])]),
    (17, .iload_n 3, 1, [(.null, 3, [])]),
    (18, .iconst 2, 1, [(.int 2, 0, [])]),
    (19, .if_icmp .ge 10, 3, [(.null, 29, [0, 1, 2, 3, 4])])]),
  (22, (0, []), [(22, .aload_n 0, 1, [(.null, 0, [])]),
    (23, .bipush (-4), 2, [(.int (-4), 0, [])]),
    (25, .invokevirtual 266, 3, [(.null, 126, [2, 2, 6, 2, 644])]),
    (28, .lreturn, 1, [])]),
  (29, (41, [0]), [(29, .iload_n 2, 1, [(.null, 2, [])]),
    (30, .bipush 6, 2, [(.int 6, 0, [])]),
    (32, .if_icmp .gt 9, 3, [(.null, 41, [0])]),
    (35, .iload_n 3, 1, [(.null, 3, [])]),
    (36, .bipush 20, 2, [(.int 20, 0, [])]),
    (38, .if_icmp .le 10, 3, [(.null, 48, [0, 1, 2, 3, 4])])]),
  (41, (0, []), [(41, .aload_n 0, 1, [(.null, 0, [])]),
    (42, .bipush (-6), 2, [(.int (-6), 0, [])]),
    (44, .invokevirtual 266, 3, [(.null, 126, [2, 2, 6, 2, 644])]),
    (47, .lreturn, 1, [])]),
  (48, (59, [0]), [(48, .iload 4, 2, [(.null, 4, [])]),
    (50, .ifCond .lt 9, 3, [(.null, 59, [0])]),
    (53, .iload 4, 2, [(.null, 4, [])]),
    (55, .iconst 1, 1, [(.int 1, 0, [])]),
    (56, .if_icmp .le 10, 3, [(.null, 66, [0, 1, 2, 3, 4])])]),
  (59, (0, []), [(59, .aload_n 0, 1, [(.null, 0, [])]),
    (60, .bipush (-2), 2, [(.int (-2), 0, [])]),
    (62, .invokevirtual 266, 3, [(.null, 126, [2, 2, 6, 2, 644])]),
    (65, .lreturn, 1, [])]),
  (66, (0, []), [(66, .aload_n 0, 1, [(.null, 0, [])]),
    (67, .getfield 54, 3, [(.null, 6, [7, 171])]),
    (70, .aload_n 0, 1, [(.null, 0, [])]),
    (71, .getfield 10, 3, [(.null, 6, [0, 164])]),
    (74, .iload_n 1, 1, [(.null, 1, [])]),
    (75, .iload_n 2, 1, [(.null, 2, [])]),
    (76, .iload_n 3, 1, [(.null, 3, [])]),
    (77, .invokevirtual 274, 3, [(.null, 73, [5, 2, 5, 9, 661])]),
    (80, .iload_n 3, 1, [(.null, 3, [])]),
    (81, .iload_n 2, 1, [(.null, 2, [])]),
    (82, .invokestatic 277, 3, [(.null, 133, [2, 2, 99, 5, 665])]),
    (85, .iload 4, 2, [(.null, 4, [])]),
    (87, .invokestatic 281, 3, [(.null, 134, [3, 2, 99, 7, 666])]),
    (90, .lreturn, 1, [])])]
/-- WallsByTheHour.mean (I)J -/
def kd_113 : List (Nat × ax_Bl) := [(0, (9, [0]), [(0, .iload_n 1, 1, [(.null, 1, [])]),
    (1, .ifCond .lt 8, 3, [(.null, 9, [0])]),
    (4, .iload_n 1, 1, [(.null, 1, [])]),
    (5, .iconst 1, 1, [(.int 1, 0, [])]),
    (6, .if_icmp .le 10, 3, [(.null, 16, [0, 1])])]),
  (9, (0, []), [(9, .aload_n 0, 1, [(.null, 0, [])]),
    (10, .bipush (-2), 2, [(.int (-2), 0, [])]),
    (12, .invokevirtual 266, 3, [(.null, 126, [2, 2, 6, 2, 644])]),
    (15, .lreturn, 1, [])]),
  (16, (0, []), [(16, .aload_n 0, 1, [(.null, 0, [])]),
    (17, .getfield 10, 3, [(.null, 6, [0, 164])]),
    (20, .invokevirtual 186, 3, [(.null, 52, [1, 1, 4, 3, 409])]),
    (23, .i2l, 1, []),
    (24, .aload_n 0, 1, [(.null, 0, [])]),
    (25, .getfield 10, 3, [(.null, 6, [0, 164])]),
    (28, .invokevirtual 122, 3, [(.null, 53, [1, 1, 4, 3, 347])]),
    (31, .invokestatic 249, 3, [(.null, 132, [1, 1, 99, 1, 606])]),
    (34, .i2l, 1, []),
    (35, .iload_n 1, 1, [(.null, 1, [])]),
    (36, .invokestatic 281, 3, [(.null, 134, [3, 2, 99, 7, 666])]),
    (39, .lreturn, 1, [])])]
/-- WallsByTheHour.wasSeen (III)I -/
def kd_114 : List (Nat × ax_Bl) := [(0, (0, []), [(0, .iload_n 1, 1, [(.null, 1, [])]),
    (1, .invokestatic 151, 3, [(.null, 127, [1, 1, 99, 1, 268])]),
    (4, .ifCond .ne 9, 3, [(.null, 13, [0, 1, 2, 3])]),
    (7, .aload_n 0, 1, [(.null, 0, [])]),
    (8, .iconst (-1), 1, [(.int (-1), 0, [])]),
    (9, .invokevirtual 62, 3, [(.null, 125, [2, 1, 6, 3, 186])]),
    (12, .ireturn, 1, [])]),
  (13, (21, [0]), [(13, .iload_n 2, 1, [(.null, 2, [])]),
    (14, .ifCond .lt 7, 3, [(.null, 21, [0])]),
    (17, .iload_n 3, 1, [(.null, 3, [])]),
    (18, .ifCond .ge 10, 3, [(.null, 28, [0, 1, 2, 3])])]),
  (21, (0, []), [(21, .aload_n 0, 1, [(.null, 0, [])]),
    (22, .bipush (-4), 2, [(.int (-4), 0, [])]),
    (24, .invokevirtual 62, 3, [(.null, 125, [2, 1, 6, 3, 186])]),
    (27, .ireturn, 1, [])]),
  (28, (42, [0]), [(28, .iload_n 2, 1, [(.null, 2, [])]),
    (29, .sipush 999, 3, [(.int 999, 0, [])]),
    (32, .if_icmp .gt 10, 3, [(.null, 42, [0])]),
    (35, .iload_n 3, 1, [(.null, 3, [])]),
    (36, .sipush 999, 3, [(.int 999, 0, [])]),
    (39, .if_icmp .le 10, 3, [(.null, 49, [0, 1, 2, 3])])]),
  (42, (0, []), [(42, .aload_n 0, 1, [(.null, 0, [])]),
    (43, .bipush (-6), 2, [(.int (-6), 0, [])]),
    (45, .invokevirtual 62, 3, [(.null, 125, [2, 1, 6, 3, 186])]),
    (48, .ireturn, 1, [])]),
  (49, (0, []), [(49, .iload_n 2, 1, [(.null, 2, [])]),
    (50, .iload_n 3, 1, [(.null, 3, [])]),
    (51, .if_icmp .le 10, 3, [(.null, 61, [0, 1, 2, 3])]),
    (54, .aload_n 0, 1, [(.null, 0, [])]),
    (55, .bipush (-3), 2, [(.int (-3), 0, [])]),
    (57, .invokevirtual 62, 3, [(.null, 125, [2, 1, 6, 3, 186])]),
    (60, .ireturn, 1, [])]),
  (61, (0, []), [(61, .aload_n 0, 1, [(.null, 0, [])]),
    (62, .getfield 22, 3, [(.null, 6, [2, 166])]),
    (65, .iload_n 1, 1, [(.null, 1, [])]),
    (66, .iload_n 2, 1, [(.null, 2, [])]),
    (67, .iload_n 3, 1, [(.null, 3, [])]),
    (68, .aload_n 0, 1, [(.null, 0, [])]),
    (69, .getfield 10, 3, [(.null, 6, [0, 164])]),
    (72, .getfield 76, 3, [(.null, 4, [1, 99])]),
    (75, .invokestatic 285, 3, [(.null, 2, [680])]),
    (78, .invokevirtual 290, 3, [(.null, 16, [4, 1, 1, 6, 681])]),
    (81, .ireturn, 1, [])])]
/-- WallsByTheHour.longest (I)I -/
def kd_115 : List (Nat × ax_Bl) := [(0, (0, []), [(0, .iload_n 1, 1, [(.null, 1, [])]),
    (1, .invokestatic 151, 3, [(.null, 127, [1, 1, 99, 1, 268])]),
    (4, .ifCond .ne 9, 3, [(.null, 13, [0, 1])]),
    (7, .aload_n 0, 1, [(.null, 0, [])]),
    (8, .iconst (-1), 1, [(.int (-1), 0, [])]),
    (9, .invokevirtual 62, 3, [(.null, 125, [2, 1, 6, 3, 186])]),
    (12, .ireturn, 1, [])]),
  (13, (0, []), [(13, .aload_n 0, 1, [(.null, 0, [])]),
    (14, .getfield 22, 3, [(.null, 6, [2, 166])]),
    (17, .iload_n 1, 1, [(.null, 1, [])]),
    (18, .aload_n 0, 1, [(.null, 0, [])]),
    (19, .getfield 10, 3, [(.null, 6, [0, 164])]),
    (22, .getfield 76, 3, [(.null, 4, [1, 99])]),
    (25, .invokevirtual 293, 3, [(.null, 18, [3, 1, 1, 6, 692])]),
    (28, .ireturn, 1, [])])]
/-- WallsByTheHour.together (III)I -/
def kd_116 : List (Nat × ax_Bl) := [(0, (0, []), [(0, .iload_n 1, 1, [(.null, 1, [])]),
    (1, .iload_n 2, 1, [(.null, 2, [])]),
    (2, .invokestatic 179, 3, [(.null, 128, [2, 1, 99, 2, 396])]),
    (5, .ifCond .ne 9, 3, [(.null, 14, [0, 1, 2, 3])]),
    (8, .aload_n 0, 1, [(.null, 0, [])]),
    (9, .iconst (-1), 1, [(.int (-1), 0, [])]),
    (10, .invokevirtual 62, 3, [(.null, 125, [2, 1, 6, 3, 186])]),
    (13, .ireturn, 1, [])]),
  (14, (23, [0]), [(14, .iload_n 3, 1, [(.null, 3, [])]),
    (15, .ifCond .lt 8, 3, [(.null, 23, [0])]),
    (18, .iload_n 3, 1, [(.null, 3, [])]),
    (19, .iconst 2, 1, [(.int 2, 0, [])]),
    (20, .if_icmp .le 10, 3, [(.null, 30, [0, 1, 2, 3])])]),
  (23, (0, []), [(23, .aload_n 0, 1, [(.null, 0, [])]),
    (24, .bipush (-2), 2, [(.int (-2), 0, [])]),
    (26, .invokevirtual 62, 3, [(.null, 125, [2, 1, 6, 3, 186])]),
    (29, .ireturn, 1, [])]),
  (30, (0, []), [(30, .aload_n 0, 1, [(.null, 0, [])]),
    (31, .getfield 22, 3, [(.null, 6, [2, 166])]),
    (34, .iload_n 1, 1, [(.null, 1, [])]),
    (35, .iconst 0, 1, [(.int 0, 0, [])]),
    (36, .aload_n 0, 1, [(.null, 0, [])]),
    (37, .getfield 10, 3, [(.null, 6, [0, 164])]),
    (40, .getfield 76, 3, [(.null, 4, [1, 99])]),
    (43, .invokevirtual 290, 3, [(.null, 16, [4, 1, 1, 6, 681])]),
    (46, .istore 4, 2, [(.null, 4, [])]),
    (48, .aload_n 0, 1, [(.null, 0, [])]),
    (49, .getfield 22, 3, [(.null, 6, [2, 166])]),
    (52, .iload_n 2, 1, [(.null, 2, [])]),
    (53, .iconst 0, 1, [(.int 0, 0, [])]),
    (54, .aload_n 0, 1, [(.null, 0, [])]),
    (55, .getfield 10, 3, [(.null, 6, [0, 164])]),
    (58, .getfield 76, 3, [(.null, 4, [1, 99])]),
    (61, .invokevirtual 290, 3, [(.null, 16, [4, 1, 1, 6, 681])]),
    (64, .istore 5, 2, [(.null, 5, [])]),
    (66, .aload_n 0, 1, [(.null, 0, [])]),
    (67, .getfield 22, 3, [(.null, 6, [2, 166])]),
    (70, .iload_n 1, 1, [(.null, 1, [])]),
    (71, .iload_n 2, 1, [(.null, 2, [])]),
    (72, .aload_n 0, 1, [(.null, 0, [])]),
    (73, .getfield 10, 3, [(.null, 6, [0, 164])]),
    (76, .getfield 76, 3, [(.null, 4, [1, 99])]),
    (79, .invokevirtual 296, 3, [(.null, 17, [4, 1, 1, 6, 701])]),
    (82, .istore 6, 2, [(.null, 6, [])]),
    (84, .iload_n 3, 1, [(.null, 3, [])]),
    (85, .ifCond .ne 6, 3, [(.null, 91, [3, 4, 5, 6])]),
    (88, .iload 6, 2, [(.null, 6, [])]),
    (90, .ireturn, 1, [])]),
  (91, (0, []), [(91, .iload_n 3, 1, [(.null, 3, [])]),
    (92, .iconst 1, 1, [(.int 1, 0, [])]),
    (93, .if_icmp .ne 14, 3, [(.null, 107, [4, 5, 6])]),
    (96, .iload 4, 2, [(.null, 4, [])]),
    (98, .iload 5, 2, [(.null, 5, [])]),
    (100, .iadd, 1, []),
    (101, .iload 6, 2, [(.null, 6, [])]),
    (103, .isub, 1, []),
    (104, .goto 13, 3, [(.null, 117, [])])]),
  (107, (117, []), [(107, .iload 4, 2, [(.null, 4, [])]),
    (109, .iload 5, 2, [(.null, 5, [])]),
    (111, .iadd, 1, []),
    (112, .iconst 2, 1, [(.int 2, 0, [])]),
    (113, .iload 6, 2, [(.null, 6, [])]),
    (115, .imul, 1, []),
    (116, .isub, 1, [])]),
  (117, (0, []), [(117, .ireturn, 1, [])])]
/-- WallsByTheHour.whatIs (II)I -/
def kd_117 : List (Nat × ax_Bl) := [(0, (0, []), [(0, .aload_n 0, 1, [(.null, 0, [])]),
    (1, .getfield 10, 3, [(.null, 6, [0, 164])]),
    (4, .iload_n 1, 1, [(.null, 1, [])]),
    (5, .invokevirtual 129, 3, [(.null, 46, [2, 1, 4, 2, 360])]),
    (8, .ifCond .ne 9, 3, [(.null, 17, [0, 1, 2])]),
    (11, .aload_n 0, 1, [(.null, 0, [])]),
    (12, .iconst (-1), 1, [(.int (-1), 0, [])]),
    (13, .invokevirtual 62, 3, [(.null, 125, [2, 1, 6, 3, 186])]),
    (16, .ireturn, 1, [])]),
  (17, (26, [0]), [(17, .iload_n 2, 1, [(.null, 2, [])]),
    (18, .ifCond .lt 8, 3, [(.null, 26, [0])]),
    (21, .iload_n 2, 1, [(.null, 2, [])]),
    (22, .iconst 1, 1, [(.int 1, 0, [])]),
    (23, .if_icmp .le 10, 3, [(.null, 33, [0, 1, 2])])]),
  (26, (0, []), [(26, .aload_n 0, 1, [(.null, 0, [])]),
    (27, .bipush (-2), 2, [(.int (-2), 0, [])]),
    (29, .invokevirtual 62, 3, [(.null, 125, [2, 1, 6, 3, 186])]),
    (32, .ireturn, 1, [])]),
  (33, (0, []), [(33, .iload_n 2, 1, [(.null, 2, [])]),
    (34, .ifCond .ne 22, 3, [(.null, 56, [0, 1])]),
    (37, .aload_n 0, 1, [(.null, 0, [])]),
    (38, .getfield 54, 3, [(.null, 6, [7, 171])]),
    (41, .aload_n 0, 1, [(.null, 0, [])]),
    (42, .getfield 10, 3, [(.null, 6, [0, 164])]),
    (45, .iload_n 1, 1, [(.null, 1, [])]),
    (46, .aload_n 0, 1, [(.null, 0, [])]),
    (47, .getfield 40, 3, [(.null, 6, [5, 169])]),
    (50, .invokevirtual 299, 3, [(.null, 74, [4, 1, 5, 6, 709])]),
    (53, .goto 19, 3, [(.null, 72, [])])]),
  (56, (72, []), [(56, .aload_n 0, 1, [(.null, 0, [])]),
    (57, .getfield 54, 3, [(.null, 6, [7, 171])]),
    (60, .aload_n 0, 1, [(.null, 0, [])]),
    (61, .getfield 10, 3, [(.null, 6, [0, 164])]),
    (64, .iload_n 1, 1, [(.null, 1, [])]),
    (65, .aload_n 0, 1, [(.null, 0, [])]),
    (66, .getfield 40, 3, [(.null, 6, [5, 169])]),
    (69, .invokevirtual 303, 3, [(.null, 75, [4, 1, 5, 6, 721])])]),
  (72, (0, []), [(72, .ireturn, 1, [])])]
/-- WallsByTheHour.row (I)I -/
def kd_118 : List (Nat × ax_Bl) := [(0, (0, []), [(0, .iload_n 1, 1, [(.null, 1, [])]),
    (1, .ifCond .ge 10, 3, [(.null, 11, [0, 1])]),
    (4, .aload_n 0, 1, [(.null, 0, [])]),
    (5, .bipush (-4), 2, [(.int (-4), 0, [])]),
    (7, .invokevirtual 62, 3, [(.null, 125, [2, 1, 6, 3, 186])]),
    (10, .ireturn, 1, [])]),
  (11, (29, [0]), [(11, .iload_n 1, 1, [(.null, 1, [])]),
    (12, .bipush 99, 2, [(.int 99, 0, [])]),
    (14, .if_icmp .gt 15, 3, [(.null, 29, [0])]),
    (17, .aload_n 0, 1, [(.null, 0, [])]),
    (18, .getfield 40, 3, [(.null, 6, [5, 169])]),
    (21, .getfield 306, 3, [(.null, 3, [1, 151])]),
    (24, .bipush 16, 2, [(.int 16, 0, [])]),
    (26, .if_icmp .lt 10, 3, [(.null, 36, [0, 1])])]),
  (29, (0, []), [(29, .aload_n 0, 1, [(.null, 0, [])]),
    (30, .bipush (-6), 2, [(.int (-6), 0, [])]),
    (32, .invokevirtual 62, 3, [(.null, 125, [2, 1, 6, 3, 186])]),
    (35, .ireturn, 1, [])]),
  (36, (0, []), [(36, .aload_n 0, 1, [(.null, 0, [])]),
    (37, .getfield 40, 3, [(.null, 6, [5, 169])]),
    (40, .iload_n 1, 1, [(.null, 1, [])]),
    (41, .invokevirtual 307, 3, [(.null, 33, [2, 1, 3, 2, 729])]),
    (44, .ireturn, 1, [])])]
/-- WallsByTheHour.judge ()I -/
def kd_119 : List (Nat × ax_Bl) := [(0, (0, []), [(0, .aload_n 0, 1, [(.null, 0, [])]),
    (1, .getfield 54, 3, [(.null, 6, [7, 171])]),
    (4, .aload_n 0, 1, [(.null, 0, [])]),
    (5, .getfield 10, 3, [(.null, 6, [0, 164])]),
    (8, .aload_n 0, 1, [(.null, 0, [])]),
    (9, .getfield 40, 3, [(.null, 6, [5, 169])]),
    (12, .invokevirtual 308, 3, [(.null, 77, [3, 1, 5, 4, 737])]),
    (15, .istore_n 1, 1, [(.null, 1, [])]),
    (16, .aload_n 0, 1, [(.null, 0, [])]),
    (17, .getfield 40, 3, [(.null, 6, [5, 169])]),
    (20, .iconst 0, 1, [(.int 0, 0, [])]),
    (21, .putfield 306, 3, [(.null, 3, [1, 151])]),
    (24, .iload_n 1, 1, [(.null, 1, [])]),
    (25, .ireturn, 1, [])])]
/-- WallsByTheHour.clear ()I -/
def kd_120 : List (Nat × ax_Bl) := [(0, (0, []), [(0, .aload_n 0, 1, [(.null, 0, [])]),
    (1, .getfield 40, 3, [(.null, 6, [5, 169])]),
    (4, .getfield 306, 3, [(.null, 3, [1, 151])]),
    (7, .istore_n 1, 1, [(.null, 1, [])]),
    (8, .aload_n 0, 1, [(.null, 0, [])]),
    (9, .getfield 40, 3, [(.null, 6, [5, 169])]),
    (12, .iconst 0, 1, [(.int 0, 0, [])]),
    (13, .putfield 306, 3, [(.null, 3, [1, 151])]),
    (16, .iload_n 1, 1, [(.null, 1, [])]),
    (17, .ireturn, 1, [])])]
/-- WallsByTheHour.lots (III)I -/
def kd_121 : List (Nat × ax_Bl) := [(0, (0, []), [(0, .iload_n 1, 1, [(.null, 1, [])]),
    (1, .iconst 1, 1, [(.int 1, 0, [])]),
    (2, .bipush 20, 2, [(.int 20, 0, [])]),
    (4, .invokestatic 172, 3, [(.null, 129, [3, 1, 99, 3, 387])]),
    (7, .istore 4, 2, [(.null, 4, [])]),
    (9, .iload 4, 2, [(.null, 4, [])]),
    (11, .ifCond .eq 10, 3, [(.null, 21, [0, 1, 2, 3])]),
    (14, .aload_n 0, 1, [(.null, 0, [])]),
    (15, .iload 4, 2, [(.null, 4, [])]),
    (17, .invokevirtual 62, 3, [(.null, 125, [2, 1, 6, 3, 186])]),
    (20, .ireturn, 1, [])]),
  (21, (30, [0]), [(21, .iload_n 3, 1, [(.null, 3, [])]),
    (22, .ifCond .lt 8, 3, [(.null, 30, [0])]),
    (25, .iload_n 3, 1, [(.null, 3, [])]),
    (26, .iconst 1, 1, [(.int 1, 0, [])]),
    (27, .if_icmp .le 10, 3, [(.null, 37, [0, 1, 2, 3])])]),
  (30, (0, []), [(30, .aload_n 0, 1, [(.null, 0, [])]),
    (31, .bipush (-2), 2, [(.int (-2), 0, [])]),
    (33, .invokevirtual 62, 3, [(.null, 125, [2, 1, 6, 3, 186])]),
    (36, .ireturn, 1, [])]),
  (37, (0, []), [(37, .aload_n 0, 1, [(.null, 0, [])]),
    (38, .getfield 54, 3, [(.null, 6, [7, 171])]),
    (41, .aload_n 0, 1, [(.null, 0, [])]),
    (42, .getfield 10, 3, [(.null, 6, [0, 164])]),
    (45, .iload_n 1, 1, [(.null, 1, [])]),
    (46, .iload_n 2, 1, [(.null, 2, [])]),
    (47, .iload_n 3, 1, [(.null, 3, [])]),
    (48, .iconst 1, 1, [(.int 1, 0, [])]),
    (49, .if_icmp .ne 7, 3, [(.null, 56, [])]),
    (52, .iconst 1, 1, [(.int 1, 0, [])]),
    (53, .goto 4, 3, [(.null, 57, [])])]),
  (56, (57, []), [(56, .iconst 0, 1, [(.int 0, 0, [])])]),
  (57, (0, []), [(57, .invokevirtual 312, 3, [(.null, 78, [5, 1, 5, 9, 749])]),
    (60, .ireturn, 1, [])])]
/-- WallsByTheHour.image ()I -/
def kd_122 : List (Nat × ax_Bl) := [(0, (0, []), [(0, .aload_n 0, 1, [(.null, 0, [])]),
    (1, .getfield 16, 3, [(.null, 6, [1, 165])]),
    (4, .aload_n 0, 1, [(.null, 0, [])]),
    (5, .getfield 10, 3, [(.null, 6, [0, 164])]),
    (8, .invokevirtual 316, 3, [(.null, 35, [2, 0, 4, 2, 761])]),
    (11, .aload_n 0, 1, [(.null, 0, [])]),
    (12, .iconst 1, 1, [(.int 1, 0, [])]),
    (13, .putfield 26, 3, [(.int 1, 6, [3, 167])]),
    (16, .aload_n 0, 1, [(.null, 0, [])]),
    (17, .getfield 10, 3, [(.null, 6, [0, 164])]),
    (20, .getfield 76, 3, [(.null, 4, [1, 99])]),
    (23, .ireturn, 1, [])])]
/-- WallsByTheHour.on ()I -/
def kd_123 : List (Nat × ax_Bl) := [(0, (0, []), [(0, .aload_n 0, 1, [(.null, 0, [])]),
    (1, .getfield 26, 3, [(.null, 6, [3, 167])]),
    (4, .ifCond .ne 10, 3, [(.null, 14, [0])]),
    (7, .aload_n 0, 1, [(.null, 0, [])]),
    (8, .bipush (-3), 2, [(.int (-3), 0, [])]),
    (10, .invokevirtual 62, 3, [(.null, 125, [2, 1, 6, 3, 186])]),
    (13, .ireturn, 1, [])]),
  (14, (0, []), [(14, .aload_n 0, 1, [(.null, 0, [])]),
    (15, .getfield 10, 3, [(.null, 6, [0, 164])]),
    (18, .aload_n 0, 1, [(.null, 0, [])]),
    (19, .getfield 16, 3, [(.null, 6, [1, 165])]),
    (22, .invokevirtual 316, 3, [(.null, 35, [2, 0, 4, 2, 761])]),
    (25, .aload_n 0, 1, [(.null, 0, [])]),
    (26, .getfield 10, 3, [(.null, 6, [0, 164])]),
    (29, .getfield 76, 3, [(.null, 4, [1, 99])]),
    (32, .ireturn, 1, [])])]
/-- WallsByTheHour.count (I)I -/
def kd_124 : List (Nat × ax_Bl) := [(0, (0, []), [(0, .iload_n 1, 1, [(.null, 1, [])]),
    (1, .tableswitch 111 0 7 #[47, 55, 63, 71, 79, 87, 95, 103], 47, [(.int 0, 48, [0]), (.int 1, 56, [0]), (.int 2, 64, [0]), (.int 3, 72, [0]), (.int 4, 80, [0]), (.int 5, 88, [0]), (.int 6, 96, [0]), (.int 7, 104, [0]), (.null, 112, [0, 1])])]),
  (48, (0, []), [(48, .aload_n 0, 1, [(.null, 0, [])]),
    (49, .getfield 10, 3, [(.null, 6, [0, 164])]),
    (52, .getfield 73, 3, [(.null, 4, [0, 96])]),
    (55, .ireturn, 1, [])]),
  (56, (0, []), [(56, .aload_n 0, 1, [(.null, 0, [])]),
    (57, .getfield 10, 3, [(.null, 6, [0, 164])]),
    (60, .getfield 76, 3, [(.null, 4, [1, 99])]),
    (63, .ireturn, 1, [])]),
  (64, (0, []), [(64, .aload_n 0, 1, [(.null, 0, [])]),
    (65, .getfield 10, 3, [(.null, 6, [0, 164])]),
    (68, .invokevirtual 186, 3, [(.null, 52, [1, 1, 4, 3, 409])]),
    (71, .ireturn, 1, [])]),
  (72, (0, []), [(72, .aload_n 0, 1, [(.null, 0, [])]),
    (73, .getfield 10, 3, [(.null, 6, [0, 164])]),
    (76, .invokevirtual 122, 3, [(.null, 53, [1, 1, 4, 3, 347])]),
    (79, .ireturn, 1, [])]),
  (80, (0, []), [(80, .aload_n 0, 1, [(.null, 0, [])]),
    (81, .getfield 10, 3, [(.null, 6, [0, 164])]),
    (84, .invokevirtual 243, 3, [(.null, 54, [1, 1, 4, 3, 597])]),
    (87, .ireturn, 1, [])]),
  (88, (0, []), [(88, .aload_n 0, 1, [(.null, 0, [])]),
    (89, .getfield 10, 3, [(.null, 6, [0, 164])]),
    (92, .invokevirtual 320, 3, [(.null, 57, [1, 1, 4, 3, 770])]),
    (95, .ireturn, 1, [])]),
  (96, (0, []), [(96, .aload_n 0, 1, [(.null, 0, [])]),
    (97, .getfield 40, 3, [(.null, 6, [5, 169])]),
    (100, .getfield 306, 3, [(.null, 3, [1, 151])]),
    (103, .ireturn, 1, [])]),
  (104, (0, []), [(104, .aload_n 0, 1, [(.null, 0, [])]),
    (105, .getfield 33, 3, [(.null, 6, [4, 168])]),
    (108, .getfield 66, 3, [(.null, 2, [1, 145])]),
    (111, .ireturn, 1, [])]),
  (112, (0, []), [(112, .iload_n 1, 1, [(.null, 1, [])]),
    (113, .bipush 11, 2, [(.int 11, 0, [])]),
    (115, .if_icmp .lt 21, 3, [(.null, 136, [])]),
    (118, .iload_n 1, 1, [(.null, 1, [])]),
    (119, .bipush 16, 2, [(.int 16, 0, [])]),
    (121, .if_icmp .gt 15, 3, [(.null, 136, [])]),
    (124, .aload_n 0, 1, [(.null, 0, [])]),
    (125, .getfield 58, 3, [(.null, 6, [8, 172])]),
    (128, .iload_n 1, 1, [(.null, 1, [])]),
    (129, .bipush 10, 2, [(.int 10, 0, [])]),
    (131, .isub, 1, []),
    (132, .iaload, 1, []),
    (133, .goto 5, 3, [(.null, 138, [])])]),
  (136, (138, []), [(136, .bipush (-9), 2, [(.int (-9), 0, [])])]),
  (138, (0, []), [(138, .ireturn, 1, [])])]
/-- WallsByTheHour.refuse (I)I -/
def kd_125 : List (Nat × ax_Bl) := [(0, (26, [1]), [(0, .iload_n 1, 1, [(.null, 1, [])]),
    (1, .ineg, 1, []),
    (2, .istore_n 2, 1, [(.null, 2, [])]),
    (3, .iload_n 2, 1, [(.null, 2, [])]),
    (4, .ifCond .lt 22, 3, [(.null, 26, [1])]),
    (7, .iload_n 2, 1, [(.null, 2, [])]),
    (8, .aload_n 0, 1, [(.null, 0, [])]),
    (9, .getfield 58, 3, [(.null, 6, [8, 172])]),
    (12, .arraylength, 1, []),
    (13, .if_icmp .ge 13, 3, [(.null, 26, [1])]),
    (16, .aload_n 0, 1, [(.null, 0, [])]),
    (17, .getfield 58, 3, [(.null, 6, [8, 172])]),
    (20, .iload_n 2, 1, [(.null, 2, [])]),
    (21, .dup2, 1, []),
    (22, .iaload, 1, []),
    (23, .iconst 1, 1, [(.int 1, 0, [])]),
    (24, .iadd, 1, []),
    (25, .iastore, 1, [])]),
  (26, (0, []), [(26, .iload_n 1, 1, [(.null, 1, [])]),
    (27, .ireturn, 1, [])])]
/-- WallsByTheHour.refuseLong (I)J -/
def kd_126 : List (Nat × ax_Bl) := [(0, (0, []), [(0, .ldc2_w 323, 3, [(.long 4000000000000000000, 0, [647])]),
    (3, .aload_n 0, 1, [(.null, 0, [])]),
    (4, .iload_n 1, 1, [(.null, 1, [])]),
    (5, .invokevirtual 62, 3, [(.null, 125, [2, 1, 6, 3, 186])]),
    (8, .i2l, 1, []),
    (9, .lsub, 1, []),
    (10, .lreturn, 1, [])])]
/-- WallsByTheHour.isHouse (I)Z -/
def kd_127 : List (Nat × ax_Bl) := [(0, (0, []), [(0, .iload_n 0, 1, [(.null, 0, [])]),
    (1, .ifCond .lt 13, 3, [(.null, 14, [])]),
    (4, .iload_n 0, 1, [(.null, 0, [])]),
    (5, .bipush 8, 2, [(.int 8, 0, [])]),
    (7, .if_icmp .ge 7, 3, [(.null, 14, [])]),
    (10, .iconst 1, 1, [(.int 1, 0, [])]),
    (11, .goto 4, 3, [(.null, 15, [])])]),
  (14, (15, []), [(14, .iconst 0, 1, [(.int 0, 0, [])])]),
  (15, (0, []), [(15, .ireturn, 1, [])])]
/-- WallsByTheHour.areTwoHouses (II)Z -/
def kd_128 : List (Nat × ax_Bl) := [(0, (0, []), [(0, .iload_n 0, 1, [(.null, 0, [])]),
    (1, .invokestatic 151, 3, [(.null, 127, [1, 1, 99, 1, 268])]),
    (4, .ifCond .eq 19, 3, [(.null, 23, [])]),
    (7, .iload_n 1, 1, [(.null, 1, [])]),
    (8, .invokestatic 151, 3, [(.null, 127, [1, 1, 99, 1, 268])]),
    (11, .ifCond .eq 12, 3, [(.null, 23, [])]),
    (14, .iload_n 0, 1, [(.null, 0, [])]),
    (15, .iload_n 1, 1, [(.null, 1, [])]),
    (16, .if_icmp .eq 7, 3, [(.null, 23, [])]),
    (19, .iconst 1, 1, [(.int 1, 0, [])]),
    (20, .goto 4, 3, [(.null, 24, [])])]),
  (23, (24, []), [(23, .iconst 0, 1, [(.int 0, 0, [])])]),
  (24, (0, []), [(24, .ireturn, 1, [])])]
/-- WallsByTheHour.outside (III)I -/
def kd_129 : List (Nat × ax_Bl) := [(0, (0, []), [(0, .iload_n 0, 1, [(.null, 0, [])]),
    (1, .iload_n 1, 1, [(.null, 1, [])]),
    (2, .if_icmp .ge 6, 3, [(.null, 8, [0, 2])]),
    (5, .bipush (-4), 2, [(.int (-4), 0, [])]),
    (7, .ireturn, 1, [])]),
  (8, (0, []), [(8, .iload_n 0, 1, [(.null, 0, [])]),
    (9, .iload_n 2, 1, [(.null, 2, [])]),
    (10, .if_icmp .le 8, 3, [(.null, 18, [])]),
    (13, .bipush (-6), 2, [(.int (-6), 0, [])]),
    (15, .goto 4, 3, [(.null, 19, [])])]),
  (18, (19, []), [(18, .iconst 0, 1, [(.int 0, 0, [])])]),
  (19, (0, []), [(19, .ireturn, 1, [])])]
/-- WallsByTheHour.stepsBetween (II)I -/
def kd_130 : List (Nat × ax_Bl) := [(0, (0, []), [(0, .iload_n 0, 1, [(.null, 0, [])]),
    (1, .iload_n 1, 1, [(.null, 1, [])]),
    (2, .isub, 1, []),
    (3, .invokestatic 325, 3, [(.null, 3, [337])]),
    (6, .ireturn, 1, [])])]
/-- WallsByTheHour.hasBit (II)Z -/
def kd_131 : List (Nat × ax_Bl) := [(0, (0, []), [(0, .iload_n 0, 1, [(.null, 0, [])]),
    (1, .iload_n 1, 1, [(.null, 1, [])]),
    (2, .ishr, 1, []),
    (3, .iconst 1, 1, [(.int 1, 0, [])]),
    (4, .iand, 1, []),
    (5, .iconst 1, 1, [(.int 1, 0, [])]),
    (6, .if_icmp .ne 7, 3, [(.null, 13, [])]),
    (9, .iconst 1, 1, [(.int 1, 0, [])]),
    (10, .goto 4, 3, [(.null, 14, [])])]),
  (13, (14, []), [(13, .iconst 0, 1, [(.int 0, 0, [])])]),
  (14, (0, []), [(14, .ireturn, 1, [])])]
/-- WallsByTheHour.bitsIn (I)I -/
def kd_132 : List (Nat × ax_Bl) := [(0, (0, []), [(0, .iload_n 0, 1, [(.null, 0, [])]),
    (1, .invokestatic 328, 3, [(.null, 251, [1, 1, 99, 1, 483])]),
    (4, .ireturn, 1, [])])]
/-- WallsByTheHour.power (II)J -/
def kd_133 : List (Nat × ax_Bl) := [(0, (5, [0, 1, 2, 4]), [(0, .lconst 1, 1, [(.long 1, 0, [])]),
    (1, .lstore_n 2, 1, [(.null, 2, [])]),
    (2, .iconst 0, 1, [(.int 0, 0, [])]),
    (3, .istore 4, 2, [(.null, 4, [])])]),
  (5, (0, []), [(5, .iload 4, 2, [(.null, 4, [])]),
    (7, .iload_n 1, 1, [(.null, 1, [])]),
    (8, .if_icmp .ge 14, 3, [(.null, 22, [2])]),
    (11, .lload_n 2, 1, [(.null, 2, [])]),
    (12, .iload_n 0, 1, [(.null, 0, [])]),
    (13, .i2l, 1, []),
    (14, .lmul, 1, []),
    (15, .lstore_n 2, 1, [(.null, 2, [])]),
    (16, .iinc 4 1, 3, [(.int 1, 4, [])]),
    (19, .goto (-14), 3, [(.null, 5, [0, 1, 2, 4])])]),
  (22, (0, []), [(22, .lload_n 2, 1, [(.null, 2, [])]),
    (23, .lreturn, 1, [])])]
/-- WallsByTheHour.inLeastTerms (JJI)J -/
def kd_134 : List (Nat × ax_Bl) := [(0, (12, [4]), [(0, .lload_n 0, 1, [(.null, 0, [])]),
    (1, .lconst 0, 1, [(.long 0, 0, [])]),
    (2, .lcmp, 1, []),
    (3, .ifCond .eq 9, 3, [(.null, 12, [4])]),
    (6, .lload_n 2, 1, [(.null, 2, [])]),
    (7, .lconst 0, 1, [(.long 0, 0, [])]),
    (8, .lcmp, 1, []),
    (9, .ifCond .ne 7, 3, [(.null, 16, [0, 2, 4])])]),
  (12, (0, []), [(12, .iload 4, 2, [(.null, 4, [])]),
    (14, .i2l, 1, []),
    (15, .lreturn, 1, [])]),
  (16, (0, []), [(16, .lload_n 0, 1, [(.null, 0, [])]),
    (17, .lload_n 2, 1, [(.null, 2, [])]),
    (18, .invokestatic 333, 3, [(.null, 135, [2, 2, 99, 11, 669])]),
    (21, .lstore 5, 2, [(.null, 5, [])]),
    (23, .lload 5, 2, [(.null, 5, [])]),
    (25, .lconst 0, 1, [(.long 0, 0, [])]),
    (26, .lcmp, 1, []),
    (27, .ifCond .ne 7, 3, [(.null, 34, [0, 2, 4, 5])]),
    (30, .iload 4, 2, [(.null, 4, [])]),
    (32, .i2l, 1, []),
    (33, .lreturn, 1, [])]),
  (34, (0, []), [(34, .iload 4, 2, [(.null, 4, [])]),
    (36, .ifCond .ne 7, 3, [(.null, 43, [2, 5])]),
    (39, .lload_n 0, 1, [(.null, 0, [])]),
    (40, .goto 4, 3, [(.null, 44, [5])])]),
  (43, (44, [5]), [(43, .lload_n 2, 1, [(.null, 2, [])])]),
  (44, (0, []), [(44, .lload 5, 2, [(.null, 5, [])]),
    (46, .ldiv, 1, []),
    (47, .lreturn, 1, [])])]
/-- WallsByTheHour.commonDivisor (JJ)J -/
def kd_135 : List (Nat × ax_Bl) := [(0, (9, [4, 6, 8]), [(0, .lload_n 0, 1, [(.null, 0, [])]),
    (1, .lstore 4, 2, [(.null, 4, [])]),
    (3, .lload_n 2, 1, [(.null, 2, [])]),
    (4, .lstore 6, 2, [(.null, 6, [])]),
    (6, .iconst 0, 1, [(.int 0, 0, [])]),
    (7, .istore 8, 2, [(.null, 8, [])])]),
  (9, (0, []), [(9, .iload 8, 2, [(.null, 8, [])]),
    (11, .bipush 100, 2, [(.int 100, 0, [])]),
    (13, .if_icmp .ge 31, 3, [(.null, 44, [4])]),
    (16, .lload 6, 2, [(.null, 6, [])]),
    (18, .lconst 0, 1, [(.long 0, 0, [])]),
    (19, .lcmp, 1, []),
    (20, .ifCond .eq 24, 3, [(.null, 44, [4])]),
    (23, .lload 4, 2, [(.null, 4, [])]),
    (25, .lload 6, 2, [(.null, 6, [])]),
    (27, .lrem, 1, []),
    (28, .lstore 9, 2, [(.null, 9, [])]),
    (30, .lload 6, 2, [(.null, 6, [])]),
    (32, .lstore 4, 2, [(.null, 4, [])]),
    (34, .lload 9, 2, [(.null, 9, [])]),
    (36, .lstore 6, 2, [(.null, 6, [])]),
    (38, .iinc 8 1, 3, [(.int 1, 8, [])]),
    (41, .goto (-32), 3, [(.null, 9, [4, 6, 8])])]),
  (44, (0, []), [(44, .lload 4, 2, [(.null, 4, [])]),
    (46, .lreturn, 1, [])])]
/-- WallsByTheHourModel.no (I)I -/
def kd_136 : List (Nat × ax_Bl) := [(0, (0, []), [(0, .aload_n 0, 1, [(.null, 0, [])]),
    (1, .getfield 7, 3, [(.null, 7, [0, 774])]),
    (4, .iload_n 1, 1, [(.null, 1, [])]),
    (5, .ineg, 1, []),
    (6, .dup2, 1, []),
    (7, .iaload, 1, []),
    (8, .iconst 1, 1, [(.int 1, 0, [])]),
    (9, .iadd, 1, []),
    (10, .iastore, 1, []),
    (11, .iload_n 1, 1, [(.null, 1, [])]),
    (12, .ireturn, 1, [])])]
/-- WallsByTheHourModel.lowestOf (I)J -/
def kd_137 : List (Nat × ax_Bl) := [(0, (0, []), [(0, .aload_n 0, 1, [(.null, 0, [])]),
    (1, .getfield 7, 3, [(.null, 7, [0, 774])]),
    (4, .iload_n 1, 1, [(.null, 1, [])]),
    (5, .ineg, 1, []),
    (6, .dup2, 1, []),
    (7, .iaload, 1, []),
    (8, .iconst 1, 1, [(.int 1, 0, [])]),
    (9, .iadd, 1, []),
    (10, .iastore, 1, []),
    (11, .ldc2_w 69, 3, [(.long 4000000000000000000, 0, [1166])]),
    (14, .iload_n 1, 1, [(.null, 1, [])]),
    (15, .i2l, 1, []),
    (16, .lsub, 1, []),
    (17, .lreturn, 1, [])])]
/-- WallsByTheHourModel.isIn (III)Z -/
def kd_138 : List (Nat × ax_Bl) := [(0, (0, []), [(0, .iload_n 0, 1, [(.null, 0, [])]),
    (1, .iload_n 1, 1, [(.null, 1, [])]),
    (2, .if_icmp .lt 12, 3, [(.null, 14, [])]),
    (5, .iload_n 0, 1, [(.null, 0, [])]),
    (6, .iload_n 2, 1, [(.null, 2, [])]),
    (7, .if_icmp .gt 7, 3, [(.null, 14, [])]),
    (10, .iconst 1, 1, [(.int 1, 0, [])]),
    (11, .goto 4, 3, [(.null, 15, [])])]),
  (14, (15, []), [(14, .iconst 0, 1, [(.int 0, 0, [])])]),
  (15, (0, []), [(15, .ireturn, 1, [])])]
/-- WallsByTheHourModel.bound (III)I -/
def kd_139 : List (Nat × ax_Bl) := [(0, (0, []), [(0, .iload_n 0, 1, [(.null, 0, [])]),
    (1, .iload_n 1, 1, [(.null, 1, [])]),
    (2, .if_icmp .ge 8, 3, [(.null, 10, [0, 2])]),
    (5, .bipush (-4), 2, [(.int (-4), 0, [])]),
    (7, .goto 14, 3, [(.null, 21, [])])]),
  (10, (0, []), [(10, .iload_n 0, 1, [(.null, 0, [])]),
    (11, .iload_n 2, 1, [(.null, 2, [])]),
    (12, .if_icmp .le 8, 3, [(.null, 20, [])]),
    (15, .bipush (-6), 2, [(.int (-6), 0, [])]),
    (17, .goto 4, 3, [(.null, 21, [])])]),
  (20, (21, []), [(20, .iconst 0, 1, [(.int 0, 0, [])])]),
  (21, (0, []), [(21, .ireturn, 1, [])])]
/-- WallsByTheHourModel.has (II)Z -/
def kd_140 : List (Nat × ax_Bl) := [(0, (0, []), [(0, .iload_n 0, 1, [(.null, 0, [])]),
    (1, .iload_n 1, 1, [(.null, 1, [])]),
    (2, .ishr, 1, []),
    (3, .iconst 1, 1, [(.int 1, 0, [])]),
    (4, .iand, 1, []),
    (5, .iconst 1, 1, [(.int 1, 0, [])]),
    (6, .if_icmp .ne 7, 3, [(.null, 13, [])]),
    (9, .iconst 1, 1, [(.int 1, 0, [])]),
    (10, .goto 4, 3, [(.null, 14, [])])]),
  (13, (14, []), [(13, .iconst 0, 1, [(.int 0, 0, [])])]),
  (14, (0, []), [(14, .ireturn, 1, [])])]
/-- WallsByTheHourModel.bits (I)I -/
def kd_141 : List (Nat × ax_Bl) := [(0, (4, [0, 1, 2]), [(0, .iconst 0, 1, [(.int 0, 0, [])]),
    (1, .istore_n 1, 1, [(.null, 1, [])]),
    (2, .iconst 0, 1, [(.int 0, 0, [])]),
    (3, .istore_n 2, 1, [(.null, 2, [])])]),
  (4, (0, []), [(4, .iload_n 2, 1, [(.null, 2, [])]),
    (5, .bipush 31, 2, [(.int 31, 0, [])]),
    (7, .if_icmp .ge 17, 3, [(.null, 24, [1])]),
    (10, .iload_n 1, 1, [(.null, 1, [])]),
    (11, .iload_n 0, 1, [(.null, 0, [])]),
    (12, .iload_n 2, 1, [(.null, 2, [])]),
    (13, .ishr, 1, []),
    (14, .iconst 1, 1, [(.int 1, 0, [])]),
    (15, .iand, 1, []),
    (16, .iadd, 1, []),
    (17, .istore_n 1, 1, [(.null, 1, [])]),
    (18, .iinc 2 1, 3, [(.int 1, 2, [])]),
    (21, .goto (-17), 3, [(.null, 4, [0, 1, 2])])]),
  (24, (0, []), [(24, .iload_n 1, 1, [(.null, 1, [])]),
    (25, .ireturn, 1, [])])]
/-- WallsByTheHourModel.apart (II)I -/
def kd_142 : List (Nat × ax_Bl) := [(0, (0, []), [(0, .iload_n 0, 1, [(.null, 0, [])]),
    (1, .iload_n 1, 1, [(.null, 1, [])]),
    (2, .if_icmp .ge 9, 3, [(.null, 11, [0, 1])]),
    (5, .iload_n 1, 1, [(.null, 1, [])]),
    (6, .iload_n 0, 1, [(.null, 0, [])]),
    (7, .isub, 1, []),
    (8, .goto 6, 3, [(.null, 14, [])])]),
  (11, (14, []), [(11, .iload_n 0, 1, [(.null, 0, [])]),
    (12, .iload_n 1, 1, [(.null, 1, [])]),
    (13, .isub, 1, [])]),
  (14, (0, []), [(14, .ireturn, 1, [])])]
/-- WallsByTheHourModel.isWall (I)Z -/
def kd_143 : List (Nat × ax_Bl) := [(0, (0, []), [(0, .iload_n 1, 1, [(.null, 1, [])]),
    (1, .iconst 0, 1, [(.int 0, 0, [])]),
    (2, .aload_n 0, 1, [(.null, 0, [])]),
    (3, .getfield 65, 3, [(.null, 7, [8, 782])]),
    (6, .iconst 1, 1, [(.int 1, 0, [])]),
    (7, .isub, 1, []),
    (8, .invokestatic 71, 3, [(.null, 138, [3, 1, 99, 3, 880])]),
    (11, .ireturn, 1, [])])]
/-- WallsByTheHourModel.isHouse (I)Z -/
def kd_144 : List (Nat × ax_Bl) := [(0, (0, []), [(0, .iload_n 0, 1, [(.null, 0, [])]),
    (1, .iconst 0, 1, [(.int 0, 0, [])]),
    (2, .bipush 7, 2, [(.int 7, 0, [])]),
    (4, .invokestatic 71, 3, [(.null, 138, [3, 1, 99, 3, 880])]),
    (7, .ireturn, 1, [])])]
/-- WallsByTheHourModel.areTwo (II)Z -/
def kd_145 : List (Nat × ax_Bl) := [(0, (0, []), [(0, .iload_n 0, 1, [(.null, 0, [])]),
    (1, .invokestatic 75, 3, [(.null, 144, [1, 1, 99, 1, 898])]),
    (4, .ifCond .eq 19, 3, [(.null, 23, [])]),
    (7, .iload_n 1, 1, [(.null, 1, [])]),
    (8, .invokestatic 75, 3, [(.null, 144, [1, 1, 99, 1, 898])]),
    (11, .ifCond .eq 12, 3, [(.null, 23, [])]),
    (14, .iload_n 0, 1, [(.null, 0, [])]),
    (15, .iload_n 1, 1, [(.null, 1, [])]),
    (16, .if_icmp .eq 7, 3, [(.null, 23, [])]),
    (19, .iconst 1, 1, [(.int 1, 0, [])]),
    (20, .goto 4, 3, [(.null, 24, [])])]),
  (23, (24, []), [(23, .iconst 0, 1, [(.int 0, 0, [])])]),
  (24, (0, []), [(24, .ireturn, 1, [])])]
/-- WallsByTheHourModel.letter (I)I -/
def kd_146 : List (Nat × ax_Bl) := [(0, (25, [0, 1, 2]), [(0, .iload_n 1, 1, [(.null, 1, [])]),
    (1, .iconst 0, 1, [(.int 0, 0, [])]),
    (2, .sipush 255, 3, [(.int 255, 0, [])]),
    (5, .invokestatic 79, 3, [(.null, 139, [3, 1, 99, 3, 849])]),
    (8, .istore_n 2, 1, [(.null, 2, [])]),
    (9, .iload_n 2, 1, [(.null, 2, [])]),
    (10, .ifCond .ne 15, 3, [(.null, 25, [0, 1, 2])]),
    (13, .aload_n 0, 1, [(.null, 0, [])]),
    (14, .getfield 83, 3, [(.null, 7, [14, 788])]),
    (17, .bipush 96, 2, [(.int 96, 0, [])]),
    (19, .if_icmp .ne 6, 3, [(.null, 25, [0, 1, 2])]),
    (22, .bipush (-6), 2, [(.int (-6), 0, [])]),
    (24, .istore_n 2, 1, [(.null, 2, [])])]),
  (25, (0, []), [(25, .iload_n 2, 1, [(.null, 2, [])]),
    (26, .ifCond .eq 9, 3, [(.null, 35, [0, 1])]),
    (29, .aload_n 0, 1, [(.null, 0, [])]),
    (30, .iload_n 2, 1, [(.null, 2, [])]),
    (31, .invokevirtual 86, 3, [(.null, 136, [2, 1, 7, 2, 852])]),
    (34, .ireturn, 1, [])]),
  (35, (0, []), [(35, .aload_n 0, 1, [(.null, 0, [])]),
    (36, .getfield 34, 3, [(.null, 7, [10, 784])]),
    (39, .aload_n 0, 1, [(.null, 0, [])]),
    (40, .getfield 83, 3, [(.null, 7, [14, 788])]),
    (43, .iload_n 1, 1, [(.null, 1, [])]),
    (44, .iastore, 1, []),
    (45, .aload_n 0, 1, [(.null, 0, [])]),
    (46, .dup, 1, []),
    (47, .getfield 83, 3, [(.null, 7, [14, 788])]),
    (50, .iconst 1, 1, [(.int 1, 0, [])]),
    (51, .iadd, 1, []),
    (52, .putfield 83, 3, [(.null, 7, [14, 788])]),
    (55, .aload_n 0, 1, [(.null, 0, [])]),
    (56, .getfield 83, 3, [(.null, 7, [14, 788])]),
    (59, .ireturn, 1, [])])]
/-- WallsByTheHourModel.letterNow ()I -/
def kd_147 : List (Nat × ax_Bl) := [(0, (0, []), [(0, .aload_n 0, 1, [(.null, 0, [])]),
    (1, .getfield 90, 3, [(.null, 7, [15, 789])]),
    (4, .aload_n 0, 1, [(.null, 0, [])]),
    (5, .getfield 83, 3, [(.null, 7, [14, 788])]),
    (8, .if_icmp .ge 15, 3, [(.null, 23, [])]),
    (11, .aload_n 0, 1, [(.null, 0, [])]),
    (12, .getfield 34, 3, [(.null, 7, [10, 784])]),
    (15, .aload_n 0, 1, [(.null, 0, [])]),
    (16, .getfield 90, 3, [(.null, 7, [15, 789])]),
    (19, .iaload, 1, []),
    (20, .goto 4, 3, [(.null, 24, [])])]),
  (23, (24, []), [(23, .iconst (-1), 1, [(.int (-1), 0, [])])]),
  (24, (0, []), [(24, .ireturn, 1, [])])]
/-- WallsByTheHourModel.readsDigits (I)Z -/
def kd_148 : List (Nat × ax_Bl) := [(0, (4, [0, 1, 2, 3]), [(0, .iconst 0, 1, [(.int 0, 0, [])]),
    (1, .istore_n 2, 1, [(.null, 2, [])]),
    (2, .iconst 0, 1, [(.int 0, 0, [])]),
    (3, .istore_n 3, 1, [(.null, 3, [])])]),
  (4, (0, []), [(4, .iload_n 3, 1, [(.null, 3, [])]),
    (5, .iload_n 1, 1, [(.null, 1, [])]),
    (6, .if_icmp .ge 48, 3, [(.null, 54, [0, 2])]),
    (9, .aload_n 0, 1, [(.null, 0, [])]),
    (10, .invokevirtual 93, 3, [(.null, 147, [1, 1, 7, 1, 862])]),
    (13, .bipush 48, 2, [(.int 48, 0, [])]),
    (15, .bipush 57, 2, [(.int 57, 0, [])]),
    (17, .invokestatic 71, 3, [(.null, 138, [3, 1, 99, 3, 880])]),
    (20, .ifCond .ne 5, 3, [(.null, 25, [0, 1, 2, 3])]),
    (23, .iconst 0, 1, [(.int 0, 0, [])]),
    (24, .ireturn, 1, [])]),
  (25, (0, []), [(25, .bipush 10, 2, [(.int 10, 0, [])]),
    (27, .iload_n 2, 1, [(.null, 2, [])]),
    (28, .imul, 1, []),
    (29, .aload_n 0, 1, [(.null, 0, [])]),
    (30, .invokevirtual 93, 3, [(.null, 147, [1, 1, 7, 1, 862])]),
    (33, .iadd, 1, []),
    (34, .bipush 48, 2, [(.int 48, 0, [])]),
    (36, .isub, 1, []),
    (37, .istore_n 2, 1, [(.null, 2, [])]),
    (38, .aload_n 0, 1, [(.null, 0, [])]),
    (39, .dup, 1, []),
    (40, .getfield 90, 3, [(.null, 7, [15, 789])]),
    (43, .iconst 1, 1, [(.int 1, 0, [])]),
    (44, .iadd, 1, []),
    (45, .putfield 90, 3, [(.null, 7, [15, 789])]),
    (48, .iinc 3 1, 3, [(.int 1, 3, [])]),
    (51, .goto (-47), 3, [(.null, 4, [0, 1, 2, 3])])]),
  (54, (0, []), [(54, .aload_n 0, 1, [(.null, 0, [])]),
    (55, .getfield 43, 3, [(.null, 7, [13, 787])]),
    (58, .aload_n 0, 1, [(.null, 0, [])]),
    (59, .getfield 97, 3, [(.null, 7, [17, 791])]),
    (62, .iload_n 2, 1, [(.null, 2, [])]),
    (63, .iastore, 1, []),
    (64, .aload_n 0, 1, [(.null, 0, [])]),
    (65, .dup, 1, []),
    (66, .getfield 97, 3, [(.null, 7, [17, 791])]),
    (69, .iconst 1, 1, [(.int 1, 0, [])]),
    (70, .iadd, 1, []),
    (71, .putfield 97, 3, [(.null, 7, [17, 791])]),
    (74, .iconst 1, 1, [(.int 1, 0, [])]),
    (75, .ireturn, 1, [])])]
/-- WallsByTheHourModel.kindTold (I)I -/
def kd_149 : List (Nat × ax_Bl) := [(0, (0, []), [(0, .iload_n 0, 1, [(.null, 0, [])]),
    (1, .lookupswitch 71 #[(98, 63), (102, 69), (108, 67), (111, 61), (112, 65), (119, 59)], 59, [(.int 98, 64, []), (.int 102, 70, []), (.int 108, 68, []), (.int 111, 62, []), (.int 112, 66, []), (.int 119, 60, []), (.null, 72, [])])]),
  (60, (0, []), [(60, .iconst 0, 1, [(.int 0, 0, [])]),
    (61, .ireturn, 1, [])]),
  (62, (0, []), [(62, .iconst 1, 1, [(.int 1, 0, [])]),
    (63, .ireturn, 1, [])]),
  (64, (0, []), [(64, .iconst 2, 1, [(.int 2, 0, [])]),
    (65, .ireturn, 1, [])]),
  (66, (0, []), [(66, .iconst 3, 1, [(.int 3, 0, [])]),
    (67, .ireturn, 1, [])]),
  (68, (0, []), [(68, .iconst 4, 1, [(.int 4, 0, [])]),
    (69, .ireturn, 1, [])]),
  (70, (0, []), [(70, .iconst 5, 1, [(.int 5, 0, [])]),
    (71, .ireturn, 1, [])]),
  (72, (0, []), [(72, .bipush (-9), 2, [(.int (-9), 0, [])]),
    (74, .ireturn, 1, [])])]
/-- WallsByTheHourModel.readsKind ()Z -/
def kd_150 : List (Nat × ax_Bl) := [(0, (0, []), [(0, .aload_n 0, 1, [(.null, 0, [])]),
    (1, .invokevirtual 93, 3, [(.null, 147, [1, 1, 7, 1, 862])]),
    (4, .invokestatic 100, 3, [(.null, 149, [1, 1, 99, 1, 871])]),
    (7, .istore_n 1, 1, [(.null, 1, [])]),
    (8, .iload_n 1, 1, [(.null, 1, [])]),
    (9, .ifCond .ge 5, 3, [(.null, 14, [0, 1])]),
    (12, .iconst 0, 1, [(.int 0, 0, [])]),
    (13, .ireturn, 1, [])]),
  (14, (0, []), [(14, .aload_n 0, 1, [(.null, 0, [])]),
    (15, .getfield 43, 3, [(.null, 7, [13, 787])]),
    (18, .aload_n 0, 1, [(.null, 0, [])]),
    (19, .getfield 97, 3, [(.null, 7, [17, 791])]),
    (22, .iload_n 1, 1, [(.null, 1, [])]),
    (23, .iastore, 1, []),
    (24, .aload_n 0, 1, [(.null, 0, [])]),
    (25, .dup, 1, []),
    (26, .getfield 97, 3, [(.null, 7, [17, 791])]),
    (29, .iconst 1, 1, [(.int 1, 0, [])]),
    (30, .iadd, 1, []),
    (31, .putfield 97, 3, [(.null, 7, [17, 791])]),
    (34, .aload_n 0, 1, [(.null, 0, [])]),
    (35, .dup, 1, []),
    (36, .getfield 90, 3, [(.null, 7, [15, 789])]),
    (39, .iconst 1, 1, [(.int 1, 0, [])]),
    (40, .iadd, 1, []),
    (41, .putfield 90, 3, [(.null, 7, [15, 789])]),
    (44, .iconst 1, 1, [(.int 1, 0, [])]),
    (45, .ireturn, 1, [])])]
/-- WallsByTheHourModel.readsMany (I)Z -/
def kd_151 : List (Nat × ax_Bl) := [(0, (2, [0, 1, 2]), [(0, .iconst 0, 1, [(.int 0, 0, [])]),
    (1, .istore_n 2, 1, [(.null, 2, [])])]),
  (2, (0, []), [(2, .iload_n 2, 1, [(.null, 2, [])]),
    (3, .iload_n 1, 1, [(.null, 1, [])]),
    (4, .if_icmp .ge 19, 3, [(.null, 23, [])]),
    (7, .aload_n 0, 1, [(.null, 0, [])]),
    (8, .iconst 1, 1, [(.int 1, 0, [])]),
    (9, .invokevirtual 103, 3, [(.null, 148, [2, 1, 7, 4, 877])]),
    (12, .ifCond .ne 5, 3, [(.null, 17, [0, 1, 2])]),
    (15, .iconst 0, 1, [(.int 0, 0, [])]),
    (16, .ireturn, 1, [])]),
  (17, (0, []), [(17, .iinc 2 1, 3, [(.int 1, 2, [])]),
    (20, .goto (-18), 3, [(.null, 2, [0, 1, 2])])]),
  (23, (0, []), [(23, .iconst 1, 1, [(.int 1, 0, [])]),
    (24, .ireturn, 1, [])])]
/-- WallsByTheHourModel.readsAll (I)Z -/
def kd_152 : List (Nat × ax_Bl) := [(0, (0, []), [(0, .iload_n 1, 1, [(.null, 1, [])]),
    (1, .lookupswitch 69 #[(104, 63), (110, 56), (119, 35)], 35, [(.int 104, 64, [0]), (.int 110, 57, [0]), (.int 119, 36, [0]), (.null, 70, [0])])]),
  (36, (0, []), [(36, .aload_n 0, 1, [(.null, 0, [])]),
    (37, .invokevirtual 106, 3, [(.null, 150, [1, 1, 7, 2, 868])]),
    (40, .ifCond .eq 15, 3, [(.null, 55, [])]),
    (43, .aload_n 0, 1, [(.null, 0, [])]),
    (44, .iconst 2, 1, [(.int 2, 0, [])]),
    (45, .invokevirtual 110, 3, [(.null, 151, [2, 1, 7, 3, 874])]),
    (48, .ifCond .eq 7, 3, [(.null, 55, [])]),
    (51, .iconst 1, 1, [(.int 1, 0, [])]),
    (52, .goto 4, 3, [(.null, 56, [])])]),
  (55, (56, []), [(55, .iconst 0, 1, [(.int 0, 0, [])])]),
  (56, (0, []), [(56, .ireturn, 1, [])]),
  (57, (0, []), [(57, .aload_n 0, 1, [(.null, 0, [])]),
    (58, .bipush 7, 2, [(.int 7, 0, [])]),
    (60, .invokevirtual 110, 3, [(.null, 151, [2, 1, 7, 3, 874])]),
    (63, .ireturn, 1, [])]),
  (64, (0, []), [(64, .aload_n 0, 1, [(.null, 0, [])]),
    (65, .iconst 2, 1, [(.int 2, 0, [])]),
    (66, .invokevirtual 103, 3, [(.null, 148, [2, 1, 7, 4, 877])]),
    (69, .ireturn, 1, [])]),
  (70, (0, []), [(70, .aload_n 0, 1, [(.null, 0, [])]),
    (71, .iconst 2, 1, [(.int 2, 0, [])]),
    (72, .invokevirtual 110, 3, [(.null, 151, [2, 1, 7, 3, 874])]),
    (75, .ireturn, 1, [])])]
/-- WallsByTheHourModel.statement ()Z -/
def kd_153 : List (Nat × ax_Bl) := [(0, (0, []), [(0, .aload_n 0, 1, [(.null, 0, [])]),
    (1, .invokevirtual 93, 3, [(.null, 147, [1, 1, 7, 1, 862])]),
    (4, .istore_n 1, 1, [(.null, 1, [])]),
    (5, .iload_n 1, 1, [(.null, 1, [])]),
    (6, .bipush 119, 2, [(.int 119, 0, [])]),
    (8, .if_icmp .eq 35, 3, [(.null, 43, [0, 1])]),
    (11, .iload_n 1, 1, [(.null, 1, [])]),
    (12, .bipush 109, 2, [(.int 109, 0, [])]),
    (14, .if_icmp .eq 29, 3, [(.null, 43, [0, 1])]),
    (17, .iload_n 1, 1, [(.null, 1, [])]),
    (18, .bipush 115, 2, [(.int 115, 0, [])]),
    (20, .if_icmp .eq 23, 3, [(.null, 43, [0, 1])]),
    (23, .iload_n 1, 1, [(.null, 1, [])]),
    (24, .bipush 110, 2, [(.int 110, 0, [])]),
    (26, .if_icmp .eq 17, 3, [(.null, 43, [0, 1])]),
    (29, .iload_n 1, 1, [(.null, 1, [])]),
    (30, .bipush 98, 2, [(.int 98, 0, [])]),
    (32, .if_icmp .eq 11, 3, [(.null, 43, [0, 1])]),
    (35, .iload_n 1, 1, [(.null, 1, [])]),
    (36, .bipush 104, 2, [(.int 104, 0, [])]),
    (38, .if_icmp .eq 5, 3, [(.null, 43, [0, 1])]),
    (41, .iconst 0, 1, [(.int 0, 0, [])]),
    (42, .ireturn, 1, [])]),
  (43, (104, []), [(43, .aload_n 0, 1, [(.null, 0, [])]),
    (44, .getfield 37, 3, [(.null, 7, [11, 785])]),
    (47, .aload_n 0, 1, [(.null, 0, [])]),
    (48, .getfield 113, 3, [(.null, 7, [16, 790])]),
    (51, .iload_n 1, 1, [(.null, 1, [])]),
    (52, .iastore, 1, []),
    (53, .aload_n 0, 1, [(.null, 0, [])]),
    (54, .getfield 40, 3, [(.null, 7, [12, 786])]),
    (57, .aload_n 0, 1, [(.null, 0, [])]),
    (58, .getfield 113, 3, [(.null, 7, [16, 790])]),
    (61, .aload_n 0, 1, [(.null, 0, [])]),
    (62, .getfield 90, 3, [(.null, 7, [15, 789])]),
    (65, .iastore, 1, []),
    (66, .aload_n 0, 1, [(.null, 0, [])]),
    (67, .bipush 7, 2, [(.int 7, 0, [])]),
    (69, .aload_n 0, 1, [(.null, 0, [])]),
    (70, .getfield 113, 3, [(.null, 7, [16, 790])]),
    (73, .imul, 1, []),
    (74, .putfield 97, 3, [(.null, 7, [17, 791])]),
    (77, .aload_n 0, 1, [(.null, 0, [])]),
    (78, .dup, 1, []),
    (79, .getfield 90, 3, [(.null, 7, [15, 789])]),
    (82, .iconst 1, 1, [(.int 1, 0, [])]),
    (83, .iadd, 1, []),
    (84, .putfield 90, 3, [(.null, 7, [15, 789])]),
    (87, .aload_n 0, 1, [(.null, 0, [])]),
    (88, .iload_n 1, 1, [(.null, 1, [])]),
    (89, .invokevirtual 116, 3, [(.null, 152, [2, 1, 7, 2, 865])]),
    (92, .ifCond .eq 12, 3, [(.null, 104, [])]),
    (95, .aload_n 0, 1, [(.null, 0, [])]),
    (96, .invokevirtual 93, 3, [(.null, 147, [1, 1, 7, 1, 862])]),
    (99, .bipush 59, 2, [(.int 59, 0, [])]),
    (101, .if_icmp .eq 5, 3, [(.null, 106, [0])])]),
  (104, (0, []), [(104, .iconst 0, 1, [(.int 0, 0, [])]),
    (105, .ireturn, 1, [])]),
  (106, (0, []), [(106, .aload_n 0, 1, [(.null, 0, [])]),
    (107, .dup, 1, []),
    (108, .getfield 90, 3, [(.null, 7, [15, 789])]),
    (111, .iconst 1, 1, [(.int 1, 0, [])]),
    (112, .iadd, 1, []),
    (113, .putfield 90, 3, [(.null, 7, [15, 789])]),
    (116, .iconst 1, 1, [(.int 1, 0, [])]),
    (117, .ireturn, 1, [])])]
/-- WallsByTheHourModel.comesWall (III)Z -/
def kd_154 : List (Nat × ax_Bl) := [(0, (16, []), [(0, .iload_n 3, 1, [(.null, 3, [])]),
    (1, .invokestatic 75, 3, [(.null, 144, [1, 1, 99, 1, 898])]),
    (4, .ifCond .eq 12, 3, [(.null, 16, [])]),
    (7, .aload_n 0, 1, [(.null, 0, [])]),
    (8, .getfield 65, 3, [(.null, 7, [8, 782])]),
    (11, .bipush 7, 2, [(.int 7, 0, [])]),
    (13, .if_icmp .ne 5, 3, [(.null, 18, [0, 1, 2, 3])])]),
  (16, (0, []), [(16, .iconst 0, 1, [(.int 0, 0, [])]),
    (17, .ireturn, 1, [])]),
  (18, (0, []), [(18, .aload_n 0, 1, [(.null, 0, [])]),
    (19, .getfield 13, 3, [(.null, 7, [1, 775])]),
    (22, .aload_n 0, 1, [(.null, 0, [])]),
    (23, .getfield 65, 3, [(.null, 7, [8, 782])]),
    (26, .iload_n 1, 1, [(.null, 1, [])]),
    (27, .iastore, 1, []),
    (28, .aload_n 0, 1, [(.null, 0, [])]),
    (29, .getfield 16, 3, [(.null, 7, [2, 776])]),
    (32, .aload_n 0, 1, [(.null, 0, [])]),
    (33, .getfield 65, 3, [(.null, 7, [8, 782])]),
    (36, .iload_n 2, 1, [(.null, 2, [])]),
    (37, .iastore, 1, []),
    (38, .aload_n 0, 1, [(.null, 0, [])]),
    (39, .getfield 19, 3, [(.null, 7, [3, 777])]),
    (42, .aload_n 0, 1, [(.null, 0, [])]),
    (43, .getfield 65, 3, [(.null, 7, [8, 782])]),
    (46, .iload_n 3, 1, [(.null, 3, [])]),
    (47, .iastore, 1, []),
    (48, .aload_n 0, 1, [(.null, 0, [])]),
    (49, .getfield 22, 3, [(.null, 7, [4, 778])]),
    (52, .aload_n 0, 1, [(.null, 0, [])]),
    (53, .getfield 65, 3, [(.null, 7, [8, 782])]),
    (56, .iload_n 3, 1, [(.null, 3, [])]),
    (57, .iastore, 1, []),
    (58, .aload_n 0, 1, [(.null, 0, [])]),
    (59, .getfield 25, 3, [(.null, 7, [5, 779])]),
    (62, .aload_n 0, 1, [(.null, 0, [])]),
    (63, .getfield 65, 3, [(.null, 7, [8, 782])]),
    (66, .iconst 0, 1, [(.int 0, 0, [])]),
    (67, .iastore, 1, []),
    (68, .aload_n 0, 1, [(.null, 0, [])]),
    (69, .dup, 1, []),
    (70, .getfield 65, 3, [(.null, 7, [8, 782])]),
    (73, .iconst 1, 1, [(.int 1, 0, [])]),
    (74, .iadd, 1, []),
    (75, .putfield 65, 3, [(.null, 7, [8, 782])]),
    (78, .iconst 1, 1, [(.int 1, 0, [])]),
    (79, .ireturn, 1, [])])]
/-- WallsByTheHourModel.comesPlace ([III)Z -/
def kd_155 : List (Nat × ax_Bl) := [(0, (15, []), [(0, .aload_n 0, 1, [(.null, 0, [])]),
    (1, .iload_n 2, 1, [(.null, 2, [])]),
    (2, .invokevirtual 119, 3, [(.null, 143, [2, 1, 7, 2, 904])]),
    (5, .ifCond .eq 10, 3, [(.null, 15, [])]),
    (8, .iload_n 3, 1, [(.null, 3, [])]),
    (9, .invokestatic 75, 3, [(.null, 144, [1, 1, 99, 1, 898])]),
    (12, .ifCond .ne 5, 3, [(.null, 17, [1, 2, 3])])]),
  (15, (0, []), [(15, .iconst 0, 1, [(.int 0, 0, [])]),
    (16, .ireturn, 1, [])]),
  (17, (0, []), [(17, .aload_n 1, 1, [(.null, 1, [])]),
    (18, .iload_n 2, 1, [(.null, 2, [])]),
    (19, .iload_n 3, 1, [(.null, 3, [])]),
    (20, .iastore, 1, []),
    (21, .iconst 1, 1, [(.int 1, 0, [])]),
    (22, .ireturn, 1, [])])]
/-- WallsByTheHourModel.comesNeeds (I)Z -/
def kd_156 : List (Nat × ax_Bl) := [(0, (0, []), [(0, .aload_n 0, 1, [(.null, 0, [])]),
    (1, .getfield 43, 3, [(.null, 7, [13, 787])]),
    (4, .iload_n 1, 1, [(.null, 1, [])]),
    (5, .iaload, 1, []),
    (6, .invokestatic 75, 3, [(.null, 144, [1, 1, 99, 1, 898])]),
    (9, .ifCond .ne 5, 3, [(.null, 14, [0, 1])]),
    (12, .iconst 0, 1, [(.int 0, 0, [])]),
    (13, .ireturn, 1, [])]),
  (14, (16, [0, 1, 2]), [(14, .iconst 0, 1, [(.int 0, 0, [])]),
    (15, .istore_n 2, 1, [(.null, 2, [])])]),
  (16, (0, []), [(16, .iload_n 2, 1, [(.null, 2, [])]),
    (17, .bipush 6, 2, [(.int 6, 0, [])]),
    (19, .if_icmp .ge 35, 3, [(.null, 54, [])]),
    (22, .aload_n 0, 1, [(.null, 0, [])]),
    (23, .getfield 28, 3, [(.null, 7, [6, 780])]),
    (26, .bipush 6, 2, [(.int 6, 0, [])]),
    (28, .aload_n 0, 1, [(.null, 0, [])]),
    (29, .getfield 43, 3, [(.null, 7, [13, 787])]),
    (32, .iload_n 1, 1, [(.null, 1, [])]),
    (33, .iaload, 1, []),
    (34, .imul, 1, []),
    (35, .iload_n 2, 1, [(.null, 2, [])]),
    (36, .iadd, 1, []),
    (37, .aload_n 0, 1, [(.null, 0, [])]),
    (38, .getfield 43, 3, [(.null, 7, [13, 787])]),
    (41, .iload_n 1, 1, [(.null, 1, [])]),
    (42, .iconst 1, 1, [(.int 1, 0, [])]),
    (43, .iadd, 1, []),
    (44, .iload_n 2, 1, [(.null, 2, [])]),
    (45, .iadd, 1, []),
    (46, .iaload, 1, []),
    (47, .iastore, 1, []),
    (48, .iinc 2 1, 3, [(.int 1, 2, [])]),
    (51, .goto (-35), 3, [(.null, 16, [0, 1, 2])])]),
  (54, (0, []), [(54, .iconst 1, 1, [(.int 1, 0, [])]),
    (55, .ireturn, 1, [])])]
/-- WallsByTheHourModel.comesBar (II)Z -/
def kd_157 : List (Nat × ax_Bl) := [(0, (0, []), [(0, .iload_n 1, 1, [(.null, 1, [])]),
    (1, .iload_n 2, 1, [(.null, 2, [])]),
    (2, .invokestatic 122, 3, [(.null, 145, [2, 1, 99, 2, 913])]),
    (5, .ifCond .ne 5, 3, [(.null, 10, [0, 1, 2])]),
    (8, .iconst 0, 1, [(.int 0, 0, [])]),
    (9, .ireturn, 1, [])]),
  (10, (0, []), [(10, .aload_n 0, 1, [(.null, 0, [])]),
    (11, .getfield 31, 3, [(.null, 7, [7, 781])]),
    (14, .iload_n 1, 1, [(.null, 1, [])]),
    (15, .dup2, 1, []),
    (16, .iaload, 1, []),
    (17, .iconst 1, 1, [(.int 1, 0, [])]),
    (18, .iload_n 2, 1, [(.null, 2, [])]),
    (19, .ishl, 1, []),
    (20, .ixor, 1, []),
    (21, .iastore, 1, []),
    (22, .iconst 1, 1, [(.int 1, 0, [])]),
    (23, .ireturn, 1, [])])]
/-- WallsByTheHourModel.comesHours (I)Z -/
def kd_158 : List (Nat × ax_Bl) := [(0, (22, []), [(0, .iload_n 1, 1, [(.null, 1, [])]),
    (1, .iconst 1, 1, [(.int 1, 0, [])]),
    (2, .bipush 60, 2, [(.int 60, 0, [])]),
    (4, .invokestatic 71, 3, [(.null, 138, [3, 1, 99, 3, 880])]),
    (7, .ifCond .eq 15, 3, [(.null, 22, [])]),
    (10, .aload_n 0, 1, [(.null, 0, [])]),
    (11, .getfield 126, 3, [(.null, 7, [9, 783])]),
    (14, .iload_n 1, 1, [(.null, 1, [])]),
    (15, .iadd, 1, []),
    (16, .sipush 999, 3, [(.int 999, 0, [])]),
    (19, .if_icmp .le 5, 3, [(.null, 24, [0, 1])])]),
  (22, (0, []), [(22, .iconst 0, 1, [(.int 0, 0, [])]),
    (23, .ireturn, 1, [])]),
  (24, (0, []), [(24, .aload_n 0, 1, [(.null, 0, [])]),
    (25, .iload_n 1, 1, [(.null, 1, [])]),
    (26, .invokevirtual 129, 3, [(.null, 184, [2, 0, 7, 3, 919])]),
    (29, .iconst 1, 1, [(.int 1, 0, [])]),
    (30, .ireturn, 1, [])])]
/-- WallsByTheHourModel.comesTold (I)Z -/
def kd_159 : List (Nat × ax_Bl) := [(0, (0, []), [(0, .bipush 7, 2, [(.int 7, 0, [])]),
    (2, .iload_n 1, 1, [(.null, 1, [])]),
    (3, .imul, 1, []),
    (4, .istore_n 2, 1, [(.null, 2, [])]),
    (5, .aload_n 0, 1, [(.null, 0, [])]),
    (6, .getfield 37, 3, [(.null, 7, [11, 785])]),
    (9, .iload_n 1, 1, [(.null, 1, [])]),
    (10, .iaload, 1, []),
    (11, .lookupswitch 147 #[(98, 128), (109, 76), (110, 122), (115, 99), (119, 49)], 49, [(.int 98, 139, [0, 2]), (.int 109, 87, [0, 2]), (.int 110, 133, [0, 2]), (.int 115, 110, [0, 2]), (.int 119, 60, [0, 2]), (.null, 158, [0, 2])])]),
  (60, (0, []), [(60, .aload_n 0, 1, [(.null, 0, [])]),
    (61, .aload_n 0, 1, [(.null, 0, [])]),
    (62, .getfield 43, 3, [(.null, 7, [13, 787])]),
    (65, .iload_n 2, 1, [(.null, 2, [])]),
    (66, .iaload, 1, []),
    (67, .aload_n 0, 1, [(.null, 0, [])]),
    (68, .getfield 43, 3, [(.null, 7, [13, 787])]),
    (71, .iload_n 2, 1, [(.null, 2, [])]),
    (72, .iconst 1, 1, [(.int 1, 0, [])]),
    (73, .iadd, 1, []),
    (74, .iaload, 1, []),
    (75, .aload_n 0, 1, [(.null, 0, [])]),
    (76, .getfield 43, 3, [(.null, 7, [13, 787])]),
    (79, .iload_n 2, 1, [(.null, 2, [])]),
    (80, .iconst 2, 1, [(.int 2, 0, [])]),
    (81, .iadd, 1, []),
    (82, .iaload, 1, []),
    (83, .invokevirtual 133, 3, [(.null, 154, [4, 1, 7, 4, 895])]),
    (86, .ireturn, 1, [])]),
  (87, (0, []), [(87, .aload_n 0, 1, [(.null, 0, [])]),
    (88, .aload_n 0, 1, [(.null, 0, [])]),
    (89, .getfield 22, 3, [(.null, 7, [4, 778])]),
    (92, .aload_n 0, 1, [(.null, 0, [])]),
    (93, .getfield 43, 3, [(.null, 7, [13, 787])]),
    (96, .iload_n 2, 1, [(.null, 2, [])]),
    (97, .iaload, 1, []),
    (98, .aload_n 0, 1, [(.null, 0, [])]),
    (99, .getfield 43, 3, [(.null, 7, [13, 787])]),
    (102, .iload_n 2, 1, [(.null, 2, [])]),
    (103, .iconst 1, 1, [(.int 1, 0, [])]),
    (104, .iadd, 1, []),
    (105, .iaload, 1, []),
    (106, .invokevirtual 136, 3, [(.null, 155, [4, 1, 7, 4, 901])]),
    (109, .ireturn, 1, [])]),
  (110, (0, []), [(110, .aload_n 0, 1, [(.null, 0, [])]),
    (111, .aload_n 0, 1, [(.null, 0, [])]),
    (112, .getfield 19, 3, [(.null, 7, [3, 777])]),
    (115, .aload_n 0, 1, [(.null, 0, [])]),
    (116, .getfield 43, 3, [(.null, 7, [13, 787])]),
    (119, .iload_n 2, 1, [(.null, 2, [])]),
    (120, .iaload, 1, []),
    (121, .aload_n 0, 1, [(.null, 0, [])]),
    (122, .getfield 43, 3, [(.null, 7, [13, 787])]),
    (125, .iload_n 2, 1, [(.null, 2, [])]),
    (126, .iconst 1, 1, [(.int 1, 0, [])]),
    (127, .iadd, 1, []),
    (128, .iaload, 1, []),
    (129, .invokevirtual 136, 3, [(.null, 155, [4, 1, 7, 4, 901])]),
    (132, .ireturn, 1, [])]),
  (133, (0, []), [(133, .aload_n 0, 1, [(.null, 0, [])]),
    (134, .iload_n 2, 1, [(.null, 2, [])]),
    (135, .invokevirtual 140, 3, [(.null, 156, [2, 1, 7, 3, 907])]),
    (138, .ireturn, 1, [])]),
  (139, (0, []), [(139, .aload_n 0, 1, [(.null, 0, [])]),
    (140, .aload_n 0, 1, [(.null, 0, [])]),
    (141, .getfield 43, 3, [(.null, 7, [13, 787])]),
    (144, .iload_n 2, 1, [(.null, 2, [])]),
    (145, .iaload, 1, []),
    (146, .aload_n 0, 1, [(.null, 0, [])]),
    (147, .getfield 43, 3, [(.null, 7, [13, 787])]),
    (150, .iload_n 2, 1, [(.null, 2, [])]),
    (151, .iconst 1, 1, [(.int 1, 0, [])]),
    (152, .iadd, 1, []),
    (153, .iaload, 1, []),
    (154, .invokevirtual 143, 3, [(.null, 157, [3, 1, 7, 3, 910])]),
    (157, .ireturn, 1, [])]),
  (158, (0, []), [(158, .aload_n 0, 1, [(.null, 0, [])]),
    (159, .aload_n 0, 1, [(.null, 0, [])]),
    (160, .getfield 43, 3, [(.null, 7, [13, 787])]),
    (163, .iload_n 2, 1, [(.null, 2, [])]),
    (164, .iaload, 1, []),
    (165, .invokevirtual 146, 3, [(.null, 158, [2, 1, 7, 2, 916])]),
    (168, .ireturn, 1, [])])]
/-- WallsByTheHourModel.street ()I -/
def kd_160 : List (Nat × ax_Bl) := [(0, (12, [0, 1]), [(0, .aload_n 0, 1, [(.null, 0, [])]),
    (1, .iconst 0, 1, [(.int 0, 0, [])]),
    (2, .putfield 90, 3, [(.null, 7, [15, 789])]),
    (5, .aload_n 0, 1, [(.null, 0, [])]),
    (6, .iconst 0, 1, [(.int 0, 0, [])]),
    (7, .putfield 113, 3, [(.null, 7, [16, 790])]),
    (10, .iconst 1, 1, [(.int 1, 0, [])]),
    (11, .istore_n 1, 1, [(.null, 1, [])])]),
  (12, (34, [0]), [(12, .iload_n 1, 1, [(.null, 1, [])]),
    (13, .ifCond .eq 47, 3, [(.null, 60, [0, 1])]),
    (16, .aload_n 0, 1, [(.null, 0, [])]),
    (17, .getfield 90, 3, [(.null, 7, [15, 789])]),
    (20, .aload_n 0, 1, [(.null, 0, [])]),
    (21, .getfield 83, 3, [(.null, 7, [14, 788])]),
    (24, .if_icmp .lt 10, 3, [(.null, 34, [0])]),
    (27, .aload_n 0, 1, [(.null, 0, [])]),
    (28, .getfield 113, 3, [(.null, 7, [16, 790])]),
    (31, .ifCond .ne 29, 3, [(.null, 60, [0, 1])])]),
  (34, (0, []), [(34, .aload_n 0, 1, [(.null, 0, [])]),
    (35, .invokevirtual 149, 3, [(.null, 153, [1, 1, 7, 2, 859])]),
    (38, .istore_n 1, 1, [(.null, 1, [])]),
    (39, .aload_n 0, 1, [(.null, 0, [])]),
    (40, .dup, 1, []),
    (41, .getfield 113, 3, [(.null, 7, [16, 790])]),
    (44, .iload_n 1, 1, [(.null, 1, [])]),
    (45, .ifCond .eq 7, 3, [(.null, 52, [0, 1])]),
    (48, .iconst 1, 1, [(.int 1, 0, [])]),
    (49, .goto 4, 3, [(.null, 53, [0, 1])])]),
  (52, (53, [0, 1]), [(52, .iconst 0, 1, [(.int 0, 0, [])])]),
  (53, (0, []), [(53, .iadd, 1, []),
    (54, .putfield 113, 3, [(.null, 7, [16, 790])]),
    (57, .goto (-45), 3, [(.null, 12, [0, 1])])]),
  (60, (0, []), [(60, .aload_n 0, 1, [(.null, 0, [])]),
    (61, .iconst 0, 1, [(.int 0, 0, [])]),
    (62, .putfield 83, 3, [(.null, 7, [14, 788])]),
    (65, .iload_n 1, 1, [(.null, 1, [])]),
    (66, .ifCond .ne 12, 3, [(.null, 78, [0])]),
    (69, .sipush (-1000), 3, [(.int (-1000), 0, [])]),
    (72, .aload_n 0, 1, [(.null, 0, [])]),
    (73, .getfield 90, 3, [(.null, 7, [15, 789])]),
    (76, .isub, 1, []),
    (77, .ireturn, 1, [])]),
  (78, (86, [0, 2]), [(78, .aload_n 0, 1, [(.null, 0, [])]),
    (79, .iconst 1, 1, [(.int 1, 0, [])]),
    (80, .iconst 1, 1, [(.int 1, 0, [])]),
    (81, .invokevirtual 152, 3, [(.null, 163, [3, 0, 7, 3, 883])]),
    (84, .iconst 0, 1, [(.int 0, 0, [])]),
    (85, .istore_n 2, 1, [(.null, 2, [])])]),
  (86, (0, []), [(86, .iload_n 2, 1, [(.null, 2, [])]),
    (87, .aload_n 0, 1, [(.null, 0, [])]),
    (88, .getfield 113, 3, [(.null, 7, [16, 790])]),
    (91, .if_icmp .ge 37, 3, [(.null, 128, [0])]),
    (94, .aload_n 0, 1, [(.null, 0, [])]),
    (95, .iload_n 2, 1, [(.null, 2, [])]),
    (96, .invokevirtual 156, 3, [(.null, 159, [2, 1, 7, 3, 892])]),
    (99, .ifCond .eq 6, 3, [(.null, 105, [0, 2])]),
    (102, .goto 20, 3, [(.null, 122, [0, 2])])]),
  (105, (0, []), [(105, .aload_n 0, 1, [(.null, 0, [])]),
    (106, .iconst 1, 1, [(.int 1, 0, [])]),
    (107, .iconst 0, 1, [(.int 0, 0, [])]),
    (108, .invokevirtual 152, 3, [(.null, 163, [3, 0, 7, 3, 883])]),
    (111, .sipush (-2000), 3, [(.int (-2000), 0, [])]),
    (114, .aload_n 0, 1, [(.null, 0, [])]),
    (115, .getfield 40, 3, [(.null, 7, [12, 786])]),
    (118, .iload_n 2, 1, [(.null, 2, [])]),
    (119, .iaload, 1, []),
    (120, .isub, 1, []),
    (121, .ireturn, 1, [])]),
  (122, (0, []), [(122, .iinc 2 1, 3, [(.int 1, 2, [])]),
    (125, .goto (-39), 3, [(.null, 86, [0, 2])])]),
  (128, (0, []), [(128, .aload_n 0, 1, [(.null, 0, [])]),
    (129, .getfield 113, 3, [(.null, 7, [16, 790])]),
    (132, .ireturn, 1, [])])]
/-- WallsByTheHourModel.passes ([I)V -/
def kd_161 : List (Nat × ax_Bl) := [(0, (2, [0, 1, 2]), [(0, .iconst 0, 1, [(.int 0, 0, [])]),
    (1, .istore_n 2, 1, [(.null, 2, [])])]),
  (2, (0, []), [(2, .iload_n 2, 1, [(.null, 2, [])]),
    (3, .aload_n 1, 1, [(.null, 1, [])]),
    (4, .arraylength, 1, []),
    (5, .if_icmp .ge 53, 3, [(.null, 58, [])]),
    (8, .aload_n 0, 1, [(.null, 0, [])]),
    (9, .getfield 159, 3, [(.null, 7, [20, 794])]),
    (12, .ifCond .eq 18, 3, [(.null, 30, [0, 1, 2])]),
    (15, .aload_n 0, 1, [(.null, 0, [])]),
    (16, .getfield 46, 3, [(.null, 7, [18, 792])]),
    (19, .aload_n 0, 1, [(.null, 0, [])]),
    (20, .getfield 163, 3, [(.null, 7, [21, 795])]),
    (23, .aload_n 1, 1, [(.null, 1, [])]),
    (24, .iload_n 2, 1, [(.null, 2, [])]),
    (25, .iaload, 1, []),
    (26, .iastore, 1, []),
    (27, .goto 15, 3, [(.null, 42, [0, 1, 2])])]),
  (30, (42, [0, 1, 2]), [(30, .aload_n 1, 1, [(.null, 1, [])]),
    (31, .iload_n 2, 1, [(.null, 2, [])]),
    (32, .aload_n 0, 1, [(.null, 0, [])]),
    (33, .getfield 46, 3, [(.null, 7, [18, 792])]),
    (36, .aload_n 0, 1, [(.null, 0, [])]),
    (37, .getfield 163, 3, [(.null, 7, [21, 795])]),
    (40, .iaload, 1, []),
    (41, .iastore, 1, [])]),
  (42, (0, []), [(42, .aload_n 0, 1, [(.null, 0, [])]),
    (43, .dup, 1, []),
    (44, .getfield 163, 3, [(.null, 7, [21, 795])]),
    (47, .iconst 1, 1, [(.int 1, 0, [])]),
    (48, .iadd, 1, []),
    (49, .putfield 163, 3, [(.null, 7, [21, 795])]),
    (52, .iinc 2 1, 3, [(.int 1, 2, [])]),
    (55, .goto (-53), 3, [(.null, 2, [0, 1, 2])])]),
  (58, (0, []), [(58, .return_, 1, [])])]
/-- WallsByTheHourModel.passOne (I)I -/
def kd_162 : List (Nat × ax_Bl) := [(0, (0, []), [(0, .aload_n 0, 1, [(.null, 0, [])]),
    (1, .getfield 159, 3, [(.null, 7, [20, 794])]),
    (4, .ifCond .eq 7, 3, [(.null, 11, [0, 1])]),
    (7, .iload_n 1, 1, [(.null, 1, [])]),
    (8, .goto 12, 3, [(.null, 20, [0, 1])])]),
  (11, (20, [0, 1]), [(11, .aload_n 0, 1, [(.null, 0, [])]),
    (12, .getfield 46, 3, [(.null, 7, [18, 792])]),
    (15, .aload_n 0, 1, [(.null, 0, [])]),
    (16, .getfield 163, 3, [(.null, 7, [21, 795])]),
    (19, .iaload, 1, [])]),
  (20, (38, [0, 2]), [(20, .istore_n 2, 1, [(.null, 2, [])]),
    (21, .aload_n 0, 1, [(.null, 0, [])]),
    (22, .getfield 159, 3, [(.null, 7, [20, 794])]),
    (25, .ifCond .eq 13, 3, [(.null, 38, [0, 2])]),
    (28, .aload_n 0, 1, [(.null, 0, [])]),
    (29, .getfield 46, 3, [(.null, 7, [18, 792])]),
    (32, .aload_n 0, 1, [(.null, 0, [])]),
    (33, .getfield 163, 3, [(.null, 7, [21, 795])]),
    (36, .iload_n 1, 1, [(.null, 1, [])]),
    (37, .iastore, 1, [])]),
  (38, (0, []), [(38, .aload_n 0, 1, [(.null, 0, [])]),
    (39, .dup, 1, []),
    (40, .getfield 163, 3, [(.null, 7, [21, 795])]),
    (43, .iconst 1, 1, [(.int 1, 0, [])]),
    (44, .iadd, 1, []),
    (45, .putfield 163, 3, [(.null, 7, [21, 795])]),
    (48, .iload_n 2, 1, [(.null, 2, [])]),
    (49, .ireturn, 1, [])])]
/-- WallsByTheHourModel.passesAll (IZ)V -/
def kd_163 : List (Nat × ax_Bl) := [(0, (0, []), [(0, .aload_n 0, 1, [(.null, 0, [])]),
    (1, .bipush 93, 2, [(.int 93, 0, [])]),
    (3, .iload_n 1, 1, [(.null, 1, [])]),
    (4, .imul, 1, []),
    (5, .putfield 163, 3, [(.null, 7, [21, 795])]),
    (8, .aload_n 0, 1, [(.null, 0, [])]),
    (9, .iload_n 2, 1, [(.null, 2, [])]),
    (10, .putfield 159, 3, [(.int 1, 7, [20, 794])]),
    (13, .aload_n 0, 1, [(.null, 0, [])]),
    (14, .aload_n 0, 1, [(.null, 0, [])]),
    (15, .getfield 13, 3, [(.null, 7, [1, 775])]),
    (18, .invokevirtual 166, 3, [(.null, 161, [2, 0, 7, 3, 886])]),
    (21, .aload_n 0, 1, [(.null, 0, [])]),
    (22, .aload_n 0, 1, [(.null, 0, [])]),
    (23, .getfield 16, 3, [(.null, 7, [2, 776])]),
    (26, .invokevirtual 166, 3, [(.null, 161, [2, 0, 7, 3, 886])]),
    (29, .aload_n 0, 1, [(.null, 0, [])]),
    (30, .aload_n 0, 1, [(.null, 0, [])]),
    (31, .getfield 19, 3, [(.null, 7, [3, 777])]),
    (34, .invokevirtual 166, 3, [(.null, 161, [2, 0, 7, 3, 886])]),
    (37, .aload_n 0, 1, [(.null, 0, [])]),
    (38, .aload_n 0, 1, [(.null, 0, [])]),
    (39, .getfield 22, 3, [(.null, 7, [4, 778])]),
    (42, .invokevirtual 166, 3, [(.null, 161, [2, 0, 7, 3, 886])]),
    (45, .aload_n 0, 1, [(.null, 0, [])]),
    (46, .aload_n 0, 1, [(.null, 0, [])]),
    (47, .getfield 25, 3, [(.null, 7, [5, 779])]),
    (50, .invokevirtual 166, 3, [(.null, 161, [2, 0, 7, 3, 886])]),
    (53, .aload_n 0, 1, [(.null, 0, [])]),
    (54, .aload_n 0, 1, [(.null, 0, [])]),
    (55, .getfield 28, 3, [(.null, 7, [6, 780])]),
    (58, .invokevirtual 166, 3, [(.null, 161, [2, 0, 7, 3, 886])]),
    (61, .aload_n 0, 1, [(.null, 0, [])]),
    (62, .aload_n 0, 1, [(.null, 0, [])]),
    (63, .getfield 31, 3, [(.null, 7, [7, 781])]),
    (66, .invokevirtual 166, 3, [(.null, 161, [2, 0, 7, 3, 886])]),
    (69, .aload_n 0, 1, [(.null, 0, [])]),
    (70, .aload_n 0, 1, [(.null, 0, [])]),
    (71, .aload_n 0, 1, [(.null, 0, [])]),
    (72, .getfield 65, 3, [(.null, 7, [8, 782])]),
    (75, .invokevirtual 170, 3, [(.null, 162, [2, 1, 7, 3, 889])]),
    (78, .putfield 65, 3, [(.null, 7, [8, 782])]),
    (81, .aload_n 0, 1, [(.null, 0, [])]),
    (82, .aload_n 0, 1, [(.null, 0, [])]),
    (83, .aload_n 0, 1, [(.null, 0, [])]),
    (84, .getfield 126, 3, [(.null, 7, [9, 783])]),
    (87, .invokevirtual 170, 3, [(.null, 162, [2, 1, 7, 3, 889])]),
    (90, .putfield 126, 3, [(.null, 7, [9, 783])]),
    (93, .return_, 1, [])])]
/-- WallsByTheHourModel.minds ()V -/
def kd_164 : List (Nat × ax_Bl) := [(0, (0, []), [(0, .aload_n 0, 1, [(.null, 0, [])]),
    (1, .iconst 2, 1, [(.int 2, 0, [])]),
    (2, .iconst 1, 1, [(.int 1, 0, [])]),
    (3, .invokevirtual 152, 3, [(.null, 163, [3, 0, 7, 3, 883])]),
    (6, .return_, 1, [])])]
/-- WallsByTheHourModel.forgets ()V -/
def kd_165 : List (Nat × ax_Bl) := [(0, (0, []), [(0, .aload_n 0, 1, [(.null, 0, [])]),
    (1, .iconst 2, 1, [(.int 2, 0, [])]),
    (2, .iconst 0, 1, [(.int 0, 0, [])]),
    (3, .invokevirtual 152, 3, [(.null, 163, [3, 0, 7, 3, 883])]),
    (6, .return_, 1, [])])]
/-- WallsByTheHourModel.image ()I -/
def kd_166 : List (Nat × ax_Bl) := [(0, (0, []), [(0, .aload_n 0, 1, [(.null, 0, [])]),
    (1, .iconst 1, 1, [(.int 1, 0, [])]),
    (2, .putfield 173, 3, [(.int 1, 7, [19, 793])]),
    (5, .aload_n 0, 1, [(.null, 0, [])]),
    (6, .iconst 0, 1, [(.int 0, 0, [])]),
    (7, .iconst 1, 1, [(.int 1, 0, [])]),
    (8, .invokevirtual 152, 3, [(.null, 163, [3, 0, 7, 3, 883])]),
    (11, .aload_n 0, 1, [(.null, 0, [])]),
    (12, .getfield 126, 3, [(.null, 7, [9, 783])]),
    (15, .ireturn, 1, [])])]
/-- WallsByTheHourModel.on ()I -/
def kd_167 : List (Nat × ax_Bl) := [(0, (0, []), [(0, .aload_n 0, 1, [(.null, 0, [])]),
    (1, .getfield 173, 3, [(.null, 7, [19, 793])]),
    (4, .ifCond .ne 10, 3, [(.null, 14, [0])]),
    (7, .aload_n 0, 1, [(.null, 0, [])]),
    (8, .bipush (-3), 2, [(.int (-3), 0, [])]),
    (10, .invokevirtual 86, 3, [(.null, 136, [2, 1, 7, 2, 852])]),
    (13, .ireturn, 1, [])]),
  (14, (0, []), [(14, .aload_n 0, 1, [(.null, 0, [])]),
    (15, .iconst 0, 1, [(.int 0, 0, [])]),
    (16, .iconst 0, 1, [(.int 0, 0, [])]),
    (17, .invokevirtual 152, 3, [(.null, 163, [3, 0, 7, 3, 883])]),
    (20, .aload_n 0, 1, [(.null, 0, [])]),
    (21, .getfield 126, 3, [(.null, 7, [9, 783])]),
    (24, .ireturn, 1, [])])]
/-- WallsByTheHourModel.coversAt (II)I -/
def kd_168 : List (Nat × ax_Bl) := [(0, (0, []), [(0, .aload_n 0, 1, [(.null, 0, [])]),
    (1, .getfield 16, 3, [(.null, 7, [2, 776])]),
    (4, .iload_n 1, 1, [(.null, 1, [])]),
    (5, .iaload, 1, []),
    (6, .iconst 1, 1, [(.int 1, 0, [])]),
    (7, .iadd, 1, []),
    (8, .istore_n 3, 1, [(.null, 3, [])]),
    (9, .aload_n 0, 1, [(.null, 0, [])]),
    (10, .getfield 13, 3, [(.null, 7, [1, 775])]),
    (13, .iload_n 1, 1, [(.null, 1, [])]),
    (14, .iaload, 1, []),
    (15, .tableswitch 60 1 5 #[33, 46, 60, 50, 56], 33, [(.int 1, 48, [2, 3]), (.int 2, 61, [3]), (.int 3, 75, [3]), (.int 4, 65, [3]), (.int 5, 71, [3]), (.null, 75, [3])])]),
  (48, (0, []), [(48, .iload_n 2, 1, [(.null, 2, [])]),
    (49, .iconst 3, 1, [(.int 3, 0, [])]),
    (50, .if_icmp .ge 9, 3, [(.null, 59, [3])]),
    (53, .iload_n 3, 1, [(.null, 3, [])]),
    (54, .iconst 3, 1, [(.int 3, 0, [])]),
    (55, .iadd, 1, []),
    (56, .goto 4, 3, [(.null, 60, [])])]),
  (59, (60, []), [(59, .iload_n 3, 1, [(.null, 3, [])])]),
  (60, (0, []), [(60, .ireturn, 1, [])]),
  (61, (0, []), [(61, .iload_n 3, 1, [(.null, 3, [])]),
    (62, .iconst 2, 1, [(.int 2, 0, [])]),
    (63, .idiv, 1, []),
    (64, .ireturn, 1, [])]),
  (65, (0, []), [(65, .iload_n 3, 1, [(.null, 3, [])]),
    (66, .iconst 2, 1, [(.int 2, 0, [])]),
    (67, .idiv, 1, []),
    (68, .iconst 1, 1, [(.int 1, 0, [])]),
    (69, .iadd, 1, []),
    (70, .ireturn, 1, [])]),
  (71, (0, []), [(71, .iconst 2, 1, [(.int 2, 0, [])]),
    (72, .iload_n 3, 1, [(.null, 3, [])]),
    (73, .imul, 1, []),
    (74, .ireturn, 1, [])]),
  (75, (0, []), [(75, .iload_n 3, 1, [(.null, 3, [])]),
    (76, .ireturn, 1, [])])]
/-- WallsByTheHourModel.covers (I)I -/
def kd_169 : List (Nat × ax_Bl) := [(0, (0, []), [(0, .aload_n 0, 1, [(.null, 0, [])]),
    (1, .iload_n 1, 1, [(.null, 1, [])]),
    (2, .aload_n 0, 1, [(.null, 0, [])]),
    (3, .getfield 126, 3, [(.null, 7, [9, 783])]),
    (6, .bipush 6, 2, [(.int 6, 0, [])]),
    (8, .irem, 1, []),
    (9, .invokevirtual 176, 3, [(.null, 168, [3, 1, 7, 4, 943])]),
    (12, .ireturn, 1, [])])]
/-- WallsByTheHourModel.goesSteps (II)Z -/
def kd_170 : List (Nat × ax_Bl) := [(0, (0, []), [(0, .aload_n 0, 1, [(.null, 0, [])]),
    (1, .getfield 13, 3, [(.null, 7, [1, 775])]),
    (4, .iload_n 1, 1, [(.null, 1, [])]),
    (5, .iaload, 1, []),
    (6, .tableswitch 72 2 5 #[30, 32, 44, 55], 30, [(.int 2, 36, []), (.int 3, 38, [2]), (.int 4, 50, [2]), (.int 5, 61, [2]), (.null, 78, [2])])]),
  (36, (0, []), [(36, .iconst 1, 1, [(.int 1, 0, [])]),
    (37, .ireturn, 1, [])]),
  (38, (0, []), [(38, .iload_n 2, 1, [(.null, 2, [])]),
    (39, .iconst 2, 1, [(.int 2, 0, [])]),
    (40, .irem, 1, []),
    (41, .ifCond .ne 7, 3, [(.null, 48, [])]),
    (44, .iconst 1, 1, [(.int 1, 0, [])]),
    (45, .goto 4, 3, [(.null, 49, [])])]),
  (48, (49, []), [(48, .iconst 0, 1, [(.int 0, 0, [])])]),
  (49, (0, []), [(49, .ireturn, 1, [])]),
  (50, (0, []), [(50, .iload_n 2, 1, [(.null, 2, [])]),
    (51, .iconst 1, 1, [(.int 1, 0, [])]),
    (52, .if_icmp .ne 7, 3, [(.null, 59, [])]),
    (55, .iconst 1, 1, [(.int 1, 0, [])]),
    (56, .goto 4, 3, [(.null, 60, [])])]),
  (59, (60, []), [(59, .iconst 0, 1, [(.int 0, 0, [])])]),
  (60, (0, []), [(60, .ireturn, 1, [])]),
  (61, (72, []), [(61, .iload_n 2, 1, [(.null, 2, [])]),
    (62, .iconst 2, 1, [(.int 2, 0, [])]),
    (63, .irem, 1, []),
    (64, .ifCond .eq 8, 3, [(.null, 72, [])]),
    (67, .iload_n 2, 1, [(.null, 2, [])]),
    (68, .iconst 1, 1, [(.int 1, 0, [])]),
    (69, .if_icmp .ne 7, 3, [(.null, 76, [])])]),
  (72, (0, []), [(72, .iconst 1, 1, [(.int 1, 0, [])]),
    (73, .goto 4, 3, [(.null, 77, [])])]),
  (76, (77, []), [(76, .iconst 0, 1, [(.int 0, 0, [])])]),
  (77, (0, []), [(77, .ireturn, 1, [])]),
  (78, (0, []), [(78, .iload_n 2, 1, [(.null, 2, [])]),
    (79, .iconst 3, 1, [(.int 3, 0, [])]),
    (80, .if_icmp .gt 7, 3, [(.null, 87, [])]),
    (83, .iconst 1, 1, [(.int 1, 0, [])]),
    (84, .goto 4, 3, [(.null, 88, [])])]),
  (87, (88, []), [(87, .iconst 0, 1, [(.int 0, 0, [])])]),
  (88, (0, []), [(88, .ireturn, 1, [])])]
/-- WallsByTheHourModel.canGo (III)Z -/
def kd_171 : List (Nat × ax_Bl) := [(0, (0, []), [(0, .iload_n 2, 1, [(.null, 2, [])]),
    (1, .iload_n 3, 1, [(.null, 3, [])]),
    (2, .if_icmp .eq 33, 3, [(.null, 35, [])]),
    (5, .aload_n 0, 1, [(.null, 0, [])]),
    (6, .iload_n 1, 1, [(.null, 1, [])]),
    (7, .iload_n 2, 1, [(.null, 2, [])]),
    (8, .iload_n 3, 1, [(.null, 3, [])]),
    (9, .invokestatic 180, 3, [(.null, 142, [2, 1, 99, 2, 952])]),
    (12, .invokevirtual 183, 3, [(.null, 170, [3, 1, 7, 3, 955])]),
    (15, .ifCond .eq 20, 3, [(.null, 35, [])]),
    (18, .aload_n 0, 1, [(.null, 0, [])]),
    (19, .getfield 31, 3, [(.null, 7, [7, 781])]),
    (22, .iload_n 2, 1, [(.null, 2, [])]),
    (23, .iaload, 1, []),
    (24, .iload_n 3, 1, [(.null, 3, [])]),
    (25, .invokestatic 186, 3, [(.null, 140, [2, 1, 99, 2, 958])]),
    (28, .ifCond .ne 7, 3, [(.null, 35, [])]),
    (31, .iconst 1, 1, [(.int 1, 0, [])]),
    (32, .goto 4, 3, [(.null, 36, [])])]),
  (35, (36, []), [(35, .iconst 0, 1, [(.int 0, 0, [])])]),
  (36, (0, []), [(36, .ireturn, 1, [])])]
/-- WallsByTheHourModel.hasAt (I)I -/
def kd_172 : List (Nat × ax_Bl) := [(0, (4, [0, 1, 2, 3]), [(0, .iconst 0, 1, [(.int 0, 0, [])]),
    (1, .istore_n 2, 1, [(.null, 2, [])]),
    (2, .iconst 0, 1, [(.int 0, 0, [])]),
    (3, .istore_n 3, 1, [(.null, 3, [])])]),
  (4, (0, []), [(4, .iload_n 3, 1, [(.null, 3, [])]),
    (5, .aload_n 0, 1, [(.null, 0, [])]),
    (6, .getfield 65, 3, [(.null, 7, [8, 782])]),
    (9, .if_icmp .ge 31, 3, [(.null, 40, [2])]),
    (12, .iload_n 2, 1, [(.null, 2, [])]),
    (13, .aload_n 0, 1, [(.null, 0, [])]),
    (14, .getfield 22, 3, [(.null, 7, [4, 778])]),
    (17, .iload_n 3, 1, [(.null, 3, [])]),
    (18, .iaload, 1, []),
    (19, .iload_n 1, 1, [(.null, 1, [])]),
    (20, .if_icmp .ne 11, 3, [(.null, 31, [0, 1, 3])]),
    (23, .aload_n 0, 1, [(.null, 0, [])]),
    (24, .iload_n 3, 1, [(.null, 3, [])]),
    (25, .invokevirtual 189, 3, [(.null, 169, [2, 1, 7, 2, 940])]),
    (28, .goto 4, 3, [(.null, 32, [0, 1, 3])])]),
  (31, (32, [0, 1, 3]), [(31, .iconst 0, 1, [(.int 0, 0, [])])]),
  (32, (0, []), [(32, .iadd, 1, []),
    (33, .istore_n 2, 1, [(.null, 2, [])]),
    (34, .iinc 3 1, 3, [(.int 1, 3, [])]),
    (37, .goto (-33), 3, [(.null, 4, [0, 1, 2, 3])])]),
  (40, (0, []), [(40, .iload_n 2, 1, [(.null, 2, [])]),
    (41, .ireturn, 1, [])])]
/-- WallsByTheHourModel.lacksWith (II)I -/
def kd_173 : List (Nat × ax_Bl) := [(0, (0, []), [(0, .aload_n 0, 1, [(.null, 0, [])]),
    (1, .getfield 28, 3, [(.null, 7, [6, 780])]),
    (4, .bipush 6, 2, [(.int 6, 0, [])]),
    (6, .iload_n 1, 1, [(.null, 1, [])]),
    (7, .imul, 1, []),
    (8, .aload_n 0, 1, [(.null, 0, [])]),
    (9, .getfield 126, 3, [(.null, 7, [9, 783])]),
    (12, .bipush 6, 2, [(.int 6, 0, [])]),
    (14, .irem, 1, []),
    (15, .iadd, 1, []),
    (16, .iaload, 1, []),
    (17, .aload_n 0, 1, [(.null, 0, [])]),
    (18, .getfield 192, 3, [(.null, 7, [22, 796])]),
    (21, .ifCond .eq 7, 3, [(.null, 28, [2])]),
    (24, .iconst 2, 1, [(.int 2, 0, [])]),
    (25, .goto 4, 3, [(.null, 29, [2])])]),
  (28, (29, [2]), [(28, .iconst 0, 1, [(.int 0, 0, [])])]),
  (29, (0, []), [(29, .iadd, 1, []),
    (30, .iload_n 2, 1, [(.null, 2, [])]),
    (31, .isub, 1, []),
    (32, .istore_n 3, 1, [(.null, 3, [])]),
    (33, .iload_n 3, 1, [(.null, 3, [])]),
    (34, .ifCond .ge 7, 3, [(.null, 41, [3])]),
    (37, .iconst 0, 1, [(.int 0, 0, [])]),
    (38, .goto 4, 3, [(.null, 42, [])])]),
  (41, (42, []), [(41, .iload_n 3, 1, [(.null, 3, [])])]),
  (42, (0, []), [(42, .ireturn, 1, [])])]
/-- WallsByTheHourModel.lacks (I)I -/
def kd_174 : List (Nat × ax_Bl) := [(0, (0, []), [(0, .aload_n 0, 1, [(.null, 0, [])]),
    (1, .iload_n 1, 1, [(.null, 1, [])]),
    (2, .aload_n 0, 1, [(.null, 0, [])]),
    (3, .iload_n 1, 1, [(.null, 1, [])]),
    (4, .invokevirtual 195, 3, [(.null, 172, [2, 1, 7, 4, 937])]),
    (7, .invokevirtual 198, 3, [(.null, 173, [3, 1, 7, 4, 946])]),
    (10, .ireturn, 1, [])])]
/-- WallsByTheHourModel.lacksWithout (I)I -/
def kd_175 : List (Nat × ax_Bl) := [(0, (0, []), [(0, .aload_n 0, 1, [(.null, 0, [])]),
    (1, .aload_n 0, 1, [(.null, 0, [])]),
    (2, .getfield 22, 3, [(.null, 7, [4, 778])]),
    (5, .iload_n 1, 1, [(.null, 1, [])]),
    (6, .iaload, 1, []),
    (7, .aload_n 0, 1, [(.null, 0, [])]),
    (8, .aload_n 0, 1, [(.null, 0, [])]),
    (9, .getfield 22, 3, [(.null, 7, [4, 778])]),
    (12, .iload_n 1, 1, [(.null, 1, [])]),
    (13, .iaload, 1, []),
    (14, .invokevirtual 195, 3, [(.null, 172, [2, 1, 7, 4, 937])]),
    (17, .aload_n 0, 1, [(.null, 0, [])]),
    (18, .iload_n 1, 1, [(.null, 1, [])]),
    (19, .invokevirtual 189, 3, [(.null, 169, [2, 1, 7, 2, 940])]),
    (22, .isub, 1, []),
    (23, .invokevirtual 198, 3, [(.null, 173, [3, 1, 7, 4, 946])]),
    (26, .ireturn, 1, [])])]
/-- WallsByTheHourModel.all ()I -/
def kd_176 : List (Nat × ax_Bl) := [(0, (4, [0, 1, 2]), [(0, .iconst 0, 1, [(.int 0, 0, [])]),
    (1, .istore_n 1, 1, [(.null, 1, [])]),
    (2, .iconst 0, 1, [(.int 0, 0, [])]),
    (3, .istore_n 2, 1, [(.null, 2, [])])]),
  (4, (0, []), [(4, .iload_n 2, 1, [(.null, 2, [])]),
    (5, .bipush 8, 2, [(.int 8, 0, [])]),
    (7, .if_icmp .ge 17, 3, [(.null, 24, [1])]),
    (10, .iload_n 1, 1, [(.null, 1, [])]),
    (11, .aload_n 0, 1, [(.null, 0, [])]),
    (12, .iload_n 2, 1, [(.null, 2, [])]),
    (13, .invokevirtual 201, 3, [(.null, 174, [2, 1, 7, 2, 934])]),
    (16, .iadd, 1, []),
    (17, .istore_n 1, 1, [(.null, 1, [])]),
    (18, .iinc 2 1, 3, [(.int 1, 2, [])]),
    (21, .goto (-17), 3, [(.null, 4, [0, 1, 2])])]),
  (24, (0, []), [(24, .iload_n 1, 1, [(.null, 1, [])]),
    (25, .ireturn, 1, [])])]
/-- WallsByTheHourModel.seenNow ()I -/
def kd_177 : List (Nat × ax_Bl) := [(0, (4, [0, 1, 2]), [(0, .iconst 0, 1, [(.int 0, 0, [])]),
    (1, .istore_n 1, 1, [(.null, 1, [])]),
    (2, .iconst 0, 1, [(.int 0, 0, [])]),
    (3, .istore_n 2, 1, [(.null, 2, [])])]),
  (4, (0, []), [(4, .iload_n 2, 1, [(.null, 2, [])]),
    (5, .bipush 8, 2, [(.int 8, 0, [])]),
    (7, .if_icmp .ge 27, 3, [(.null, 34, [1])]),
    (10, .iload_n 1, 1, [(.null, 1, [])]),
    (11, .aload_n 0, 1, [(.null, 0, [])]),
    (12, .iload_n 2, 1, [(.null, 2, [])]),
    (13, .invokevirtual 201, 3, [(.null, 174, [2, 1, 7, 2, 934])]),
    (16, .ifCond .le 9, 3, [(.null, 25, [0, 2])]),
    (19, .iconst 1, 1, [(.int 1, 0, [])]),
    (20, .iload_n 2, 1, [(.null, 2, [])]),
    (21, .ishl, 1, []),
    (22, .goto 4, 3, [(.null, 26, [0, 2])])]),
  (25, (26, [0, 2]), [(25, .iconst 0, 1, [(.int 0, 0, [])])]),
  (26, (0, []), [(26, .ior, 1, []),
    (27, .istore_n 1, 1, [(.null, 1, [])]),
    (28, .iinc 2 1, 3, [(.int 1, 2, [])]),
    (31, .goto (-27), 3, [(.null, 4, [0, 1, 2])])]),
  (34, (0, []), [(34, .iload_n 1, 1, [(.null, 1, [])]),
    (35, .ireturn, 1, [])])]
/-- WallsByTheHourModel.isLent (I)Z -/
def kd_178 : List (Nat × ax_Bl) := [(0, (0, []), [(0, .aload_n 0, 1, [(.null, 0, [])]),
    (1, .getfield 22, 3, [(.null, 7, [4, 778])]),
    (4, .iload_n 1, 1, [(.null, 1, [])]),
    (5, .iaload, 1, []),
    (6, .aload_n 0, 1, [(.null, 0, [])]),
    (7, .getfield 19, 3, [(.null, 7, [3, 777])]),
    (10, .iload_n 1, 1, [(.null, 1, [])]),
    (11, .iaload, 1, []),
    (12, .if_icmp .eq 7, 3, [(.null, 19, [])]),
    (15, .iconst 1, 1, [(.int 1, 0, [])]),
    (16, .goto 4, 3, [(.null, 20, [])])]),
  (19, (20, []), [(19, .iconst 0, 1, [(.int 0, 0, [])])]),
  (20, (0, []), [(20, .ireturn, 1, [])])]
/-- WallsByTheHourModel.lentNow ()I -/
def kd_179 : List (Nat × ax_Bl) := [(0, (4, [0, 1, 2]), [(0, .iconst 0, 1, [(.int 0, 0, [])]),
    (1, .istore_n 1, 1, [(.null, 1, [])]),
    (2, .iconst 0, 1, [(.int 0, 0, [])]),
    (3, .istore_n 2, 1, [(.null, 2, [])])]),
  (4, (0, []), [(4, .iload_n 2, 1, [(.null, 2, [])]),
    (5, .aload_n 0, 1, [(.null, 0, [])]),
    (6, .getfield 65, 3, [(.null, 7, [8, 782])]),
    (9, .if_icmp .ge 27, 3, [(.null, 36, [1])]),
    (12, .iload_n 1, 1, [(.null, 1, [])]),
    (13, .aload_n 0, 1, [(.null, 0, [])]),
    (14, .iload_n 2, 1, [(.null, 2, [])]),
    (15, .invokevirtual 204, 3, [(.null, 178, [2, 1, 7, 2, 931])]),
    (18, .ifCond .eq 9, 3, [(.null, 27, [0, 2])]),
    (21, .iconst 1, 1, [(.int 1, 0, [])]),
    (22, .iload_n 2, 1, [(.null, 2, [])]),
    (23, .ishl, 1, []),
    (24, .goto 4, 3, [(.null, 28, [0, 2])])]),
  (27, (28, [0, 2]), [(27, .iconst 0, 1, [(.int 0, 0, [])])]),
  (28, (0, []), [(28, .ior, 1, []),
    (29, .istore_n 1, 1, [(.null, 1, [])]),
    (30, .iinc 2 1, 3, [(.int 1, 2, [])]),
    (33, .goto (-29), 3, [(.null, 4, [0, 1, 2])])]),
  (36, (0, []), [(36, .iload_n 1, 1, [(.null, 1, [])]),
    (37, .ireturn, 1, [])])]
/-- WallsByTheHourModel.wallsOf ([II)I -/
def kd_180 : List (Nat × ax_Bl) := [(0, (5, [0, 1, 2, 3, 4]), [(0, .iconst 0, 1, [(.int 0, 0, [])]),
    (1, .istore_n 3, 1, [(.null, 3, [])]),
    (2, .iconst 0, 1, [(.int 0, 0, [])]),
    (3, .istore 4, 2, [(.null, 4, [])])]),
  (5, (0, []), [(5, .iload 4, 2, [(.null, 4, [])]),
    (7, .aload_n 0, 1, [(.null, 0, [])]),
    (8, .getfield 65, 3, [(.null, 7, [8, 782])]),
    (11, .if_icmp .ge 28, 3, [(.null, 39, [3])]),
    (14, .iload_n 3, 1, [(.null, 3, [])]),
    (15, .aload_n 1, 1, [(.null, 1, [])]),
    (16, .iload 4, 2, [(.null, 4, [])]),
    (18, .iaload, 1, []),
    (19, .iload_n 2, 1, [(.null, 2, [])]),
    (20, .if_icmp .ne 10, 3, [(.null, 30, [0, 1, 2, 4])]),
    (23, .iconst 1, 1, [(.int 1, 0, [])]),
    (24, .iload 4, 2, [(.null, 4, [])]),
    (26, .ishl, 1, []),
    (27, .goto 4, 3, [(.null, 31, [0, 1, 2, 4])])]),
  (30, (31, [0, 1, 2, 4]), [(30, .iconst 0, 1, [(.int 0, 0, [])])]),
  (31, (0, []), [(31, .ior, 1, []),
    (32, .istore_n 3, 1, [(.null, 3, [])]),
    (33, .iinc 4 1, 3, [(.int 1, 4, [])]),
    (36, .goto (-31), 3, [(.null, 5, [0, 1, 2, 3, 4])])]),
  (39, (0, []), [(39, .iload_n 3, 1, [(.null, 3, [])]),
    (40, .ireturn, 1, [])])]
/-- WallsByTheHourModel.whereTo (I)I -/
def kd_181 : List (Nat × ax_Bl) := [(0, (0, []), [(0, .aload_n 0, 1, [(.null, 0, [])]),
    (1, .iload_n 1, 1, [(.null, 1, [])]),
    (2, .invokevirtual 204, 3, [(.null, 178, [2, 1, 7, 2, 931])]),
    (5, .ifCond .eq 43, 3, [(.null, 48, [0, 1])]),
    (8, .aload_n 0, 1, [(.null, 0, [])]),
    (9, .aload_n 0, 1, [(.null, 0, [])]),
    (10, .getfield 19, 3, [(.null, 7, [3, 777])]),
    (13, .iload_n 1, 1, [(.null, 1, [])]),
    (14, .iaload, 1, []),
    (15, .invokevirtual 201, 3, [(.null, 174, [2, 1, 7, 2, 934])]),
    (18, .ifCond .le 30, 3, [(.null, 48, [0, 1])]),
    (21, .aload_n 0, 1, [(.null, 0, [])]),
    (22, .iload_n 1, 1, [(.null, 1, [])]),
    (23, .aload_n 0, 1, [(.null, 0, [])]),
    (24, .getfield 22, 3, [(.null, 7, [4, 778])]),
    (27, .iload_n 1, 1, [(.null, 1, [])]),
    (28, .iaload, 1, []),
    (29, .aload_n 0, 1, [(.null, 0, [])]),
    (30, .getfield 19, 3, [(.null, 7, [3, 777])]),
    (33, .iload_n 1, 1, [(.null, 1, [])]),
    (34, .iaload, 1, []),
    (35, .invokevirtual 207, 3, [(.null, 171, [4, 1, 7, 4, 949])]),
    (38, .ifCond .eq 10, 3, [(.null, 48, [0, 1])]),
    (41, .aload_n 0, 1, [(.null, 0, [])]),
    (42, .getfield 19, 3, [(.null, 7, [3, 777])]),
    (45, .iload_n 1, 1, [(.null, 1, [])]),
    (46, .iaload, 1, []),
    (47, .ireturn, 1, [])]),
  (48, (64, [0, 1, 2, 3, 4]), [(48, .aload_n 0, 1, [(.null, 0, [])]),
    (49, .getfield 22, 3, [(.null, 7, [4, 778])]),
    (52, .iload_n 1, 1, [(.null, 1, [])]),
    (53, .iaload, 1, []),
    (54, .istore_n 2, 1, [(.null, 2, [])]),
    (55, .aload_n 0, 1, [(.null, 0, [])]),
    (56, .iload_n 1, 1, [(.null, 1, [])]),
    (57, .invokevirtual 210, 3, [(.null, 175, [2, 1, 7, 2, 961])]),
    (60, .istore_n 3, 1, [(.null, 3, [])]),
    (61, .iconst 0, 1, [(.int 0, 0, [])]),
    (62, .istore 4, 2, [(.null, 4, [])])]),
  (64, (0, []), [(64, .iload 4, 2, [(.null, 4, [])]),
    (66, .bipush 8, 2, [(.int 8, 0, [])]),
    (68, .if_icmp .ge 48, 3, [(.null, 116, [2])]),
    (71, .aload_n 0, 1, [(.null, 0, [])]),
    (72, .iload_n 1, 1, [(.null, 1, [])]),
    (73, .aload_n 0, 1, [(.null, 0, [])]),
    (74, .getfield 22, 3, [(.null, 7, [4, 778])]),
    (77, .iload_n 1, 1, [(.null, 1, [])]),
    (78, .iaload, 1, []),
    (79, .iload 4, 2, [(.null, 4, [])]),
    (81, .invokevirtual 207, 3, [(.null, 171, [4, 1, 7, 4, 949])]),
    (84, .ifCond .eq 26, 3, [(.null, 110, [0, 1, 2, 3, 4])]),
    (87, .aload_n 0, 1, [(.null, 0, [])]),
    (88, .iload 4, 2, [(.null, 4, [])]),
    (90, .invokevirtual 201, 3, [(.null, 174, [2, 1, 7, 2, 934])]),
    (93, .iload_n 3, 1, [(.null, 3, [])]),
    (94, .if_icmp .gt 6, 3, [(.null, 100, [0, 1, 4])]),
    (97, .goto 13, 3, [(.null, 110, [0, 1, 2, 3, 4])])]),
  (100, (110, [0, 1, 2, 3, 4]), [(100, .iload 4, 2, [(.null, 4, [])]),
    (102, .istore_n 2, 1, [(.null, 2, [])]),
    (103, .aload_n 0, 1, [(.null, 0, [])]),
    (104, .iload 4, 2, [(.null, 4, [])]),
    (106, .invokevirtual 201, 3, [(.null, 174, [2, 1, 7, 2, 934])]),
    (109, .istore_n 3, 1, [(.null, 3, [])])]),
  (110, (0, []), [(110, .iinc 4 1, 3, [(.int 1, 4, [])]),
    (113, .goto (-49), 3, [(.null, 64, [0, 1, 2, 3, 4])])]),
  (116, (0, []), [(116, .iload_n 2, 1, [(.null, 2, [])]),
    (117, .ireturn, 1, [])])]
/-- WallsByTheHourModel.goesWall (I)V -/
def kd_182 : List (Nat × ax_Bl) := [(0, (0, []), [(0, .aload_n 0, 1, [(.null, 0, [])]),
    (1, .getfield 22, 3, [(.null, 7, [4, 778])]),
    (4, .iload_n 1, 1, [(.null, 1, [])]),
    (5, .iaload, 1, []),
    (6, .istore_n 2, 1, [(.null, 2, [])]),
    (7, .aload_n 0, 1, [(.null, 0, [])]),
    (8, .iload_n 1, 1, [(.null, 1, [])]),
    (9, .invokevirtual 213, 3, [(.null, 181, [2, 1, 7, 5, 928])]),
    (12, .istore_n 3, 1, [(.null, 3, [])]),
    (13, .iload_n 2, 1, [(.null, 2, [])]),
    (14, .iload_n 3, 1, [(.null, 3, [])]),
    (15, .if_icmp .ne 4, 3, [(.null, 19, [0, 1, 2, 3])]),
    (18, .return_, 1, [])]),
  (19, (40, [0, 1, 2, 3]), [(19, .aload_n 0, 1, [(.null, 0, [])]),
    (20, .dup, 1, []),
    (21, .getfield 216, 3, [(.null, 7, [26, 800])]),
    (24, .iload_n 2, 1, [(.null, 2, [])]),
    (25, .aload_n 0, 1, [(.null, 0, [])]),
    (26, .getfield 219, 3, [(.null, 7, [24, 798])]),
    (29, .if_icmp .ne 11, 3, [(.null, 40, [0, 1, 2, 3])]),
    (32, .iload_n 3, 1, [(.null, 3, [])]),
    (33, .aload_n 0, 1, [(.null, 0, [])]),
    (34, .getfield 222, 3, [(.null, 7, [25, 799])]),
    (37, .if_icmp .eq 19, 3, [(.null, 56, [0, 1, 3])])]),
  (40, (56, [0, 1, 3]), [(40, .iload_n 2, 1, [(.null, 2, [])]),
    (41, .aload_n 0, 1, [(.null, 0, [])]),
    (42, .getfield 222, 3, [(.null, 7, [25, 799])]),
    (45, .if_icmp .ne 15, 3, [(.null, 60, [0, 1, 3])]),
    (48, .iload_n 3, 1, [(.null, 3, [])]),
    (49, .aload_n 0, 1, [(.null, 0, [])]),
    (50, .getfield 219, 3, [(.null, 7, [24, 798])]),
    (53, .if_icmp .ne 7, 3, [(.null, 60, [0, 1, 3])])]),
  (56, (0, []), [(56, .iconst 1, 1, [(.int 1, 0, [])]),
    (57, .goto 4, 3, [(.null, 61, [0, 1, 3])])]),
  (60, (61, [0, 1, 3]), [(60, .iconst 0, 1, [(.int 0, 0, [])])]),
  (61, (0, []), [(61, .iadd, 1, []),
    (62, .putfield 216, 3, [(.null, 7, [26, 800])]),
    (65, .aload_n 0, 1, [(.null, 0, [])]),
    (66, .getfield 22, 3, [(.null, 7, [4, 778])]),
    (69, .iload_n 1, 1, [(.null, 1, [])]),
    (70, .iload_n 3, 1, [(.null, 3, [])]),
    (71, .iastore, 1, []),
    (72, .aload_n 0, 1, [(.null, 0, [])]),
    (73, .getfield 25, 3, [(.null, 7, [5, 779])]),
    (76, .iload_n 1, 1, [(.null, 1, [])]),
    (77, .dup2, 1, []),
    (78, .iaload, 1, []),
    (79, .iconst 1, 1, [(.int 1, 0, [])]),
    (80, .iadd, 1, []),
    (81, .iastore, 1, []),
    (82, .return_, 1, [])])]
/-- WallsByTheHourModel.goesHour ()V -/
def kd_183 : List (Nat × ax_Bl) := [(0, (12, [0, 1]), [(0, .aload_n 0, 1, [(.null, 0, [])]),
    (1, .dup, 1, []),
    (2, .getfield 126, 3, [(.null, 7, [9, 783])]),
    (5, .iconst 1, 1, [(.int 1, 0, [])]),
    (6, .iadd, 1, []),
    (7, .putfield 126, 3, [(.null, 7, [9, 783])]),
    (10, .iconst 0, 1, [(.int 0, 0, [])]),
    (11, .istore_n 1, 1, [(.null, 1, [])])]),
  (12, (0, []), [(12, .iload_n 1, 1, [(.null, 1, [])]),
    (13, .aload_n 0, 1, [(.null, 0, [])]),
    (14, .getfield 65, 3, [(.null, 7, [8, 782])]),
    (17, .if_icmp .ge 14, 3, [(.null, 31, [0])]),
    (20, .aload_n 0, 1, [(.null, 0, [])]),
    (21, .iload_n 1, 1, [(.null, 1, [])]),
    (22, .invokevirtual 225, 3, [(.null, 182, [2, 0, 7, 4, 925])]),
    (25, .iinc 1 1, 3, [(.int 1, 1, [])]),
    (28, .goto (-16), 3, [(.null, 12, [0, 1])])]),
  (31, (54, []), [(31, .aload_n 0, 1, [(.null, 0, [])]),
    (32, .getfield 126, 3, [(.null, 7, [9, 783])]),
    (35, .sipush 999, 3, [(.int 999, 0, [])]),
    (38, .if_icmp .gt 16, 3, [(.null, 54, [])]),
    (41, .aload_n 0, 1, [(.null, 0, [])]),
    (42, .getfield 49, 3, [(.null, 7, [23, 797])]),
    (45, .aload_n 0, 1, [(.null, 0, [])]),
    (46, .getfield 126, 3, [(.null, 7, [9, 783])]),
    (49, .aload_n 0, 1, [(.null, 0, [])]),
    (50, .invokevirtual 228, 3, [(.null, 177, [1, 1, 7, 3, 964])]),
    (53, .iastore, 1, [])]),
  (54, (0, []), [(54, .return_, 1, [])])]
/-- WallsByTheHourModel.goes_ (I)V -/
def kd_184 : List (Nat × ax_Bl) := [(0, (2, [0, 1, 2]), [(0, .iconst 0, 1, [(.int 0, 0, [])]),
    (1, .istore_n 2, 1, [(.null, 2, [])])]),
  (2, (0, []), [(2, .iload_n 2, 1, [(.null, 2, [])]),
    (3, .iload_n 1, 1, [(.null, 1, [])]),
    (4, .if_icmp .ge 13, 3, [(.null, 17, [])]),
    (7, .aload_n 0, 1, [(.null, 0, [])]),
    (8, .invokevirtual 231, 3, [(.null, 183, [1, 0, 7, 2, 922])]),
    (11, .iinc 2 1, 3, [(.int 1, 2, [])]),
    (14, .goto (-12), 3, [(.null, 2, [0, 1, 2])])]),
  (17, (0, []), [(17, .return_, 1, [])])]
/-- WallsByTheHourModel.wall (II)I -/
def kd_185 : List (Nat × ax_Bl) := [(0, (0, []), [(0, .aload_n 0, 1, [(.null, 0, [])]),
    (1, .iload_n 1, 1, [(.null, 1, [])]),
    (2, .invokevirtual 119, 3, [(.null, 143, [2, 1, 7, 2, 904])]),
    (5, .ifCond .ne 9, 3, [(.null, 14, [0, 1, 2])]),
    (8, .aload_n 0, 1, [(.null, 0, [])]),
    (9, .iconst (-1), 1, [(.int (-1), 0, [])]),
    (10, .invokevirtual 86, 3, [(.null, 136, [2, 1, 7, 2, 852])]),
    (13, .ireturn, 1, [])]),
  (14, (0, []), [(14, .iload_n 2, 1, [(.null, 2, [])]),
    (15, .tableswitch 78 0 5 #[37, 44, 51, 58, 65, 72], 37, [(.int 0, 52, [0, 1]), (.int 1, 59, [0, 1]), (.int 2, 66, [0, 1]), (.int 3, 73, [0, 1]), (.int 4, 80, [0, 1]), (.int 5, 87, [0, 1]), (.null, 93, [0])])]),
  (52, (0, []), [(52, .aload_n 0, 1, [(.null, 0, [])]),
    (53, .getfield 13, 3, [(.null, 7, [1, 775])]),
    (56, .iload_n 1, 1, [(.null, 1, [])]),
    (57, .iaload, 1, []),
    (58, .ireturn, 1, [])]),
  (59, (0, []), [(59, .aload_n 0, 1, [(.null, 0, [])]),
    (60, .getfield 16, 3, [(.null, 7, [2, 776])]),
    (63, .iload_n 1, 1, [(.null, 1, [])]),
    (64, .iaload, 1, []),
    (65, .ireturn, 1, [])]),
  (66, (0, []), [(66, .aload_n 0, 1, [(.null, 0, [])]),
    (67, .getfield 19, 3, [(.null, 7, [3, 777])]),
    (70, .iload_n 1, 1, [(.null, 1, [])]),
    (71, .iaload, 1, []),
    (72, .ireturn, 1, [])]),
  (73, (0, []), [(73, .aload_n 0, 1, [(.null, 0, [])]),
    (74, .getfield 22, 3, [(.null, 7, [4, 778])]),
    (77, .iload_n 1, 1, [(.null, 1, [])]),
    (78, .iaload, 1, []),
    (79, .ireturn, 1, [])]),
  (80, (0, []), [(80, .aload_n 0, 1, [(.null, 0, [])]),
    (81, .getfield 25, 3, [(.null, 7, [5, 779])]),
    (84, .iload_n 1, 1, [(.null, 1, [])]),
    (85, .iaload, 1, []),
    (86, .ireturn, 1, [])]),
  (87, (0, []), [(87, .aload_n 0, 1, [(.null, 0, [])]),
    (88, .iload_n 1, 1, [(.null, 1, [])]),
    (89, .invokevirtual 189, 3, [(.null, 169, [2, 1, 7, 2, 940])]),
    (92, .ireturn, 1, [])]),
  (93, (0, []), [(93, .aload_n 0, 1, [(.null, 0, [])]),
    (94, .bipush (-2), 2, [(.int (-2), 0, [])]),
    (96, .invokevirtual 86, 3, [(.null, 136, [2, 1, 7, 2, 852])]),
    (99, .ireturn, 1, [])])]
/-- WallsByTheHourModel.house (II)I -/
def kd_186 : List (Nat × ax_Bl) := [(0, (0, []), [(0, .iload_n 1, 1, [(.null, 1, [])]),
    (1, .invokestatic 75, 3, [(.null, 144, [1, 1, 99, 1, 898])]),
    (4, .ifCond .ne 9, 3, [(.null, 13, [0, 1, 2])]),
    (7, .aload_n 0, 1, [(.null, 0, [])]),
    (8, .iconst (-1), 1, [(.int (-1), 0, [])]),
    (9, .invokevirtual 86, 3, [(.null, 136, [2, 1, 7, 2, 852])]),
    (12, .ireturn, 1, [])]),
  (13, (0, []), [(13, .iload_n 2, 1, [(.null, 2, [])]),
    (14, .tableswitch 95 0 5 #[38, 56, 62, 68, 78, 88], 38, [(.int 0, 52, [0, 1]), (.int 1, 70, [0, 1]), (.int 2, 76, [0, 1]), (.int 3, 82, [0, 1]), (.int 4, 92, [0, 1]), (.int 5, 102, [0, 1]), (.null, 109, [0])])]),
  (52, (0, []), [(52, .aload_n 0, 1, [(.null, 0, [])]),
    (53, .getfield 28, 3, [(.null, 7, [6, 780])]),
    (56, .bipush 6, 2, [(.int 6, 0, [])]),
    (58, .iload_n 1, 1, [(.null, 1, [])]),
    (59, .imul, 1, []),
    (60, .aload_n 0, 1, [(.null, 0, [])]),
    (61, .getfield 126, 3, [(.null, 7, [9, 783])]),
    (64, .bipush 6, 2, [(.int 6, 0, [])]),
    (66, .irem, 1, []),
    (67, .iadd, 1, []),
    (68, .iaload, 1, []),
    (69, .ireturn, 1, [])]),
  (70, (0, []), [(70, .aload_n 0, 1, [(.null, 0, [])]),
    (71, .iload_n 1, 1, [(.null, 1, [])]),
    (72, .invokevirtual 195, 3, [(.null, 172, [2, 1, 7, 4, 937])]),
    (75, .ireturn, 1, [])]),
  (76, (0, []), [(76, .aload_n 0, 1, [(.null, 0, [])]),
    (77, .iload_n 1, 1, [(.null, 1, [])]),
    (78, .invokevirtual 201, 3, [(.null, 174, [2, 1, 7, 2, 934])]),
    (81, .ireturn, 1, [])]),
  (82, (0, []), [(82, .aload_n 0, 1, [(.null, 0, [])]),
    (83, .aload_n 0, 1, [(.null, 0, [])]),
    (84, .getfield 22, 3, [(.null, 7, [4, 778])]),
    (87, .iload_n 1, 1, [(.null, 1, [])]),
    (88, .invokevirtual 234, 3, [(.null, 180, [3, 1, 7, 5, 983])]),
    (91, .ireturn, 1, [])]),
  (92, (0, []), [(92, .aload_n 0, 1, [(.null, 0, [])]),
    (93, .aload_n 0, 1, [(.null, 0, [])]),
    (94, .getfield 19, 3, [(.null, 7, [3, 777])]),
    (97, .iload_n 1, 1, [(.null, 1, [])]),
    (98, .invokevirtual 234, 3, [(.null, 180, [3, 1, 7, 5, 983])]),
    (101, .ireturn, 1, [])]),
  (102, (0, []), [(102, .aload_n 0, 1, [(.null, 0, [])]),
    (103, .getfield 31, 3, [(.null, 7, [7, 781])]),
    (106, .iload_n 1, 1, [(.null, 1, [])]),
    (107, .iaload, 1, []),
    (108, .ireturn, 1, [])]),
  (109, (0, []), [(109, .aload_n 0, 1, [(.null, 0, [])]),
    (110, .bipush (-2), 2, [(.int (-2), 0, [])]),
    (112, .invokevirtual 86, 3, [(.null, 136, [2, 1, 7, 2, 852])]),
    (115, .ireturn, 1, [])])]
/-- WallsByTheHourModel.takes (II)I -/
def kd_187 : List (Nat × ax_Bl) := [(0, (15, [0]), [(0, .aload_n 0, 1, [(.null, 0, [])]),
    (1, .iload_n 1, 1, [(.null, 1, [])]),
    (2, .invokevirtual 119, 3, [(.null, 143, [2, 1, 7, 2, 904])]),
    (5, .ifCond .eq 10, 3, [(.null, 15, [0])]),
    (8, .iload_n 2, 1, [(.null, 2, [])]),
    (9, .invokestatic 75, 3, [(.null, 144, [1, 1, 99, 1, 898])]),
    (12, .ifCond .ne 9, 3, [(.null, 21, [0, 1, 2])])]),
  (15, (0, []), [(15, .aload_n 0, 1, [(.null, 0, [])]),
    (16, .iconst (-1), 1, [(.int (-1), 0, [])]),
    (17, .invokevirtual 86, 3, [(.null, 136, [2, 1, 7, 2, 852])]),
    (20, .ireturn, 1, [])]),
  (21, (0, []), [(21, .aload_n 0, 1, [(.null, 0, [])]),
    (22, .getfield 22, 3, [(.null, 7, [4, 778])]),
    (25, .iload_n 1, 1, [(.null, 1, [])]),
    (26, .iaload, 1, []),
    (27, .istore_n 3, 1, [(.null, 3, [])]),
    (28, .aload_n 0, 1, [(.null, 0, [])]),
    (29, .getfield 22, 3, [(.null, 7, [4, 778])]),
    (32, .iload_n 1, 1, [(.null, 1, [])]),
    (33, .iload_n 2, 1, [(.null, 2, [])]),
    (34, .iastore, 1, []),
    (35, .iload_n 3, 1, [(.null, 3, [])]),
    (36, .ireturn, 1, [])])]
/-- WallsByTheHourModel.sells (II)I -/
def kd_188 : List (Nat × ax_Bl) := [(0, (15, [0]), [(0, .aload_n 0, 1, [(.null, 0, [])]),
    (1, .iload_n 1, 1, [(.null, 1, [])]),
    (2, .invokevirtual 119, 3, [(.null, 143, [2, 1, 7, 2, 904])]),
    (5, .ifCond .eq 10, 3, [(.null, 15, [0])]),
    (8, .iload_n 2, 1, [(.null, 2, [])]),
    (9, .invokestatic 75, 3, [(.null, 144, [1, 1, 99, 1, 898])]),
    (12, .ifCond .ne 9, 3, [(.null, 21, [0, 1, 2])])]),
  (15, (0, []), [(15, .aload_n 0, 1, [(.null, 0, [])]),
    (16, .iconst (-1), 1, [(.int (-1), 0, [])]),
    (17, .invokevirtual 86, 3, [(.null, 136, [2, 1, 7, 2, 852])]),
    (20, .ireturn, 1, [])]),
  (21, (0, []), [(21, .aload_n 0, 1, [(.null, 0, [])]),
    (22, .getfield 19, 3, [(.null, 7, [3, 777])]),
    (25, .iload_n 1, 1, [(.null, 1, [])]),
    (26, .iaload, 1, []),
    (27, .istore_n 3, 1, [(.null, 3, [])]),
    (28, .aload_n 0, 1, [(.null, 0, [])]),
    (29, .getfield 19, 3, [(.null, 7, [3, 777])]),
    (32, .iload_n 1, 1, [(.null, 1, [])]),
    (33, .iload_n 2, 1, [(.null, 2, [])]),
    (34, .iastore, 1, []),
    (35, .iload_n 3, 1, [(.null, 3, [])]),
    (36, .ireturn, 1, [])])]
/-- WallsByTheHourModel.needs (III)I -/
def kd_189 : List (Nat × ax_Bl) := [(0, (0, []), [(0, .iload_n 1, 1, [(.null, 1, [])]),
    (1, .invokestatic 75, 3, [(.null, 144, [1, 1, 99, 1, 898])]),
    (4, .ifCond .ne 7, 3, [(.null, 11, [0, 1, 2, 3])]),
    (7, .iconst (-1), 1, [(.int (-1), 0, [])]),
    (8, .goto 24, 3, [(.null, 32, [0, 1, 2, 3])])]),
  (11, (0, []), [(11, .iload_n 2, 1, [(.null, 2, [])]),
    (12, .iconst 0, 1, [(.int 0, 0, [])]),
    (13, .iconst 5, 1, [(.int 5, 0, [])]),
    (14, .invokestatic 71, 3, [(.null, 138, [3, 1, 99, 3, 880])]),
    (17, .ifCond .ne 8, 3, [(.null, 25, [0, 1, 2, 3])]),
    (20, .bipush (-2), 2, [(.int (-2), 0, [])]),
    (22, .goto 10, 3, [(.null, 32, [0, 1, 2, 3])])]),
  (25, (32, [0, 1, 2, 3]), [(25, .iload_n 3, 1, [(.null, 3, [])]),
    (26, .iconst 0, 1, [(.int 0, 0, [])]),
    (27, .bipush 9, 2, [(.int 9, 0, [])]),
    (29, .invokestatic 79, 3, [(.null, 139, [3, 1, 99, 3, 849])])]),
  (32, (0, []), [(32, .istore 4, 2, [(.null, 4, [])]),
    (34, .iload 4, 2, [(.null, 4, [])]),
    (36, .ifCond .eq 10, 3, [(.null, 46, [0, 1, 2, 3])]),
    (39, .aload_n 0, 1, [(.null, 0, [])]),
    (40, .iload 4, 2, [(.null, 4, [])]),
    (42, .invokevirtual 86, 3, [(.null, 136, [2, 1, 7, 2, 852])]),
    (45, .ireturn, 1, [])]),
  (46, (0, []), [(46, .aload_n 0, 1, [(.null, 0, [])]),
    (47, .getfield 28, 3, [(.null, 7, [6, 780])]),
    (50, .bipush 6, 2, [(.int 6, 0, [])]),
    (52, .iload_n 1, 1, [(.null, 1, [])]),
    (53, .imul, 1, []),
    (54, .iload_n 2, 1, [(.null, 2, [])]),
    (55, .iadd, 1, []),
    (56, .iaload, 1, []),
    (57, .istore 5, 2, [(.null, 5, [])]),
    (59, .aload_n 0, 1, [(.null, 0, [])]),
    (60, .getfield 28, 3, [(.null, 7, [6, 780])]),
    (63, .bipush 6, 2, [(.int 6, 0, [])]),
    (65, .iload_n 1, 1, [(.null, 1, [])]),
    (66, .imul, 1, []),
    (67, .iload_n 2, 1, [(.null, 2, [])]),
    (68, .iadd, 1, []),
    (69, .iload_n 3, 1, [(.null, 3, [])]),
    (70, .iastore, 1, []),
    (71, .iload 5, 2, [(.null, 5, [])]),
    (73, .ireturn, 1, [])])]
/-- WallsByTheHourModel.bars (II)I -/
def kd_190 : List (Nat × ax_Bl) := [(0, (0, []), [(0, .iload_n 1, 1, [(.null, 1, [])]),
    (1, .iload_n 2, 1, [(.null, 2, [])]),
    (2, .invokestatic 122, 3, [(.null, 145, [2, 1, 99, 2, 913])]),
    (5, .ifCond .ne 9, 3, [(.null, 14, [0, 1, 2])]),
    (8, .aload_n 0, 1, [(.null, 0, [])]),
    (9, .iconst (-1), 1, [(.int (-1), 0, [])]),
    (10, .invokevirtual 86, 3, [(.null, 136, [2, 1, 7, 2, 852])]),
    (13, .ireturn, 1, [])]),
  (14, (0, []), [(14, .aload_n 0, 1, [(.null, 0, [])]),
    (15, .getfield 31, 3, [(.null, 7, [7, 781])]),
    (18, .iload_n 1, 1, [(.null, 1, [])]),
    (19, .dup2, 1, []),
    (20, .iaload, 1, []),
    (21, .iconst 1, 1, [(.int 1, 0, [])]),
    (22, .iload_n 2, 1, [(.null, 2, [])]),
    (23, .ishl, 1, []),
    (24, .ixor, 1, []),
    (25, .iastore, 1, []),
    (26, .aload_n 0, 1, [(.null, 0, [])]),
    (27, .getfield 31, 3, [(.null, 7, [7, 781])]),
    (30, .iload_n 1, 1, [(.null, 1, [])]),
    (31, .iaload, 1, []),
    (32, .iload_n 2, 1, [(.null, 2, [])]),
    (33, .ishr, 1, []),
    (34, .iconst 1, 1, [(.int 1, 0, [])]),
    (35, .iand, 1, []),
    (36, .ireturn, 1, [])])]
/-- WallsByTheHourModel.turn (III)I -/
def kd_191 : List (Nat × ax_Bl) := [(0, (0, []), [(0, .aload_n 0, 1, [(.null, 0, [])]),
    (1, .iload_n 1, 1, [(.null, 1, [])]),
    (2, .invokevirtual 119, 3, [(.null, 143, [2, 1, 7, 2, 904])]),
    (5, .ifCond .ne 7, 3, [(.null, 12, [0, 1, 2, 3])]),
    (8, .iconst (-1), 1, [(.int (-1), 0, [])]),
    (9, .goto 24, 3, [(.null, 33, [0, 1, 2, 3])])]),
  (12, (0, []), [(12, .iload_n 2, 1, [(.null, 2, [])]),
    (13, .iconst 0, 1, [(.int 0, 0, [])]),
    (14, .iconst 5, 1, [(.int 5, 0, [])]),
    (15, .invokestatic 71, 3, [(.null, 138, [3, 1, 99, 3, 880])]),
    (18, .ifCond .ne 8, 3, [(.null, 26, [0, 1, 2, 3])]),
    (21, .bipush (-2), 2, [(.int (-2), 0, [])]),
    (23, .goto 10, 3, [(.null, 33, [0, 1, 2, 3])])]),
  (26, (33, [0, 1, 2, 3]), [(26, .iload_n 3, 1, [(.null, 3, [])]),
    (27, .iconst 0, 1, [(.int 0, 0, [])]),
    (28, .bipush 9, 2, [(.int 9, 0, [])]),
    (30, .invokestatic 79, 3, [(.null, 139, [3, 1, 99, 3, 849])])]),
  (33, (0, []), [(33, .istore 4, 2, [(.null, 4, [])]),
    (35, .iload 4, 2, [(.null, 4, [])]),
    (37, .ifCond .eq 10, 3, [(.null, 47, [0, 1, 2, 3])]),
    (40, .aload_n 0, 1, [(.null, 0, [])]),
    (41, .iload 4, 2, [(.null, 4, [])]),
    (43, .invokevirtual 86, 3, [(.null, 136, [2, 1, 7, 2, 852])]),
    (46, .ireturn, 1, [])]),
  (47, (0, []), [(47, .bipush 10, 2, [(.int 10, 0, [])]),
    (49, .aload_n 0, 1, [(.null, 0, [])]),
    (50, .getfield 13, 3, [(.null, 7, [1, 775])]),
    (53, .iload_n 1, 1, [(.null, 1, [])]),
    (54, .iaload, 1, []),
    (55, .imul, 1, []),
    (56, .aload_n 0, 1, [(.null, 0, [])]),
    (57, .getfield 16, 3, [(.null, 7, [2, 776])]),
    (60, .iload_n 1, 1, [(.null, 1, [])]),
    (61, .iaload, 1, []),
    (62, .iadd, 1, []),
    (63, .istore 5, 2, [(.null, 5, [])]),
    (65, .aload_n 0, 1, [(.null, 0, [])]),
    (66, .getfield 13, 3, [(.null, 7, [1, 775])]),
    (69, .iload_n 1, 1, [(.null, 1, [])]),
    (70, .iload_n 2, 1, [(.null, 2, [])]),
    (71, .iastore, 1, []),
    (72, .aload_n 0, 1, [(.null, 0, [])]),
    (73, .getfield 16, 3, [(.null, 7, [2, 776])]),
    (76, .iload_n 1, 1, [(.null, 1, [])]),
    (77, .iload_n 3, 1, [(.null, 3, [])]),
    (78, .iastore, 1, []),
    (79, .iload 5, 2, [(.null, 5, [])]),
    (81, .ireturn, 1, [])])]
/-- WallsByTheHourModel.hours (I)I -/
def kd_192 : List (Nat × ax_Bl) := [(0, (27, [0, 1, 2]), [(0, .iload_n 1, 1, [(.null, 1, [])]),
    (1, .iconst 1, 1, [(.int 1, 0, [])]),
    (2, .bipush 60, 2, [(.int 60, 0, [])]),
    (4, .invokestatic 79, 3, [(.null, 139, [3, 1, 99, 3, 849])]),
    (7, .istore_n 2, 1, [(.null, 2, [])]),
    (8, .iload_n 2, 1, [(.null, 2, [])]),
    (9, .ifCond .ne 18, 3, [(.null, 27, [0, 1, 2])]),
    (12, .aload_n 0, 1, [(.null, 0, [])]),
    (13, .getfield 126, 3, [(.null, 7, [9, 783])]),
    (16, .iload_n 1, 1, [(.null, 1, [])]),
    (17, .iadd, 1, []),
    (18, .sipush 999, 3, [(.int 999, 0, [])]),
    (21, .if_icmp .le 6, 3, [(.null, 27, [0, 1, 2])]),
    (24, .bipush (-6), 2, [(.int (-6), 0, [])]),
    (26, .istore_n 2, 1, [(.null, 2, [])])]),
  (27, (0, []), [(27, .iload_n 2, 1, [(.null, 2, [])]),
    (28, .ifCond .eq 9, 3, [(.null, 37, [0, 1])]),
    (31, .aload_n 0, 1, [(.null, 0, [])]),
    (32, .iload_n 2, 1, [(.null, 2, [])]),
    (33, .invokevirtual 86, 3, [(.null, 136, [2, 1, 7, 2, 852])]),
    (36, .ireturn, 1, [])]),
  (37, (0, []), [(37, .aload_n 0, 1, [(.null, 0, [])]),
    (38, .iload_n 1, 1, [(.null, 1, [])]),
    (39, .invokevirtual 129, 3, [(.null, 184, [2, 0, 7, 3, 919])]),
    (42, .aload_n 0, 1, [(.null, 0, [])]),
    (43, .invokevirtual 238, 3, [(.null, 176, [1, 1, 7, 3, 1010])]),
    (46, .ireturn, 1, [])])]
/-- WallsByTheHourModel.notHours (I)I -/
def kd_193 : List (Nat × ax_Bl) := [(0, (0, []), [(0, .iload_n 0, 1, [(.null, 0, [])]),
    (1, .iconst 0, 1, [(.int 0, 0, [])]),
    (2, .bipush 60, 2, [(.int 60, 0, [])]),
    (4, .invokestatic 79, 3, [(.null, 139, [3, 1, 99, 3, 849])]),
    (7, .ireturn, 1, [])])]
/-- WallsByTheHourModel.atThen (II)I -/
def kd_194 : List (Nat × ax_Bl) := [(0, (0, []), [(0, .aload_n 0, 1, [(.null, 0, [])]),
    (1, .iload_n 1, 1, [(.null, 1, [])]),
    (2, .invokevirtual 119, 3, [(.null, 143, [2, 1, 7, 2, 904])]),
    (5, .ifCond .ne 7, 3, [(.null, 12, [0, 1, 2])]),
    (8, .iconst (-1), 1, [(.int (-1), 0, [])]),
    (9, .goto 7, 3, [(.null, 16, [0, 1, 2])])]),
  (12, (16, [0, 1, 2]), [(12, .iload_n 2, 1, [(.null, 2, [])]),
    (13, .invokestatic 241, 3, [(.null, 193, [1, 1, 99, 1, 1017])])]),
  (16, (0, []), [(16, .istore_n 3, 1, [(.null, 3, [])]),
    (17, .iload_n 3, 1, [(.null, 3, [])]),
    (18, .ifCond .eq 9, 3, [(.null, 27, [0, 1, 2])]),
    (21, .aload_n 0, 1, [(.null, 0, [])]),
    (22, .iload_n 3, 1, [(.null, 3, [])]),
    (23, .invokevirtual 86, 3, [(.null, 136, [2, 1, 7, 2, 852])]),
    (26, .ireturn, 1, [])]),
  (27, (0, []), [(27, .aload_n 0, 1, [(.null, 0, [])]),
    (28, .invokevirtual 244, 3, [(.null, 164, [1, 0, 7, 1, 1020])]),
    (31, .aload_n 0, 1, [(.null, 0, [])]),
    (32, .iload_n 2, 1, [(.null, 2, [])]),
    (33, .invokevirtual 129, 3, [(.null, 184, [2, 0, 7, 3, 919])]),
    (36, .aload_n 0, 1, [(.null, 0, [])]),
    (37, .getfield 22, 3, [(.null, 7, [4, 778])]),
    (40, .iload_n 1, 1, [(.null, 1, [])]),
    (41, .iaload, 1, []),
    (42, .istore 4, 2, [(.null, 4, [])]),
    (44, .aload_n 0, 1, [(.null, 0, [])]),
    (45, .invokevirtual 247, 3, [(.null, 165, [1, 0, 7, 1, 1023])]),
    (48, .iload 4, 2, [(.null, 4, [])]),
    (50, .ireturn, 1, [])])]
/-- WallsByTheHourModel.lacksIn (II)I -/
def kd_195 : List (Nat × ax_Bl) := [(0, (0, []), [(0, .aload_n 0, 1, [(.null, 0, [])]),
    (1, .invokevirtual 244, 3, [(.null, 164, [1, 0, 7, 1, 1020])]),
    (4, .aload_n 0, 1, [(.null, 0, [])]),
    (5, .iload_n 2, 1, [(.null, 2, [])]),
    (6, .invokevirtual 129, 3, [(.null, 184, [2, 0, 7, 3, 919])]),
    (9, .aload_n 0, 1, [(.null, 0, [])]),
    (10, .iload_n 1, 1, [(.null, 1, [])]),
    (11, .invokevirtual 201, 3, [(.null, 174, [2, 1, 7, 2, 934])]),
    (14, .istore_n 3, 1, [(.null, 3, [])]),
    (15, .aload_n 0, 1, [(.null, 0, [])]),
    (16, .invokevirtual 247, 3, [(.null, 165, [1, 0, 7, 1, 1023])]),
    (19, .iload_n 3, 1, [(.null, 3, [])]),
    (20, .ireturn, 1, [])])]
/-- WallsByTheHourModel.lacksThen (II)I -/
def kd_196 : List (Nat × ax_Bl) := [(0, (0, []), [(0, .iload_n 1, 1, [(.null, 1, [])]),
    (1, .invokestatic 75, 3, [(.null, 144, [1, 1, 99, 1, 898])]),
    (4, .ifCond .ne 7, 3, [(.null, 11, [0, 1, 2])]),
    (7, .iconst (-1), 1, [(.int (-1), 0, [])]),
    (8, .goto 7, 3, [(.null, 15, [0, 1, 2])])]),
  (11, (15, [0, 1, 2]), [(11, .iload_n 2, 1, [(.null, 2, [])]),
    (12, .invokestatic 241, 3, [(.null, 193, [1, 1, 99, 1, 1017])])]),
  (15, (0, []), [(15, .istore_n 3, 1, [(.null, 3, [])]),
    (16, .iload_n 3, 1, [(.null, 3, [])]),
    (17, .ifCond .eq 11, 3, [(.null, 28, [0, 1, 2])]),
    (20, .aload_n 0, 1, [(.null, 0, [])]),
    (21, .iload_n 3, 1, [(.null, 3, [])]),
    (22, .invokevirtual 86, 3, [(.null, 136, [2, 1, 7, 2, 852])]),
    (25, .goto 9, 3, [(.null, 34, [])])]),
  (28, (34, []), [(28, .aload_n 0, 1, [(.null, 0, [])]),
    (29, .iload_n 1, 1, [(.null, 1, [])]),
    (30, .iload_n 2, 1, [(.null, 2, [])]),
    (31, .invokevirtual 250, 3, [(.null, 195, [3, 1, 7, 4, 1030])])]),
  (34, (0, []), [(34, .ireturn, 1, [])])]
/-- WallsByTheHourModel.allIn (I)I -/
def kd_197 : List (Nat × ax_Bl) := [(0, (0, []), [(0, .aload_n 0, 1, [(.null, 0, [])]),
    (1, .invokevirtual 244, 3, [(.null, 164, [1, 0, 7, 1, 1020])]),
    (4, .aload_n 0, 1, [(.null, 0, [])]),
    (5, .iload_n 1, 1, [(.null, 1, [])]),
    (6, .invokevirtual 129, 3, [(.null, 184, [2, 0, 7, 3, 919])]),
    (9, .aload_n 0, 1, [(.null, 0, [])]),
    (10, .invokevirtual 238, 3, [(.null, 176, [1, 1, 7, 3, 1010])]),
    (13, .istore_n 2, 1, [(.null, 2, [])]),
    (14, .aload_n 0, 1, [(.null, 0, [])]),
    (15, .invokevirtual 247, 3, [(.null, 165, [1, 0, 7, 1, 1023])]),
    (18, .iload_n 2, 1, [(.null, 2, [])]),
    (19, .ireturn, 1, [])])]
/-- WallsByTheHourModel.allLack (I)I -/
def kd_198 : List (Nat × ax_Bl) := [(0, (0, []), [(0, .iload_n 1, 1, [(.null, 1, [])]),
    (1, .invokestatic 241, 3, [(.null, 193, [1, 1, 99, 1, 1017])]),
    (4, .istore_n 2, 1, [(.null, 2, [])]),
    (5, .iload_n 2, 1, [(.null, 2, [])]),
    (6, .ifCond .eq 11, 3, [(.null, 17, [0, 1])]),
    (9, .aload_n 0, 1, [(.null, 0, [])]),
    (10, .iload_n 2, 1, [(.null, 2, [])]),
    (11, .invokevirtual 86, 3, [(.null, 136, [2, 1, 7, 2, 852])]),
    (14, .goto 8, 3, [(.null, 22, [])])]),
  (17, (22, []), [(17, .aload_n 0, 1, [(.null, 0, [])]),
    (18, .iload_n 1, 1, [(.null, 1, [])]),
    (19, .invokevirtual 253, 3, [(.null, 197, [2, 1, 7, 3, 1037])])]),
  (22, (0, []), [(22, .ireturn, 1, [])])]
/-- WallsByTheHourModel.homeWhen (I)I -/
def kd_199 : List (Nat × ax_Bl) := [(0, (9, [0, 1, 2, 3]), [(0, .aload_n 0, 1, [(.null, 0, [])]),
    (1, .invokevirtual 244, 3, [(.null, 164, [1, 0, 7, 1, 1020])]),
    (4, .bipush (-9), 2, [(.int (-9), 0, [])]),
    (6, .istore_n 2, 1, [(.null, 2, [])]),
    (7, .iconst 0, 1, [(.int 0, 0, [])]),
    (8, .istore_n 3, 1, [(.null, 3, [])])]),
  (9, (0, []), [(9, .iload_n 3, 1, [(.null, 3, [])]),
    (10, .bipush 60, 2, [(.int 60, 0, [])]),
    (12, .if_icmp .gt 32, 3, [(.null, 44, [0, 2])]),
    (15, .iload_n 2, 1, [(.null, 2, [])]),
    (16, .ifCond .ge 28, 3, [(.null, 44, [0, 2])]),
    (19, .aload_n 0, 1, [(.null, 0, [])]),
    (20, .iload_n 1, 1, [(.null, 1, [])]),
    (21, .invokevirtual 204, 3, [(.null, 178, [2, 1, 7, 2, 931])]),
    (24, .ifCond .eq 8, 3, [(.null, 32, [0, 1, 3])]),
    (27, .bipush (-9), 2, [(.int (-9), 0, [])]),
    (29, .goto 4, 3, [(.null, 33, [0, 1, 3])])]),
  (32, (33, [0, 1, 3]), [(32, .iload_n 3, 1, [(.null, 3, [])])]),
  (33, (0, []), [(33, .istore_n 2, 1, [(.null, 2, [])]),
    (34, .aload_n 0, 1, [(.null, 0, [])]),
    (35, .invokevirtual 231, 3, [(.null, 183, [1, 0, 7, 2, 922])]),
    (38, .iinc 3 1, 3, [(.int 1, 3, [])]),
    (41, .goto (-32), 3, [(.null, 9, [0, 1, 2, 3])])]),
  (44, (0, []), [(44, .aload_n 0, 1, [(.null, 0, [])]),
    (45, .invokevirtual 247, 3, [(.null, 165, [1, 0, 7, 1, 1023])]),
    (48, .iload_n 2, 1, [(.null, 2, [])]),
    (49, .ireturn, 1, [])])]
/-- WallsByTheHourModel.goneWhen (I)I -/
def kd_200 : List (Nat × ax_Bl) := [(0, (17, [0, 1, 2, 3, 4]), [(0, .aload_n 0, 1, [(.null, 0, [])]),
    (1, .invokevirtual 244, 3, [(.null, 164, [1, 0, 7, 1, 1020])]),
    (4, .aload_n 0, 1, [(.null, 0, [])]),
    (5, .getfield 22, 3, [(.null, 7, [4, 778])]),
    (8, .iload_n 1, 1, [(.null, 1, [])]),
    (9, .iaload, 1, []),
    (10, .istore_n 2, 1, [(.null, 2, [])]),
    (11, .bipush (-9), 2, [(.int (-9), 0, [])]),
    (13, .istore_n 3, 1, [(.null, 3, [])]),
    (14, .iconst 1, 1, [(.int 1, 0, [])]),
    (15, .istore 4, 2, [(.null, 4, [])])]),
  (17, (0, []), [(17, .iload 4, 2, [(.null, 4, [])]),
    (19, .bipush 60, 2, [(.int 60, 0, [])]),
    (21, .if_icmp .gt 35, 3, [(.null, 56, [0, 3])]),
    (24, .iload_n 3, 1, [(.null, 3, [])]),
    (25, .ifCond .ge 31, 3, [(.null, 56, [0, 3])]),
    (28, .aload_n 0, 1, [(.null, 0, [])]),
    (29, .invokevirtual 231, 3, [(.null, 183, [1, 0, 7, 2, 922])]),
    (32, .aload_n 0, 1, [(.null, 0, [])]),
    (33, .getfield 22, 3, [(.null, 7, [4, 778])]),
    (36, .iload_n 1, 1, [(.null, 1, [])]),
    (37, .iaload, 1, []),
    (38, .iload_n 2, 1, [(.null, 2, [])]),
    (39, .if_icmp .ne 8, 3, [(.null, 47, [0, 1, 2, 4])]),
    (42, .bipush (-9), 2, [(.int (-9), 0, [])]),
    (44, .goto 5, 3, [(.null, 49, [0, 1, 2, 4])])]),
  (47, (49, [0, 1, 2, 4]), [(47, .iload 4, 2, [(.null, 4, [])])]),
  (49, (0, []), [(49, .istore_n 3, 1, [(.null, 3, [])]),
    (50, .iinc 4 1, 3, [(.int 1, 4, [])]),
    (53, .goto (-36), 3, [(.null, 17, [0, 1, 2, 3, 4])])]),
  (56, (0, []), [(56, .aload_n 0, 1, [(.null, 0, [])]),
    (57, .invokevirtual 247, 3, [(.null, 165, [1, 0, 7, 1, 1023])]),
    (60, .iload_n 3, 1, [(.null, 3, [])]),
    (61, .ireturn, 1, [])])]
/-- WallsByTheHourModel.goes (II)I -/
def kd_201 : List (Nat × ax_Bl) := [(0, (0, []), [(0, .aload_n 0, 1, [(.null, 0, [])]),
    (1, .iload_n 1, 1, [(.null, 1, [])]),
    (2, .invokevirtual 119, 3, [(.null, 143, [2, 1, 7, 2, 904])]),
    (5, .ifCond .ne 7, 3, [(.null, 12, [0, 1, 2])]),
    (8, .iconst (-1), 1, [(.int (-1), 0, [])]),
    (9, .goto 18, 3, [(.null, 27, [0, 1, 2])])]),
  (12, (0, []), [(12, .iload_n 2, 1, [(.null, 2, [])]),
    (13, .iconst 0, 1, [(.int 0, 0, [])]),
    (14, .iconst 1, 1, [(.int 1, 0, [])]),
    (15, .invokestatic 71, 3, [(.null, 138, [3, 1, 99, 3, 880])]),
    (18, .ifCond .ne 8, 3, [(.null, 26, [0, 1, 2])]),
    (21, .bipush (-2), 2, [(.int (-2), 0, [])]),
    (23, .goto 4, 3, [(.null, 27, [0, 1, 2])])]),
  (26, (27, [0, 1, 2]), [(26, .iconst 0, 1, [(.int 0, 0, [])])]),
  (27, (0, []), [(27, .istore_n 3, 1, [(.null, 3, [])]),
    (28, .iload_n 3, 1, [(.null, 3, [])]),
    (29, .ifCond .eq 9, 3, [(.null, 38, [0, 1, 2])]),
    (32, .aload_n 0, 1, [(.null, 0, [])]),
    (33, .iload_n 3, 1, [(.null, 3, [])]),
    (34, .invokevirtual 86, 3, [(.null, 136, [2, 1, 7, 2, 852])]),
    (37, .ireturn, 1, [])]),
  (38, (0, []), [(38, .iload_n 2, 1, [(.null, 2, [])]),
    (39, .ifCond .ne 11, 3, [(.null, 50, [0, 1])]),
    (42, .aload_n 0, 1, [(.null, 0, [])]),
    (43, .iload_n 1, 1, [(.null, 1, [])]),
    (44, .invokevirtual 256, 3, [(.null, 199, [2, 1, 7, 4, 1044])]),
    (47, .goto 8, 3, [(.null, 55, [])])]),
  (50, (55, []), [(50, .aload_n 0, 1, [(.null, 0, [])]),
    (51, .iload_n 1, 1, [(.null, 1, [])]),
    (52, .invokevirtual 259, 3, [(.null, 200, [2, 1, 7, 5, 1047])])]),
  (55, (0, []), [(55, .ireturn, 1, [])])]
/-- WallsByTheHourModel.shown (I)I -/
def kd_202 : List (Nat × ax_Bl) := [(0, (0, []), [(0, .iload_n 1, 1, [(.null, 1, [])]),
    (1, .invokestatic 75, 3, [(.null, 144, [1, 1, 99, 1, 898])]),
    (4, .ifCond .ne 9, 3, [(.null, 13, [0, 1])]),
    (7, .aload_n 0, 1, [(.null, 0, [])]),
    (8, .iconst (-1), 1, [(.int (-1), 0, [])]),
    (9, .invokevirtual 86, 3, [(.null, 136, [2, 1, 7, 2, 852])]),
    (12, .ireturn, 1, [])]),
  (13, (22, [0, 1, 2, 3]), [(13, .aload_n 0, 1, [(.null, 0, [])]),
    (14, .invokevirtual 244, 3, [(.null, 164, [1, 0, 7, 1, 1020])]),
    (17, .bipush (-9), 2, [(.int (-9), 0, [])]),
    (19, .istore_n 2, 1, [(.null, 2, [])]),
    (20, .iconst 0, 1, [(.int 0, 0, [])]),
    (21, .istore_n 3, 1, [(.null, 3, [])])]),
  (22, (0, []), [(22, .iload_n 3, 1, [(.null, 3, [])]),
    (23, .bipush 60, 2, [(.int 60, 0, [])]),
    (25, .if_icmp .gt 32, 3, [(.null, 57, [0, 2])]),
    (28, .iload_n 2, 1, [(.null, 2, [])]),
    (29, .ifCond .ge 28, 3, [(.null, 57, [0, 2])]),
    (32, .aload_n 0, 1, [(.null, 0, [])]),
    (33, .iload_n 1, 1, [(.null, 1, [])]),
    (34, .invokevirtual 201, 3, [(.null, 174, [2, 1, 7, 2, 934])]),
    (37, .ifCond .le 7, 3, [(.null, 44, [0, 1, 3])]),
    (40, .iload_n 3, 1, [(.null, 3, [])]),
    (41, .goto 5, 3, [(.null, 46, [0, 1, 3])])]),
  (44, (46, [0, 1, 3]), [(44, .bipush (-9), 2, [(.int (-9), 0, [])])]),
  (46, (0, []), [(46, .istore_n 2, 1, [(.null, 2, [])]),
    (47, .aload_n 0, 1, [(.null, 0, [])]),
    (48, .invokevirtual 231, 3, [(.null, 183, [1, 0, 7, 2, 922])]),
    (51, .iinc 3 1, 3, [(.int 1, 3, [])]),
    (54, .goto (-32), 3, [(.null, 22, [0, 1, 2, 3])])]),
  (57, (0, []), [(57, .aload_n 0, 1, [(.null, 0, [])]),
    (58, .invokevirtual 247, 3, [(.null, 165, [1, 0, 7, 1, 1023])]),
    (61, .iload_n 2, 1, [(.null, 2, [])]),
    (62, .ireturn, 1, [])])]
/-- WallsByTheHourModel.asked ()I -/
def kd_203 : List (Nat × ax_Bl) := [(0, (9, [0, 1, 2]), [(0, .aload_n 0, 1, [(.null, 0, [])]),
    (1, .invokevirtual 244, 3, [(.null, 164, [1, 0, 7, 1, 1020])]),
    (4, .bipush (-9), 2, [(.int (-9), 0, [])]),
    (6, .istore_n 1, 1, [(.null, 1, [])]),
    (7, .iconst 0, 1, [(.int 0, 0, [])]),
    (8, .istore_n 2, 1, [(.null, 2, [])])]),
  (9, (0, []), [(9, .iload_n 2, 1, [(.null, 2, [])]),
    (10, .bipush 60, 2, [(.int 60, 0, [])]),
    (12, .if_icmp .gt 45, 3, [(.null, 57, [0, 1])]),
    (15, .iload_n 1, 1, [(.null, 1, [])]),
    (16, .ifCond .ge 41, 3, [(.null, 57, [0, 1])]),
    (19, .aload_n 0, 1, [(.null, 0, [])]),
    (20, .getfield 65, 3, [(.null, 7, [8, 782])]),
    (23, .ifCond .le 34, 3, [(.null, 57, [0, 1])]),
    (26, .aload_n 0, 1, [(.null, 0, [])]),
    (27, .invokevirtual 262, 3, [(.null, 179, [1, 1, 7, 3, 1058])]),
    (30, .invokestatic 265, 3, [(.null, 141, [1, 1, 99, 3, 1061])]),
    (33, .aload_n 0, 1, [(.null, 0, [])]),
    (34, .getfield 65, 3, [(.null, 7, [8, 782])]),
    (37, .if_icmp .ne 7, 3, [(.null, 44, [0, 2])]),
    (40, .iload_n 2, 1, [(.null, 2, [])]),
    (41, .goto 5, 3, [(.null, 46, [0, 2])])]),
  (44, (46, [0, 2]), [(44, .bipush (-9), 2, [(.int (-9), 0, [])])]),
  (46, (0, []), [(46, .istore_n 1, 1, [(.null, 1, [])]),
    (47, .aload_n 0, 1, [(.null, 0, [])]),
    (48, .invokevirtual 231, 3, [(.null, 183, [1, 0, 7, 2, 922])]),
    (51, .iinc 2 1, 3, [(.int 1, 2, [])]),
    (54, .goto (-45), 3, [(.null, 9, [0, 1, 2])])]),
  (57, (0, []), [(57, .aload_n 0, 1, [(.null, 0, [])]),
    (58, .invokevirtual 247, 3, [(.null, 165, [1, 0, 7, 1, 1023])]),
    (61, .iload_n 1, 1, [(.null, 1, [])]),
    (62, .ireturn, 1, [])])]
/-- WallsByTheHourModel.coughs (III)I -/
def kd_204 : List (Nat × ax_Bl) := [(0, (0, []), [(0, .iload_n 1, 1, [(.null, 1, [])]),
    (1, .iload_n 2, 1, [(.null, 2, [])]),
    (2, .invokestatic 122, 3, [(.null, 145, [2, 1, 99, 2, 913])]),
    (5, .ifCond .ne 7, 3, [(.null, 12, [0, 1, 2, 3])]),
    (8, .iconst (-1), 1, [(.int (-1), 0, [])]),
    (9, .goto 7, 3, [(.null, 16, [0, 1, 2, 3])])]),
  (12, (16, [0, 1, 2, 3]), [(12, .iload_n 3, 1, [(.null, 3, [])]),
    (13, .invokestatic 241, 3, [(.null, 193, [1, 1, 99, 1, 1017])])]),
  (16, (0, []), [(16, .istore 4, 2, [(.null, 4, [])]),
    (18, .iload 4, 2, [(.null, 4, [])]),
    (20, .ifCond .eq 10, 3, [(.null, 30, [0, 1, 2, 3])]),
    (23, .aload_n 0, 1, [(.null, 0, [])]),
    (24, .iload 4, 2, [(.null, 4, [])]),
    (26, .invokevirtual 86, 3, [(.null, 136, [2, 1, 7, 2, 852])]),
    (29, .ireturn, 1, [])]),
  (30, (0, []), [(30, .aload_n 0, 1, [(.null, 0, [])]),
    (31, .invokevirtual 244, 3, [(.null, 164, [1, 0, 7, 1, 1020])]),
    (34, .aload_n 0, 1, [(.null, 0, [])]),
    (35, .iload_n 1, 1, [(.null, 1, [])]),
    (36, .putfield 219, 3, [(.null, 7, [24, 798])]),
    (39, .aload_n 0, 1, [(.null, 0, [])]),
    (40, .iload_n 2, 1, [(.null, 2, [])]),
    (41, .putfield 222, 3, [(.null, 7, [25, 799])]),
    (44, .aload_n 0, 1, [(.null, 0, [])]),
    (45, .iconst 0, 1, [(.int 0, 0, [])]),
    (46, .putfield 216, 3, [(.null, 7, [26, 800])]),
    (49, .aload_n 0, 1, [(.null, 0, [])]),
    (50, .iload_n 3, 1, [(.null, 3, [])]),
    (51, .invokevirtual 129, 3, [(.null, 184, [2, 0, 7, 3, 919])]),
    (54, .aload_n 0, 1, [(.null, 0, [])]),
    (55, .invokevirtual 247, 3, [(.null, 165, [1, 0, 7, 1, 1023])]),
    (58, .aload_n 0, 1, [(.null, 0, [])]),
    (59, .getfield 216, 3, [(.null, 7, [26, 800])]),
    (62, .ireturn, 1, [])])]
/-- WallsByTheHourModel.lend (I)I -/
def kd_205 : List (Nat × ax_Bl) := [(0, (0, []), [(0, .iload_n 1, 1, [(.null, 1, [])]),
    (1, .iconst 0, 1, [(.int 0, 0, [])]),
    (2, .bipush 12, 2, [(.int 12, 0, [])]),
    (4, .invokestatic 79, 3, [(.null, 139, [3, 1, 99, 3, 849])]),
    (7, .istore_n 2, 1, [(.null, 2, [])]),
    (8, .iload_n 2, 1, [(.null, 2, [])]),
    (9, .ifCond .eq 9, 3, [(.null, 18, [0, 1])]),
    (12, .aload_n 0, 1, [(.null, 0, [])]),
    (13, .iload_n 2, 1, [(.null, 2, [])]),
    (14, .invokevirtual 86, 3, [(.null, 136, [2, 1, 7, 2, 852])]),
    (17, .ireturn, 1, [])]),
  (18, (31, [0, 1, 3, 4, 5]), [(18, .bipush (-9), 2, [(.int (-9), 0, [])]),
    (20, .istore_n 3, 1, [(.null, 3, [])]),
    (21, .aload_n 0, 1, [(.null, 0, [])]),
    (22, .iload_n 1, 1, [(.null, 1, [])]),
    (23, .invokevirtual 253, 3, [(.null, 197, [2, 1, 7, 3, 1037])]),
    (26, .istore 4, 2, [(.null, 4, [])]),
    (28, .iconst 0, 1, [(.int 0, 0, [])]),
    (29, .istore 5, 2, [(.null, 5, [])])]),
  (31, (0, []), [(31, .iload 5, 2, [(.null, 5, [])]),
    (33, .bipush 8, 2, [(.int 8, 0, [])]),
    (35, .aload_n 0, 1, [(.null, 0, [])]),
    (36, .getfield 65, 3, [(.null, 7, [8, 782])]),
    (39, .imul, 1, []),
    (40, .if_icmp .ge 84, 3, [(.null, 124, [3])]),
    (43, .aload_n 0, 1, [(.null, 0, [])]),
    (44, .getfield 22, 3, [(.null, 7, [4, 778])]),
    (47, .iload 5, 2, [(.null, 5, [])]),
    (49, .bipush 8, 2, [(.int 8, 0, [])]),
    (51, .idiv, 1, []),
    (52, .iaload, 1, []),
    (53, .istore 6, 2, [(.null, 6, [])]),
    (55, .aload_n 0, 1, [(.null, 0, [])]),
    (56, .getfield 22, 3, [(.null, 7, [4, 778])]),
    (59, .iload 5, 2, [(.null, 5, [])]),
    (61, .bipush 8, 2, [(.int 8, 0, [])]),
    (63, .idiv, 1, []),
    (64, .iload 5, 2, [(.null, 5, [])]),
    (66, .bipush 8, 2, [(.int 8, 0, [])]),
    (68, .irem, 1, []),
    (69, .iastore, 1, []),
    (70, .aload_n 0, 1, [(.null, 0, [])]),
    (71, .iload_n 1, 1, [(.null, 1, [])]),
    (72, .invokevirtual 253, 3, [(.null, 197, [2, 1, 7, 3, 1037])]),
    (75, .istore 7, 2, [(.null, 7, [])]),
    (77, .aload_n 0, 1, [(.null, 0, [])]),
    (78, .getfield 22, 3, [(.null, 7, [4, 778])]),
    (81, .iload 5, 2, [(.null, 5, [])]),
    (83, .bipush 8, 2, [(.int 8, 0, [])]),
    (85, .idiv, 1, []),
    (86, .iload 6, 2, [(.null, 6, [])]),
    (88, .iastore, 1, []),
    (89, .iload 7, 2, [(.null, 7, [])]),
    (91, .iload 4, 2, [(.null, 4, [])]),
    (93, .if_icmp .lt 6, 3, [(.null, 99, [0, 1, 5, 7])]),
    (96, .goto 22, 3, [(.null, 118, [0, 1, 3, 4, 5])])]),
  (99, (118, [0, 1, 3, 4, 5]), [(99, .bipush 10, 2, [(.int 10, 0, [])]),
    (101, .iload 5, 2, [(.null, 5, [])]),
    (103, .bipush 8, 2, [(.int 8, 0, [])]),
    (105, .idiv, 1, []),
    (106, .imul, 1, []),
    (107, .iload 5, 2, [(.null, 5, [])]),
    (109, .bipush 8, 2, [(.int 8, 0, [])]),
    (111, .irem, 1, []),
    (112, .iadd, 1, []),
    (113, .istore_n 3, 1, [(.null, 3, [])]),
    (114, .iload 7, 2, [(.null, 7, [])]),
    (116, .istore 4, 2, [(.null, 4, [])])]),
  (118, (0, []), [(118, .iinc 5 1, 3, [(.int 1, 5, [])]),
    (121, .goto (-90), 3, [(.null, 31, [0, 1, 3, 4, 5])])]),
  (124, (0, []), [(124, .iload_n 3, 1, [(.null, 3, [])]),
    (125, .ireturn, 1, [])])]
/-- WallsByTheHourModel.coversAll (I)I -/
def kd_206 : List (Nat × ax_Bl) := [(0, (4, [0, 1, 2, 3]), [(0, .iconst 0, 1, [(.int 0, 0, [])]),
    (1, .istore_n 2, 1, [(.null, 2, [])]),
    (2, .iconst 0, 1, [(.int 0, 0, [])]),
    (3, .istore_n 3, 1, [(.null, 3, [])])]),
  (4, (0, []), [(4, .iload_n 3, 1, [(.null, 3, [])]),
    (5, .aload_n 0, 1, [(.null, 0, [])]),
    (6, .getfield 65, 3, [(.null, 7, [8, 782])]),
    (9, .if_icmp .ge 29, 3, [(.null, 38, [2])]),
    (12, .iload_n 2, 1, [(.null, 2, [])]),
    (13, .iload_n 1, 1, [(.null, 1, [])]),
    (14, .iload_n 3, 1, [(.null, 3, [])]),
    (15, .invokestatic 186, 3, [(.null, 140, [2, 1, 99, 2, 958])]),
    (18, .ifCond .eq 11, 3, [(.null, 29, [0, 1, 3])]),
    (21, .aload_n 0, 1, [(.null, 0, [])]),
    (22, .iload_n 3, 1, [(.null, 3, [])]),
    (23, .invokevirtual 189, 3, [(.null, 169, [2, 1, 7, 2, 940])]),
    (26, .goto 4, 3, [(.null, 30, [0, 1, 3])])]),
  (29, (30, [0, 1, 3]), [(29, .iconst 0, 1, [(.int 0, 0, [])])]),
  (30, (0, []), [(30, .iadd, 1, []),
    (31, .istore_n 2, 1, [(.null, 2, [])]),
    (32, .iinc 3 1, 3, [(.int 1, 3, [])]),
    (35, .goto (-31), 3, [(.null, 4, [0, 1, 2, 3])])]),
  (38, (0, []), [(38, .iload_n 2, 1, [(.null, 2, [])]),
    (39, .ireturn, 1, [])])]
/-- WallsByTheHourModel.stepsTo (II)I -/
def kd_207 : List (Nat × ax_Bl) := [(0, (5, [0, 1, 2, 3, 4]), [(0, .iconst 0, 1, [(.int 0, 0, [])]),
    (1, .istore_n 3, 1, [(.null, 3, [])]),
    (2, .iconst 0, 1, [(.int 0, 0, [])]),
    (3, .istore 4, 2, [(.null, 4, [])])]),
  (5, (0, []), [(5, .iload 4, 2, [(.null, 4, [])]),
    (7, .aload_n 0, 1, [(.null, 0, [])]),
    (8, .getfield 65, 3, [(.null, 7, [8, 782])]),
    (11, .if_icmp .ge 36, 3, [(.null, 47, [3])]),
    (14, .iload_n 3, 1, [(.null, 3, [])]),
    (15, .iload_n 1, 1, [(.null, 1, [])]),
    (16, .iload 4, 2, [(.null, 4, [])]),
    (18, .invokestatic 186, 3, [(.null, 140, [2, 1, 99, 2, 958])]),
    (21, .ifCond .eq 17, 3, [(.null, 38, [0, 1, 2, 4])]),
    (24, .aload_n 0, 1, [(.null, 0, [])]),
    (25, .getfield 22, 3, [(.null, 7, [4, 778])]),
    (28, .iload 4, 2, [(.null, 4, [])]),
    (30, .iaload, 1, []),
    (31, .iload_n 2, 1, [(.null, 2, [])]),
    (32, .invokestatic 180, 3, [(.null, 142, [2, 1, 99, 2, 952])]),
    (35, .goto 4, 3, [(.null, 39, [0, 1, 2, 4])])]),
  (38, (39, [0, 1, 2, 4]), [(38, .iconst 0, 1, [(.int 0, 0, [])])]),
  (39, (0, []), [(39, .iadd, 1, []),
    (40, .istore_n 3, 1, [(.null, 3, [])]),
    (41, .iinc 4 1, 3, [(.int 1, 4, [])]),
    (44, .goto (-39), 3, [(.null, 5, [0, 1, 2, 3, 4])])]),
  (47, (0, []), [(47, .iload_n 3, 1, [(.null, 3, [])]),
    (48, .ireturn, 1, [])])]
/-- WallsByTheHourModel.close (II)I -/
def kd_208 : List (Nat × ax_Bl) := [(0, (0, []), [(0, .iload_n 1, 1, [(.null, 1, [])]),
    (1, .invokestatic 75, 3, [(.null, 144, [1, 1, 99, 1, 898])]),
    (4, .ifCond .ne 7, 3, [(.null, 11, [0, 1, 2])]),
    (7, .iconst (-1), 1, [(.int (-1), 0, [])]),
    (8, .goto 18, 3, [(.null, 26, [0, 1, 2])])]),
  (11, (0, []), [(11, .iload_n 2, 1, [(.null, 2, [])]),
    (12, .iconst 0, 1, [(.int 0, 0, [])]),
    (13, .iconst 1, 1, [(.int 1, 0, [])]),
    (14, .invokestatic 71, 3, [(.null, 138, [3, 1, 99, 3, 880])]),
    (17, .ifCond .ne 8, 3, [(.null, 25, [0, 1, 2])]),
    (20, .bipush (-2), 2, [(.int (-2), 0, [])]),
    (22, .goto 4, 3, [(.null, 26, [0, 1, 2])])]),
  (25, (26, [0, 1, 2]), [(25, .iconst 0, 1, [(.int 0, 0, [])])]),
  (26, (0, []), [(26, .istore_n 3, 1, [(.null, 3, [])]),
    (27, .iload_n 3, 1, [(.null, 3, [])]),
    (28, .ifCond .eq 9, 3, [(.null, 37, [0, 1, 2])]),
    (31, .aload_n 0, 1, [(.null, 0, [])]),
    (32, .iload_n 3, 1, [(.null, 3, [])]),
    (33, .invokevirtual 86, 3, [(.null, 136, [2, 1, 7, 2, 852])]),
    (36, .ireturn, 1, [])]),
  (37, (59, [0, 1, 2, 4, 5, 6, 7]), [(37, .aload_n 0, 1, [(.null, 0, [])]),
    (38, .aload_n 0, 1, [(.null, 0, [])]),
    (39, .getfield 22, 3, [(.null, 7, [4, 778])]),
    (42, .iload_n 1, 1, [(.null, 1, [])]),
    (43, .invokevirtual 234, 3, [(.null, 180, [3, 1, 7, 5, 983])]),
    (46, .istore 4, 2, [(.null, 4, [])]),
    (48, .bipush (-9), 2, [(.int (-9), 0, [])]),
    (50, .istore 5, 2, [(.null, 5, [])]),
    (52, .bipush (-9), 2, [(.int (-9), 0, [])]),
    (54, .istore 6, 2, [(.null, 6, [])]),
    (56, .iconst 0, 1, [(.int 0, 0, [])]),
    (57, .istore 7, 2, [(.null, 7, [])])]),
  (59, (0, []), [(59, .iload 7, 2, [(.null, 7, [])]),
    (61, .iconst 1, 1, [(.int 1, 0, [])]),
    (62, .aload_n 0, 1, [(.null, 0, [])]),
    (63, .getfield 65, 3, [(.null, 7, [8, 782])]),
    (66, .ishl, 1, []),
    (67, .if_icmp .ge 69, 3, [(.null, 136, [2, 5, 6])]),
    (70, .iload 7, 2, [(.null, 7, [])]),
    (72, .iload 4, 2, [(.null, 4, [])]),
    (74, .iand, 1, []),
    (75, .ifCond .ne 55, 3, [(.null, 130, [0, 1, 2, 4, 5, 6, 7])]),
    (78, .aload_n 0, 1, [(.null, 0, [])]),
    (79, .iload_n 1, 1, [(.null, 1, [])]),
    (80, .aload_n 0, 1, [(.null, 0, [])]),
    (81, .iload 7, 2, [(.null, 7, [])]),
    (83, .iload 4, 2, [(.null, 4, [])]),
    (85, .ior, 1, []),
    (86, .invokevirtual 268, 3, [(.null, 206, [2, 1, 7, 4, 1076])]),
    (89, .invokevirtual 198, 3, [(.null, 173, [3, 1, 7, 4, 946])]),
    (92, .ifCond .le 6, 3, [(.null, 98, [0, 1, 2, 4, 5, 6, 7])]),
    (95, .goto 35, 3, [(.null, 130, [0, 1, 2, 4, 5, 6, 7])])]),
  (98, (0, []), [(98, .aload_n 0, 1, [(.null, 0, [])]),
    (99, .iload 7, 2, [(.null, 7, [])]),
    (101, .iload_n 1, 1, [(.null, 1, [])]),
    (102, .invokevirtual 271, 3, [(.null, 207, [3, 1, 7, 5, 1079])]),
    (105, .istore 8, 2, [(.null, 8, [])]),
    (107, .iload 5, 2, [(.null, 5, [])]),
    (109, .ifCond .lt 13, 3, [(.null, 122, [0, 1, 2, 4, 7, 8])]),
    (112, .iload 8, 2, [(.null, 8, [])]),
    (114, .iload 6, 2, [(.null, 6, [])]),
    (116, .if_icmp .lt 6, 3, [(.null, 122, [0, 1, 2, 4, 7, 8])]),
    (119, .goto 11, 3, [(.null, 130, [0, 1, 2, 4, 5, 6, 7])])]),
  (122, (130, [0, 1, 2, 4, 5, 6, 7]), [(122, .iload 7, 2, [(.null, 7, [])]),
    (124, .istore 5, 2, [(.null, 5, [])]),
    (126, .iload 8, 2, [(.null, 8, [])]),
    (128, .istore 6, 2, [(.null, 6, [])])]),
  (130, (0, []), [(130, .iinc 7 1, 3, [(.int 1, 7, [])]),
    (133, .goto (-74), 3, [(.null, 59, [0, 1, 2, 4, 5, 6, 7])])]),
  (136, (0, []), [(136, .iload_n 2, 1, [(.null, 2, [])]),
    (137, .ifCond .ne 8, 3, [(.null, 145, [6])]),
    (140, .iload 5, 2, [(.null, 5, [])]),
    (142, .goto 5, 3, [(.null, 147, [])])]),
  (145, (147, []), [(145, .iload 6, 2, [(.null, 6, [])])]),
  (147, (0, []), [(147, .ireturn, 1, [])])]
/-- WallsByTheHourModel.isSplit (III)Z -/
def kd_209 : List (Nat × ax_Bl) := [(0, (16, [0, 1, 2, 4, 5]), [(0, .iload_n 3, 1, [(.null, 3, [])]),
    (1, .istore 4, 2, [(.null, 4, [])]),
    (3, .aload_n 0, 1, [(.null, 0, [])]),
    (4, .iconst 0, 1, [(.int 0, 0, [])]),
    (5, .putfield 274, 3, [(.null, 7, [28, 801])]),
    (8, .aload_n 0, 1, [(.null, 0, [])]),
    (9, .iconst 0, 1, [(.int 0, 0, [])]),
    (10, .putfield 277, 3, [(.null, 7, [29, 802])]),
    (13, .iconst 0, 1, [(.int 0, 0, [])]),
    (14, .istore 5, 2, [(.null, 5, [])])]),
  (16, (0, []), [(16, .iload 5, 2, [(.null, 5, [])]),
    (18, .aload_n 0, 1, [(.null, 0, [])]),
    (19, .getfield 65, 3, [(.null, 7, [8, 782])]),
    (22, .if_icmp .ge 65, 3, [(.null, 87, [0, 1, 2])]),
    (25, .aload_n 0, 1, [(.null, 0, [])]),
    (26, .dup, 1, []),
    (27, .getfield 274, 3, [(.null, 7, [28, 801])]),
    (30, .iload 4, 2, [(.null, 4, [])]),
    (32, .iconst 3, 1, [(.int 3, 0, [])]),
    (33, .irem, 1, []),
    (34, .iconst 1, 1, [(.int 1, 0, [])]),
    (35, .if_icmp .ne 10, 3, [(.null, 45, [0, 1, 2, 4, 5])]),
    (38, .iconst 1, 1, [(.int 1, 0, [])]),
    (39, .iload 5, 2, [(.null, 5, [])]),
    (41, .ishl, 1, []),
    (42, .goto 4, 3, [(.null, 46, [0, 1, 2, 4, 5])])]),
  (45, (46, [0, 1, 2, 4, 5]), [(45, .iconst 0, 1, [(.int 0, 0, [])])]),
  (46, (0, []), [(46, .ior, 1, []),
    (47, .putfield 274, 3, [(.null, 7, [28, 801])]),
    (50, .aload_n 0, 1, [(.null, 0, [])]),
    (51, .dup, 1, []),
    (52, .getfield 277, 3, [(.null, 7, [29, 802])]),
    (55, .iload 4, 2, [(.null, 4, [])]),
    (57, .iconst 3, 1, [(.int 3, 0, [])]),
    (58, .irem, 1, []),
    (59, .iconst 2, 1, [(.int 2, 0, [])]),
    (60, .if_icmp .ne 10, 3, [(.null, 70, [0, 1, 2, 4, 5])]),
    (63, .iconst 1, 1, [(.int 1, 0, [])]),
    (64, .iload 5, 2, [(.null, 5, [])]),
    (66, .ishl, 1, []),
    (67, .goto 4, 3, [(.null, 71, [0, 1, 2, 4, 5])])]),
  (70, (71, [0, 1, 2, 4, 5]), [(70, .iconst 0, 1, [(.int 0, 0, [])])]),
  (71, (0, []), [(71, .ior, 1, []),
    (72, .putfield 277, 3, [(.null, 7, [29, 802])]),
    (75, .iload 4, 2, [(.null, 4, [])]),
    (77, .iconst 3, 1, [(.int 3, 0, [])]),
    (78, .idiv, 1, []),
    (79, .istore 4, 2, [(.null, 4, [])]),
    (81, .iinc 5 1, 3, [(.int 1, 5, [])]),
    (84, .goto (-68), 3, [(.null, 16, [0, 1, 2, 4, 5])])]),
  (87, (0, []), [(87, .aload_n 0, 1, [(.null, 0, [])]),
    (88, .aload_n 0, 1, [(.null, 0, [])]),
    (89, .getfield 22, 3, [(.null, 7, [4, 778])]),
    (92, .iload_n 1, 1, [(.null, 1, [])]),
    (93, .invokevirtual 234, 3, [(.null, 180, [3, 1, 7, 5, 983])]),
    (96, .aload_n 0, 1, [(.null, 0, [])]),
    (97, .getfield 277, 3, [(.null, 7, [29, 802])]),
    (100, .iconst (-1), 1, [(.int (-1), 0, [])]),
    (101, .ixor, 1, []),
    (102, .iand, 1, []),
    (103, .aload_n 0, 1, [(.null, 0, [])]),
    (104, .getfield 274, 3, [(.null, 7, [28, 801])]),
    (107, .ior, 1, []),
    (108, .istore 5, 2, [(.null, 5, [])]),
    (110, .aload_n 0, 1, [(.null, 0, [])]),
    (111, .aload_n 0, 1, [(.null, 0, [])]),
    (112, .getfield 22, 3, [(.null, 7, [4, 778])]),
    (115, .iload_n 2, 1, [(.null, 2, [])]),
    (116, .invokevirtual 234, 3, [(.null, 180, [3, 1, 7, 5, 983])]),
    (119, .aload_n 0, 1, [(.null, 0, [])]),
    (120, .getfield 274, 3, [(.null, 7, [28, 801])]),
    (123, .iconst (-1), 1, [(.int (-1), 0, [])]),
    (124, .ixor, 1, []),
    (125, .iand, 1, []),
    (126, .aload_n 0, 1, [(.null, 0, [])]),
    (127, .getfield 277, 3, [(.null, 7, [29, 802])]),
    (130, .ior, 1, []),
    (131, .istore 6, 2, [(.null, 6, [])]),
    (133, .aload_n 0, 1, [(.null, 0, [])]),
    (134, .iload_n 1, 1, [(.null, 1, [])]),
    (135, .aload_n 0, 1, [(.null, 0, [])]),
    (136, .iload 5, 2, [(.null, 5, [])]),
    (138, .invokevirtual 268, 3, [(.null, 206, [2, 1, 7, 4, 1076])]),
    (141, .invokevirtual 198, 3, [(.null, 173, [3, 1, 7, 4, 946])]),
    (144, .ifCond .ne 21, 3, [(.null, 165, [])]),
    (147, .aload_n 0, 1, [(.null, 0, [])]),
    (148, .iload_n 2, 1, [(.null, 2, [])]),
    (149, .aload_n 0, 1, [(.null, 0, [])]),
    (150, .iload 6, 2, [(.null, 6, [])]),
    (152, .invokevirtual 268, 3, [(.null, 206, [2, 1, 7, 4, 1076])]),
    (155, .invokevirtual 198, 3, [(.null, 173, [3, 1, 7, 4, 946])]),
    (158, .ifCond .ne 7, 3, [(.null, 165, [])]),
    (161, .iconst 1, 1, [(.int 1, 0, [])]),
    (162, .goto 4, 3, [(.null, 166, [])])]),
  (165, (166, []), [(165, .iconst 0, 1, [(.int 0, 0, [])])]),
  (166, (0, []), [(166, .ireturn, 1, [])])]
/-- WallsByTheHourModel.threes (I)I -/
def kd_210 : List (Nat × ax_Bl) := [(0, (4, [0, 1, 2]), [(0, .iconst 1, 1, [(.int 1, 0, [])]),
    (1, .istore_n 1, 1, [(.null, 1, [])]),
    (2, .iconst 0, 1, [(.int 0, 0, [])]),
    (3, .istore_n 2, 1, [(.null, 2, [])])]),
  (4, (0, []), [(4, .iload_n 2, 1, [(.null, 2, [])]),
    (5, .iload_n 0, 1, [(.null, 0, [])]),
    (6, .if_icmp .ge 13, 3, [(.null, 19, [1])]),
    (9, .iload_n 1, 1, [(.null, 1, [])]),
    (10, .iconst 3, 1, [(.int 3, 0, [])]),
    (11, .imul, 1, []),
    (12, .istore_n 1, 1, [(.null, 1, [])]),
    (13, .iinc 2 1, 3, [(.int 1, 2, [])]),
    (16, .goto (-12), 3, [(.null, 4, [0, 1, 2])])]),
  (19, (0, []), [(19, .iload_n 1, 1, [(.null, 1, [])]),
    (20, .ireturn, 1, [])])]
/-- WallsByTheHourModel.split (III)I -/
def kd_211 : List (Nat × ax_Bl) := [(0, (0, []), [(0, .iload_n 1, 1, [(.null, 1, [])]),
    (1, .iload_n 2, 1, [(.null, 2, [])]),
    (2, .invokestatic 122, 3, [(.null, 145, [2, 1, 99, 2, 913])]),
    (5, .ifCond .ne 7, 3, [(.null, 12, [0, 1, 2, 3])]),
    (8, .iconst (-1), 1, [(.int (-1), 0, [])]),
    (9, .goto 18, 3, [(.null, 27, [0, 1, 2, 3])])]),
  (12, (0, []), [(12, .iload_n 3, 1, [(.null, 3, [])]),
    (13, .iconst 0, 1, [(.int 0, 0, [])]),
    (14, .iconst 2, 1, [(.int 2, 0, [])]),
    (15, .invokestatic 71, 3, [(.null, 138, [3, 1, 99, 3, 880])]),
    (18, .ifCond .ne 8, 3, [(.null, 26, [0, 1, 2, 3])]),
    (21, .bipush (-2), 2, [(.int (-2), 0, [])]),
    (23, .goto 4, 3, [(.null, 27, [0, 1, 2, 3])])]),
  (26, (27, [0, 1, 2, 3]), [(26, .iconst 0, 1, [(.int 0, 0, [])])]),
  (27, (0, []), [(27, .istore 4, 2, [(.null, 4, [])]),
    (29, .iload 4, 2, [(.null, 4, [])]),
    (31, .ifCond .eq 10, 3, [(.null, 41, [0, 1, 2, 3])]),
    (34, .aload_n 0, 1, [(.null, 0, [])]),
    (35, .iload 4, 2, [(.null, 4, [])]),
    (37, .invokevirtual 86, 3, [(.null, 136, [2, 1, 7, 2, 852])]),
    (40, .ireturn, 1, [])]),
  (41, (56, [0, 1, 2, 3, 5, 6, 7, 8]), [(41, .bipush (-9), 2, [(.int (-9), 0, [])]),
    (43, .istore 5, 2, [(.null, 5, [])]),
    (45, .bipush (-9), 2, [(.int (-9), 0, [])]),
    (47, .istore 6, 2, [(.null, 6, [])]),
    (49, .bipush (-9), 2, [(.int (-9), 0, [])]),
    (51, .istore 7, 2, [(.null, 7, [])]),
    (53, .iconst 0, 1, [(.int 0, 0, [])]),
    (54, .istore 8, 2, [(.null, 8, [])])]),
  (56, (0, []), [(56, .iload 8, 2, [(.null, 8, [])]),
    (58, .aload_n 0, 1, [(.null, 0, [])]),
    (59, .getfield 65, 3, [(.null, 7, [8, 782])]),
    (62, .invokestatic 280, 3, [(.null, 210, [1, 1, 99, 3, 1086])]),
    (65, .if_icmp .ge 75, 3, [(.null, 140, [3, 5, 6, 7])]),
    (68, .aload_n 0, 1, [(.null, 0, [])]),
    (69, .iload_n 1, 1, [(.null, 1, [])]),
    (70, .iload_n 2, 1, [(.null, 2, [])]),
    (71, .iload 8, 2, [(.null, 8, [])]),
    (73, .invokevirtual 283, 3, [(.null, 209, [4, 1, 7, 7, 1089])]),
    (76, .ifCond .ne 6, 3, [(.null, 82, [0, 1, 2, 3, 5, 6, 7, 8])]),
    (79, .goto 55, 3, [(.null, 134, [0, 1, 2, 3, 5, 6, 7, 8])])]),
  (82, (0, []), [(82, .aload_n 0, 1, [(.null, 0, [])]),
    (83, .aload_n 0, 1, [(.null, 0, [])]),
    (84, .getfield 274, 3, [(.null, 7, [28, 801])]),
    (87, .iload_n 1, 1, [(.null, 1, [])]),
    (88, .invokevirtual 271, 3, [(.null, 207, [3, 1, 7, 5, 1079])]),
    (91, .aload_n 0, 1, [(.null, 0, [])]),
    (92, .aload_n 0, 1, [(.null, 0, [])]),
    (93, .getfield 277, 3, [(.null, 7, [29, 802])]),
    (96, .iload_n 2, 1, [(.null, 2, [])]),
    (97, .invokevirtual 271, 3, [(.null, 207, [3, 1, 7, 5, 1079])]),
    (100, .iadd, 1, []),
    (101, .istore 9, 2, [(.null, 9, [])]),
    (103, .iload 5, 2, [(.null, 5, [])]),
    (105, .ifCond .lt 13, 3, [(.null, 118, [0, 1, 2, 3, 8, 9])]),
    (108, .iload 9, 2, [(.null, 9, [])]),
    (110, .iload 5, 2, [(.null, 5, [])]),
    (112, .if_icmp .lt 6, 3, [(.null, 118, [0, 1, 2, 3, 8, 9])]),
    (115, .goto 19, 3, [(.null, 134, [0, 1, 2, 3, 5, 6, 7, 8])])]),
  (118, (134, [0, 1, 2, 3, 5, 6, 7, 8]), [(118, .iload 9, 2, [(.null, 9, [])]),
    (120, .istore 5, 2, [(.null, 5, [])]),
    (122, .aload_n 0, 1, [(.null, 0, [])]),
    (123, .getfield 274, 3, [(.null, 7, [28, 801])]),
    (126, .istore 6, 2, [(.null, 6, [])]),
    (128, .aload_n 0, 1, [(.null, 0, [])]),
    (129, .getfield 277, 3, [(.null, 7, [29, 802])]),
    (132, .istore 7, 2, [(.null, 7, [])])]),
  (134, (0, []), [(134, .iinc 8 1, 3, [(.int 1, 8, [])]),
    (137, .goto (-81), 3, [(.null, 56, [0, 1, 2, 3, 5, 6, 7, 8])])]),
  (140, (0, []), [(140, .iload_n 3, 1, [(.null, 3, [])]),
    (141, .ifCond .ne 8, 3, [(.null, 149, [3, 6, 7])]),
    (144, .iload 5, 2, [(.null, 5, [])]),
    (146, .goto 15, 3, [(.null, 161, [])])]),
  (149, (0, []), [(149, .iload_n 3, 1, [(.null, 3, [])]),
    (150, .iconst 1, 1, [(.int 1, 0, [])]),
    (151, .if_icmp .ne 8, 3, [(.null, 159, [7])]),
    (154, .iload 6, 2, [(.null, 6, [])]),
    (156, .goto 5, 3, [(.null, 161, [])])]),
  (159, (161, []), [(159, .iload 7, 2, [(.null, 7, [])])]),
  (161, (0, []), [(161, .ireturn, 1, [])])]
/-- WallsByTheHourModel.spare ()I -/
def kd_212 : List (Nat × ax_Bl) := [(0, (4, [0, 1, 2]), [(0, .iconst 0, 1, [(.int 0, 0, [])]),
    (1, .istore_n 1, 1, [(.null, 1, [])]),
    (2, .iconst 0, 1, [(.int 0, 0, [])]),
    (3, .istore_n 2, 1, [(.null, 2, [])])]),
  (4, (0, []), [(4, .iload_n 2, 1, [(.null, 2, [])]),
    (5, .aload_n 0, 1, [(.null, 0, [])]),
    (6, .getfield 65, 3, [(.null, 7, [8, 782])]),
    (9, .if_icmp .ge 37, 3, [(.null, 46, [1])]),
    (12, .iload_n 1, 1, [(.null, 1, [])]),
    (13, .aload_n 0, 1, [(.null, 0, [])]),
    (14, .iload_n 2, 1, [(.null, 2, [])]),
    (15, .invokevirtual 210, 3, [(.null, 175, [2, 1, 7, 2, 961])]),
    (18, .aload_n 0, 1, [(.null, 0, [])]),
    (19, .aload_n 0, 1, [(.null, 0, [])]),
    (20, .getfield 22, 3, [(.null, 7, [4, 778])]),
    (23, .iload_n 2, 1, [(.null, 2, [])]),
    (24, .iaload, 1, []),
    (25, .invokevirtual 201, 3, [(.null, 174, [2, 1, 7, 2, 934])]),
    (28, .if_icmp .gt 9, 3, [(.null, 37, [0, 2])]),
    (31, .iconst 1, 1, [(.int 1, 0, [])]),
    (32, .iload_n 2, 1, [(.null, 2, [])]),
    (33, .ishl, 1, []),
    (34, .goto 4, 3, [(.null, 38, [0, 2])])]),
  (37, (38, [0, 2]), [(37, .iconst 0, 1, [(.int 0, 0, [])])]),
  (38, (0, []), [(38, .ior, 1, []),
    (39, .istore_n 1, 1, [(.null, 1, [])]),
    (40, .iinc 2 1, 3, [(.int 1, 2, [])]),
    (43, .goto (-39), 3, [(.null, 4, [0, 1, 2])])]),
  (46, (0, []), [(46, .iload_n 1, 1, [(.null, 1, [])]),
    (47, .ireturn, 1, [])])]
/-- WallsByTheHourModel.gives (II)I -/
def kd_213 : List (Nat × ax_Bl) := [(0, (0, []), [(0, .aload_n 0, 1, [(.null, 0, [])]),
    (1, .iload_n 1, 1, [(.null, 1, [])]),
    (2, .invokevirtual 201, 3, [(.null, 174, [2, 1, 7, 2, 934])]),
    (5, .aload_n 0, 1, [(.null, 0, [])]),
    (6, .iload_n 2, 1, [(.null, 2, [])]),
    (7, .invokevirtual 189, 3, [(.null, 169, [2, 1, 7, 2, 940])]),
    (10, .if_icmp .ge 11, 3, [(.null, 21, [0, 1, 2])]),
    (13, .aload_n 0, 1, [(.null, 0, [])]),
    (14, .iload_n 1, 1, [(.null, 1, [])]),
    (15, .invokevirtual 201, 3, [(.null, 174, [2, 1, 7, 2, 934])]),
    (18, .goto 8, 3, [(.null, 26, [0, 1, 2])])]),
  (21, (26, [0, 1, 2]), [(21, .aload_n 0, 1, [(.null, 0, [])]),
    (22, .iload_n 2, 1, [(.null, 2, [])]),
    (23, .invokevirtual 189, 3, [(.null, 169, [2, 1, 7, 2, 940])])]),
  (26, (0, []), [(26, .istore_n 3, 1, [(.null, 3, [])]),
    (27, .iload_n 3, 1, [(.null, 3, [])]),
    (28, .iload_n 1, 1, [(.null, 1, [])]),
    (29, .aload_n 0, 1, [(.null, 0, [])]),
    (30, .getfield 22, 3, [(.null, 7, [4, 778])]),
    (33, .iload_n 2, 1, [(.null, 2, [])]),
    (34, .iaload, 1, []),
    (35, .invokestatic 180, 3, [(.null, 142, [2, 1, 99, 2, 952])]),
    (38, .isub, 1, []),
    (39, .istore_n 3, 1, [(.null, 3, [])]),
    (40, .iload_n 3, 1, [(.null, 3, [])]),
    (41, .ifCond .ge 7, 3, [(.null, 48, [3])]),
    (44, .iconst 0, 1, [(.int 0, 0, [])]),
    (45, .goto 4, 3, [(.null, 49, [])])]),
  (48, (49, []), [(48, .iload_n 3, 1, [(.null, 3, [])])]),
  (49, (0, []), [(49, .ireturn, 1, [])])]
/-- WallsByTheHourModel.buyerBut (II)I -/
def kd_214 : List (Nat × ax_Bl) := [(0, (6, [0, 1, 2, 3, 4]), [(0, .bipush (-9), 2, [(.int (-9), 0, [])]),
    (2, .istore_n 3, 1, [(.null, 3, [])]),
    (3, .iconst 0, 1, [(.int 0, 0, [])]),
    (4, .istore 4, 2, [(.null, 4, [])])]),
  (6, (0, []), [(6, .iload 4, 2, [(.null, 4, [])]),
    (8, .bipush 8, 2, [(.int 8, 0, [])]),
    (10, .if_icmp .ge 42, 3, [(.null, 52, [3])]),
    (13, .iload 4, 2, [(.null, 4, [])]),
    (15, .iload_n 2, 1, [(.null, 2, [])]),
    (16, .if_icmp .eq 30, 3, [(.null, 46, [0, 1, 2, 3, 4])]),
    (19, .aload_n 0, 1, [(.null, 0, [])]),
    (20, .iload 4, 2, [(.null, 4, [])]),
    (22, .iload_n 1, 1, [(.null, 1, [])]),
    (23, .invokevirtual 286, 3, [(.null, 213, [3, 1, 7, 4, 1103])]),
    (26, .iload_n 3, 1, [(.null, 3, [])]),
    (27, .ifCond .ge 7, 3, [(.null, 34, [0, 1, 2, 3, 4])]),
    (30, .iconst 0, 1, [(.int 0, 0, [])]),
    (31, .goto 9, 3, [(.null, 40, [0, 1, 2, 3, 4])])]),
  (34, (40, [0, 1, 2, 3, 4]), [(34, .aload_n 0, 1, [(.null, 0, [])]),
    (35, .iload_n 3, 1, [(.null, 3, [])]),
    (36, .iload_n 1, 1, [(.null, 1, [])]),
    (37, .invokevirtual 286, 3, [(.null, 213, [3, 1, 7, 4, 1103])])]),
  (40, (46, [0, 1, 2, 3, 4]), [(40, .if_icmp .le 6, 3, [(.null, 46, [0, 1, 2, 3, 4])]),
    (43, .iload 4, 2, [(.null, 4, [])]),
    (45, .istore_n 3, 1, [(.null, 3, [])])]),
  (46, (0, []), [(46, .iinc 4 1, 3, [(.int 1, 4, [])]),
    (49, .goto (-43), 3, [(.null, 6, [0, 1, 2, 3, 4])])]),
  (52, (0, []), [(52, .iload_n 3, 1, [(.null, 3, [])]),
    (53, .ireturn, 1, [])])]
/-- WallsByTheHourModel.price (II)I -/
def kd_215 : List (Nat × ax_Bl) := [(0, (0, []), [(0, .aload_n 0, 1, [(.null, 0, [])]),
    (1, .iload_n 1, 1, [(.null, 1, [])]),
    (2, .invokevirtual 119, 3, [(.null, 143, [2, 1, 7, 2, 904])]),
    (5, .ifCond .ne 7, 3, [(.null, 12, [0, 1, 2])]),
    (8, .iconst (-1), 1, [(.int (-1), 0, [])]),
    (9, .goto 18, 3, [(.null, 27, [0, 1, 2])])]),
  (12, (0, []), [(12, .iload_n 2, 1, [(.null, 2, [])]),
    (13, .iconst 0, 1, [(.int 0, 0, [])]),
    (14, .iconst 1, 1, [(.int 1, 0, [])]),
    (15, .invokestatic 71, 3, [(.null, 138, [3, 1, 99, 3, 880])]),
    (18, .ifCond .ne 8, 3, [(.null, 26, [0, 1, 2])]),
    (21, .bipush (-2), 2, [(.int (-2), 0, [])]),
    (23, .goto 4, 3, [(.null, 27, [0, 1, 2])])]),
  (26, (27, [0, 1, 2]), [(26, .iconst 0, 1, [(.int 0, 0, [])])]),
  (27, (0, []), [(27, .istore_n 3, 1, [(.null, 3, [])]),
    (28, .iload_n 3, 1, [(.null, 3, [])]),
    (29, .ifCond .eq 9, 3, [(.null, 38, [0, 1, 2])]),
    (32, .aload_n 0, 1, [(.null, 0, [])]),
    (33, .iload_n 3, 1, [(.null, 3, [])]),
    (34, .invokevirtual 86, 3, [(.null, 136, [2, 1, 7, 2, 852])]),
    (37, .ireturn, 1, [])]),
  (38, (0, []), [(38, .aload_n 0, 1, [(.null, 0, [])]),
    (39, .iload_n 1, 1, [(.null, 1, [])]),
    (40, .bipush (-9), 2, [(.int (-9), 0, [])]),
    (42, .invokevirtual 289, 3, [(.null, 214, [3, 1, 7, 5, 1100])]),
    (45, .istore 4, 2, [(.null, 4, [])]),
    (47, .iload_n 2, 1, [(.null, 2, [])]),
    (48, .ifCond .ne 6, 3, [(.null, 54, [0, 1, 4])]),
    (51, .iload 4, 2, [(.null, 4, [])]),
    (53, .ireturn, 1, [])]),
  (54, (0, []), [(54, .iload 4, 2, [(.null, 4, [])]),
    (56, .ifCond .ge 8, 3, [(.null, 64, [0, 1, 4])]),
    (59, .bipush (-9), 2, [(.int (-9), 0, [])]),
    (61, .goto 10, 3, [(.null, 71, [0, 1])])]),
  (64, (71, [0, 1]), [(64, .aload_n 0, 1, [(.null, 0, [])]),
    (65, .iload_n 1, 1, [(.null, 1, [])]),
    (66, .iload 4, 2, [(.null, 4, [])]),
    (68, .invokevirtual 289, 3, [(.null, 214, [3, 1, 7, 5, 1100])])]),
  (71, (0, []), [(71, .istore 5, 2, [(.null, 5, [])]),
    (73, .iload 5, 2, [(.null, 5, [])]),
    (75, .ifCond .ge 7, 3, [(.null, 82, [0, 1, 5])]),
    (78, .iconst 0, 1, [(.int 0, 0, [])]),
    (79, .goto 10, 3, [(.null, 89, [])])]),
  (82, (89, []), [(82, .aload_n 0, 1, [(.null, 0, [])]),
    (83, .iload 5, 2, [(.null, 5, [])]),
    (85, .iload_n 1, 1, [(.null, 1, [])]),
    (86, .invokevirtual 286, 3, [(.null, 213, [3, 1, 7, 4, 1103])])]),
  (89, (0, []), [(89, .ireturn, 1, [])])]
/-- WallsByTheHourModel.worth (II)I -/
def kd_216 : List (Nat × ax_Bl) := [(0, (5, [0, 1, 2, 3, 4]), [(0, .iconst 0, 1, [(.int 0, 0, [])]),
    (1, .istore_n 3, 1, [(.null, 3, [])]),
    (2, .iconst 0, 1, [(.int 0, 0, [])]),
    (3, .istore 4, 2, [(.null, 4, [])])]),
  (5, (0, []), [(5, .iload 4, 2, [(.null, 4, [])]),
    (7, .aload_n 0, 1, [(.null, 0, [])]),
    (8, .getfield 65, 3, [(.null, 7, [8, 782])]),
    (11, .if_icmp .ge 46, 3, [(.null, 57, [3])]),
    (14, .iload_n 3, 1, [(.null, 3, [])]),
    (15, .iload_n 1, 1, [(.null, 1, [])]),
    (16, .iload 4, 2, [(.null, 4, [])]),
    (18, .invokestatic 186, 3, [(.null, 140, [2, 1, 99, 2, 958])]),
    (21, .ifCond .eq 27, 3, [(.null, 48, [0, 1, 2, 4])]),
    (24, .aload_n 0, 1, [(.null, 0, [])]),
    (25, .iload 4, 2, [(.null, 4, [])]),
    (27, .invokevirtual 189, 3, [(.null, 169, [2, 1, 7, 2, 940])]),
    (30, .bipush 8, 2, [(.int 8, 0, [])]),
    (32, .iadd, 1, []),
    (33, .aload_n 0, 1, [(.null, 0, [])]),
    (34, .getfield 19, 3, [(.null, 7, [3, 777])]),
    (37, .iload 4, 2, [(.null, 4, [])]),
    (39, .iaload, 1, []),
    (40, .iload_n 2, 1, [(.null, 2, [])]),
    (41, .invokestatic 180, 3, [(.null, 142, [2, 1, 99, 2, 952])]),
    (44, .isub, 1, []),
    (45, .goto 4, 3, [(.null, 49, [0, 1, 2, 4])])]),
  (48, (49, [0, 1, 2, 4]), [(48, .iconst 0, 1, [(.int 0, 0, [])])]),
  (49, (0, []), [(49, .iadd, 1, []),
    (50, .istore_n 3, 1, [(.null, 3, [])]),
    (51, .iinc 4 1, 3, [(.int 1, 4, [])]),
    (54, .goto (-49), 3, [(.null, 5, [0, 1, 2, 3, 4])])]),
  (57, (0, []), [(57, .iload_n 3, 1, [(.null, 3, [])]),
    (58, .ireturn, 1, [])])]
/-- WallsByTheHourModel.shares (II)I -/
def kd_217 : List (Nat × ax_Bl) := [(0, (0, []), [(0, .iload_n 1, 1, [(.null, 1, [])]),
    (1, .iload_n 2, 1, [(.null, 2, [])]),
    (2, .invokestatic 122, 3, [(.null, 145, [2, 1, 99, 2, 913])]),
    (5, .ifCond .ne 9, 3, [(.null, 14, [0, 1, 2])]),
    (8, .aload_n 0, 1, [(.null, 0, [])]),
    (9, .iconst (-1), 1, [(.int (-1), 0, [])]),
    (10, .invokevirtual 86, 3, [(.null, 136, [2, 1, 7, 2, 852])]),
    (13, .ireturn, 1, [])]),
  (14, (33, [0, 1, 2, 3, 4, 5, 6]), [(14, .iconst 1, 1, [(.int 1, 0, [])]),
    (15, .aload_n 0, 1, [(.null, 0, [])]),
    (16, .getfield 65, 3, [(.null, 7, [8, 782])]),
    (19, .ishl, 1, []),
    (20, .iconst 1, 1, [(.int 1, 0, [])]),
    (21, .isub, 1, []),
    (22, .istore_n 3, 1, [(.null, 3, [])]),
    (23, .bipush (-9), 2, [(.int (-9), 0, [])]),
    (25, .istore 4, 2, [(.null, 4, [])]),
    (27, .iconst 0, 1, [(.int 0, 0, [])]),
    (28, .istore 5, 2, [(.null, 5, [])]),
    (30, .iconst 0, 1, [(.int 0, 0, [])]),
    (31, .istore 6, 2, [(.null, 6, [])])]),
  (33, (0, []), [(33, .iload 6, 2, [(.null, 6, [])]),
    (35, .iload_n 3, 1, [(.null, 3, [])]),
    (36, .if_icmp .gt 94, 3, [(.null, 130, [4])]),
    (39, .iload_n 3, 1, [(.null, 3, [])]),
    (40, .iload 6, 2, [(.null, 6, [])]),
    (42, .iconst (-1), 1, [(.int (-1), 0, [])]),
    (43, .ixor, 1, []),
    (44, .iand, 1, []),
    (45, .istore 7, 2, [(.null, 7, [])]),
    (47, .aload_n 0, 1, [(.null, 0, [])]),
    (48, .iload 6, 2, [(.null, 6, [])]),
    (50, .iload_n 1, 1, [(.null, 1, [])]),
    (51, .invokevirtual 292, 3, [(.null, 216, [3, 1, 7, 5, 1110])]),
    (54, .aload_n 0, 1, [(.null, 0, [])]),
    (55, .iload 7, 2, [(.null, 7, [])]),
    (57, .iload_n 1, 1, [(.null, 1, [])]),
    (58, .invokevirtual 292, 3, [(.null, 216, [3, 1, 7, 5, 1110])]),
    (61, .if_icmp .lt 63, 3, [(.null, 124, [0, 1, 2, 3, 4, 5, 6])]),
    (64, .aload_n 0, 1, [(.null, 0, [])]),
    (65, .iload 7, 2, [(.null, 7, [])]),
    (67, .iload_n 2, 1, [(.null, 2, [])]),
    (68, .invokevirtual 292, 3, [(.null, 216, [3, 1, 7, 5, 1110])]),
    (71, .aload_n 0, 1, [(.null, 0, [])]),
    (72, .iload 6, 2, [(.null, 6, [])]),
    (74, .iload_n 2, 1, [(.null, 2, [])]),
    (75, .invokevirtual 292, 3, [(.null, 216, [3, 1, 7, 5, 1110])]),
    (78, .if_icmp .ge 6, 3, [(.null, 84, [0, 1, 2, 3, 4, 5, 6, 7])]),
    (81, .goto 43, 3, [(.null, 124, [0, 1, 2, 3, 4, 5, 6])])]),
  (84, (0, []), [(84, .aload_n 0, 1, [(.null, 0, [])]),
    (85, .iload 6, 2, [(.null, 6, [])]),
    (87, .iload_n 1, 1, [(.null, 1, [])]),
    (88, .invokevirtual 292, 3, [(.null, 216, [3, 1, 7, 5, 1110])]),
    (91, .aload_n 0, 1, [(.null, 0, [])]),
    (92, .iload 7, 2, [(.null, 7, [])]),
    (94, .iload_n 2, 1, [(.null, 2, [])]),
    (95, .invokevirtual 292, 3, [(.null, 216, [3, 1, 7, 5, 1110])]),
    (98, .iadd, 1, []),
    (99, .istore 8, 2, [(.null, 8, [])]),
    (101, .iload 4, 2, [(.null, 4, [])]),
    (103, .ifCond .lt 13, 3, [(.null, 116, [0, 1, 2, 3, 6, 8])]),
    (106, .iload 8, 2, [(.null, 8, [])]),
    (108, .iload 5, 2, [(.null, 5, [])]),
    (110, .if_icmp .gt 6, 3, [(.null, 116, [0, 1, 2, 3, 6, 8])]),
    (113, .goto 11, 3, [(.null, 124, [0, 1, 2, 3, 4, 5, 6])])]),
  (116, (124, [0, 1, 2, 3, 4, 5, 6]), [(116, .iload 6, 2, [(.null, 6, [])]),
    (118, .istore 4, 2, [(.null, 4, [])]),
    (120, .iload 8, 2, [(.null, 8, [])]),
    (122, .istore 5, 2, [(.null, 5, [])])]),
  (124, (0, []), [(124, .iinc 6 1, 3, [(.int 1, 6, [])]),
    (127, .goto (-94), 3, [(.null, 33, [0, 1, 2, 3, 4, 5, 6])])]),
  (130, (0, []), [(130, .iload 4, 2, [(.null, 4, [])]),
    (132, .ireturn, 1, [])])]
/-- WallsByTheHourModel.needAt (I)I -/
def kd_218 : List (Nat × ax_Bl) := [(0, (4, [0, 1, 2, 3]), [(0, .iconst 0, 1, [(.int 0, 0, [])]),
    (1, .istore_n 2, 1, [(.null, 2, [])]),
    (2, .iconst 0, 1, [(.int 0, 0, [])]),
    (3, .istore_n 3, 1, [(.null, 3, [])])]),
  (4, (0, []), [(4, .iload_n 3, 1, [(.null, 3, [])]),
    (5, .bipush 8, 2, [(.int 8, 0, [])]),
    (7, .if_icmp .ge 23, 3, [(.null, 30, [2])]),
    (10, .iload_n 2, 1, [(.null, 2, [])]),
    (11, .aload_n 0, 1, [(.null, 0, [])]),
    (12, .getfield 28, 3, [(.null, 7, [6, 780])]),
    (15, .bipush 6, 2, [(.int 6, 0, [])]),
    (17, .iload_n 3, 1, [(.null, 3, [])]),
    (18, .imul, 1, []),
    (19, .iload_n 1, 1, [(.null, 1, [])]),
    (20, .iadd, 1, []),
    (21, .iaload, 1, []),
    (22, .iadd, 1, []),
    (23, .istore_n 2, 1, [(.null, 2, [])]),
    (24, .iinc 3 1, 3, [(.int 1, 3, [])]),
    (27, .goto (-23), 3, [(.null, 4, [0, 1, 2, 3])])]),
  (30, (0, []), [(30, .iload_n 2, 1, [(.null, 2, [])]),
    (31, .ireturn, 1, [])])]
/-- WallsByTheHourModel.coldest (I)I -/
def kd_219 : List (Nat × ax_Bl) := [(0, (0, []), [(0, .iload_n 1, 1, [(.null, 1, [])]),
    (1, .iconst 0, 1, [(.int 0, 0, [])]),
    (2, .iconst 1, 1, [(.int 1, 0, [])]),
    (3, .invokestatic 71, 3, [(.null, 138, [3, 1, 99, 3, 880])]),
    (6, .ifCond .ne 10, 3, [(.null, 16, [0, 1])]),
    (9, .aload_n 0, 1, [(.null, 0, [])]),
    (10, .bipush (-2), 2, [(.int (-2), 0, [])]),
    (12, .invokevirtual 86, 3, [(.null, 136, [2, 1, 7, 2, 852])]),
    (15, .ireturn, 1, [])]),
  (16, (20, [0, 1, 2, 3]), [(16, .iconst 0, 1, [(.int 0, 0, [])]),
    (17, .istore_n 2, 1, [(.null, 2, [])]),
    (18, .iconst 1, 1, [(.int 1, 0, [])]),
    (19, .istore_n 3, 1, [(.null, 3, [])])]),
  (20, (0, []), [(20, .iload_n 3, 1, [(.null, 3, [])]),
    (21, .bipush 6, 2, [(.int 6, 0, [])]),
    (23, .if_icmp .ge 28, 3, [(.null, 51, [0, 1, 2])]),
    (26, .aload_n 0, 1, [(.null, 0, [])]),
    (27, .iload_n 3, 1, [(.null, 3, [])]),
    (28, .invokevirtual 295, 3, [(.null, 218, [2, 1, 7, 4, 1117])]),
    (31, .aload_n 0, 1, [(.null, 0, [])]),
    (32, .iload_n 2, 1, [(.null, 2, [])]),
    (33, .invokevirtual 295, 3, [(.null, 218, [2, 1, 7, 4, 1117])]),
    (36, .if_icmp .le 7, 3, [(.null, 43, [0, 1, 2, 3])]),
    (39, .iload_n 3, 1, [(.null, 3, [])]),
    (40, .goto 4, 3, [(.null, 44, [0, 1, 3])])]),
  (43, (44, [0, 1, 3]), [(43, .iload_n 2, 1, [(.null, 2, [])])]),
  (44, (0, []), [(44, .istore_n 2, 1, [(.null, 2, [])]),
    (45, .iinc 3 1, 3, [(.int 1, 3, [])]),
    (48, .goto (-28), 3, [(.null, 20, [0, 1, 2, 3])])]),
  (51, (0, []), [(51, .iload_n 1, 1, [(.null, 1, [])]),
    (52, .ifCond .ne 7, 3, [(.null, 59, [0, 2])]),
    (55, .iload_n 2, 1, [(.null, 2, [])]),
    (56, .goto 8, 3, [(.null, 64, [])])]),
  (59, (64, []), [(59, .aload_n 0, 1, [(.null, 0, [])]),
    (60, .iload_n 2, 1, [(.null, 2, [])]),
    (61, .invokevirtual 295, 3, [(.null, 218, [2, 1, 7, 4, 1117])])]),
  (64, (0, []), [(64, .ireturn, 1, [])])]
/-- WallsByTheHourModel.bestWall ()I -/
def kd_220 : List (Nat × ax_Bl) := [(0, (5, [0, 1, 2]), [(0, .bipush (-9), 2, [(.int (-9), 0, [])]),
    (2, .istore_n 1, 1, [(.null, 1, [])]),
    (3, .iconst 0, 1, [(.int 0, 0, [])]),
    (4, .istore_n 2, 1, [(.null, 2, [])])]),
  (5, (30, [0, 2]), [(5, .iload_n 2, 1, [(.null, 2, [])]),
    (6, .aload_n 0, 1, [(.null, 0, [])]),
    (7, .getfield 65, 3, [(.null, 7, [8, 782])]),
    (10, .if_icmp .ge 28, 3, [(.null, 38, [1])]),
    (13, .iload_n 1, 1, [(.null, 1, [])]),
    (14, .ifCond .lt 16, 3, [(.null, 30, [0, 2])]),
    (17, .aload_n 0, 1, [(.null, 0, [])]),
    (18, .iload_n 2, 1, [(.null, 2, [])]),
    (19, .invokevirtual 189, 3, [(.null, 169, [2, 1, 7, 2, 940])]),
    (22, .aload_n 0, 1, [(.null, 0, [])]),
    (23, .iload_n 1, 1, [(.null, 1, [])]),
    (24, .invokevirtual 189, 3, [(.null, 169, [2, 1, 7, 2, 940])]),
    (27, .if_icmp .le 5, 3, [(.null, 32, [0, 1, 2])])]),
  (30, (32, [0, 1, 2]), [(30, .iload_n 2, 1, [(.null, 2, [])]),
    (31, .istore_n 1, 1, [(.null, 1, [])])]),
  (32, (0, []), [(32, .iinc 2 1, 3, [(.int 1, 2, [])]),
    (35, .goto (-30), 3, [(.null, 5, [0, 1, 2])])]),
  (38, (0, []), [(38, .iload_n 1, 1, [(.null, 1, [])]),
    (39, .ireturn, 1, [])])]
/-- WallsByTheHourModel.warmer ()I -/
def kd_221 : List (Nat × ax_Bl) := [(0, (4, [0, 1, 2]), [(0, .iconst 0, 1, [(.int 0, 0, [])]),
    (1, .istore_n 1, 1, [(.null, 1, [])]),
    (2, .iconst 0, 1, [(.int 0, 0, [])]),
    (3, .istore_n 2, 1, [(.null, 2, [])])]),
  (4, (0, []), [(4, .iload_n 2, 1, [(.null, 2, [])]),
    (5, .aload_n 0, 1, [(.null, 0, [])]),
    (6, .getfield 65, 3, [(.null, 7, [8, 782])]),
    (9, .if_icmp .ge 41, 3, [(.null, 50, [1])]),
    (12, .iload_n 1, 1, [(.null, 1, [])]),
    (13, .aload_n 0, 1, [(.null, 0, [])]),
    (14, .iload_n 2, 1, [(.null, 2, [])]),
    (15, .aload_n 0, 1, [(.null, 0, [])]),
    (16, .getfield 126, 3, [(.null, 7, [9, 783])]),
    (19, .iconst 1, 1, [(.int 1, 0, [])]),
    (20, .iadd, 1, []),
    (21, .bipush 6, 2, [(.int 6, 0, [])]),
    (23, .irem, 1, []),
    (24, .invokevirtual 176, 3, [(.null, 168, [3, 1, 7, 4, 943])]),
    (27, .aload_n 0, 1, [(.null, 0, [])]),
    (28, .iload_n 2, 1, [(.null, 2, [])]),
    (29, .invokevirtual 189, 3, [(.null, 169, [2, 1, 7, 2, 940])]),
    (32, .if_icmp .le 9, 3, [(.null, 41, [0, 2])]),
    (35, .iconst 1, 1, [(.int 1, 0, [])]),
    (36, .iload_n 2, 1, [(.null, 2, [])]),
    (37, .ishl, 1, []),
    (38, .goto 4, 3, [(.null, 42, [0, 2])])]),
  (41, (42, [0, 2]), [(41, .iconst 0, 1, [(.int 0, 0, [])])]),
  (42, (0, []), [(42, .ior, 1, []),
    (43, .istore_n 1, 1, [(.null, 1, [])]),
    (44, .iinc 2 1, 3, [(.int 1, 2, [])]),
    (47, .goto (-43), 3, [(.null, 4, [0, 1, 2])])]),
  (50, (0, []), [(50, .iload_n 1, 1, [(.null, 1, [])]),
    (51, .ireturn, 1, [])])]
/-- WallsByTheHourModel.best (I)I -/
def kd_222 : List (Nat × ax_Bl) := [(0, (0, []), [(0, .aload_n 0, 1, [(.null, 0, [])]),
    (1, .invokevirtual 298, 3, [(.null, 220, [1, 1, 7, 3, 1124])]),
    (4, .istore_n 2, 1, [(.null, 2, [])]),
    (5, .iload_n 1, 1, [(.null, 1, [])]),
    (6, .tableswitch 67 0 4 #[34, 36, 52, 57, 62], 34, [(.int 0, 40, [2]), (.int 1, 42, [0, 2]), (.int 2, 58, [0]), (.int 3, 63, [0]), (.int 4, 68, [0]), (.null, 73, [0])])]),
  (40, (0, []), [(40, .iload_n 2, 1, [(.null, 2, [])]),
    (41, .ireturn, 1, [])]),
  (42, (0, []), [(42, .iload_n 2, 1, [(.null, 2, [])]),
    (43, .ifCond .ge 8, 3, [(.null, 51, [0, 2])]),
    (46, .bipush (-9), 2, [(.int (-9), 0, [])]),
    (48, .goto 9, 3, [(.null, 57, [])])]),
  (51, (57, []), [(51, .aload_n 0, 1, [(.null, 0, [])]),
    (52, .getfield 22, 3, [(.null, 7, [4, 778])]),
    (55, .iload_n 2, 1, [(.null, 2, [])]),
    (56, .iaload, 1, [])]),
  (57, (0, []), [(57, .ireturn, 1, [])]),
  (58, (0, []), [(58, .aload_n 0, 1, [(.null, 0, [])]),
    (59, .invokevirtual 262, 3, [(.null, 179, [1, 1, 7, 3, 1058])]),
    (62, .ireturn, 1, [])]),
  (63, (0, []), [(63, .aload_n 0, 1, [(.null, 0, [])]),
    (64, .invokevirtual 228, 3, [(.null, 177, [1, 1, 7, 3, 964])]),
    (67, .ireturn, 1, [])]),
  (68, (0, []), [(68, .aload_n 0, 1, [(.null, 0, [])]),
    (69, .invokevirtual 301, 3, [(.null, 221, [1, 1, 7, 3, 1127])]),
    (72, .ireturn, 1, [])]),
  (73, (0, []), [(73, .aload_n 0, 1, [(.null, 0, [])]),
    (74, .bipush (-2), 2, [(.int (-2), 0, [])]),
    (76, .invokevirtual 86, 3, [(.null, 136, [2, 1, 7, 2, 852])]),
    (79, .ireturn, 1, [])])]
/-- WallsByTheHourModel.each (I)I -/
def kd_223 : List (Nat × ax_Bl) := [(0, (0, []), [(0, .iload_n 1, 1, [(.null, 1, [])]),
    (1, .invokestatic 75, 3, [(.null, 144, [1, 1, 99, 1, 898])]),
    (4, .ifCond .ne 9, 3, [(.null, 13, [0, 1])]),
    (7, .aload_n 0, 1, [(.null, 0, [])]),
    (8, .iconst (-1), 1, [(.int (-1), 0, [])]),
    (9, .invokevirtual 86, 3, [(.null, 136, [2, 1, 7, 2, 852])]),
    (12, .ireturn, 1, [])]),
  (13, (0, []), [(13, .aload_n 0, 1, [(.null, 0, [])]),
    (14, .aload_n 0, 1, [(.null, 0, [])]),
    (15, .getfield 22, 3, [(.null, 7, [4, 778])]),
    (18, .iload_n 1, 1, [(.null, 1, [])]),
    (19, .invokevirtual 234, 3, [(.null, 180, [3, 1, 7, 5, 983])]),
    (22, .invokestatic 265, 3, [(.null, 141, [1, 1, 99, 3, 1061])]),
    (25, .istore_n 2, 1, [(.null, 2, [])]),
    (26, .iload_n 2, 1, [(.null, 2, [])]),
    (27, .ifCond .ne 12, 3, [(.null, 39, [0, 1, 2])]),
    (30, .aload_n 0, 1, [(.null, 0, [])]),
    (31, .bipush (-3), 2, [(.int (-3), 0, [])]),
    (33, .invokevirtual 86, 3, [(.null, 136, [2, 1, 7, 2, 852])]),
    (36, .goto 10, 3, [(.null, 46, [])])]),
  (39, (46, []), [(39, .aload_n 0, 1, [(.null, 0, [])]),
    (40, .iload_n 1, 1, [(.null, 1, [])]),
    (41, .invokevirtual 195, 3, [(.null, 172, [2, 1, 7, 4, 937])]),
    (44, .iload_n 2, 1, [(.null, 2, [])]),
    (45, .idiv, 1, [])]),
  (46, (0, []), [(46, .ireturn, 1, [])])]
/-- WallsByTheHourModel.panes (I)I -/
def kd_224 : List (Nat × ax_Bl) := [(0, (0, []), [(0, .aload_n 0, 1, [(.null, 0, [])]),
    (1, .iload_n 1, 1, [(.null, 1, [])]),
    (2, .invokevirtual 119, 3, [(.null, 143, [2, 1, 7, 2, 904])]),
    (5, .ifCond .ne 9, 3, [(.null, 14, [0, 1])]),
    (8, .aload_n 0, 1, [(.null, 0, [])]),
    (9, .iconst (-1), 1, [(.int (-1), 0, [])]),
    (10, .invokevirtual 86, 3, [(.null, 136, [2, 1, 7, 2, 852])]),
    (13, .ireturn, 1, [])]),
  (14, (0, []), [(14, .aload_n 0, 1, [(.null, 0, [])]),
    (15, .getfield 13, 3, [(.null, 7, [1, 775])]),
    (18, .iload_n 1, 1, [(.null, 1, [])]),
    (19, .iaload, 1, []),
    (20, .iconst 3, 1, [(.int 3, 0, [])]),
    (21, .if_icmp .eq 20, 3, [(.null, 41, [0, 1])]),
    (24, .aload_n 0, 1, [(.null, 0, [])]),
    (25, .getfield 13, 3, [(.null, 7, [1, 775])]),
    (28, .iload_n 1, 1, [(.null, 1, [])]),
    (29, .iaload, 1, []),
    (30, .iconst 5, 1, [(.int 5, 0, [])]),
    (31, .if_icmp .eq 10, 3, [(.null, 41, [0, 1])]),
    (34, .aload_n 0, 1, [(.null, 0, [])]),
    (35, .bipush (-3), 2, [(.int (-3), 0, [])]),
    (37, .invokevirtual 86, 3, [(.null, 136, [2, 1, 7, 2, 852])]),
    (40, .ireturn, 1, [])]),
  (41, (0, []), [(41, .iconst 1, 1, [(.int 1, 0, [])]),
    (42, .aload_n 0, 1, [(.null, 0, [])]),
    (43, .getfield 16, 3, [(.null, 7, [2, 776])]),
    (46, .iload_n 1, 1, [(.null, 1, [])]),
    (47, .iaload, 1, []),
    (48, .iconst 2, 1, [(.int 2, 0, [])]),
    (49, .idiv, 1, []),
    (50, .iadd, 1, []),
    (51, .aload_n 0, 1, [(.null, 0, [])]),
    (52, .getfield 13, 3, [(.null, 7, [1, 775])]),
    (55, .iload_n 1, 1, [(.null, 1, [])]),
    (56, .iaload, 1, []),
    (57, .iconst 5, 1, [(.int 5, 0, [])]),
    (58, .if_icmp .ne 7, 3, [(.null, 65, [])]),
    (61, .iconst 3, 1, [(.int 3, 0, [])]),
    (62, .goto 4, 3, [(.null, 66, [])])]),
  (65, (66, []), [(65, .iconst 0, 1, [(.int 0, 0, [])])]),
  (66, (0, []), [(66, .iadd, 1, []),
    (67, .ireturn, 1, [])])]
/-- WallsByTheHourModel.isBetween (III)Z -/
def kd_225 : List (Nat × ax_Bl) := [(0, (10, [1, 2, 3]), [(0, .iload_n 1, 1, [(.null, 1, [])]),
    (1, .iload_n 2, 1, [(.null, 2, [])]),
    (2, .if_icmp .le 8, 3, [(.null, 10, [1, 2, 3])]),
    (5, .iload_n 1, 1, [(.null, 1, [])]),
    (6, .iload_n 3, 1, [(.null, 3, [])]),
    (7, .if_icmp .lt 13, 3, [(.null, 20, [])])]),
  (10, (20, []), [(10, .iload_n 1, 1, [(.null, 1, [])]),
    (11, .iload_n 3, 1, [(.null, 3, [])]),
    (12, .if_icmp .le 12, 3, [(.null, 24, [])]),
    (15, .iload_n 1, 1, [(.null, 1, [])]),
    (16, .iload_n 2, 1, [(.null, 2, [])]),
    (17, .if_icmp .ge 7, 3, [(.null, 24, [])])]),
  (20, (0, []), [(20, .iconst 1, 1, [(.int 1, 0, [])]),
    (21, .goto 4, 3, [(.null, 25, [])])]),
  (24, (25, []), [(24, .iconst 0, 1, [(.int 0, 0, [])])]),
  (25, (0, []), [(25, .ireturn, 1, [])])]
/-- WallsByTheHourModel.sees_ (II)Z -/
def kd_226 : List (Nat × ax_Bl) := [(0, (13, []), [(0, .iload_n 1, 1, [(.null, 1, [])]),
    (1, .iload_n 2, 1, [(.null, 2, [])]),
    (2, .if_icmp .eq 11, 3, [(.null, 13, [])]),
    (5, .aload_n 0, 1, [(.null, 0, [])]),
    (6, .iload_n 2, 1, [(.null, 2, [])]),
    (7, .invokevirtual 201, 3, [(.null, 174, [2, 1, 7, 2, 934])]),
    (10, .ifCond .ne 5, 3, [(.null, 15, [0, 1, 2])])]),
  (13, (0, []), [(13, .iconst 0, 1, [(.int 0, 0, [])]),
    (14, .ireturn, 1, [])]),
  (15, (17, [0, 1, 2, 3]), [(15, .iconst 0, 1, [(.int 0, 0, [])]),
    (16, .istore_n 3, 1, [(.null, 3, [])])]),
  (17, (0, []), [(17, .iload_n 3, 1, [(.null, 3, [])]),
    (18, .aload_n 0, 1, [(.null, 0, [])]),
    (19, .getfield 65, 3, [(.null, 7, [8, 782])]),
    (22, .if_icmp .ge 26, 3, [(.null, 48, [])]),
    (25, .aload_n 0, 1, [(.null, 0, [])]),
    (26, .aload_n 0, 1, [(.null, 0, [])]),
    (27, .getfield 22, 3, [(.null, 7, [4, 778])]),
    (30, .iload_n 3, 1, [(.null, 3, [])]),
    (31, .iaload, 1, []),
    (32, .iload_n 1, 1, [(.null, 1, [])]),
    (33, .iload_n 2, 1, [(.null, 2, [])]),
    (34, .invokevirtual 304, 3, [(.null, 225, [4, 1, 7, 4, 1145])]),
    (37, .ifCond .eq 5, 3, [(.null, 42, [0, 1, 2, 3])]),
    (40, .iconst 0, 1, [(.int 0, 0, [])]),
    (41, .ireturn, 1, [])]),
  (42, (0, []), [(42, .iinc 3 1, 3, [(.int 1, 3, [])]),
    (45, .goto (-28), 3, [(.null, 17, [0, 1, 2, 3])])]),
  (48, (0, []), [(48, .iconst 1, 1, [(.int 1, 0, [])]),
    (49, .ireturn, 1, [])])]
/-- WallsByTheHourModel.sees (I)I -/
def kd_227 : List (Nat × ax_Bl) := [(0, (0, []), [(0, .iload_n 1, 1, [(.null, 1, [])]),
    (1, .invokestatic 75, 3, [(.null, 144, [1, 1, 99, 1, 898])]),
    (4, .ifCond .ne 9, 3, [(.null, 13, [0, 1])]),
    (7, .aload_n 0, 1, [(.null, 0, [])]),
    (8, .iconst (-1), 1, [(.int (-1), 0, [])]),
    (9, .invokevirtual 86, 3, [(.null, 136, [2, 1, 7, 2, 852])]),
    (12, .ireturn, 1, [])]),
  (13, (17, [0, 1, 2, 3]), [(13, .iconst 0, 1, [(.int 0, 0, [])]),
    (14, .istore_n 2, 1, [(.null, 2, [])]),
    (15, .iconst 0, 1, [(.int 0, 0, [])]),
    (16, .istore_n 3, 1, [(.null, 3, [])])]),
  (17, (0, []), [(17, .iload_n 3, 1, [(.null, 3, [])]),
    (18, .bipush 8, 2, [(.int 8, 0, [])]),
    (20, .if_icmp .ge 28, 3, [(.null, 48, [2])]),
    (23, .iload_n 2, 1, [(.null, 2, [])]),
    (24, .aload_n 0, 1, [(.null, 0, [])]),
    (25, .iload_n 3, 1, [(.null, 3, [])]),
    (26, .iload_n 1, 1, [(.null, 1, [])]),
    (27, .invokevirtual 307, 3, [(.null, 226, [3, 1, 7, 4, 1142])]),
    (30, .ifCond .eq 9, 3, [(.null, 39, [0, 1, 3])]),
    (33, .iconst 1, 1, [(.int 1, 0, [])]),
    (34, .iload_n 3, 1, [(.null, 3, [])]),
    (35, .ishl, 1, []),
    (36, .goto 4, 3, [(.null, 40, [0, 1, 3])])]),
  (39, (40, [0, 1, 3]), [(39, .iconst 0, 1, [(.int 0, 0, [])])]),
  (40, (0, []), [(40, .ior, 1, []),
    (41, .istore_n 2, 1, [(.null, 2, [])]),
    (42, .iinc 3 1, 3, [(.int 1, 3, [])]),
    (45, .goto (-28), 3, [(.null, 17, [0, 1, 2, 3])])]),
  (48, (0, []), [(48, .iload_n 2, 1, [(.null, 2, [])]),
    (49, .ireturn, 1, [])])]
/-- WallsByTheHourModel.hide (II)I -/
def kd_228 : List (Nat × ax_Bl) := [(0, (0, []), [(0, .iload_n 1, 1, [(.null, 1, [])]),
    (1, .iload_n 2, 1, [(.null, 2, [])]),
    (2, .invokestatic 122, 3, [(.null, 145, [2, 1, 99, 2, 913])]),
    (5, .ifCond .ne 9, 3, [(.null, 14, [0, 1, 2])]),
    (8, .aload_n 0, 1, [(.null, 0, [])]),
    (9, .iconst (-1), 1, [(.int (-1), 0, [])]),
    (10, .invokevirtual 86, 3, [(.null, 136, [2, 1, 7, 2, 852])]),
    (13, .ireturn, 1, [])]),
  (14, (0, []), [(14, .aload_n 0, 1, [(.null, 0, [])]),
    (15, .iload_n 1, 1, [(.null, 1, [])]),
    (16, .iload_n 2, 1, [(.null, 2, [])]),
    (17, .invokevirtual 307, 3, [(.null, 226, [3, 1, 7, 4, 1142])]),
    (20, .ifCond .ne 10, 3, [(.null, 30, [0, 1, 2])]),
    (23, .aload_n 0, 1, [(.null, 0, [])]),
    (24, .bipush (-3), 2, [(.int (-3), 0, [])]),
    (26, .invokevirtual 86, 3, [(.null, 136, [2, 1, 7, 2, 852])]),
    (29, .ireturn, 1, [])]),
  (30, (40, [0, 1, 2, 3, 4, 5]), [(30, .bipush (-9), 2, [(.int (-9), 0, [])]),
    (32, .istore_n 3, 1, [(.null, 3, [])]),
    (33, .bipush 8, 2, [(.int 8, 0, [])]),
    (35, .istore 4, 2, [(.null, 4, [])]),
    (37, .iconst 0, 1, [(.int 0, 0, [])]),
    (38, .istore 5, 2, [(.null, 5, [])])]),
  (40, (0, []), [(40, .iload 5, 2, [(.null, 5, [])]),
    (42, .bipush 8, 2, [(.int 8, 0, [])]),
    (44, .aload_n 0, 1, [(.null, 0, [])]),
    (45, .getfield 65, 3, [(.null, 7, [8, 782])]),
    (48, .imul, 1, []),
    (49, .if_icmp .ge 72, 3, [(.null, 121, [3])]),
    (52, .aload_n 0, 1, [(.null, 0, [])]),
    (53, .getfield 22, 3, [(.null, 7, [4, 778])]),
    (56, .iload 5, 2, [(.null, 5, [])]),
    (58, .bipush 8, 2, [(.int 8, 0, [])]),
    (60, .idiv, 1, []),
    (61, .iaload, 1, []),
    (62, .iload 5, 2, [(.null, 5, [])]),
    (64, .bipush 8, 2, [(.int 8, 0, [])]),
    (66, .irem, 1, []),
    (67, .invokestatic 180, 3, [(.null, 142, [2, 1, 99, 2, 952])]),
    (70, .istore 6, 2, [(.null, 6, [])]),
    (72, .aload_n 0, 1, [(.null, 0, [])]),
    (73, .iload 5, 2, [(.null, 5, [])]),
    (75, .bipush 8, 2, [(.int 8, 0, [])]),
    (77, .irem, 1, []),
    (78, .iload_n 1, 1, [(.null, 1, [])]),
    (79, .iload_n 2, 1, [(.null, 2, [])]),
    (80, .invokevirtual 304, 3, [(.null, 225, [4, 1, 7, 4, 1145])]),
    (83, .ifCond .eq 32, 3, [(.null, 115, [0, 1, 2, 3, 4, 5])]),
    (86, .iload 6, 2, [(.null, 6, [])]),
    (88, .iload 4, 2, [(.null, 4, [])]),
    (90, .if_icmp .lt 6, 3, [(.null, 96, [0, 1, 2, 5, 6])]),
    (93, .goto 22, 3, [(.null, 115, [0, 1, 2, 3, 4, 5])])]),
  (96, (115, [0, 1, 2, 3, 4, 5]), [(96, .bipush 10, 2, [(.int 10, 0, [])]),
    (98, .iload 5, 2, [(.null, 5, [])]),
    (100, .bipush 8, 2, [(.int 8, 0, [])]),
    (102, .idiv, 1, []),
    (103, .imul, 1, []),
    (104, .iload 5, 2, [(.null, 5, [])]),
    (106, .bipush 8, 2, [(.int 8, 0, [])]),
    (108, .irem, 1, []),
    (109, .iadd, 1, []),
    (110, .istore_n 3, 1, [(.null, 3, [])]),
    (111, .iload 6, 2, [(.null, 6, [])]),
    (113, .istore 4, 2, [(.null, 4, [])])]),
  (115, (0, []), [(115, .iinc 5 1, 3, [(.int 1, 5, [])]),
    (118, .goto (-78), 3, [(.null, 40, [0, 1, 2, 3, 4, 5])])]),
  (121, (0, []), [(121, .iload_n 3, 1, [(.null, 3, [])]),
    (122, .ireturn, 1, [])])]
/-- WallsByTheHourModel.findEnds (III)V -/
def kd_229 : List (Nat × ax_Bl) := [(0, (3, [0, 1, 2, 3, 4]), [(0, .iconst 0, 1, [(.int 0, 0, [])]),
    (1, .istore 4, 2, [(.null, 4, [])])]),
  (3, (0, []), [(3, .iload 4, 2, [(.null, 4, [])]),
    (5, .iconst 4, 1, [(.int 4, 0, [])]),
    (6, .if_icmp .ge 120, 3, [(.null, 126, [])]),
    (9, .aload_n 0, 1, [(.null, 0, [])]),
    (10, .invokevirtual 244, 3, [(.null, 164, [1, 0, 7, 1, 1020])]),
    (13, .aload_n 0, 1, [(.null, 0, [])]),
    (14, .getfield 22, 3, [(.null, 7, [4, 778])]),
    (17, .iload_n 1, 1, [(.null, 1, [])]),
    (18, .iload 4, 2, [(.null, 4, [])]),
    (20, .iconst 2, 1, [(.int 2, 0, [])]),
    (21, .idiv, 1, []),
    (22, .iconst 1, 1, [(.int 1, 0, [])]),
    (23, .if_icmp .ne 12, 3, [(.null, 35, [0, 1, 2, 3, 4])]),
    (26, .aload_n 0, 1, [(.null, 0, [])]),
    (27, .getfield 19, 3, [(.null, 7, [3, 777])]),
    (30, .iload_n 1, 1, [(.null, 1, [])]),
    (31, .iaload, 1, []),
    (32, .goto 9, 3, [(.null, 41, [0, 1, 2, 3, 4])])]),
  (35, (41, [0, 1, 2, 3, 4]), [(35, .aload_n 0, 1, [(.null, 0, [])]),
    (36, .getfield 22, 3, [(.null, 7, [4, 778])]),
    (39, .iload_n 1, 1, [(.null, 1, [])]),
    (40, .iaload, 1, [])]),
  (41, (0, []), [(41, .iastore, 1, []),
    (42, .aload_n 0, 1, [(.null, 0, [])]),
    (43, .getfield 22, 3, [(.null, 7, [4, 778])]),
    (46, .iload_n 2, 1, [(.null, 2, [])]),
    (47, .iload 4, 2, [(.null, 4, [])]),
    (49, .iconst 2, 1, [(.int 2, 0, [])]),
    (50, .irem, 1, []),
    (51, .iconst 1, 1, [(.int 1, 0, [])]),
    (52, .if_icmp .ne 12, 3, [(.null, 64, [0, 1, 2, 3, 4])]),
    (55, .aload_n 0, 1, [(.null, 0, [])]),
    (56, .getfield 19, 3, [(.null, 7, [3, 777])]),
    (59, .iload_n 2, 1, [(.null, 2, [])]),
    (60, .iaload, 1, []),
    (61, .goto 9, 3, [(.null, 70, [0, 1, 2, 3, 4])])]),
  (64, (70, [0, 1, 2, 3, 4]), [(64, .aload_n 0, 1, [(.null, 0, [])]),
    (65, .getfield 22, 3, [(.null, 7, [4, 778])]),
    (68, .iload_n 2, 1, [(.null, 2, [])]),
    (69, .iaload, 1, [])]),
  (70, (0, []), [(70, .iastore, 1, []),
    (71, .aload_n 0, 1, [(.null, 0, [])]),
    (72, .iload_n 3, 1, [(.null, 3, [])]),
    (73, .invokevirtual 129, 3, [(.null, 184, [2, 0, 7, 3, 919])]),
    (76, .aload_n 0, 1, [(.null, 0, [])]),
    (77, .getfield 52, 3, [(.null, 7, [30, 803])]),
    (80, .iconst 2, 1, [(.int 2, 0, [])]),
    (81, .iload 4, 2, [(.null, 4, [])]),
    (83, .imul, 1, []),
    (84, .aload_n 0, 1, [(.null, 0, [])]),
    (85, .aload_n 0, 1, [(.null, 0, [])]),
    (86, .getfield 19, 3, [(.null, 7, [3, 777])]),
    (89, .iload_n 1, 1, [(.null, 1, [])]),
    (90, .iaload, 1, []),
    (91, .invokevirtual 201, 3, [(.null, 174, [2, 1, 7, 2, 934])]),
    (94, .iastore, 1, []),
    (95, .aload_n 0, 1, [(.null, 0, [])]),
    (96, .getfield 52, 3, [(.null, 7, [30, 803])]),
    (99, .iconst 2, 1, [(.int 2, 0, [])]),
    (100, .iload 4, 2, [(.null, 4, [])]),
    (102, .imul, 1, []),
    (103, .iconst 1, 1, [(.int 1, 0, [])]),
    (104, .iadd, 1, []),
    (105, .aload_n 0, 1, [(.null, 0, [])]),
    (106, .aload_n 0, 1, [(.null, 0, [])]),
    (107, .getfield 19, 3, [(.null, 7, [3, 777])]),
    (110, .iload_n 2, 1, [(.null, 2, [])]),
    (111, .iaload, 1, []),
    (112, .invokevirtual 201, 3, [(.null, 174, [2, 1, 7, 2, 934])]),
    (115, .iastore, 1, []),
    (116, .aload_n 0, 1, [(.null, 0, [])]),
    (117, .invokevirtual 247, 3, [(.null, 165, [1, 0, 7, 1, 1023])]),
    (120, .iinc 4 1, 3, [(.int 1, 4, [])]),
    (123, .goto (-120), 3, [(.null, 3, [0, 1, 2, 3, 4])])]),
  (126, (0, []), [(126, .return_, 1, [])])]
/-- WallsByTheHourModel.two (III)I -/
def kd_230 : List (Nat × ax_Bl) := [(0, (21, [0, 1, 2, 3]), [(0, .aload_n 0, 1, [(.null, 0, [])]),
    (1, .iload_n 1, 1, [(.null, 1, [])]),
    (2, .invokevirtual 119, 3, [(.null, 143, [2, 1, 7, 2, 904])]),
    (5, .ifCond .eq 16, 3, [(.null, 21, [0, 1, 2, 3])]),
    (8, .aload_n 0, 1, [(.null, 0, [])]),
    (9, .iload_n 2, 1, [(.null, 2, [])]),
    (10, .invokevirtual 119, 3, [(.null, 143, [2, 1, 7, 2, 904])]),
    (13, .ifCond .eq 8, 3, [(.null, 21, [0, 1, 2, 3])]),
    (16, .iload_n 1, 1, [(.null, 1, [])]),
    (17, .iload_n 2, 1, [(.null, 2, [])]),
    (18, .if_icmp .ne 7, 3, [(.null, 25, [0, 1, 2, 3])])]),
  (21, (0, []), [(21, .iconst (-1), 1, [(.int (-1), 0, [])]),
    (22, .goto 10, 3, [(.null, 32, [0, 1, 2, 3])])]),
  (25, (32, [0, 1, 2, 3]), [(25, .iload_n 3, 1, [(.null, 3, [])]),
    (26, .iconst 0, 1, [(.int 0, 0, [])]),
    (27, .bipush 30, 2, [(.int 30, 0, [])]),
    (29, .invokestatic 79, 3, [(.null, 139, [3, 1, 99, 3, 849])])]),
  (32, (0, []), [(32, .istore 4, 2, [(.null, 4, [])]),
    (34, .iload 4, 2, [(.null, 4, [])]),
    (36, .ifCond .eq 10, 3, [(.null, 46, [0, 1, 2, 3])]),
    (39, .aload_n 0, 1, [(.null, 0, [])]),
    (40, .iload 4, 2, [(.null, 4, [])]),
    (42, .invokevirtual 86, 3, [(.null, 136, [2, 1, 7, 2, 852])]),
    (45, .ireturn, 1, [])]),
  (46, (56, [0, 5]), [(46, .aload_n 0, 1, [(.null, 0, [])]),
    (47, .iload_n 1, 1, [(.null, 1, [])]),
    (48, .iload_n 2, 1, [(.null, 2, [])]),
    (49, .iload_n 3, 1, [(.null, 3, [])]),
    (50, .invokevirtual 310, 3, [(.null, 229, [4, 0, 7, 5, 1156])]),
    (53, .iconst 0, 1, [(.int 0, 0, [])]),
    (54, .istore 5, 2, [(.null, 5, [])])]),
  (56, (0, []), [(56, .iload 5, 2, [(.null, 5, [])]),
    (58, .iconst 4, 1, [(.int 4, 0, [])]),
    (59, .if_icmp .ge 72, 3, [(.null, 131, [])]),
    (62, .aload_n 0, 1, [(.null, 0, [])]),
    (63, .getfield 52, 3, [(.null, 7, [30, 803])]),
    (66, .iconst 2, 1, [(.int 2, 0, [])]),
    (67, .iload 5, 2, [(.null, 5, [])]),
    (69, .iconst 2, 1, [(.int 2, 0, [])]),
    (70, .ixor, 1, []),
    (71, .imul, 1, []),
    (72, .iaload, 1, []),
    (73, .aload_n 0, 1, [(.null, 0, [])]),
    (74, .getfield 52, 3, [(.null, 7, [30, 803])]),
    (77, .iconst 2, 1, [(.int 2, 0, [])]),
    (78, .iload 5, 2, [(.null, 5, [])]),
    (80, .imul, 1, []),
    (81, .iaload, 1, []),
    (82, .if_icmp .lt 43, 3, [(.null, 125, [0, 5])]),
    (85, .aload_n 0, 1, [(.null, 0, [])]),
    (86, .getfield 52, 3, [(.null, 7, [30, 803])]),
    (89, .iconst 2, 1, [(.int 2, 0, [])]),
    (90, .iload 5, 2, [(.null, 5, [])]),
    (92, .iconst 1, 1, [(.int 1, 0, [])]),
    (93, .ixor, 1, []),
    (94, .imul, 1, []),
    (95, .iconst 1, 1, [(.int 1, 0, [])]),
    (96, .iadd, 1, []),
    (97, .iaload, 1, []),
    (98, .aload_n 0, 1, [(.null, 0, [])]),
    (99, .getfield 52, 3, [(.null, 7, [30, 803])]),
    (102, .iconst 2, 1, [(.int 2, 0, [])]),
    (103, .iload 5, 2, [(.null, 5, [])]),
    (105, .imul, 1, []),
    (106, .iconst 1, 1, [(.int 1, 0, [])]),
    (107, .iadd, 1, []),
    (108, .iaload, 1, []),
    (109, .if_icmp .lt 16, 3, [(.null, 125, [0, 5])]),
    (112, .bipush 10, 2, [(.int 10, 0, [])]),
    (114, .iload 5, 2, [(.null, 5, [])]),
    (116, .iconst 2, 1, [(.int 2, 0, [])]),
    (117, .idiv, 1, []),
    (118, .imul, 1, []),
    (119, .iload 5, 2, [(.null, 5, [])]),
    (121, .iconst 2, 1, [(.int 2, 0, [])]),
    (122, .irem, 1, []),
    (123, .iadd, 1, []),
    (124, .ireturn, 1, [])]),
  (125, (0, []), [(125, .iinc 5 1, 3, [(.int 1, 5, [])]),
    (128, .goto (-72), 3, [(.null, 56, [0, 5])])]),
  (131, (0, []), [(131, .bipush (-9), 2, [(.int (-9), 0, [])]),
    (133, .ireturn, 1, [])])]
/-- WallsByTheHourModel.waysOn (I)V -/
def kd_231 : List (Nat × ax_Bl) := [(0, (2, [0, 1, 2]), [(0, .iconst 0, 1, [(.int 0, 0, [])]),
    (1, .istore_n 2, 1, [(.null, 2, [])])]),
  (2, (17, [0, 1, 2, 3]), [(2, .iload_n 2, 1, [(.null, 2, [])]),
    (3, .bipush 8, 2, [(.int 8, 0, [])]),
    (5, .if_icmp .ge 59, 3, [(.null, 64, [0])]),
    (8, .aload_n 0, 1, [(.null, 0, [])]),
    (9, .getfield 59, 3, [(.null, 7, [32, 805])]),
    (12, .iload_n 2, 1, [(.null, 2, [])]),
    (13, .lconst 0, 1, [(.long 0, 0, [])]),
    (14, .lastore, 1, []),
    (15, .iconst 0, 1, [(.int 0, 0, [])]),
    (16, .istore_n 3, 1, [(.null, 3, [])])]),
  (17, (0, []), [(17, .iload_n 3, 1, [(.null, 3, [])]),
    (18, .bipush 8, 2, [(.int 8, 0, [])]),
    (20, .if_icmp .ge 38, 3, [(.null, 58, [0, 1, 2])]),
    (23, .aload_n 0, 1, [(.null, 0, [])]),
    (24, .getfield 59, 3, [(.null, 7, [32, 805])]),
    (27, .iload_n 2, 1, [(.null, 2, [])]),
    (28, .dup2, 1, []),
    (29, .laload, 1, []),
    (30, .aload_n 0, 1, [(.null, 0, [])]),
    (31, .iload_n 1, 1, [(.null, 1, [])]),
    (32, .iload_n 3, 1, [(.null, 3, [])]),
    (33, .iload_n 2, 1, [(.null, 2, [])]),
    (34, .invokevirtual 207, 3, [(.null, 171, [4, 1, 7, 4, 949])]),
    (37, .ifCond .eq 12, 3, [(.null, 49, [0, 1, 2, 3])]),
    (40, .aload_n 0, 1, [(.null, 0, [])]),
    (41, .getfield 55, 3, [(.null, 7, [31, 804])]),
    (44, .iload_n 3, 1, [(.null, 3, [])]),
    (45, .laload, 1, []),
    (46, .goto 4, 3, [(.null, 50, [0, 1, 2, 3])])]),
  (49, (50, [0, 1, 2, 3]), [(49, .lconst 0, 1, [(.long 0, 0, [])])]),
  (50, (0, []), [(50, .ladd, 1, []),
    (51, .lastore, 1, []),
    (52, .iinc 3 1, 3, [(.int 1, 3, [])]),
    (55, .goto (-38), 3, [(.null, 17, [0, 1, 2, 3])])]),
  (58, (0, []), [(58, .iinc 2 1, 3, [(.int 1, 2, [])]),
    (61, .goto (-59), 3, [(.null, 2, [0, 1, 2])])]),
  (64, (66, [0, 2]), [(64, .iconst 0, 1, [(.int 0, 0, [])]),
    (65, .istore_n 2, 1, [(.null, 2, [])])]),
  (66, (0, []), [(66, .iload_n 2, 1, [(.null, 2, [])]),
    (67, .bipush 8, 2, [(.int 8, 0, [])]),
    (69, .if_icmp .ge 21, 3, [(.null, 90, [])]),
    (72, .aload_n 0, 1, [(.null, 0, [])]),
    (73, .getfield 55, 3, [(.null, 7, [31, 804])]),
    (76, .iload_n 2, 1, [(.null, 2, [])]),
    (77, .aload_n 0, 1, [(.null, 0, [])]),
    (78, .getfield 59, 3, [(.null, 7, [32, 805])]),
    (81, .iload_n 2, 1, [(.null, 2, [])]),
    (82, .laload, 1, []),
    (83, .lastore, 1, []),
    (84, .iinc 2 1, 3, [(.int 1, 2, [])]),
    (87, .goto (-21), 3, [(.null, 66, [0, 2])])]),
  (90, (0, []), [(90, .return_, 1, [])])]
/-- WallsByTheHourModel.ways (III)J -/
def kd_232 : List (Nat × ax_Bl) := [(0, (15, [0, 1, 2, 3]), [(0, .aload_n 0, 1, [(.null, 0, [])]),
    (1, .iload_n 1, 1, [(.null, 1, [])]),
    (2, .invokevirtual 119, 3, [(.null, 143, [2, 1, 7, 2, 904])]),
    (5, .ifCond .eq 10, 3, [(.null, 15, [0, 1, 2, 3])]),
    (8, .iload_n 2, 1, [(.null, 2, [])]),
    (9, .invokestatic 75, 3, [(.null, 144, [1, 1, 99, 1, 898])]),
    (12, .ifCond .ne 7, 3, [(.null, 19, [0, 1, 2, 3])])]),
  (15, (0, []), [(15, .iconst (-1), 1, [(.int (-1), 0, [])]),
    (16, .goto 10, 3, [(.null, 26, [0, 1, 2, 3])])]),
  (19, (26, [0, 1, 2, 3]), [(19, .iload_n 3, 1, [(.null, 3, [])]),
    (20, .iconst 0, 1, [(.int 0, 0, [])]),
    (21, .bipush 20, 2, [(.int 20, 0, [])]),
    (23, .invokestatic 79, 3, [(.null, 139, [3, 1, 99, 3, 849])])]),
  (26, (0, []), [(26, .istore 4, 2, [(.null, 4, [])]),
    (28, .iload 4, 2, [(.null, 4, [])]),
    (30, .ifCond .eq 10, 3, [(.null, 40, [0, 1, 2, 3])]),
    (33, .aload_n 0, 1, [(.null, 0, [])]),
    (34, .iload 4, 2, [(.null, 4, [])]),
    (36, .invokevirtual 314, 3, [(.null, 137, [2, 2, 7, 2, 1163])]),
    (39, .lreturn, 1, [])]),
  (40, (43, [0, 1, 2, 3, 5]), [(40, .iconst 0, 1, [(.int 0, 0, [])]),
    (41, .istore 5, 2, [(.null, 5, [])])]),
  (43, (0, []), [(43, .iload 5, 2, [(.null, 5, [])]),
    (45, .bipush 8, 2, [(.int 8, 0, [])]),
    (47, .if_icmp .ge 32, 3, [(.null, 79, [0, 1, 2, 3])]),
    (50, .aload_n 0, 1, [(.null, 0, [])]),
    (51, .getfield 55, 3, [(.null, 7, [31, 804])]),
    (54, .iload 5, 2, [(.null, 5, [])]),
    (56, .iload 5, 2, [(.null, 5, [])]),
    (58, .aload_n 0, 1, [(.null, 0, [])]),
    (59, .getfield 22, 3, [(.null, 7, [4, 778])]),
    (62, .iload_n 1, 1, [(.null, 1, [])]),
    (63, .iaload, 1, []),
    (64, .if_icmp .ne 7, 3, [(.null, 71, [0, 1, 2, 3, 5])]),
    (67, .lconst 1, 1, [(.long 1, 0, [])]),
    (68, .goto 4, 3, [(.null, 72, [0, 1, 2, 3, 5])])]),
  (71, (72, [0, 1, 2, 3, 5]), [(71, .lconst 0, 1, [(.long 0, 0, [])])]),
  (72, (0, []), [(72, .lastore, 1, []),
    (73, .iinc 5 1, 3, [(.int 1, 5, [])]),
    (76, .goto (-33), 3, [(.null, 43, [0, 1, 2, 3, 5])])]),
  (79, (82, [0, 1, 2, 3, 5]), [(79, .iconst 0, 1, [(.int 0, 0, [])]),
    (80, .istore 5, 2, [(.null, 5, [])])]),
  (82, (0, []), [(82, .iload 5, 2, [(.null, 5, [])]),
    (84, .iload_n 3, 1, [(.null, 3, [])]),
    (85, .if_icmp .ge 14, 3, [(.null, 99, [0, 2])]),
    (88, .aload_n 0, 1, [(.null, 0, [])]),
    (89, .iload_n 1, 1, [(.null, 1, [])]),
    (90, .invokevirtual 318, 3, [(.null, 231, [2, 0, 7, 4, 1167])]),
    (93, .iinc 5 1, 3, [(.int 1, 5, [])]),
    (96, .goto (-14), 3, [(.null, 82, [0, 1, 2, 3, 5])])]),
  (99, (0, []), [(99, .aload_n 0, 1, [(.null, 0, [])]),
    (100, .getfield 55, 3, [(.null, 7, [31, 804])]),
    (103, .iload_n 2, 1, [(.null, 2, [])]),
    (104, .laload, 1, []),
    (105, .lreturn, 1, [])])]
/-- WallsByTheHourModel.divisor (JJ)J -/
def kd_233 : List (Nat × ax_Bl) := [(0, (6, [4, 6]), [(0, .lload_n 0, 1, [(.null, 0, [])]),
    (1, .lstore 4, 2, [(.null, 4, [])]),
    (3, .lload_n 2, 1, [(.null, 2, [])]),
    (4, .lstore 6, 2, [(.null, 6, [])])]),
  (6, (0, []), [(6, .lload 6, 2, [(.null, 6, [])]),
    (8, .lconst 0, 1, [(.long 0, 0, [])]),
    (9, .lcmp, 1, []),
    (10, .ifCond .eq 21, 3, [(.null, 31, [4])]),
    (13, .lload 4, 2, [(.null, 4, [])]),
    (15, .lload 6, 2, [(.null, 6, [])]),
    (17, .lrem, 1, []),
    (18, .lstore 8, 2, [(.null, 8, [])]),
    (20, .lload 6, 2, [(.null, 6, [])]),
    (22, .lstore 4, 2, [(.null, 4, [])]),
    (24, .lload 8, 2, [(.null, 8, [])]),
    (26, .lstore 6, 2, [(.null, 6, [])]),
    (28, .goto (-22), 3, [(.null, 6, [4, 6])])]),
  (31, (0, []), [(31, .lload 4, 2, [(.null, 4, [])]),
    (33, .lreturn, 1, [])])]
/-- WallsByTheHourModel.partOf (JJI)J -/
def kd_234 : List (Nat × ax_Bl) := [(0, (0, []), [(0, .iload 4, 2, [(.null, 4, [])]),
    (2, .ifCond .ne 7, 3, [(.null, 9, [0, 2])]),
    (5, .lload_n 0, 1, [(.null, 0, [])]),
    (6, .goto 4, 3, [(.null, 10, [0, 2])])]),
  (9, (10, [0, 2]), [(9, .lload_n 2, 1, [(.null, 2, [])])]),
  (10, (0, []), [(10, .lload_n 0, 1, [(.null, 0, [])]),
    (11, .lload_n 2, 1, [(.null, 2, [])]),
    (12, .invokestatic 321, 3, [(.null, 233, [2, 2, 99, 10, 1177])]),
    (15, .ldiv, 1, []),
    (16, .lreturn, 1, [])])]
/-- WallsByTheHourModel.rain (IIII)J -/
def kd_235 : List (Nat × ax_Bl) := [(0, (0, []), [(0, .iload_n 1, 1, [(.null, 1, [])]),
    (1, .invokestatic 75, 3, [(.null, 144, [1, 1, 99, 1, 898])]),
    (4, .ifCond .ne 7, 3, [(.null, 11, [0, 1, 2, 3, 4])]),
    (7, .iconst (-1), 1, [(.int (-1), 0, [])]),
    (8, .goto 50, 3, [(.null, 58, [0, 1, 2, 3, 4])])]),
  (11, (20, [0, 1, 2, 3, 4]), [(11, .iload_n 2, 1, [(.null, 2, [])]),
    (12, .ifCond .lt 8, 3, [(.null, 20, [0, 1, 2, 3, 4])]),
    (15, .iload_n 3, 1, [(.null, 3, [])]),
    (16, .iconst 2, 1, [(.int 2, 0, [])]),
    (17, .if_icmp .ge 8, 3, [(.null, 25, [0, 1, 2, 3, 4])])]),
  (20, (0, []), [(20, .bipush (-4), 2, [(.int (-4), 0, [])]),
    (22, .goto 36, 3, [(.null, 58, [0, 1, 2, 3, 4])])]),
  (25, (37, [0, 1, 2, 3, 4]), [(25, .iload_n 2, 1, [(.null, 2, [])]),
    (26, .bipush 6, 2, [(.int 6, 0, [])]),
    (28, .if_icmp .gt 9, 3, [(.null, 37, [0, 1, 2, 3, 4])]),
    (31, .iload_n 3, 1, [(.null, 3, [])]),
    (32, .bipush 20, 2, [(.int 20, 0, [])]),
    (34, .if_icmp .le 8, 3, [(.null, 42, [0, 1, 2, 3, 4])])]),
  (37, (0, []), [(37, .bipush (-6), 2, [(.int (-6), 0, [])]),
    (39, .goto 19, 3, [(.null, 58, [0, 1, 2, 3, 4])])]),
  (42, (0, []), [(42, .iload 4, 2, [(.null, 4, [])]),
    (44, .iconst 0, 1, [(.int 0, 0, [])]),
    (45, .iconst 1, 1, [(.int 1, 0, [])]),
    (46, .invokestatic 71, 3, [(.null, 138, [3, 1, 99, 3, 880])]),
    (49, .ifCond .ne 8, 3, [(.null, 57, [0, 1, 2, 3, 4])]),
    (52, .bipush (-2), 2, [(.int (-2), 0, [])]),
    (54, .goto 4, 3, [(.null, 58, [0, 1, 2, 3, 4])])]),
  (57, (58, [0, 1, 2, 3, 4]), [(57, .iconst 0, 1, [(.int 0, 0, [])])]),
  (58, (0, []), [(58, .istore 5, 2, [(.null, 5, [])]),
    (60, .iload 5, 2, [(.null, 5, [])]),
    (62, .ifCond .eq 10, 3, [(.null, 72, [0, 1, 2, 3, 4])]),
    (65, .aload_n 0, 1, [(.null, 0, [])]),
    (66, .iload 5, 2, [(.null, 5, [])]),
    (68, .invokevirtual 314, 3, [(.null, 137, [2, 2, 7, 2, 1163])]),
    (71, .lreturn, 1, [])]),
  (72, (81, [0, 1, 2, 3, 4, 6, 8, 10]), [(72, .lconst 0, 1, [(.long 0, 0, [])]),
    (73, .lstore 6, 2, [(.null, 6, [])]),
    (75, .lconst 1, 1, [(.long 1, 0, [])]),
    (76, .lstore 8, 2, [(.null, 8, [])]),
    (78, .iconst 0, 1, [(.int 0, 0, [])]),
    (79, .istore 10, 2, [(.null, 10, [])])]),
  (81, (0, []), [(81, .iload 10, 2, [(.null, 10, [])]),
    (83, .iload_n 2, 1, [(.null, 2, [])]),
    (84, .if_icmp .ge 16, 3, [(.null, 100, [0, 1, 2, 3, 4, 6, 8])]),
    (87, .lload 8, 2, [(.null, 8, [])]),
    (89, .iload_n 3, 1, [(.null, 3, [])]),
    (90, .i2l, 1, []),
    (91, .lmul, 1, []),
    (92, .lstore 8, 2, [(.null, 8, [])]),
    (94, .iinc 10 1, 3, [(.int 1, 10, [])]),
    (97, .goto (-16), 3, [(.null, 81, [0, 1, 2, 3, 4, 6, 8, 10])])]),
  (100, (103, [0, 1, 2, 3, 4, 6, 8, 10]), [(100, .iconst 0, 1, [(.int 0, 0, [])]),
    (101, .istore 10, 2, [(.null, 10, [])])]),
  (103, (121, [0, 1, 2, 3, 4, 6, 8, 10, 11, 13]), [(103, .iload 10, 2, [(.null, 10, [])]),
    (105, .iconst 1, 1, [(.int 1, 0, [])]),
    (106, .iload_n 2, 1, [(.null, 2, [])]),
    (107, .ishl, 1, []),
    (108, .if_icmp .ge 94, 3, [(.null, 202, [4, 6, 8])]),
    (111, .aload_n 0, 1, [(.null, 0, [])]),
    (112, .invokevirtual 244, 3, [(.null, 164, [1, 0, 7, 1, 1020])]),
    (115, .lconst 1, 1, [(.long 1, 0, [])]),
    (116, .lstore 11, 2, [(.null, 11, [])]),
    (118, .iconst 0, 1, [(.int 0, 0, [])]),
    (119, .istore 13, 2, [(.null, 13, [])])]),
  (121, (0, []), [(121, .iload 13, 2, [(.null, 13, [])]),
    (123, .iload_n 2, 1, [(.null, 2, [])]),
    (124, .if_icmp .ge 44, 3, [(.null, 168, [0, 1, 2, 3, 4, 6, 8, 10, 11])]),
    (127, .aload_n 0, 1, [(.null, 0, [])]),
    (128, .iload 10, 2, [(.null, 10, [])]),
    (130, .iload 13, 2, [(.null, 13, [])]),
    (132, .invokestatic 186, 3, [(.null, 140, [2, 1, 99, 2, 958])]),
    (135, .putfield 192, 3, [(.int 1, 7, [22, 796])]),
    (138, .lload 11, 2, [(.null, 11, [])]),
    (140, .aload_n 0, 1, [(.null, 0, [])]),
    (141, .getfield 192, 3, [(.null, 7, [22, 796])]),
    (144, .ifCond .eq 7, 3, [(.null, 151, [0, 1, 2, 3, 4, 6, 8, 10, 13])]),
    (147, .lconst 1, 1, [(.long 1, 0, [])]),
    (148, .goto 7, 3, [(.null, 155, [0, 1, 2, 3, 4, 6, 8, 10, 13])])]),
  (151, (155, [0, 1, 2, 3, 4, 6, 8, 10, 13]), [(151, .iload_n 3, 1, [(.null, 3, [])]),
    (152, .iconst 1, 1, [(.int 1, 0, [])]),
    (153, .isub, 1, []),
    (154, .i2l, 1, [])]),
  (155, (0, []), [(155, .lmul, 1, []),
    (156, .lstore 11, 2, [(.null, 11, [])]),
    (158, .aload_n 0, 1, [(.null, 0, [])]),
    (159, .invokevirtual 231, 3, [(.null, 183, [1, 0, 7, 2, 922])]),
    (162, .iinc 13 1, 3, [(.int 1, 13, [])]),
    (165, .goto (-44), 3, [(.null, 121, [0, 1, 2, 3, 4, 6, 8, 10, 11, 13])])]),
  (168, (0, []), [(168, .lload 6, 2, [(.null, 6, [])]),
    (170, .aload_n 0, 1, [(.null, 0, [])]),
    (171, .iload_n 1, 1, [(.null, 1, [])]),
    (172, .invokevirtual 201, 3, [(.null, 174, [2, 1, 7, 2, 934])]),
    (175, .ifCond .le 8, 3, [(.null, 183, [0, 1, 2, 3, 4, 8, 10])]),
    (178, .lload 11, 2, [(.null, 11, [])]),
    (180, .goto 4, 3, [(.null, 184, [0, 1, 2, 3, 4, 8, 10])])]),
  (183, (184, [0, 1, 2, 3, 4, 8, 10]), [(183, .lconst 0, 1, [(.long 0, 0, [])])]),
  (184, (0, []), [(184, .ladd, 1, []),
    (185, .lstore 6, 2, [(.null, 6, [])]),
    (187, .aload_n 0, 1, [(.null, 0, [])]),
    (188, .iconst 0, 1, [(.int 0, 0, [])]),
    (189, .putfield 192, 3, [(.int 1, 7, [22, 796])]),
    (192, .aload_n 0, 1, [(.null, 0, [])]),
    (193, .invokevirtual 247, 3, [(.null, 165, [1, 0, 7, 1, 1023])]),
    (196, .iinc 10 1, 3, [(.int 1, 10, [])]),
    (199, .goto (-96), 3, [(.null, 103, [0, 1, 2, 3, 4, 6, 8, 10])])]),
  (202, (0, []), [(202, .lload 6, 2, [(.null, 6, [])]),
    (204, .lload 8, 2, [(.null, 8, [])]),
    (206, .iload 4, 2, [(.null, 4, [])]),
    (208, .invokestatic 325, 3, [(.null, 234, [3, 2, 99, 5, 1174])]),
    (211, .lreturn, 1, [])])]
/-- WallsByTheHourModel.mean (I)J -/
def kd_236 : List (Nat × ax_Bl) := [(0, (0, []), [(0, .iload_n 1, 1, [(.null, 1, [])]),
    (1, .iconst 0, 1, [(.int 0, 0, [])]),
    (2, .iconst 1, 1, [(.int 1, 0, [])]),
    (3, .invokestatic 71, 3, [(.null, 138, [3, 1, 99, 3, 880])]),
    (6, .ifCond .ne 10, 3, [(.null, 16, [0, 1])]),
    (9, .aload_n 0, 1, [(.null, 0, [])]),
    (10, .bipush (-2), 2, [(.int (-2), 0, [])]),
    (12, .invokevirtual 314, 3, [(.null, 137, [2, 2, 7, 2, 1163])]),
    (15, .lreturn, 1, [])]),
  (16, (0, []), [(16, .aload_n 0, 1, [(.null, 0, [])]),
    (17, .invokevirtual 228, 3, [(.null, 177, [1, 1, 7, 3, 964])]),
    (20, .invokestatic 265, 3, [(.null, 141, [1, 1, 99, 3, 1061])]),
    (23, .istore_n 2, 1, [(.null, 2, [])]),
    (24, .iload_n 2, 1, [(.null, 2, [])]),
    (25, .ifCond .ne 8, 3, [(.null, 33, [0, 1, 2])]),
    (28, .iload_n 1, 1, [(.null, 1, [])]),
    (29, .i2l, 1, []),
    (30, .goto 14, 3, [(.null, 44, [])])]),
  (33, (44, []), [(33, .aload_n 0, 1, [(.null, 0, [])]),
    (34, .invokevirtual 238, 3, [(.null, 176, [1, 1, 7, 3, 1010])]),
    (37, .i2l, 1, []),
    (38, .iload_n 2, 1, [(.null, 2, [])]),
    (39, .i2l, 1, []),
    (40, .iload_n 1, 1, [(.null, 1, [])]),
    (41, .invokestatic 325, 3, [(.null, 234, [3, 2, 99, 5, 1174])])]),
  (44, (0, []), [(44, .lreturn, 1, [])])]
/-- WallsByTheHourModel.wasSeenAt (II)Z -/
def kd_237 : List (Nat × ax_Bl) := [(0, (0, []), [(0, .iload_n 2, 1, [(.null, 2, [])]),
    (1, .ifCond .le 28, 3, [(.null, 29, [])]),
    (4, .iload_n 2, 1, [(.null, 2, [])]),
    (5, .aload_n 0, 1, [(.null, 0, [])]),
    (6, .getfield 126, 3, [(.null, 7, [9, 783])]),
    (9, .if_icmp .gt 20, 3, [(.null, 29, [])]),
    (12, .aload_n 0, 1, [(.null, 0, [])]),
    (13, .getfield 49, 3, [(.null, 7, [23, 797])]),
    (16, .iload_n 2, 1, [(.null, 2, [])]),
    (17, .iaload, 1, []),
    (18, .iload_n 1, 1, [(.null, 1, [])]),
    (19, .invokestatic 186, 3, [(.null, 140, [2, 1, 99, 2, 958])]),
    (22, .ifCond .eq 7, 3, [(.null, 29, [])]),
    (25, .iconst 1, 1, [(.int 1, 0, [])]),
    (26, .goto 4, 3, [(.null, 30, [])])]),
  (29, (30, []), [(29, .iconst 0, 1, [(.int 0, 0, [])])]),
  (30, (0, []), [(30, .ireturn, 1, [])])]
/-- WallsByTheHourModel.wasSeen (III)I -/
def kd_238 : List (Nat × ax_Bl) := [(0, (0, []), [(0, .iload_n 1, 1, [(.null, 1, [])]),
    (1, .invokestatic 75, 3, [(.null, 144, [1, 1, 99, 1, 898])]),
    (4, .ifCond .ne 7, 3, [(.null, 11, [0, 1, 2, 3])]),
    (7, .iconst (-1), 1, [(.int (-1), 0, [])]),
    (8, .goto 46, 3, [(.null, 54, [0, 1, 2, 3])])]),
  (11, (19, [0, 1, 2, 3]), [(11, .iload_n 2, 1, [(.null, 2, [])]),
    (12, .ifCond .lt 7, 3, [(.null, 19, [0, 1, 2, 3])]),
    (15, .iload_n 3, 1, [(.null, 3, [])]),
    (16, .ifCond .ge 8, 3, [(.null, 24, [0, 1, 2, 3])])]),
  (19, (0, []), [(19, .bipush (-4), 2, [(.int (-4), 0, [])]),
    (21, .goto 33, 3, [(.null, 54, [0, 1, 2, 3])])]),
  (24, (38, [0, 1, 2, 3]), [(24, .iload_n 2, 1, [(.null, 2, [])]),
    (25, .sipush 999, 3, [(.int 999, 0, [])]),
    (28, .if_icmp .gt 10, 3, [(.null, 38, [0, 1, 2, 3])]),
    (31, .iload_n 3, 1, [(.null, 3, [])]),
    (32, .sipush 999, 3, [(.int 999, 0, [])]),
    (35, .if_icmp .le 8, 3, [(.null, 43, [0, 1, 2, 3])])]),
  (38, (0, []), [(38, .bipush (-6), 2, [(.int (-6), 0, [])]),
    (40, .goto 14, 3, [(.null, 54, [0, 1, 2, 3])])]),
  (43, (0, []), [(43, .iload_n 2, 1, [(.null, 2, [])]),
    (44, .iload_n 3, 1, [(.null, 3, [])]),
    (45, .if_icmp .le 8, 3, [(.null, 53, [0, 1, 2, 3])]),
    (48, .bipush (-3), 2, [(.int (-3), 0, [])]),
    (50, .goto 4, 3, [(.null, 54, [0, 1, 2, 3])])]),
  (53, (54, [0, 1, 2, 3]), [(53, .iconst 0, 1, [(.int 0, 0, [])])]),
  (54, (0, []), [(54, .istore 4, 2, [(.null, 4, [])]),
    (56, .iload 4, 2, [(.null, 4, [])]),
    (58, .ifCond .eq 10, 3, [(.null, 68, [0, 1, 2, 3])]),
    (61, .aload_n 0, 1, [(.null, 0, [])]),
    (62, .iload 4, 2, [(.null, 4, [])]),
    (64, .invokevirtual 86, 3, [(.null, 136, [2, 1, 7, 2, 852])]),
    (67, .ireturn, 1, [])]),
  (68, (74, [0, 1, 3, 5, 6]), [(68, .iconst 0, 1, [(.int 0, 0, [])]),
    (69, .istore 5, 2, [(.null, 5, [])]),
    (71, .iload_n 2, 1, [(.null, 2, [])]),
    (72, .istore 6, 2, [(.null, 6, [])])]),
  (74, (0, []), [(74, .iload 6, 2, [(.null, 6, [])]),
    (76, .iload_n 3, 1, [(.null, 3, [])]),
    (77, .if_icmp .gt 29, 3, [(.null, 106, [5])]),
    (80, .iload 5, 2, [(.null, 5, [])]),
    (82, .aload_n 0, 1, [(.null, 0, [])]),
    (83, .iload_n 1, 1, [(.null, 1, [])]),
    (84, .iload 6, 2, [(.null, 6, [])]),
    (86, .invokevirtual 329, 3, [(.null, 237, [3, 1, 7, 3, 1188])]),
    (89, .ifCond .eq 7, 3, [(.null, 96, [0, 1, 3, 6])]),
    (92, .iconst 1, 1, [(.int 1, 0, [])]),
    (93, .goto 4, 3, [(.null, 97, [0, 1, 3, 6])])]),
  (96, (97, [0, 1, 3, 6]), [(96, .iconst 0, 1, [(.int 0, 0, [])])]),
  (97, (0, []), [(97, .iadd, 1, []),
    (98, .istore 5, 2, [(.null, 5, [])]),
    (100, .iinc 6 1, 3, [(.int 1, 6, [])]),
    (103, .goto (-29), 3, [(.null, 74, [0, 1, 3, 5, 6])])]),
  (106, (0, []), [(106, .iload 5, 2, [(.null, 5, [])]),
    (108, .ireturn, 1, [])])]
/-- WallsByTheHourModel.longest (I)I -/
def kd_239 : List (Nat × ax_Bl) := [(0, (0, []), [(0, .iload_n 1, 1, [(.null, 1, [])]),
    (1, .invokestatic 75, 3, [(.null, 144, [1, 1, 99, 1, 898])]),
    (4, .ifCond .ne 9, 3, [(.null, 13, [0, 1])]),
    (7, .aload_n 0, 1, [(.null, 0, [])]),
    (8, .iconst (-1), 1, [(.int (-1), 0, [])]),
    (9, .invokevirtual 86, 3, [(.null, 136, [2, 1, 7, 2, 852])]),
    (12, .ireturn, 1, [])]),
  (13, (20, [0, 1, 2, 3, 4]), [(13, .iconst 0, 1, [(.int 0, 0, [])]),
    (14, .istore_n 2, 1, [(.null, 2, [])]),
    (15, .iconst 0, 1, [(.int 0, 0, [])]),
    (16, .istore_n 3, 1, [(.null, 3, [])]),
    (17, .iconst 1, 1, [(.int 1, 0, [])]),
    (18, .istore 4, 2, [(.null, 4, [])])]),
  (20, (0, []), [(20, .iload 4, 2, [(.null, 4, [])]),
    (22, .aload_n 0, 1, [(.null, 0, [])]),
    (23, .getfield 126, 3, [(.null, 7, [9, 783])]),
    (26, .if_icmp .gt 38, 3, [(.null, 64, [2])]),
    (29, .aload_n 0, 1, [(.null, 0, [])]),
    (30, .iload_n 1, 1, [(.null, 1, [])]),
    (31, .iload 4, 2, [(.null, 4, [])]),
    (33, .invokevirtual 329, 3, [(.null, 237, [3, 1, 7, 3, 1188])]),
    (36, .ifCond .eq 9, 3, [(.null, 45, [0, 1, 2, 4])]),
    (39, .iload_n 3, 1, [(.null, 3, [])]),
    (40, .iconst 1, 1, [(.int 1, 0, [])]),
    (41, .iadd, 1, []),
    (42, .goto 4, 3, [(.null, 46, [0, 1, 2, 4])])]),
  (45, (46, [0, 1, 2, 4]), [(45, .iconst 0, 1, [(.int 0, 0, [])])]),
  (46, (0, []), [(46, .istore_n 3, 1, [(.null, 3, [])]),
    (47, .iload_n 3, 1, [(.null, 3, [])]),
    (48, .iload_n 2, 1, [(.null, 2, [])]),
    (49, .if_icmp .le 7, 3, [(.null, 56, [0, 1, 2, 3, 4])]),
    (52, .iload_n 3, 1, [(.null, 3, [])]),
    (53, .goto 4, 3, [(.null, 57, [0, 1, 3, 4])])]),
  (56, (57, [0, 1, 3, 4]), [(56, .iload_n 2, 1, [(.null, 2, [])])]),
  (57, (0, []), [(57, .istore_n 2, 1, [(.null, 2, [])]),
    (58, .iinc 4 1, 3, [(.int 1, 4, [])]),
    (61, .goto (-41), 3, [(.null, 20, [0, 1, 2, 3, 4])])]),
  (64, (0, []), [(64, .iload_n 2, 1, [(.null, 2, [])]),
    (65, .ireturn, 1, [])])]
/-- WallsByTheHourModel.together (III)I -/
def kd_240 : List (Nat × ax_Bl) := [(0, (0, []), [(0, .iload_n 1, 1, [(.null, 1, [])]),
    (1, .iload_n 2, 1, [(.null, 2, [])]),
    (2, .invokestatic 122, 3, [(.null, 145, [2, 1, 99, 2, 913])]),
    (5, .ifCond .ne 7, 3, [(.null, 12, [0, 1, 2, 3])]),
    (8, .iconst (-1), 1, [(.int (-1), 0, [])]),
    (9, .goto 18, 3, [(.null, 27, [0, 1, 2, 3])])]),
  (12, (0, []), [(12, .iload_n 3, 1, [(.null, 3, [])]),
    (13, .iconst 0, 1, [(.int 0, 0, [])]),
    (14, .iconst 2, 1, [(.int 2, 0, [])]),
    (15, .invokestatic 71, 3, [(.null, 138, [3, 1, 99, 3, 880])]),
    (18, .ifCond .ne 8, 3, [(.null, 26, [0, 1, 2, 3])]),
    (21, .bipush (-2), 2, [(.int (-2), 0, [])]),
    (23, .goto 4, 3, [(.null, 27, [0, 1, 2, 3])])]),
  (26, (27, [0, 1, 2, 3]), [(26, .iconst 0, 1, [(.int 0, 0, [])])]),
  (27, (0, []), [(27, .istore 4, 2, [(.null, 4, [])]),
    (29, .iload 4, 2, [(.null, 4, [])]),
    (31, .ifCond .eq 10, 3, [(.null, 41, [0, 1, 2, 3])]),
    (34, .aload_n 0, 1, [(.null, 0, [])]),
    (35, .iload 4, 2, [(.null, 4, [])]),
    (37, .invokevirtual 86, 3, [(.null, 136, [2, 1, 7, 2, 852])]),
    (40, .ireturn, 1, [])]),
  (41, (47, [0, 1, 2, 3, 5, 6]), [(41, .iconst 0, 1, [(.int 0, 0, [])]),
    (42, .istore 5, 2, [(.null, 5, [])]),
    (44, .iconst 1, 1, [(.int 1, 0, [])]),
    (45, .istore 6, 2, [(.null, 6, [])])]),
  (47, (0, []), [(47, .iload 6, 2, [(.null, 6, [])]),
    (49, .aload_n 0, 1, [(.null, 0, [])]),
    (50, .getfield 126, 3, [(.null, 7, [9, 783])]),
    (53, .if_icmp .gt 79, 3, [(.null, 132, [5])]),
    (56, .aload_n 0, 1, [(.null, 0, [])]),
    (57, .iload_n 1, 1, [(.null, 1, [])]),
    (58, .iload 6, 2, [(.null, 6, [])]),
    (60, .invokevirtual 329, 3, [(.null, 237, [3, 1, 7, 3, 1188])]),
    (63, .istore 7, 2, [(.null, 7, [])]),
    (65, .aload_n 0, 1, [(.null, 0, [])]),
    (66, .iload_n 2, 1, [(.null, 2, [])]),
    (67, .iload 6, 2, [(.null, 6, [])]),
    (69, .invokevirtual 329, 3, [(.null, 237, [3, 1, 7, 3, 1188])]),
    (72, .istore 8, 2, [(.null, 8, [])]),
    (74, .iload 5, 2, [(.null, 5, [])]),
    (76, .iload_n 3, 1, [(.null, 3, [])]),
    (77, .ifCond .ne 16, 3, [(.null, 93, [0, 1, 2, 3, 6, 7, 8])]),
    (80, .iload 7, 2, [(.null, 7, [])]),
    (82, .ifCond .eq 40, 3, [(.null, 122, [0, 1, 2, 3, 6])]),
    (85, .iload 8, 2, [(.null, 8, [])]),
    (87, .ifCond .eq 35, 3, [(.null, 122, [0, 1, 2, 3, 6])]),
    (90, .goto 28, 3, [(.null, 118, [0, 1, 2, 3, 6])])]),
  (93, (0, []), [(93, .iload_n 3, 1, [(.null, 3, [])]),
    (94, .iconst 1, 1, [(.int 1, 0, [])]),
    (95, .if_icmp .ne 16, 3, [(.null, 111, [0, 1, 2, 3, 6, 7, 8])]),
    (98, .iload 7, 2, [(.null, 7, [])]),
    (100, .ifCond .ne 18, 3, [(.null, 118, [0, 1, 2, 3, 6])]),
    (103, .iload 8, 2, [(.null, 8, [])]),
    (105, .ifCond .eq 17, 3, [(.null, 122, [0, 1, 2, 3, 6])]),
    (108, .goto 10, 3, [(.null, 118, [0, 1, 2, 3, 6])])]),
  (111, (118, [0, 1, 2, 3, 6]), [(111, .iload 7, 2, [(.null, 7, [])]),
    (113, .iload 8, 2, [(.null, 8, [])]),
    (115, .if_icmp .eq 7, 3, [(.null, 122, [0, 1, 2, 3, 6])])]),
  (118, (0, []), [(118, .iconst 1, 1, [(.int 1, 0, [])]),
    (119, .goto 4, 3, [(.null, 123, [0, 1, 2, 3, 6])])]),
  (122, (123, [0, 1, 2, 3, 6]), [(122, .iconst 0, 1, [(.int 0, 0, [])])]),
  (123, (0, []), [(123, .iadd, 1, []),
    (124, .istore 5, 2, [(.null, 5, [])]),
    (126, .iinc 6 1, 3, [(.int 1, 6, [])]),
    (129, .goto (-82), 3, [(.null, 47, [0, 1, 2, 3, 5, 6])])]),
  (132, (0, []), [(132, .iload 5, 2, [(.null, 5, [])]),
    (134, .ireturn, 1, [])])]
/-- WallsByTheHourModel.isSo (I)Z -/
def kd_241 : List (Nat × ax_Bl) := [(0, (8, [0, 1, 2, 3]), [(0, .aload_n 0, 1, [(.null, 0, [])]),
    (1, .invokevirtual 244, 3, [(.null, 164, [1, 0, 7, 1, 1020])]),
    (4, .iconst 1, 1, [(.int 1, 0, [])]),
    (5, .istore_n 2, 1, [(.null, 2, [])]),
    (6, .iconst 0, 1, [(.int 0, 0, [])]),
    (7, .istore_n 3, 1, [(.null, 3, [])])]),
  (8, (0, []), [(8, .iload_n 3, 1, [(.null, 3, [])]),
    (9, .aload_n 0, 1, [(.null, 0, [])]),
    (10, .getfield 332, 3, [(.null, 7, [34, 807])]),
    (13, .if_icmp .ge 38, 3, [(.null, 51, [0, 2])]),
    (16, .iload_n 2, 1, [(.null, 2, [])]),
    (17, .ifCond .eq 34, 3, [(.null, 51, [0, 2])]),
    (20, .aload_n 0, 1, [(.null, 0, [])]),
    (21, .getfield 22, 3, [(.null, 7, [4, 778])]),
    (24, .iload_n 1, 1, [(.null, 1, [])]),
    (25, .iaload, 1, []),
    (26, .aload_n 0, 1, [(.null, 0, [])]),
    (27, .getfield 62, 3, [(.null, 7, [33, 806])]),
    (30, .iload_n 3, 1, [(.null, 3, [])]),
    (31, .iaload, 1, []),
    (32, .if_icmp .ne 7, 3, [(.null, 39, [0, 1, 3])]),
    (35, .iconst 1, 1, [(.int 1, 0, [])]),
    (36, .goto 4, 3, [(.null, 40, [0, 1, 3])])]),
  (39, (40, [0, 1, 3]), [(39, .iconst 0, 1, [(.int 0, 0, [])])]),
  (40, (0, []), [(40, .istore_n 2, 1, [(.null, 2, [])]),
    (41, .aload_n 0, 1, [(.null, 0, [])]),
    (42, .invokevirtual 231, 3, [(.null, 183, [1, 0, 7, 2, 922])]),
    (45, .iinc 3 1, 3, [(.int 1, 3, [])]),
    (48, .goto (-40), 3, [(.null, 8, [0, 1, 2, 3])])]),
  (51, (0, []), [(51, .aload_n 0, 1, [(.null, 0, [])]),
    (52, .invokevirtual 247, 3, [(.null, 165, [1, 0, 7, 1, 1023])]),
    (55, .iload_n 2, 1, [(.null, 2, [])]),
    (56, .ireturn, 1, [])])]
/-- WallsByTheHourModel.bitsFor ([III)I -/
def kd_242 : List (Nat × ax_Bl) := [(0, (11, [0, 1, 2, 3, 4, 5, 6]), [(0, .aload_n 1, 1, [(.null, 1, [])]),
    (1, .iload_n 2, 1, [(.null, 2, [])]),
    (2, .iaload, 1, []),
    (3, .istore 4, 2, [(.null, 4, [])]),
    (5, .iconst 0, 1, [(.int 0, 0, [])]),
    (6, .istore 5, 2, [(.null, 5, [])]),
    (8, .iconst 0, 1, [(.int 0, 0, [])]),
    (9, .istore 6, 2, [(.null, 6, [])])]),
  (11, (0, []), [(11, .iload 6, 2, [(.null, 6, [])]),
    (13, .iload_n 3, 1, [(.null, 3, [])]),
    (14, .if_icmp .ge 35, 3, [(.null, 49, [1, 2, 4, 5])]),
    (17, .aload_n 1, 1, [(.null, 1, [])]),
    (18, .iload_n 2, 1, [(.null, 2, [])]),
    (19, .iload 6, 2, [(.null, 6, [])]),
    (21, .iastore, 1, []),
    (22, .iload 5, 2, [(.null, 5, [])]),
    (24, .aload_n 0, 1, [(.null, 0, [])]),
    (25, .iload_n 2, 1, [(.null, 2, [])]),
    (26, .invokevirtual 335, 3, [(.null, 241, [2, 1, 7, 4, 1206])]),
    (29, .ifCond .eq 10, 3, [(.null, 39, [0, 1, 2, 3, 4, 6])]),
    (32, .iconst 1, 1, [(.int 1, 0, [])]),
    (33, .iload 6, 2, [(.null, 6, [])]),
    (35, .ishl, 1, []),
    (36, .goto 4, 3, [(.null, 40, [0, 1, 2, 3, 4, 6])])]),
  (39, (40, [0, 1, 2, 3, 4, 6]), [(39, .iconst 0, 1, [(.int 0, 0, [])])]),
  (40, (0, []), [(40, .ior, 1, []),
    (41, .istore 5, 2, [(.null, 5, [])]),
    (43, .iinc 6 1, 3, [(.int 1, 6, [])]),
    (46, .goto (-35), 3, [(.null, 11, [0, 1, 2, 3, 4, 5, 6])])]),
  (49, (0, []), [(49, .aload_n 1, 1, [(.null, 1, [])]),
    (50, .iload_n 2, 1, [(.null, 2, [])]),
    (51, .iload 4, 2, [(.null, 4, [])]),
    (53, .iastore, 1, []),
    (54, .iload 5, 2, [(.null, 5, [])]),
    (56, .ireturn, 1, [])])]
/-- WallsByTheHourModel.whatIs (II)I -/
def kd_243 : List (Nat × ax_Bl) := [(0, (0, []), [(0, .aload_n 0, 1, [(.null, 0, [])]),
    (1, .iload_n 1, 1, [(.null, 1, [])]),
    (2, .invokevirtual 119, 3, [(.null, 143, [2, 1, 7, 2, 904])]),
    (5, .ifCond .ne 7, 3, [(.null, 12, [0, 1, 2])]),
    (8, .iconst (-1), 1, [(.int (-1), 0, [])]),
    (9, .goto 18, 3, [(.null, 27, [0, 1, 2])])]),
  (12, (0, []), [(12, .iload_n 2, 1, [(.null, 2, [])]),
    (13, .iconst 0, 1, [(.int 0, 0, [])]),
    (14, .iconst 1, 1, [(.int 1, 0, [])]),
    (15, .invokestatic 71, 3, [(.null, 138, [3, 1, 99, 3, 880])]),
    (18, .ifCond .ne 8, 3, [(.null, 26, [0, 1, 2])]),
    (21, .bipush (-2), 2, [(.int (-2), 0, [])]),
    (23, .goto 4, 3, [(.null, 27, [0, 1, 2])])]),
  (26, (27, [0, 1, 2]), [(26, .iconst 0, 1, [(.int 0, 0, [])])]),
  (27, (0, []), [(27, .istore_n 3, 1, [(.null, 3, [])]),
    (28, .iload_n 3, 1, [(.null, 3, [])]),
    (29, .ifCond .eq 9, 3, [(.null, 38, [0, 1, 2])]),
    (32, .aload_n 0, 1, [(.null, 0, [])]),
    (33, .iload_n 3, 1, [(.null, 3, [])]),
    (34, .invokevirtual 86, 3, [(.null, 136, [2, 1, 7, 2, 852])]),
    (37, .ireturn, 1, [])]),
  (38, (0, []), [(38, .iload_n 2, 1, [(.null, 2, [])]),
    (39, .ifCond .ne 17, 3, [(.null, 56, [0, 1])]),
    (42, .aload_n 0, 1, [(.null, 0, [])]),
    (43, .aload_n 0, 1, [(.null, 0, [])]),
    (44, .getfield 13, 3, [(.null, 7, [1, 775])]),
    (47, .iload_n 1, 1, [(.null, 1, [])]),
    (48, .bipush 6, 2, [(.int 6, 0, [])]),
    (50, .invokevirtual 338, 3, [(.null, 242, [4, 1, 7, 7, 1203])]),
    (53, .goto 14, 3, [(.null, 67, [])])]),
  (56, (67, []), [(56, .aload_n 0, 1, [(.null, 0, [])]),
    (57, .aload_n 0, 1, [(.null, 0, [])]),
    (58, .getfield 16, 3, [(.null, 7, [2, 776])]),
    (61, .iload_n 1, 1, [(.null, 1, [])]),
    (62, .bipush 10, 2, [(.int 10, 0, [])]),
    (64, .invokevirtual 338, 3, [(.null, 242, [4, 1, 7, 7, 1203])])]),
  (67, (0, []), [(67, .ireturn, 1, [])])]
/-- WallsByTheHourModel.row (I)I -/
def kd_244 : List (Nat × ax_Bl) := [(0, (24, [0, 1, 2]), [(0, .iload_n 1, 1, [(.null, 1, [])]),
    (1, .iconst 0, 1, [(.int 0, 0, [])]),
    (2, .bipush 99, 2, [(.int 99, 0, [])]),
    (4, .invokestatic 79, 3, [(.null, 139, [3, 1, 99, 3, 849])]),
    (7, .istore_n 2, 1, [(.null, 2, [])]),
    (8, .iload_n 2, 1, [(.null, 2, [])]),
    (9, .ifCond .ne 15, 3, [(.null, 24, [0, 1, 2])]),
    (12, .aload_n 0, 1, [(.null, 0, [])]),
    (13, .getfield 332, 3, [(.null, 7, [34, 807])]),
    (16, .bipush 16, 2, [(.int 16, 0, [])]),
    (18, .if_icmp .ne 6, 3, [(.null, 24, [0, 1, 2])]),
    (21, .bipush (-6), 2, [(.int (-6), 0, [])]),
    (23, .istore_n 2, 1, [(.null, 2, [])])]),
  (24, (0, []), [(24, .iload_n 2, 1, [(.null, 2, [])]),
    (25, .ifCond .eq 9, 3, [(.null, 34, [0, 1])]),
    (28, .aload_n 0, 1, [(.null, 0, [])]),
    (29, .iload_n 2, 1, [(.null, 2, [])]),
    (30, .invokevirtual 86, 3, [(.null, 136, [2, 1, 7, 2, 852])]),
    (33, .ireturn, 1, [])]),
  (34, (0, []), [(34, .aload_n 0, 1, [(.null, 0, [])]),
    (35, .getfield 62, 3, [(.null, 7, [33, 806])]),
    (38, .aload_n 0, 1, [(.null, 0, [])]),
    (39, .getfield 332, 3, [(.null, 7, [34, 807])]),
    (42, .iload_n 1, 1, [(.null, 1, [])]),
    (43, .iastore, 1, []),
    (44, .aload_n 0, 1, [(.null, 0, [])]),
    (45, .dup, 1, []),
    (46, .getfield 332, 3, [(.null, 7, [34, 807])]),
    (49, .iconst 1, 1, [(.int 1, 0, [])]),
    (50, .iadd, 1, []),
    (51, .putfield 332, 3, [(.null, 7, [34, 807])]),
    (54, .aload_n 0, 1, [(.null, 0, [])]),
    (55, .getfield 332, 3, [(.null, 7, [34, 807])]),
    (58, .ireturn, 1, [])])]
/-- WallsByTheHourModel.judge ()I -/
def kd_245 : List (Nat × ax_Bl) := [(0, (9, [0, 1, 2]), [(0, .aload_n 0, 1, [(.null, 0, [])]),
    (1, .invokevirtual 244, 3, [(.null, 164, [1, 0, 7, 1, 1020])]),
    (4, .bipush (-9), 2, [(.int (-9), 0, [])]),
    (6, .istore_n 1, 1, [(.null, 1, [])]),
    (7, .iconst 0, 1, [(.int 0, 0, [])]),
    (8, .istore_n 2, 1, [(.null, 2, [])])]),
  (9, (0, []), [(9, .iload_n 2, 1, [(.null, 2, [])]),
    (10, .aload_n 0, 1, [(.null, 0, [])]),
    (11, .getfield 332, 3, [(.null, 7, [34, 807])]),
    (14, .if_icmp .ge 37, 3, [(.null, 51, [0, 1])]),
    (17, .iload_n 1, 1, [(.null, 1, [])]),
    (18, .ifCond .ge 33, 3, [(.null, 51, [0, 1])]),
    (21, .aload_n 0, 1, [(.null, 0, [])]),
    (22, .invokevirtual 238, 3, [(.null, 176, [1, 1, 7, 3, 1010])]),
    (25, .aload_n 0, 1, [(.null, 0, [])]),
    (26, .getfield 62, 3, [(.null, 7, [33, 806])]),
    (29, .iload_n 2, 1, [(.null, 2, [])]),
    (30, .iaload, 1, []),
    (31, .if_icmp .ne 8, 3, [(.null, 39, [0, 2])]),
    (34, .bipush (-9), 2, [(.int (-9), 0, [])]),
    (36, .goto 4, 3, [(.null, 40, [0, 2])])]),
  (39, (40, [0, 2]), [(39, .iload_n 2, 1, [(.null, 2, [])])]),
  (40, (0, []), [(40, .istore_n 1, 1, [(.null, 1, [])]),
    (41, .aload_n 0, 1, [(.null, 0, [])]),
    (42, .invokevirtual 231, 3, [(.null, 183, [1, 0, 7, 2, 922])]),
    (45, .iinc 2 1, 3, [(.int 1, 2, [])]),
    (48, .goto (-39), 3, [(.null, 9, [0, 1, 2])])]),
  (51, (0, []), [(51, .aload_n 0, 1, [(.null, 0, [])]),
    (52, .invokevirtual 247, 3, [(.null, 165, [1, 0, 7, 1, 1023])]),
    (55, .aload_n 0, 1, [(.null, 0, [])]),
    (56, .iconst 0, 1, [(.int 0, 0, [])]),
    (57, .putfield 332, 3, [(.null, 7, [34, 807])]),
    (60, .iload_n 1, 1, [(.null, 1, [])]),
    (61, .ireturn, 1, [])])]
/-- WallsByTheHourModel.clear ()I -/
def kd_246 : List (Nat × ax_Bl) := [(0, (0, []), [(0, .aload_n 0, 1, [(.null, 0, [])]),
    (1, .getfield 332, 3, [(.null, 7, [34, 807])]),
    (4, .istore_n 1, 1, [(.null, 1, [])]),
    (5, .aload_n 0, 1, [(.null, 0, [])]),
    (6, .iconst 0, 1, [(.int 0, 0, [])]),
    (7, .putfield 332, 3, [(.null, 7, [34, 807])]),
    (10, .iload_n 1, 1, [(.null, 1, [])]),
    (11, .ireturn, 1, [])])]
/-- WallsByTheHourModel.draw (I)I -/
def kd_247 : List (Nat × ax_Bl) := [(0, (0, []), [(0, .aload_n 0, 1, [(.null, 0, [])]),
    (1, .aload_n 0, 1, [(.null, 0, [])]),
    (2, .getfield 342, 3, [(.null, 7, [35, 808])]),
    (5, .ldc_w 345, 3, [(.int 1664525, 0, [1228])]),
    (8, .imul, 1, []),
    (9, .ldc_w 346, 3, [(.int 1013904223, 0, [1229])]),
    (12, .iadd, 1, []),
    (13, .putfield 342, 3, [(.null, 7, [35, 808])]),
    (16, .aload_n 0, 1, [(.null, 0, [])]),
    (17, .getfield 342, 3, [(.null, 7, [35, 808])]),
    (20, .ldc_w 347, 3, [(.int 2147483647, 0, [1230])]),
    (23, .iand, 1, []),
    (24, .sipush 256, 3, [(.int 256, 0, [])]),
    (27, .idiv, 1, []),
    (28, .iload_n 1, 1, [(.null, 1, [])]),
    (29, .irem, 1, []),
    (30, .ireturn, 1, [])])]
/-- WallsByTheHourModel.lots (III)I -/
def kd_248 : List (Nat × ax_Bl) := [(0, (27, [0, 1, 2, 3, 4]), [(0, .iload_n 1, 1, [(.null, 1, [])]),
    (1, .iconst 1, 1, [(.int 1, 0, [])]),
    (2, .bipush 20, 2, [(.int 20, 0, [])]),
    (4, .invokestatic 79, 3, [(.null, 139, [3, 1, 99, 3, 849])]),
    (7, .istore 4, 2, [(.null, 4, [])]),
    (9, .iload 4, 2, [(.null, 4, [])]),
    (11, .ifCond .ne 16, 3, [(.null, 27, [0, 1, 2, 3, 4])]),
    (14, .iload_n 3, 1, [(.null, 3, [])]),
    (15, .iconst 0, 1, [(.int 0, 0, [])]),
    (16, .iconst 1, 1, [(.int 1, 0, [])]),
    (17, .invokestatic 71, 3, [(.null, 138, [3, 1, 99, 3, 880])]),
    (20, .ifCond .ne 7, 3, [(.null, 27, [0, 1, 2, 3, 4])]),
    (23, .bipush (-2), 2, [(.int (-2), 0, [])]),
    (25, .istore 4, 2, [(.null, 4, [])])]),
  (27, (0, []), [(27, .iload 4, 2, [(.null, 4, [])]),
    (29, .ifCond .eq 10, 3, [(.null, 39, [0, 1, 2, 3])]),
    (32, .aload_n 0, 1, [(.null, 0, [])]),
    (33, .iload 4, 2, [(.null, 4, [])]),
    (35, .invokevirtual 86, 3, [(.null, 136, [2, 1, 7, 2, 852])]),
    (38, .ireturn, 1, [])]),
  (39, (50, [0, 1, 3, 5, 6]), [(39, .aload_n 0, 1, [(.null, 0, [])]),
    (40, .iload_n 2, 1, [(.null, 2, [])]),
    (41, .putfield 342, 3, [(.null, 7, [35, 808])]),
    (44, .iconst 0, 1, [(.int 0, 0, [])]),
    (45, .istore 5, 2, [(.null, 5, [])]),
    (47, .iconst 0, 1, [(.int 0, 0, [])]),
    (48, .istore 6, 2, [(.null, 6, [])])]),
  (50, (63, [0, 1, 3, 5, 6, 7]), [(50, .iload 6, 2, [(.null, 6, [])]),
    (52, .iload_n 1, 1, [(.null, 1, [])]),
    (53, .if_icmp .ge 77, 3, [(.null, 130, [5])]),
    (56, .aload_n 0, 1, [(.null, 0, [])]),
    (57, .invokevirtual 244, 3, [(.null, 164, [1, 0, 7, 1, 1020])]),
    (60, .iconst 0, 1, [(.int 0, 0, [])]),
    (61, .istore 7, 2, [(.null, 7, [])])]),
  (63, (0, []), [(63, .iload 7, 2, [(.null, 7, [])]),
    (65, .aload_n 0, 1, [(.null, 0, [])]),
    (66, .getfield 65, 3, [(.null, 7, [8, 782])]),
    (69, .if_icmp .ge 22, 3, [(.null, 91, [0, 1, 3, 5, 6])]),
    (72, .aload_n 0, 1, [(.null, 0, [])]),
    (73, .getfield 22, 3, [(.null, 7, [4, 778])]),
    (76, .iload 7, 2, [(.null, 7, [])]),
    (78, .aload_n 0, 1, [(.null, 0, [])]),
    (79, .bipush 8, 2, [(.int 8, 0, [])]),
    (81, .invokevirtual 348, 3, [(.null, 247, [2, 1, 7, 2, 1225])]),
    (84, .iastore, 1, []),
    (85, .iinc 7 1, 3, [(.int 1, 7, [])]),
    (88, .goto (-25), 3, [(.null, 63, [0, 1, 3, 5, 6, 7])])]),
  (91, (0, []), [(91, .aload_n 0, 1, [(.null, 0, [])]),
    (92, .bipush 6, 2, [(.int 6, 0, [])]),
    (94, .invokevirtual 129, 3, [(.null, 184, [2, 0, 7, 3, 919])]),
    (97, .iload 5, 2, [(.null, 5, [])]),
    (99, .iload_n 3, 1, [(.null, 3, [])]),
    (100, .ifCond .ne 10, 3, [(.null, 110, [0, 1, 3, 6])]),
    (103, .aload_n 0, 1, [(.null, 0, [])]),
    (104, .invokevirtual 238, 3, [(.null, 176, [1, 1, 7, 3, 1010])]),
    (107, .goto 10, 3, [(.null, 117, [0, 1, 3, 6])])]),
  (110, (117, [0, 1, 3, 6]), [(110, .aload_n 0, 1, [(.null, 0, [])]),
    (111, .invokevirtual 228, 3, [(.null, 177, [1, 1, 7, 3, 964])]),
    (114, .invokestatic 265, 3, [(.null, 141, [1, 1, 99, 3, 1061])])]),
  (117, (0, []), [(117, .iadd, 1, []),
    (118, .istore 5, 2, [(.null, 5, [])]),
    (120, .aload_n 0, 1, [(.null, 0, [])]),
    (121, .invokevirtual 247, 3, [(.null, 165, [1, 0, 7, 1, 1023])]),
    (124, .iinc 6 1, 3, [(.int 1, 6, [])]),
    (127, .goto (-77), 3, [(.null, 50, [0, 1, 3, 5, 6])])]),
  (130, (0, []), [(130, .iload 5, 2, [(.null, 5, [])]),
    (132, .ireturn, 1, [])])]
/-- WallsByTheHourModel.allHoles ()I -/
def kd_249 : List (Nat × ax_Bl) := [(0, (4, [0, 1, 2]), [(0, .iconst 0, 1, [(.int 0, 0, [])]),
    (1, .istore_n 1, 1, [(.null, 1, [])]),
    (2, .iconst 0, 1, [(.int 0, 0, [])]),
    (3, .istore_n 2, 1, [(.null, 2, [])])]),
  (4, (0, []), [(4, .iload_n 2, 1, [(.null, 2, [])]),
    (5, .aload_n 0, 1, [(.null, 0, [])]),
    (6, .getfield 65, 3, [(.null, 7, [8, 782])]),
    (9, .if_icmp .ge 18, 3, [(.null, 27, [1])]),
    (12, .iload_n 1, 1, [(.null, 1, [])]),
    (13, .aload_n 0, 1, [(.null, 0, [])]),
    (14, .getfield 25, 3, [(.null, 7, [5, 779])]),
    (17, .iload_n 2, 1, [(.null, 2, [])]),
    (18, .iaload, 1, []),
    (19, .iadd, 1, []),
    (20, .istore_n 1, 1, [(.null, 1, [])]),
    (21, .iinc 2 1, 3, [(.int 1, 2, [])]),
    (24, .goto (-20), 3, [(.null, 4, [0, 1, 2])])]),
  (27, (0, []), [(27, .iload_n 1, 1, [(.null, 1, [])]),
    (28, .ireturn, 1, [])])]
/-- WallsByTheHourModel.count (I)I -/
def kd_250 : List (Nat × ax_Bl) := [(0, (0, []), [(0, .iload_n 1, 1, [(.null, 1, [])]),
    (1, .bipush 11, 2, [(.int 11, 0, [])]),
    (3, .bipush 16, 2, [(.int 16, 0, [])]),
    (5, .invokestatic 71, 3, [(.null, 138, [3, 1, 99, 3, 880])]),
    (8, .ifCond .eq 13, 3, [(.null, 21, [0, 1])]),
    (11, .aload_n 0, 1, [(.null, 0, [])]),
    (12, .getfield 7, 3, [(.null, 7, [0, 774])]),
    (15, .iload_n 1, 1, [(.null, 1, [])]),
    (16, .bipush 10, 2, [(.int 10, 0, [])]),
    (18, .isub, 1, []),
    (19, .iaload, 1, []),
    (20, .ireturn, 1, [])]),
  (21, (0, []), [(21, .iload_n 1, 1, [(.null, 1, [])]),
    (22, .tableswitch 86 0 7 #[46, 51, 56, 61, 66, 71, 76, 81], 46, [(.int 0, 68, [0]), (.int 1, 73, [0]), (.int 2, 78, [0]), (.int 3, 83, [0]), (.int 4, 88, [0]), (.int 5, 93, [0]), (.int 6, 98, [0]), (.int 7, 103, [0]), (.null, 108, [])])]),
  (68, (0, []), [(68, .aload_n 0, 1, [(.null, 0, [])]),
    (69, .getfield 65, 3, [(.null, 7, [8, 782])]),
    (72, .ireturn, 1, [])]),
  (73, (0, []), [(73, .aload_n 0, 1, [(.null, 0, [])]),
    (74, .getfield 126, 3, [(.null, 7, [9, 783])]),
    (77, .ireturn, 1, [])]),
  (78, (0, []), [(78, .aload_n 0, 1, [(.null, 0, [])]),
    (79, .invokevirtual 238, 3, [(.null, 176, [1, 1, 7, 3, 1010])]),
    (82, .ireturn, 1, [])]),
  (83, (0, []), [(83, .aload_n 0, 1, [(.null, 0, [])]),
    (84, .invokevirtual 228, 3, [(.null, 177, [1, 1, 7, 3, 964])]),
    (87, .ireturn, 1, [])]),
  (88, (0, []), [(88, .aload_n 0, 1, [(.null, 0, [])]),
    (89, .invokevirtual 262, 3, [(.null, 179, [1, 1, 7, 3, 1058])]),
    (92, .ireturn, 1, [])]),
  (93, (0, []), [(93, .aload_n 0, 1, [(.null, 0, [])]),
    (94, .invokevirtual 351, 3, [(.null, 249, [1, 1, 7, 3, 1235])]),
    (97, .ireturn, 1, [])]),
  (98, (0, []), [(98, .aload_n 0, 1, [(.null, 0, [])]),
    (99, .getfield 332, 3, [(.null, 7, [34, 807])]),
    (102, .ireturn, 1, [])]),
  (103, (0, []), [(103, .aload_n 0, 1, [(.null, 0, [])]),
    (104, .getfield 83, 3, [(.null, 7, [14, 788])]),
    (107, .ireturn, 1, [])]),
  (108, (0, []), [(108, .bipush (-9), 2, [(.int (-9), 0, [])]),
    (110, .ireturn, 1, [])])]
/-- java/lang/Integer.bitCount (I)I -/
def kd_251 : List (Nat × ax_Bl) := [(0, (0, []), [(0, .iload_n 0, 1, [(.null, 0, [])]),
    (1, .iload_n 0, 1, [(.null, 0, [])]),
    (2, .iconst 1, 1, [(.int 1, 0, [])]),
    (3, .iushr, 1, []),
    (4, .ldc_w 265, 3, [(.int 1431655765, 0, [486])]),
    (7, .iand, 1, []),
    (8, .isub, 1, []),
    (9, .istore_n 0, 1, [(.null, 0, [])]),
    (10, .iload_n 0, 1, [(.null, 0, [])]),
    (11, .ldc_w 266, 3, [(.int 858993459, 0, [487])]),
    (14, .iand, 1, []),
    (15, .iload_n 0, 1, [(.null, 0, [])]),
    (16, .iconst 2, 1, [(.int 2, 0, [])]),
    (17, .iushr, 1, []),
    (18, .ldc_w 266, 3, [(.int 858993459, 0, [487])]),
    (21, .iand, 1, []),
    (22, .iadd, 1, []),
    (23, .istore_n 0, 1, [(.null, 0, [])]),
    (24, .iload_n 0, 1, [(.null, 0, [])]),
    (25, .iload_n 0, 1, [(.null, 0, [])]),
    (26, .iconst 4, 1, [(.int 4, 0, [])]),
    (27, .iushr, 1, []),
    (28, .iadd, 1, []),
    (29, .ldc_w 267, 3, [(.int 252645135, 0, [488])]),
    (32, .iand, 1, []),
    (33, .istore_n 0, 1, [(.null, 0, [])]),
    (34, .iload_n 0, 1, [(.null, 0, [])]),
    (35, .iload_n 0, 1, [(.null, 0, [])]),
    (36, .bipush 8, 2, [(.int 8, 0, [])]),
    (38, .iushr, 1, []),
    (39, .iadd, 1, []),
    (40, .istore_n 0, 1, [(.null, 0, [])]),
    (41, .iload_n 0, 1, [(.null, 0, [])]),
    (42, .iload_n 0, 1, [(.null, 0, [])]),
    (43, .bipush 16, 2, [(.int 16, 0, [])]),
    (45, .iushr, 1, []),
    (46, .iadd, 1, []),
    (47, .istore_n 0, 1, [(.null, 0, [])]),
    (48, .iload_n 0, 1, [(.null, 0, [])]),
    (49, .bipush 63, 2, [(.int 63, 0, [])]),
    (51, .iand, 1, []),
    (52, .ireturn, 1, [])])]
/-- java/lang/String.indexOf (I)I -/
def kd_252 : List (Nat × ax_Bl) := [(0, (0, []), [(0, .aload_n 0, 1, [(.null, 0, [])]),
    (1, .iload_n 1, 1, [(.null, 1, [])]),
    (2, .iconst 0, 1, [(.int 0, 0, [])]),
    (3, .invokevirtual 633, 3, [(.null, 253, [3, 1, 98, 3, 222])]),
    (6, .ireturn, 1, [])])]
/-- java/lang/String.indexOf (II)I -/
def kd_253 : List (Nat × ax_Bl) := [(0, (0, []), [(0, .aload_n 0, 1, [(.null, 0, [])]),
    (1, .invokevirtual 492, 3, [(.null, 254, [1, 1, 98, 1, 226])]),
    (4, .ifCond .eq 19, 3, [(.null, 23, [0, 1, 2])]),
    (7, .aload_n 0, 1, [(.null, 0, [])]),
    (8, .getfield 9, 3, [(.ref 68, 98, [0, 1239])]),
    (11, .iload_n 1, 1, [(.null, 1, [])]),
    (12, .iload_n 2, 1, [(.null, 2, [])]),
    (13, .aload_n 0, 1, [(.null, 0, [])]),
    (14, .invokevirtual 505, 3, [(.null, 255, [1, 1, 98, 1, 231])]),
    (17, .invokestatic 637, 3, [(.null, 257, [4, 1, 99, 4, 239])]),
    (20, .goto 16, 3, [(.null, 36, [])])]),
  (36, (0, []), [(36, .ireturn, 1, [])])]
/-- java/lang/String.isLatin1 ()Z -/
def kd_254 : List (Nat × ax_Bl) := [(0, (0, []), [(0, .getstatic 38, 3, [(.int 1, 0, [230])]),
    (3, .ifCond .eq 14, 3, [(.null, 17, [])]),
    (6, .aload_n 0, 1, [(.null, 0, [])]),
    (7, .getfield 15, 3, [(.int 0, 98, [0, 1238])]),
    (10, .ifCond .ne 7, 3, [(.null, 17, [])]),
    (13, .iconst 1, 1, [(.int 1, 0, [])]),
    (14, .goto 4, 3, [(.null, 18, [])])]),
  (17, (18, []), [(17, .iconst 0, 1, [(.int 0, 0, [])])]),
  (18, (0, []), [(18, .ireturn, 1, [])])]
/-- java/lang/String.length ()I -/
def kd_255 : List (Nat × ax_Bl) := [(0, (0, []), [(0, .aload_n 0, 1, [(.null, 0, [])]),
    (1, .getfield 9, 3, [(.ref 68, 98, [0, 1239])]),
    (4, .arraylength, 1, []),
    (5, .aload_n 0, 1, [(.null, 0, [])]),
    (6, .invokevirtual 335, 3, [(.null, 256, [1, 1, 98, 1, 235])]),
    (9, .ishr, 1, []),
    (10, .ireturn, 1, [])])]
/-- java/lang/String.coder ()B -/
def kd_256 : List (Nat × ax_Bl) := [(0, (0, []), [(0, .getstatic 38, 3, [(.int 1, 0, [230])]),
    (3, .ifCond .eq 10, 3, [(.null, 13, [])]),
    (6, .aload_n 0, 1, [(.null, 0, [])]),
    (7, .getfield 15, 3, [(.int 0, 98, [0, 1238])]),
    (10, .goto 4, 3, [(.null, 14, [])])]),
  (13, (14, []), [(13, .iconst 1, 1, [(.int 1, 0, [])])]),
  (14, (0, []), [(14, .ireturn, 1, [])])]
/-- java/lang/StringLatin1.indexOf ([BIII)I -/
def kd_257 : List (Nat × ax_Bl) := [(0, (0, []), [(0, .iload_n 1, 1, [(.null, 1, [])]),
    (1, .invokestatic 88, 3, [(.null, 258, [1, 1, 99, 1, 242])]),
    (4, .ifCond .ne 5, 3, [(.null, 9, [0, 1, 2, 3])]),
    (7, .iconst (-1), 1, [(.int (-1), 0, [])]),
    (8, .ireturn, 1, [])]),
  (9, (0, []), [(9, .iload_n 2, 1, [(.null, 2, [])]),
    (10, .iconst 0, 1, [(.int 0, 0, [])]),
    (11, .invokestatic 92, 3, [(.null, 1, [245])]),
    (14, .istore_n 2, 1, [(.null, 2, [])]),
    (15, .iload_n 3, 1, [(.null, 3, [])]),
    (16, .aload_n 0, 1, [(.null, 0, [])]),
    (17, .arraylength, 1, []),
    (18, .invokestatic 38, 3, [(.null, 2, [248])]),
    (21, .istore_n 3, 1, [(.null, 3, [])]),
    (22, .iload_n 2, 1, [(.null, 2, [])]),
    (23, .iload_n 3, 1, [(.null, 3, [])]),
    (24, .if_icmp .lt 5, 3, [(.null, 29, [0, 1, 2, 3])]),
    (27, .iconst (-1), 1, [(.int (-1), 0, [])]),
    (28, .ireturn, 1, [])]),
  (29, (0, []), [(29, .aload_n 0, 1, [(.null, 0, [])]),
    (30, .iload_n 1, 1, [(.null, 1, [])]),
    (31, .iload_n 2, 1, [(.null, 2, [])]),
    (32, .iload_n 3, 1, [(.null, 3, [])]),
    (33, .invokestatic 95, 3, [(.null, 259, [4, 1, 99, 6, 251])]),
    (36, .ireturn, 1, [])])]
/-- java/lang/StringLatin1.canEncode (I)Z -/
def kd_258 : List (Nat × ax_Bl) := [(0, (0, []), [(0, .iload_n 0, 1, [(.null, 0, [])]),
    (1, .ifCond .lt 14, 3, [(.null, 15, [])]),
    (4, .iload_n 0, 1, [(.null, 0, [])]),
    (5, .sipush 255, 3, [(.int 255, 0, [])]),
    (8, .if_icmp .gt 7, 3, [(.null, 15, [])]),
    (11, .iconst 1, 1, [(.int 1, 0, [])]),
    (12, .goto 4, 3, [(.null, 16, [])])]),
  (15, (16, []), [(15, .iconst 0, 1, [(.int 0, 0, [])])]),
  (16, (0, []), [(16, .ireturn, 1, [])])]
/-- java/lang/StringLatin1.indexOfChar ([BIII)I -/
def kd_259 : List (Nat × ax_Bl) := [(0, (7, [0, 3, 4, 5]), [(0, .iload_n 1, 1, [(.null, 1, [])]),
    (1, .i2b, 1, []),
    (2, .istore 4, 2, [(.null, 4, [])]),
    (4, .iload_n 2, 1, [(.null, 2, [])]),
    (5, .istore 5, 2, [(.null, 5, [])])]),
  (7, (0, []), [(7, .iload 5, 2, [(.null, 5, [])]),
    (9, .iload_n 3, 1, [(.null, 3, [])]),
    (10, .if_icmp .ge 21, 3, [(.null, 31, [])]),
    (13, .aload_n 0, 1, [(.null, 0, [])]),
    (14, .iload 5, 2, [(.null, 5, [])]),
    (16, .baload, 1, []),
    (17, .iload 4, 2, [(.null, 4, [])]),
    (19, .if_icmp .ne 6, 3, [(.null, 25, [0, 3, 4, 5])]),
    (22, .iload 5, 2, [(.null, 5, [])]),
    (24, .ireturn, 1, [])]),
  (25, (0, []), [(25, .iinc 5 1, 3, [(.int 1, 5, [])]),
    (28, .goto (-21), 3, [(.null, 7, [0, 3, 4, 5])])]),
  (31, (0, []), [(31, .iconst (-1), 1, [(.int (-1), 0, [])]),
    (32, .ireturn, 1, [])])]
/-- WallsByTheHourLaw.law ([I)Z -/
def kd_260 : List (Nat × ax_Bl) := [(18, (0, []), [(18, .iload_n 3, 1, [(.null, 3, [])]),
    (19, .aload_n 0, 1, [(.null, 0, [])]),
    (20, .arraylength, 1, []),
    (21, .iconst 5, 1, [(.int 5, 0, [])]),
    (22, .isub, 1, []),
    (23, .if_icmp .gt 1492, 3, [(.null, 1515, [])]),
    (26, .aload_n 0, 1, [(.null, 0, [])]),
    (27, .iload_n 3, 1, [(.null, 3, [])]),
    (28, .iaload, 1, []),
    (29, .bipush 63, 2, [(.int 63, 0, [])]),
    (31, .iand, 1, []),
    (32, .tableswitch 1477 0 43 #[192, 215, 228, 261, 294, 327, 360, 403, 436, 479, 502, 535, 568, 591, 624, 647, 660, 703, 726, 759, 802, 815, 848, 881, 904, 927, 950, 973, 996, 1029, 1072, 1116, 1170, 1194, 1237, 1260, 1303, 1336, 1359, 1372, 1385, 1428, 1441, 1454], 192, [(.int 0, 224, [0, 1, 2, 3]), (.int 1, 247, [0, 1, 2, 3]), (.int 2, 260, [0, 1, 2, 3]), (.int 3, 293, [0, 1, 2, 3]), (.int 4, 326, [0, 1, 2, 3]), (.int 5, 359, [0, 1, 2, 3]), (.int 6, 392, [0, 1, 2, 3]), (.int 7, 435, [0, 1, 2, 3]), (.int 8, 468, [0, 1, 2, 3]), (.int 9, 511, [0, 1, 2, 3]), (.int 10, 534, [0, 1, 2, 3]), (.int 11, 567, [0, 1, 2, 3]), (.int 12, 600, [0, 1, 2, 3]), (.int 13, 623, [0, 1, 2, 3]), (.int 14, 656, [0, 1, 2, 3]), (.int 15, 679, [0, 1, 2, 3]), (.int 16, 692, [0, 1, 2, 3]), (.int 17, 735, [0, 1, 2, 3]), (.int 18, 758, [0, 1, 2, 3]), (.int 19, 791, [0, 1, 2, 3]), (.int 20, 834, [0, 1, 2, 3]), (.int 21, 847, [0, 1, 2, 3]), (.int 22, 880, [0, 1, 2, 3]), (.int 23, 913, [0, 1, 2, 3]), (.int 24, 936, [0, 1, 2, 3]), (.int 25, 959, [0, 1, 2, 3]), (.int 26, 982, [0, 1, 2, 3]), (.int 27, 1005, [0, 1, 2, 3]), (.int 28, 1028, [0, 1, 2, 3]), (.int 29, 1061, [0, 1, 2, 3]), (.int 30, 1104, [0, 1, 2, 3]), (.int 31, 1148, [0, 1, 2, 3]), (.int 32, 1202, [0, 1, 2, 3]), (.int 33, 1226, [0, 1, 2, 3]), (.int 34, 1269, [0, 1, 2, 3]), (.int 35, 1292, [0, 1, 2, 3]), (.int 36, 1335, [0, 1, 2, 3]), (.int 37, 1368, [0, 1, 2, 3]), (.int 38, 1391, [0, 1, 2, 3]), (.int 39, 1404, [0, 1, 2, 3]), (.int 40, 1417, [0, 1, 2, 3]), (.int 41, 1460, [0, 1, 2, 3]), (.int 42, 1473, [0, 1, 2, 3]), (.int 43, 1486, [0, 1, 2, 3]), (.null, 1509, [0, 1, 2, 3])])]),
  (224, (0, []), [(224, .aload_n 1, 1, [(.null, 1, [])]),
    (225, .aload_n 0, 1, [(.null, 0, [])]),
    (226, .iload_n 3, 1, [(.null, 3, [])]),
    (227, .iconst 1, 1, [(.int 1, 0, [])]),
    (228, .iadd, 1, []),
    (229, .iaload, 1, []),
    (230, .invokevirtual 13, 3, [(.null, 79, [2, 1, 6, 2, 182])]),
    (233, .aload_n 2, 1, [(.null, 2, [])]),
    (234, .aload_n 0, 1, [(.null, 0, [])]),
    (235, .iload_n 3, 1, [(.null, 3, [])]),
    (236, .iconst 1, 1, [(.int 1, 0, [])]),
    (237, .iadd, 1, []),
    (238, .iaload, 1, []),
    (239, .invokevirtual 17, 3, [(.null, 146, [2, 1, 7, 3, 845])]),
    (242, .if_icmp .eq 1267, 3, [(.null, 1509, [0, 1, 2, 3])]),
    (245, .iconst 0, 1, [(.int 0, 0, [])]),
    (246, .ireturn, 1, [])]),
  (247, (0, []), [(247, .aload_n 1, 1, [(.null, 1, [])]),
    (248, .invokevirtual 18, 3, [(.null, 80, [1, 1, 6, 5, 193])]),
    (251, .aload_n 2, 1, [(.null, 2, [])]),
    (252, .invokevirtual 22, 3, [(.null, 160, [1, 1, 7, 3, 855])]),
    (255, .if_icmp .eq 1254, 3, [(.null, 1509, [0, 1, 2, 3])]),
    (258, .iconst 0, 1, [(.int 0, 0, [])]),
    (259, .ireturn, 1, [])]),
  (260, (0, []), [(260, .aload_n 1, 1, [(.null, 1, [])]),
    (261, .aload_n 0, 1, [(.null, 0, [])]),
    (262, .iload_n 3, 1, [(.null, 3, [])]),
    (263, .iconst 1, 1, [(.int 1, 0, [])]),
    (264, .iadd, 1, []),
    (265, .iaload, 1, []),
    (266, .aload_n 0, 1, [(.null, 0, [])]),
    (267, .iload_n 3, 1, [(.null, 3, [])]),
    (268, .iconst 2, 1, [(.int 2, 0, [])]),
    (269, .iadd, 1, []),
    (270, .iaload, 1, []),
    (271, .invokevirtual 23, 3, [(.null, 83, [3, 1, 6, 3, 356])]),
    (274, .aload_n 2, 1, [(.null, 2, [])]),
    (275, .aload_n 0, 1, [(.null, 0, [])]),
    (276, .iload_n 3, 1, [(.null, 3, [])]),
    (277, .iconst 1, 1, [(.int 1, 0, [])]),
    (278, .iadd, 1, []),
    (279, .iaload, 1, []),
    (280, .aload_n 0, 1, [(.null, 0, [])]),
    (281, .iload_n 3, 1, [(.null, 3, [])]),
    (282, .iconst 2, 1, [(.int 2, 0, [])]),
    (283, .iadd, 1, []),
    (284, .iaload, 1, []),
    (285, .invokevirtual 27, 3, [(.null, 185, [3, 1, 7, 3, 975])]),
    (288, .if_icmp .eq 1221, 3, [(.null, 1509, [0, 1, 2, 3])]),
    (291, .iconst 0, 1, [(.int 0, 0, [])]),
    (292, .ireturn, 1, [])]),
  (293, (0, []), [(293, .aload_n 1, 1, [(.null, 1, [])]),
    (294, .aload_n 0, 1, [(.null, 0, [])]),
    (295, .iload_n 3, 1, [(.null, 3, [])]),
    (296, .iconst 1, 1, [(.int 1, 0, [])]),
    (297, .iadd, 1, []),
    (298, .iaload, 1, []),
    (299, .aload_n 0, 1, [(.null, 0, [])]),
    (300, .iload_n 3, 1, [(.null, 3, [])]),
    (301, .iconst 2, 1, [(.int 2, 0, [])]),
    (302, .iadd, 1, []),
    (303, .iaload, 1, []),
    (304, .invokevirtual 28, 3, [(.null, 84, [3, 1, 6, 3, 361])]),
    (307, .aload_n 2, 1, [(.null, 2, [])]),
    (308, .aload_n 0, 1, [(.null, 0, [])]),
    (309, .iload_n 3, 1, [(.null, 3, [])]),
    (310, .iconst 1, 1, [(.int 1, 0, [])]),
    (311, .iadd, 1, []),
    (312, .iaload, 1, []),
    (313, .aload_n 0, 1, [(.null, 0, [])]),
    (314, .iload_n 3, 1, [(.null, 3, [])]),
    (315, .iconst 2, 1, [(.int 2, 0, [])]),
    (316, .iadd, 1, []),
    (317, .iaload, 1, []),
    (318, .invokevirtual 31, 3, [(.null, 186, [3, 1, 7, 3, 979])]),
    (321, .if_icmp .eq 1188, 3, [(.null, 1509, [0, 1, 2, 3])]),
    (324, .iconst 0, 1, [(.int 0, 0, [])]),
    (325, .ireturn, 1, [])]),
  (326, (0, []), [(326, .aload_n 1, 1, [(.null, 1, [])]),
    (327, .aload_n 0, 1, [(.null, 0, [])]),
    (328, .iload_n 3, 1, [(.null, 3, [])]),
    (329, .iconst 1, 1, [(.int 1, 0, [])]),
    (330, .iadd, 1, []),
    (331, .iaload, 1, []),
    (332, .aload_n 0, 1, [(.null, 0, [])]),
    (333, .iload_n 3, 1, [(.null, 3, [])]),
    (334, .iconst 2, 1, [(.int 2, 0, [])]),
    (335, .iadd, 1, []),
    (336, .iaload, 1, []),
    (337, .invokevirtual 32, 3, [(.null, 85, [3, 1, 6, 4, 375])]),
    (340, .aload_n 2, 1, [(.null, 2, [])]),
    (341, .aload_n 0, 1, [(.null, 0, [])]),
    (342, .iload_n 3, 1, [(.null, 3, [])]),
    (343, .iconst 1, 1, [(.int 1, 0, [])]),
    (344, .iadd, 1, []),
    (345, .iaload, 1, []),
    (346, .aload_n 0, 1, [(.null, 0, [])]),
    (347, .iload_n 3, 1, [(.null, 3, [])]),
    (348, .iconst 2, 1, [(.int 2, 0, [])]),
    (349, .iadd, 1, []),
    (350, .iaload, 1, []),
    (351, .invokevirtual 35, 3, [(.null, 187, [3, 1, 7, 4, 986])]),
    (354, .if_icmp .eq 1155, 3, [(.null, 1509, [0, 1, 2, 3])]),
    (357, .iconst 0, 1, [(.int 0, 0, [])]),
    (358, .ireturn, 1, [])]),
  (359, (0, []), [(359, .aload_n 1, 1, [(.null, 1, [])]),
    (360, .aload_n 0, 1, [(.null, 0, [])]),
    (361, .iload_n 3, 1, [(.null, 3, [])]),
    (362, .iconst 1, 1, [(.int 1, 0, [])]),
    (363, .iadd, 1, []),
    (364, .iaload, 1, []),
    (365, .aload_n 0, 1, [(.null, 0, [])]),
    (366, .iload_n 3, 1, [(.null, 3, [])]),
    (367, .iconst 2, 1, [(.int 2, 0, [])]),
    (368, .iadd, 1, []),
    (369, .iaload, 1, []),
    (370, .invokevirtual 36, 3, [(.null, 86, [3, 1, 6, 4, 379])]),
    (373, .aload_n 2, 1, [(.null, 2, [])]),
    (374, .aload_n 0, 1, [(.null, 0, [])]),
    (375, .iload_n 3, 1, [(.null, 3, [])]),
    (376, .iconst 1, 1, [(.int 1, 0, [])]),
    (377, .iadd, 1, []),
    (378, .iaload, 1, []),
    (379, .aload_n 0, 1, [(.null, 0, [])]),
    (380, .iload_n 3, 1, [(.null, 3, [])]),
    (381, .iconst 2, 1, [(.int 2, 0, [])]),
    (382, .iadd, 1, []),
    (383, .iaload, 1, []),
    (384, .invokevirtual 39, 3, [(.null, 188, [3, 1, 7, 4, 990])]),
    (387, .if_icmp .eq 1122, 3, [(.null, 1509, [0, 1, 2, 3])]),
    (390, .iconst 0, 1, [(.int 0, 0, [])]),
    (391, .ireturn, 1, [])]),
  (392, (0, []), [(392, .aload_n 1, 1, [(.null, 1, [])]),
    (393, .aload_n 0, 1, [(.null, 0, [])]),
    (394, .iload_n 3, 1, [(.null, 3, [])]),
    (395, .iconst 1, 1, [(.int 1, 0, [])]),
    (396, .iadd, 1, []),
    (397, .iaload, 1, []),
    (398, .aload_n 0, 1, [(.null, 0, [])]),
    (399, .iload_n 3, 1, [(.null, 3, [])]),
    (400, .iconst 2, 1, [(.int 2, 0, [])]),
    (401, .iadd, 1, []),
    (402, .iaload, 1, []),
    (403, .aload_n 0, 1, [(.null, 0, [])]),
    (404, .iload_n 3, 1, [(.null, 3, [])]),
    (405, .iconst 3, 1, [(.int 3, 0, [])]),
    (406, .iadd, 1, []),
    (407, .iaload, 1, []),
    (408, .invokevirtual 40, 3, [(.null, 87, [4, 1, 6, 6, 383])]),
    (411, .aload_n 2, 1, [(.null, 2, [])]),
    (412, .aload_n 0, 1, [(.null, 0, [])]),
    (413, .iload_n 3, 1, [(.null, 3, [])]),
    (414, .iconst 1, 1, [(.int 1, 0, [])]),
    (415, .iadd, 1, []),
    (416, .iaload, 1, []),
    (417, .aload_n 0, 1, [(.null, 0, [])]),
    (418, .iload_n 3, 1, [(.null, 3, [])]),
    (419, .iconst 2, 1, [(.int 2, 0, [])]),
    (420, .iadd, 1, []),
    (421, .iaload, 1, []),
    (422, .aload_n 0, 1, [(.null, 0, [])]),
    (423, .iload_n 3, 1, [(.null, 3, [])]),
    (424, .iconst 3, 1, [(.int 3, 0, [])]),
    (425, .iadd, 1, []),
    (426, .iaload, 1, []),
    (427, .invokevirtual 44, 3, [(.null, 189, [4, 1, 7, 6, 994])]),
    (430, .if_icmp .eq 1079, 3, [(.null, 1509, [0, 1, 2, 3])]),
    (433, .iconst 0, 1, [(.int 0, 0, [])]),
    (434, .ireturn, 1, [])]),
  (435, (0, []), [(435, .aload_n 1, 1, [(.null, 1, [])]),
    (436, .aload_n 0, 1, [(.null, 0, [])]),
    (437, .iload_n 3, 1, [(.null, 3, [])]),
    (438, .iconst 1, 1, [(.int 1, 0, [])]),
    (439, .iadd, 1, []),
    (440, .iaload, 1, []),
    (441, .aload_n 0, 1, [(.null, 0, [])]),
    (442, .iload_n 3, 1, [(.null, 3, [])]),
    (443, .iconst 2, 1, [(.int 2, 0, [])]),
    (444, .iadd, 1, []),
    (445, .iaload, 1, []),
    (446, .invokevirtual 45, 3, [(.null, 88, [3, 1, 6, 3, 392])]),
    (449, .aload_n 2, 1, [(.null, 2, [])]),
    (450, .aload_n 0, 1, [(.null, 0, [])]),
    (451, .iload_n 3, 1, [(.null, 3, [])]),
    (452, .iconst 1, 1, [(.int 1, 0, [])]),
    (453, .iadd, 1, []),
    (454, .iaload, 1, []),
    (455, .aload_n 0, 1, [(.null, 0, [])]),
    (456, .iload_n 3, 1, [(.null, 3, [])]),
    (457, .iconst 2, 1, [(.int 2, 0, [])]),
    (458, .iadd, 1, []),
    (459, .iaload, 1, []),
    (460, .invokevirtual 48, 3, [(.null, 190, [3, 1, 7, 3, 998])]),
    (463, .if_icmp .eq 1046, 3, [(.null, 1509, [0, 1, 2, 3])]),
    (466, .iconst 0, 1, [(.int 0, 0, [])]),
    (467, .ireturn, 1, [])]),
  (468, (0, []), [(468, .aload_n 1, 1, [(.null, 1, [])]),
    (469, .aload_n 0, 1, [(.null, 0, [])]),
    (470, .iload_n 3, 1, [(.null, 3, [])]),
    (471, .iconst 1, 1, [(.int 1, 0, [])]),
    (472, .iadd, 1, []),
    (473, .iaload, 1, []),
    (474, .aload_n 0, 1, [(.null, 0, [])]),
    (475, .iload_n 3, 1, [(.null, 3, [])]),
    (476, .iconst 2, 1, [(.int 2, 0, [])]),
    (477, .iadd, 1, []),
    (478, .iaload, 1, []),
    (479, .aload_n 0, 1, [(.null, 0, [])]),
    (480, .iload_n 3, 1, [(.null, 3, [])]),
    (481, .iconst 3, 1, [(.int 3, 0, [])]),
    (482, .iadd, 1, []),
    (483, .iaload, 1, []),
    (484, .invokevirtual 49, 3, [(.null, 89, [4, 1, 6, 6, 397])]),
    (487, .aload_n 2, 1, [(.null, 2, [])]),
    (488, .aload_n 0, 1, [(.null, 0, [])]),
    (489, .iload_n 3, 1, [(.null, 3, [])]),
    (490, .iconst 1, 1, [(.int 1, 0, [])]),
    (491, .iadd, 1, []),
    (492, .iaload, 1, []),
    (493, .aload_n 0, 1, [(.null, 0, [])]),
    (494, .iload_n 3, 1, [(.null, 3, [])]),
    (495, .iconst 2, 1, [(.int 2, 0, [])]),
    (496, .iadd, 1, []),
    (497, .iaload, 1, []),
    (498, .aload_n 0, 1, [(.null, 0, [])]),
    (499, .iload_n 3, 1, [(.null, 3, [])]),
    (500, .iconst 3, 1, [(.int 3, 0, [])]),
    (501, .iadd, 1, []),
    (502, .iaload, 1, []),
    (503, .invokevirtual 52, 3, [(.null, 191, [4, 1, 7, 6, 1002])]),
    (506, .if_icmp .eq 1003, 3, [(.null, 1509, [0, 1, 2, 3])]),
    (509, .iconst 0, 1, [(.int 0, 0, [])]),
    (510, .ireturn, 1, [])]),
  (511, (0, []), [(511, .aload_n 1, 1, [(.null, 1, [])]),
    (512, .aload_n 0, 1, [(.null, 0, [])]),
    (513, .iload_n 3, 1, [(.null, 3, [])]),
    (514, .iconst 1, 1, [(.int 1, 0, [])]),
    (515, .iadd, 1, []),
    (516, .iaload, 1, []),
    (517, .invokevirtual 53, 3, [(.null, 90, [2, 1, 6, 3, 405])]),
    (520, .aload_n 2, 1, [(.null, 2, [])]),
    (521, .aload_n 0, 1, [(.null, 0, [])]),
    (522, .iload_n 3, 1, [(.null, 3, [])]),
    (523, .iconst 1, 1, [(.int 1, 0, [])]),
    (524, .iadd, 1, []),
    (525, .iaload, 1, []),
    (526, .invokevirtual 56, 3, [(.null, 192, [2, 1, 7, 3, 1006])]),
    (529, .if_icmp .eq 980, 3, [(.null, 1509, [0, 1, 2, 3])]),
    (532, .iconst 0, 1, [(.int 0, 0, [])]),
    (533, .ireturn, 1, [])]),
  (534, (0, []), [(534, .aload_n 1, 1, [(.null, 1, [])]),
    (535, .aload_n 0, 1, [(.null, 0, [])]),
    (536, .iload_n 3, 1, [(.null, 3, [])]),
    (537, .iconst 1, 1, [(.int 1, 0, [])]),
    (538, .iadd, 1, []),
    (539, .iaload, 1, []),
    (540, .aload_n 0, 1, [(.null, 0, [])]),
    (541, .iload_n 3, 1, [(.null, 3, [])]),
    (542, .iconst 2, 1, [(.int 2, 0, [])]),
    (543, .iadd, 1, []),
    (544, .iaload, 1, []),
    (545, .invokevirtual 57, 3, [(.null, 91, [3, 1, 6, 4, 413])]),
    (548, .aload_n 2, 1, [(.null, 2, [])]),
    (549, .aload_n 0, 1, [(.null, 0, [])]),
    (550, .iload_n 3, 1, [(.null, 3, [])]),
    (551, .iconst 1, 1, [(.int 1, 0, [])]),
    (552, .iadd, 1, []),
    (553, .iaload, 1, []),
    (554, .aload_n 0, 1, [(.null, 0, [])]),
    (555, .iload_n 3, 1, [(.null, 3, [])]),
    (556, .iconst 2, 1, [(.int 2, 0, [])]),
    (557, .iadd, 1, []),
    (558, .iaload, 1, []),
    (559, .invokevirtual 60, 3, [(.null, 194, [3, 1, 7, 5, 1013])]),
    (562, .if_icmp .eq 947, 3, [(.null, 1509, [0, 1, 2, 3])]),
    (565, .iconst 0, 1, [(.int 0, 0, [])]),
    (566, .ireturn, 1, [])]),
  (567, (0, []), [(567, .aload_n 1, 1, [(.null, 1, [])]),
    (568, .aload_n 0, 1, [(.null, 0, [])]),
    (569, .iload_n 3, 1, [(.null, 3, [])]),
    (570, .iconst 1, 1, [(.int 1, 0, [])]),
    (571, .iadd, 1, []),
    (572, .iaload, 1, []),
    (573, .aload_n 0, 1, [(.null, 0, [])]),
    (574, .iload_n 3, 1, [(.null, 3, [])]),
    (575, .iconst 2, 1, [(.int 2, 0, [])]),
    (576, .iadd, 1, []),
    (577, .iaload, 1, []),
    (578, .invokevirtual 61, 3, [(.null, 92, [3, 1, 6, 4, 435])]),
    (581, .aload_n 2, 1, [(.null, 2, [])]),
    (582, .aload_n 0, 1, [(.null, 0, [])]),
    (583, .iload_n 3, 1, [(.null, 3, [])]),
    (584, .iconst 1, 1, [(.int 1, 0, [])]),
    (585, .iadd, 1, []),
    (586, .iaload, 1, []),
    (587, .aload_n 0, 1, [(.null, 0, [])]),
    (588, .iload_n 3, 1, [(.null, 3, [])]),
    (589, .iconst 2, 1, [(.int 2, 0, [])]),
    (590, .iadd, 1, []),
    (591, .iaload, 1, []),
    (592, .invokevirtual 64, 3, [(.null, 196, [3, 1, 7, 4, 1026])]),
    (595, .if_icmp .eq 914, 3, [(.null, 1509, [0, 1, 2, 3])]),
    (598, .iconst 0, 1, [(.int 0, 0, [])]),
    (599, .ireturn, 1, [])]),
  (600, (0, []), [(600, .aload_n 1, 1, [(.null, 1, [])]),
    (601, .aload_n 0, 1, [(.null, 0, [])]),
    (602, .iload_n 3, 1, [(.null, 3, [])]),
    (603, .iconst 1, 1, [(.int 1, 0, [])]),
    (604, .iadd, 1, []),
    (605, .iaload, 1, []),
    (606, .invokevirtual 65, 3, [(.null, 93, [2, 1, 6, 3, 439])]),
    (609, .aload_n 2, 1, [(.null, 2, [])]),
    (610, .aload_n 0, 1, [(.null, 0, [])]),
    (611, .iload_n 3, 1, [(.null, 3, [])]),
    (612, .iconst 1, 1, [(.int 1, 0, [])]),
    (613, .iadd, 1, []),
    (614, .iaload, 1, []),
    (615, .invokevirtual 68, 3, [(.null, 198, [2, 1, 7, 3, 1033])]),
    (618, .if_icmp .eq 891, 3, [(.null, 1509, [0, 1, 2, 3])]),
    (621, .iconst 0, 1, [(.int 0, 0, [])]),
    (622, .ireturn, 1, [])]),
  (623, (0, []), [(623, .aload_n 1, 1, [(.null, 1, [])]),
    (624, .aload_n 0, 1, [(.null, 0, [])]),
    (625, .iload_n 3, 1, [(.null, 3, [])]),
    (626, .iconst 1, 1, [(.int 1, 0, [])]),
    (627, .iadd, 1, []),
    (628, .iaload, 1, []),
    (629, .aload_n 0, 1, [(.null, 0, [])]),
    (630, .iload_n 3, 1, [(.null, 3, [])]),
    (631, .iconst 2, 1, [(.int 2, 0, [])]),
    (632, .iadd, 1, []),
    (633, .iaload, 1, []),
    (634, .invokevirtual 69, 3, [(.null, 94, [3, 1, 6, 3, 443])]),
    (637, .aload_n 2, 1, [(.null, 2, [])]),
    (638, .aload_n 0, 1, [(.null, 0, [])]),
    (639, .iload_n 3, 1, [(.null, 3, [])]),
    (640, .iconst 1, 1, [(.int 1, 0, [])]),
    (641, .iadd, 1, []),
    (642, .iaload, 1, []),
    (643, .aload_n 0, 1, [(.null, 0, [])]),
    (644, .iload_n 3, 1, [(.null, 3, [])]),
    (645, .iconst 2, 1, [(.int 2, 0, [])]),
    (646, .iadd, 1, []),
    (647, .iaload, 1, []),
    (648, .invokevirtual 72, 3, [(.null, 201, [3, 1, 7, 4, 1040])]),
    (651, .if_icmp .eq 858, 3, [(.null, 1509, [0, 1, 2, 3])]),
    (654, .iconst 0, 1, [(.int 0, 0, [])]),
    (655, .ireturn, 1, [])]),
  (656, (0, []), [(656, .aload_n 1, 1, [(.null, 1, [])]),
    (657, .aload_n 0, 1, [(.null, 0, [])]),
    (658, .iload_n 3, 1, [(.null, 3, [])]),
    (659, .iconst 1, 1, [(.int 1, 0, [])]),
    (660, .iadd, 1, []),
    (661, .iaload, 1, []),
    (662, .invokevirtual 73, 3, [(.null, 95, [2, 1, 6, 2, 459])]),
    (665, .aload_n 2, 1, [(.null, 2, [])]),
    (666, .aload_n 0, 1, [(.null, 0, [])]),
    (667, .iload_n 3, 1, [(.null, 3, [])]),
    (668, .iconst 1, 1, [(.int 1, 0, [])]),
    (669, .iadd, 1, []),
    (670, .iaload, 1, []),
    (671, .invokevirtual 76, 3, [(.null, 202, [2, 1, 7, 4, 1050])]),
    (674, .if_icmp .eq 835, 3, [(.null, 1509, [0, 1, 2, 3])]),
    (677, .iconst 0, 1, [(.int 0, 0, [])]),
    (678, .ireturn, 1, [])]),
  (679, (0, []), [(679, .aload_n 1, 1, [(.null, 1, [])]),
    (680, .invokevirtual 77, 3, [(.null, 96, [1, 1, 6, 1, 468])]),
    (683, .aload_n 2, 1, [(.null, 2, [])]),
    (684, .invokevirtual 80, 3, [(.null, 203, [1, 1, 7, 3, 1054])]),
    (687, .if_icmp .eq 822, 3, [(.null, 1509, [0, 1, 2, 3])]),
    (690, .iconst 0, 1, [(.int 0, 0, [])]),
    (691, .ireturn, 1, [])]),
  (692, (0, []), [(692, .aload_n 1, 1, [(.null, 1, [])]),
    (693, .aload_n 0, 1, [(.null, 0, [])]),
    (694, .iload_n 3, 1, [(.null, 3, [])]),
    (695, .iconst 1, 1, [(.int 1, 0, [])]),
    (696, .iadd, 1, []),
    (697, .iaload, 1, []),
    (698, .aload_n 0, 1, [(.null, 0, [])]),
    (699, .iload_n 3, 1, [(.null, 3, [])]),
    (700, .iconst 2, 1, [(.int 2, 0, [])]),
    (701, .iadd, 1, []),
    (702, .iaload, 1, []),
    (703, .aload_n 0, 1, [(.null, 0, [])]),
    (704, .iload_n 3, 1, [(.null, 3, [])]),
    (705, .iconst 3, 1, [(.int 3, 0, [])]),
    (706, .iadd, 1, []),
    (707, .iaload, 1, []),
    (708, .invokevirtual 81, 3, [(.null, 97, [4, 1, 6, 5, 489])]),
    (711, .aload_n 2, 1, [(.null, 2, [])]),
    (712, .aload_n 0, 1, [(.null, 0, [])]),
    (713, .iload_n 3, 1, [(.null, 3, [])]),
    (714, .iconst 1, 1, [(.int 1, 0, [])]),
    (715, .iadd, 1, []),
    (716, .iaload, 1, []),
    (717, .aload_n 0, 1, [(.null, 0, [])]),
    (718, .iload_n 3, 1, [(.null, 3, [])]),
    (719, .iconst 2, 1, [(.int 2, 0, [])]),
    (720, .iadd, 1, []),
    (721, .iaload, 1, []),
    (722, .aload_n 0, 1, [(.null, 0, [])]),
    (723, .iload_n 3, 1, [(.null, 3, [])]),
    (724, .iconst 3, 1, [(.int 3, 0, [])]),
    (725, .iadd, 1, []),
    (726, .iaload, 1, []),
    (727, .invokevirtual 84, 3, [(.null, 204, [4, 1, 7, 5, 1064])]),
    (730, .if_icmp .eq 779, 3, [(.null, 1509, [0, 1, 2, 3])]),
    (733, .iconst 0, 1, [(.int 0, 0, [])]),
    (734, .ireturn, 1, [])]),
  (735, (0, []), [(735, .aload_n 1, 1, [(.null, 1, [])]),
    (736, .aload_n 0, 1, [(.null, 0, [])]),
    (737, .iload_n 3, 1, [(.null, 3, [])]),
    (738, .iconst 1, 1, [(.int 1, 0, [])]),
    (739, .iadd, 1, []),
    (740, .iaload, 1, []),
    (741, .invokevirtual 85, 3, [(.null, 98, [2, 1, 6, 3, 497])]),
    (744, .aload_n 2, 1, [(.null, 2, [])]),
    (745, .aload_n 0, 1, [(.null, 0, [])]),
    (746, .iload_n 3, 1, [(.null, 3, [])]),
    (747, .iconst 1, 1, [(.int 1, 0, [])]),
    (748, .iadd, 1, []),
    (749, .iaload, 1, []),
    (750, .invokevirtual 88, 3, [(.null, 205, [2, 1, 7, 8, 1068])]),
    (753, .if_icmp .eq 756, 3, [(.null, 1509, [0, 1, 2, 3])]),
    (756, .iconst 0, 1, [(.int 0, 0, [])]),
    (757, .ireturn, 1, [])]),
  (758, (0, []), [(758, .aload_n 1, 1, [(.null, 1, [])]),
    (759, .aload_n 0, 1, [(.null, 0, [])]),
    (760, .iload_n 3, 1, [(.null, 3, [])]),
    (761, .iconst 1, 1, [(.int 1, 0, [])]),
    (762, .iadd, 1, []),
    (763, .iaload, 1, []),
    (764, .aload_n 0, 1, [(.null, 0, [])]),
    (765, .iload_n 3, 1, [(.null, 3, [])]),
    (766, .iconst 2, 1, [(.int 2, 0, [])]),
    (767, .iadd, 1, []),
    (768, .iaload, 1, []),
    (769, .invokevirtual 89, 3, [(.null, 99, [3, 1, 6, 3, 507])]),
    (772, .aload_n 2, 1, [(.null, 2, [])]),
    (773, .aload_n 0, 1, [(.null, 0, [])]),
    (774, .iload_n 3, 1, [(.null, 3, [])]),
    (775, .iconst 1, 1, [(.int 1, 0, [])]),
    (776, .iadd, 1, []),
    (777, .iaload, 1, []),
    (778, .aload_n 0, 1, [(.null, 0, [])]),
    (779, .iload_n 3, 1, [(.null, 3, [])]),
    (780, .iconst 2, 1, [(.int 2, 0, [])]),
    (781, .iadd, 1, []),
    (782, .iaload, 1, []),
    (783, .invokevirtual 92, 3, [(.null, 208, [3, 1, 7, 9, 1072])]),
    (786, .if_icmp .eq 723, 3, [(.null, 1509, [0, 1, 2, 3])]),
    (789, .iconst 0, 1, [(.int 0, 0, [])]),
    (790, .ireturn, 1, [])]),
  (791, (0, []), [(791, .aload_n 1, 1, [(.null, 1, [])]),
    (792, .aload_n 0, 1, [(.null, 0, [])]),
    (793, .iload_n 3, 1, [(.null, 3, [])]),
    (794, .iconst 1, 1, [(.int 1, 0, [])]),
    (795, .iadd, 1, []),
    (796, .iaload, 1, []),
    (797, .aload_n 0, 1, [(.null, 0, [])]),
    (798, .iload_n 3, 1, [(.null, 3, [])]),
    (799, .iconst 2, 1, [(.int 2, 0, [])]),
    (800, .iadd, 1, []),
    (801, .iaload, 1, []),
    (802, .aload_n 0, 1, [(.null, 0, [])]),
    (803, .iload_n 3, 1, [(.null, 3, [])]),
    (804, .iconst 3, 1, [(.int 3, 0, [])]),
    (805, .iadd, 1, []),
    (806, .iaload, 1, []),
    (807, .invokevirtual 93, 3, [(.null, 100, [4, 1, 6, 4, 523])]),
    (810, .aload_n 2, 1, [(.null, 2, [])]),
    (811, .aload_n 0, 1, [(.null, 0, [])]),
    (812, .iload_n 3, 1, [(.null, 3, [])]),
    (813, .iconst 1, 1, [(.int 1, 0, [])]),
    (814, .iadd, 1, []),
    (815, .iaload, 1, []),
    (816, .aload_n 0, 1, [(.null, 0, [])]),
    (817, .iload_n 3, 1, [(.null, 3, [])]),
    (818, .iconst 2, 1, [(.int 2, 0, [])]),
    (819, .iadd, 1, []),
    (820, .iaload, 1, []),
    (821, .aload_n 0, 1, [(.null, 0, [])]),
    (822, .iload_n 3, 1, [(.null, 3, [])]),
    (823, .iconst 3, 1, [(.int 3, 0, [])]),
    (824, .iadd, 1, []),
    (825, .iaload, 1, []),
    (826, .invokevirtual 96, 3, [(.null, 211, [4, 1, 7, 10, 1082])]),
    (829, .if_icmp .eq 680, 3, [(.null, 1509, [0, 1, 2, 3])]),
    (832, .iconst 0, 1, [(.int 0, 0, [])]),
    (833, .ireturn, 1, [])]),
  (834, (0, []), [(834, .aload_n 1, 1, [(.null, 1, [])]),
    (835, .invokevirtual 97, 3, [(.null, 101, [1, 1, 6, 1, 540])]),
    (838, .aload_n 2, 1, [(.null, 2, [])]),
    (839, .invokevirtual 100, 3, [(.null, 212, [1, 1, 7, 3, 1092])]),
    (842, .if_icmp .eq 667, 3, [(.null, 1509, [0, 1, 2, 3])]),
    (845, .iconst 0, 1, [(.int 0, 0, [])]),
    (846, .ireturn, 1, [])]),
  (847, (0, []), [(847, .aload_n 1, 1, [(.null, 1, [])]),
    (848, .aload_n 0, 1, [(.null, 0, [])]),
    (849, .iload_n 3, 1, [(.null, 3, [])]),
    (850, .iconst 1, 1, [(.int 1, 0, [])]),
    (851, .iadd, 1, []),
    (852, .iaload, 1, []),
    (853, .aload_n 0, 1, [(.null, 0, [])]),
    (854, .iload_n 3, 1, [(.null, 3, [])]),
    (855, .iconst 2, 1, [(.int 2, 0, [])]),
    (856, .iadd, 1, []),
    (857, .iaload, 1, []),
    (858, .invokevirtual 101, 3, [(.null, 102, [3, 1, 6, 5, 549])]),
    (861, .aload_n 2, 1, [(.null, 2, [])]),
    (862, .aload_n 0, 1, [(.null, 0, [])]),
    (863, .iload_n 3, 1, [(.null, 3, [])]),
    (864, .iconst 1, 1, [(.int 1, 0, [])]),
    (865, .iadd, 1, []),
    (866, .iaload, 1, []),
    (867, .aload_n 0, 1, [(.null, 0, [])]),
    (868, .iload_n 3, 1, [(.null, 3, [])]),
    (869, .iconst 2, 1, [(.int 2, 0, [])]),
    (870, .iadd, 1, []),
    (871, .iaload, 1, []),
    (872, .invokevirtual 104, 3, [(.null, 215, [3, 1, 7, 6, 1096])]),
    (875, .if_icmp .eq 634, 3, [(.null, 1509, [0, 1, 2, 3])]),
    (878, .iconst 0, 1, [(.int 0, 0, [])]),
    (879, .ireturn, 1, [])]),
  (880, (0, []), [(880, .aload_n 1, 1, [(.null, 1, [])]),
    (881, .aload_n 0, 1, [(.null, 0, [])]),
    (882, .iload_n 3, 1, [(.null, 3, [])]),
    (883, .iconst 1, 1, [(.int 1, 0, [])]),
    (884, .iadd, 1, []),
    (885, .iaload, 1, []),
    (886, .aload_n 0, 1, [(.null, 0, [])]),
    (887, .iload_n 3, 1, [(.null, 3, [])]),
    (888, .iconst 2, 1, [(.int 2, 0, [])]),
    (889, .iadd, 1, []),
    (890, .iaload, 1, []),
    (891, .invokevirtual 105, 3, [(.null, 103, [3, 1, 6, 3, 564])]),
    (894, .aload_n 2, 1, [(.null, 2, [])]),
    (895, .aload_n 0, 1, [(.null, 0, [])]),
    (896, .iload_n 3, 1, [(.null, 3, [])]),
    (897, .iconst 1, 1, [(.int 1, 0, [])]),
    (898, .iadd, 1, []),
    (899, .iaload, 1, []),
    (900, .aload_n 0, 1, [(.null, 0, [])]),
    (901, .iload_n 3, 1, [(.null, 3, [])]),
    (902, .iconst 2, 1, [(.int 2, 0, [])]),
    (903, .iadd, 1, []),
    (904, .iaload, 1, []),
    (905, .invokevirtual 108, 3, [(.null, 217, [3, 1, 7, 9, 1106])]),
    (908, .if_icmp .eq 601, 3, [(.null, 1509, [0, 1, 2, 3])]),
    (911, .iconst 0, 1, [(.int 0, 0, [])]),
    (912, .ireturn, 1, [])]),
  (913, (0, []), [(913, .aload_n 1, 1, [(.null, 1, [])]),
    (914, .aload_n 0, 1, [(.null, 0, [])]),
    (915, .iload_n 3, 1, [(.null, 3, [])]),
    (916, .iconst 1, 1, [(.int 1, 0, [])]),
    (917, .iadd, 1, []),
    (918, .iaload, 1, []),
    (919, .invokevirtual 109, 3, [(.null, 104, [2, 1, 6, 3, 575])]),
    (922, .aload_n 2, 1, [(.null, 2, [])]),
    (923, .aload_n 0, 1, [(.null, 0, [])]),
    (924, .iload_n 3, 1, [(.null, 3, [])]),
    (925, .iconst 1, 1, [(.int 1, 0, [])]),
    (926, .iadd, 1, []),
    (927, .iaload, 1, []),
    (928, .invokevirtual 112, 3, [(.null, 219, [2, 1, 7, 4, 1113])]),
    (931, .if_icmp .eq 578, 3, [(.null, 1509, [0, 1, 2, 3])]),
    (934, .iconst 0, 1, [(.int 0, 0, [])]),
    (935, .ireturn, 1, [])]),
  (936, (0, []), [(936, .aload_n 1, 1, [(.null, 1, [])]),
    (937, .aload_n 0, 1, [(.null, 0, [])]),
    (938, .iload_n 3, 1, [(.null, 3, [])]),
    (939, .iconst 1, 1, [(.int 1, 0, [])]),
    (940, .iadd, 1, []),
    (941, .iaload, 1, []),
    (942, .invokevirtual 113, 3, [(.null, 105, [2, 1, 6, 3, 589])]),
    (945, .aload_n 2, 1, [(.null, 2, [])]),
    (946, .aload_n 0, 1, [(.null, 0, [])]),
    (947, .iload_n 3, 1, [(.null, 3, [])]),
    (948, .iconst 1, 1, [(.int 1, 0, [])]),
    (949, .iadd, 1, []),
    (950, .iaload, 1, []),
    (951, .invokevirtual 116, 3, [(.null, 222, [2, 1, 7, 3, 1120])]),
    (954, .if_icmp .eq 555, 3, [(.null, 1509, [0, 1, 2, 3])]),
    (957, .iconst 0, 1, [(.int 0, 0, [])]),
    (958, .ireturn, 1, [])]),
  (959, (0, []), [(959, .aload_n 1, 1, [(.null, 1, [])]),
    (960, .aload_n 0, 1, [(.null, 0, [])]),
    (961, .iload_n 3, 1, [(.null, 3, [])]),
    (962, .iconst 1, 1, [(.int 1, 0, [])]),
    (963, .iadd, 1, []),
    (964, .iaload, 1, []),
    (965, .invokevirtual 117, 3, [(.null, 106, [2, 1, 6, 3, 602])]),
    (968, .aload_n 2, 1, [(.null, 2, [])]),
    (969, .aload_n 0, 1, [(.null, 0, [])]),
    (970, .iload_n 3, 1, [(.null, 3, [])]),
    (971, .iconst 1, 1, [(.int 1, 0, [])]),
    (972, .iadd, 1, []),
    (973, .iaload, 1, []),
    (974, .invokevirtual 120, 3, [(.null, 223, [2, 1, 7, 3, 1130])]),
    (977, .if_icmp .eq 532, 3, [(.null, 1509, [0, 1, 2, 3])]),
    (980, .iconst 0, 1, [(.int 0, 0, [])]),
    (981, .ireturn, 1, [])]),
  (982, (0, []), [(982, .aload_n 1, 1, [(.null, 1, [])]),
    (983, .aload_n 0, 1, [(.null, 0, [])]),
    (984, .iload_n 3, 1, [(.null, 3, [])]),
    (985, .iconst 1, 1, [(.int 1, 0, [])]),
    (986, .iadd, 1, []),
    (987, .iaload, 1, []),
    (988, .invokevirtual 121, 3, [(.null, 107, [2, 1, 6, 3, 607])]),
    (991, .aload_n 2, 1, [(.null, 2, [])]),
    (992, .aload_n 0, 1, [(.null, 0, [])]),
    (993, .iload_n 3, 1, [(.null, 3, [])]),
    (994, .iconst 1, 1, [(.int 1, 0, [])]),
    (995, .iadd, 1, []),
    (996, .iaload, 1, []),
    (997, .invokevirtual 124, 3, [(.null, 224, [2, 1, 7, 2, 1134])]),
    (1000, .if_icmp .eq 509, 3, [(.null, 1509, [0, 1, 2, 3])]),
    (1003, .iconst 0, 1, [(.int 0, 0, [])]),
    (1004, .ireturn, 1, [])]),
  (1005, (0, []), [(1005, .aload_n 1, 1, [(.null, 1, [])]),
    (1006, .aload_n 0, 1, [(.null, 0, [])]),
    (1007, .iload_n 3, 1, [(.null, 3, [])]),
    (1008, .iconst 1, 1, [(.int 1, 0, [])]),
    (1009, .iadd, 1, []),
    (1010, .iaload, 1, []),
    (1011, .invokevirtual 125, 3, [(.null, 108, [2, 1, 6, 4, 614])]),
    (1014, .aload_n 2, 1, [(.null, 2, [])]),
    (1015, .aload_n 0, 1, [(.null, 0, [])]),
    (1016, .iload_n 3, 1, [(.null, 3, [])]),
    (1017, .iconst 1, 1, [(.int 1, 0, [])]),
    (1018, .iadd, 1, []),
    (1019, .iaload, 1, []),
    (1020, .invokevirtual 128, 3, [(.null, 227, [2, 1, 7, 4, 1138])]),
    (1023, .if_icmp .eq 486, 3, [(.null, 1509, [0, 1, 2, 3])]),
    (1026, .iconst 0, 1, [(.int 0, 0, [])]),
    (1027, .ireturn, 1, [])]),
  (1028, (0, []), [(1028, .aload_n 1, 1, [(.null, 1, [])]),
    (1029, .aload_n 0, 1, [(.null, 0, [])]),
    (1030, .iload_n 3, 1, [(.null, 3, [])]),
    (1031, .iconst 1, 1, [(.int 1, 0, [])]),
    (1032, .iadd, 1, []),
    (1033, .iaload, 1, []),
    (1034, .aload_n 0, 1, [(.null, 0, [])]),
    (1035, .iload_n 3, 1, [(.null, 3, [])]),
    (1036, .iconst 2, 1, [(.int 2, 0, [])]),
    (1037, .iadd, 1, []),
    (1038, .iaload, 1, []),
    (1039, .invokevirtual 129, 3, [(.null, 109, [3, 1, 6, 3, 624])]),
    (1042, .aload_n 2, 1, [(.null, 2, [])]),
    (1043, .aload_n 0, 1, [(.null, 0, [])]),
    (1044, .iload_n 3, 1, [(.null, 3, [])]),
    (1045, .iconst 1, 1, [(.int 1, 0, [])]),
    (1046, .iadd, 1, []),
    (1047, .iaload, 1, []),
    (1048, .aload_n 0, 1, [(.null, 0, [])]),
    (1049, .iload_n 3, 1, [(.null, 3, [])]),
    (1050, .iconst 2, 1, [(.int 2, 0, [])]),
    (1051, .iadd, 1, []),
    (1052, .iaload, 1, []),
    (1053, .invokevirtual 132, 3, [(.null, 228, [3, 1, 7, 7, 1148])]),
    (1056, .if_icmp .eq 453, 3, [(.null, 1509, [0, 1, 2, 3])]),
    (1059, .iconst 0, 1, [(.int 0, 0, [])]),
    (1060, .ireturn, 1, [])]),
  (1061, (0, []), [(1061, .aload_n 1, 1, [(.null, 1, [])]),
    (1062, .aload_n 0, 1, [(.null, 0, [])]),
    (1063, .iload_n 3, 1, [(.null, 3, [])]),
    (1064, .iconst 1, 1, [(.int 1, 0, [])]),
    (1065, .iadd, 1, []),
    (1066, .iaload, 1, []),
    (1067, .aload_n 0, 1, [(.null, 0, [])]),
    (1068, .iload_n 3, 1, [(.null, 3, [])]),
    (1069, .iconst 2, 1, [(.int 2, 0, [])]),
    (1070, .iadd, 1, []),
    (1071, .iaload, 1, []),
    (1072, .aload_n 0, 1, [(.null, 0, [])]),
    (1073, .iload_n 3, 1, [(.null, 3, [])]),
    (1074, .iconst 3, 1, [(.int 3, 0, [])]),
    (1075, .iadd, 1, []),
    (1076, .iaload, 1, []),
    (1077, .invokevirtual 133, 3, [(.null, 110, [4, 1, 6, 5, 632])]),
    (1080, .aload_n 2, 1, [(.null, 2, [])]),
    (1081, .aload_n 0, 1, [(.null, 0, [])]),
    (1082, .iload_n 3, 1, [(.null, 3, [])]),
    (1083, .iconst 1, 1, [(.int 1, 0, [])]),
    (1084, .iadd, 1, []),
    (1085, .iaload, 1, []),
    (1086, .aload_n 0, 1, [(.null, 0, [])]),
    (1087, .iload_n 3, 1, [(.null, 3, [])]),
    (1088, .iconst 2, 1, [(.int 2, 0, [])]),
    (1089, .iadd, 1, []),
    (1090, .iaload, 1, []),
    (1091, .aload_n 0, 1, [(.null, 0, [])]),
    (1092, .iload_n 3, 1, [(.null, 3, [])]),
    (1093, .iconst 3, 1, [(.int 3, 0, [])]),
    (1094, .iadd, 1, []),
    (1095, .iaload, 1, []),
    (1096, .invokevirtual 136, 3, [(.null, 230, [4, 1, 7, 6, 1152])]),
    (1099, .if_icmp .eq 410, 3, [(.null, 1509, [0, 1, 2, 3])]),
    (1102, .iconst 0, 1, [(.int 0, 0, [])]),
    (1103, .ireturn, 1, [])]),
  (1104, (0, []), [(1104, .aload_n 1, 1, [(.null, 1, [])]),
    (1105, .aload_n 0, 1, [(.null, 0, [])]),
    (1106, .iload_n 3, 1, [(.null, 3, [])]),
    (1107, .iconst 1, 1, [(.int 1, 0, [])]),
    (1108, .iadd, 1, []),
    (1109, .iaload, 1, []),
    (1110, .aload_n 0, 1, [(.null, 0, [])]),
    (1111, .iload_n 3, 1, [(.null, 3, [])]),
    (1112, .iconst 2, 1, [(.int 2, 0, [])]),
    (1113, .iadd, 1, []),
    (1114, .iaload, 1, []),
    (1115, .aload_n 0, 1, [(.null, 0, [])]),
    (1116, .iload_n 3, 1, [(.null, 3, [])]),
    (1117, .iconst 3, 1, [(.int 3, 0, [])]),
    (1118, .iadd, 1, []),
    (1119, .iaload, 1, []),
    (1120, .invokevirtual 137, 3, [(.null, 111, [4, 2, 6, 5, 640])]),
    (1123, .aload_n 2, 1, [(.null, 2, [])]),
    (1124, .aload_n 0, 1, [(.null, 0, [])]),
    (1125, .iload_n 3, 1, [(.null, 3, [])]),
    (1126, .iconst 1, 1, [(.int 1, 0, [])]),
    (1127, .iadd, 1, []),
    (1128, .iaload, 1, []),
    (1129, .aload_n 0, 1, [(.null, 0, [])]),
    (1130, .iload_n 3, 1, [(.null, 3, [])]),
    (1131, .iconst 2, 1, [(.int 2, 0, [])]),
    (1132, .iadd, 1, []),
    (1133, .iaload, 1, []),
    (1134, .aload_n 0, 1, [(.null, 0, [])]),
    (1135, .iload_n 3, 1, [(.null, 3, [])]),
    (1136, .iconst 3, 1, [(.int 3, 0, [])]),
    (1137, .iadd, 1, []),
    (1138, .iaload, 1, []),
    (1139, .invokevirtual 141, 3, [(.null, 232, [4, 2, 7, 6, 1159])]),
    (1142, .lcmp, 1, []),
    (1143, .ifCond .eq 366, 3, [(.null, 1509, [0, 1, 2, 3])]),
    (1146, .iconst 0, 1, [(.int 0, 0, [])]),
    (1147, .ireturn, 1, [])]),
  (1148, (0, []), [(1148, .aload_n 1, 1, [(.null, 1, [])]),
    (1149, .aload_n 0, 1, [(.null, 0, [])]),
    (1150, .iload_n 3, 1, [(.null, 3, [])]),
    (1151, .iconst 1, 1, [(.int 1, 0, [])]),
    (1152, .iadd, 1, []),
    (1153, .iaload, 1, []),
    (1154, .aload_n 0, 1, [(.null, 0, [])]),
    (1155, .iload_n 3, 1, [(.null, 3, [])]),
    (1156, .iconst 2, 1, [(.int 2, 0, [])]),
    (1157, .iadd, 1, []),
    (1158, .iaload, 1, []),
    (1159, .aload_n 0, 1, [(.null, 0, [])]),
    (1160, .iload_n 3, 1, [(.null, 3, [])]),
    (1161, .iconst 3, 1, [(.int 3, 0, [])]),
    (1162, .iadd, 1, []),
    (1163, .iaload, 1, []),
    (1164, .aload_n 0, 1, [(.null, 0, [])]),
    (1165, .iload_n 3, 1, [(.null, 3, [])]),
    (1166, .iconst 4, 1, [(.int 4, 0, [])]),
    (1167, .iadd, 1, []),
    (1168, .iaload, 1, []),
    (1169, .invokevirtual 142, 3, [(.null, 112, [5, 2, 6, 5, 657])]),
    (1172, .aload_n 2, 1, [(.null, 2, [])]),
    (1173, .aload_n 0, 1, [(.null, 0, [])]),
    (1174, .iload_n 3, 1, [(.null, 3, [])]),
    (1175, .iconst 1, 1, [(.int 1, 0, [])]),
    (1176, .iadd, 1, []),
    (1177, .iaload, 1, []),
    (1178, .aload_n 0, 1, [(.null, 0, [])]),
    (1179, .iload_n 3, 1, [(.null, 3, [])]),
    (1180, .iconst 2, 1, [(.int 2, 0, [])]),
    (1181, .iadd, 1, []),
    (1182, .iaload, 1, []),
    (1183, .aload_n 0, 1, [(.null, 0, [])]),
    (1184, .iload_n 3, 1, [(.null, 3, [])]),
    (1185, .iconst 3, 1, [(.int 3, 0, [])]),
    (1186, .iadd, 1, []),
    (1187, .iaload, 1, []),
    (1188, .aload_n 0, 1, [(.null, 0, [])]),
    (1189, .iload_n 3, 1, [(.null, 3, [])]),
    (1190, .iconst 4, 1, [(.int 4, 0, [])]),
    (1191, .iadd, 1, []),
    (1192, .iaload, 1, []),
    (1193, .invokevirtual 146, 3, [(.null, 235, [5, 2, 7, 14, 1170])]),
    (1196, .lcmp, 1, []),
    (1197, .ifCond .eq 312, 3, [(.null, 1509, [0, 1, 2, 3])]),
    (1200, .iconst 0, 1, [(.int 0, 0, [])]),
    (1201, .ireturn, 1, [])]),
  (1202, (0, []), [(1202, .aload_n 1, 1, [(.null, 1, [])]),
    (1203, .aload_n 0, 1, [(.null, 0, [])]),
    (1204, .iload_n 3, 1, [(.null, 3, [])]),
    (1205, .iconst 1, 1, [(.int 1, 0, [])]),
    (1206, .iadd, 1, []),
    (1207, .iaload, 1, []),
    (1208, .invokevirtual 147, 3, [(.null, 113, [2, 2, 6, 2, 672])]),
    (1211, .aload_n 2, 1, [(.null, 2, [])]),
    (1212, .aload_n 0, 1, [(.null, 0, [])]),
    (1213, .iload_n 3, 1, [(.null, 3, [])]),
    (1214, .iconst 1, 1, [(.int 1, 0, [])]),
    (1215, .iadd, 1, []),
    (1216, .iaload, 1, []),
    (1217, .invokevirtual 151, 3, [(.null, 236, [2, 2, 7, 3, 1180])]),
    (1220, .lcmp, 1, []),
    (1221, .ifCond .eq 288, 3, [(.null, 1509, [0, 1, 2, 3])]),
    (1224, .iconst 0, 1, [(.int 0, 0, [])]),
    (1225, .ireturn, 1, [])]),
  (1226, (0, []), [(1226, .aload_n 1, 1, [(.null, 1, [])]),
    (1227, .aload_n 0, 1, [(.null, 0, [])]),
    (1228, .iload_n 3, 1, [(.null, 3, [])]),
    (1229, .iconst 1, 1, [(.int 1, 0, [])]),
    (1230, .iadd, 1, []),
    (1231, .iaload, 1, []),
    (1232, .aload_n 0, 1, [(.null, 0, [])]),
    (1233, .iload_n 3, 1, [(.null, 3, [])]),
    (1234, .iconst 2, 1, [(.int 2, 0, [])]),
    (1235, .iadd, 1, []),
    (1236, .iaload, 1, []),
    (1237, .aload_n 0, 1, [(.null, 0, [])]),
    (1238, .iload_n 3, 1, [(.null, 3, [])]),
    (1239, .iconst 3, 1, [(.int 3, 0, [])]),
    (1240, .iadd, 1, []),
    (1241, .iaload, 1, []),
    (1242, .invokevirtual 152, 3, [(.null, 114, [4, 1, 6, 4, 676])]),
    (1245, .aload_n 2, 1, [(.null, 2, [])]),
    (1246, .aload_n 0, 1, [(.null, 0, [])]),
    (1247, .iload_n 3, 1, [(.null, 3, [])]),
    (1248, .iconst 1, 1, [(.int 1, 0, [])]),
    (1249, .iadd, 1, []),
    (1250, .iaload, 1, []),
    (1251, .aload_n 0, 1, [(.null, 0, [])]),
    (1252, .iload_n 3, 1, [(.null, 3, [])]),
    (1253, .iconst 2, 1, [(.int 2, 0, [])]),
    (1254, .iadd, 1, []),
    (1255, .iaload, 1, []),
    (1256, .aload_n 0, 1, [(.null, 0, [])]),
    (1257, .iload_n 3, 1, [(.null, 3, [])]),
    (1258, .iconst 3, 1, [(.int 3, 0, [])]),
    (1259, .iadd, 1, []),
    (1260, .iaload, 1, []),
    (1261, .invokevirtual 155, 3, [(.null, 238, [4, 1, 7, 7, 1184])]),
    (1264, .if_icmp .eq 245, 3, [(.null, 1509, [0, 1, 2, 3])]),
    (1267, .iconst 0, 1, [(.int 0, 0, [])]),
    (1268, .ireturn, 1, [])]),
  (1269, (0, []), [(1269, .aload_n 1, 1, [(.null, 1, [])]),
    (1270, .aload_n 0, 1, [(.null, 0, [])]),
    (1271, .iload_n 3, 1, [(.null, 3, [])]),
    (1272, .iconst 1, 1, [(.int 1, 0, [])]),
    (1273, .iadd, 1, []),
    (1274, .iaload, 1, []),
    (1275, .invokevirtual 156, 3, [(.null, 115, [2, 1, 6, 2, 688])]),
    (1278, .aload_n 2, 1, [(.null, 2, [])]),
    (1279, .aload_n 0, 1, [(.null, 0, [])]),
    (1280, .iload_n 3, 1, [(.null, 3, [])]),
    (1281, .iconst 1, 1, [(.int 1, 0, [])]),
    (1282, .iadd, 1, []),
    (1283, .iaload, 1, []),
    (1284, .invokevirtual 159, 3, [(.null, 239, [2, 1, 7, 5, 1191])]),
    (1287, .if_icmp .eq 222, 3, [(.null, 1509, [0, 1, 2, 3])]),
    (1290, .iconst 0, 1, [(.int 0, 0, [])]),
    (1291, .ireturn, 1, [])]),
  (1292, (0, []), [(1292, .aload_n 1, 1, [(.null, 1, [])]),
    (1293, .aload_n 0, 1, [(.null, 0, [])]),
    (1294, .iload_n 3, 1, [(.null, 3, [])]),
    (1295, .iconst 1, 1, [(.int 1, 0, [])]),
    (1296, .iadd, 1, []),
    (1297, .iaload, 1, []),
    (1298, .aload_n 0, 1, [(.null, 0, [])]),
    (1299, .iload_n 3, 1, [(.null, 3, [])]),
    (1300, .iconst 2, 1, [(.int 2, 0, [])]),
    (1301, .iadd, 1, []),
    (1302, .iaload, 1, []),
    (1303, .aload_n 0, 1, [(.null, 0, [])]),
    (1304, .iload_n 3, 1, [(.null, 3, [])]),
    (1305, .iconst 3, 1, [(.int 3, 0, [])]),
    (1306, .iadd, 1, []),
    (1307, .iaload, 1, []),
    (1308, .invokevirtual 160, 3, [(.null, 116, [4, 1, 6, 7, 697])]),
    (1311, .aload_n 2, 1, [(.null, 2, [])]),
    (1312, .aload_n 0, 1, [(.null, 0, [])]),
    (1313, .iload_n 3, 1, [(.null, 3, [])]),
    (1314, .iconst 1, 1, [(.int 1, 0, [])]),
    (1315, .iadd, 1, []),
    (1316, .iaload, 1, []),
    (1317, .aload_n 0, 1, [(.null, 0, [])]),
    (1318, .iload_n 3, 1, [(.null, 3, [])]),
    (1319, .iconst 2, 1, [(.int 2, 0, [])]),
    (1320, .iadd, 1, []),
    (1321, .iaload, 1, []),
    (1322, .aload_n 0, 1, [(.null, 0, [])]),
    (1323, .iload_n 3, 1, [(.null, 3, [])]),
    (1324, .iconst 3, 1, [(.int 3, 0, [])]),
    (1325, .iadd, 1, []),
    (1326, .iaload, 1, []),
    (1327, .invokevirtual 163, 3, [(.null, 240, [4, 1, 7, 9, 1195])]),
    (1330, .if_icmp .eq 179, 3, [(.null, 1509, [0, 1, 2, 3])]),
    (1333, .iconst 0, 1, [(.int 0, 0, [])]),
    (1334, .ireturn, 1, [])]),
  (1335, (0, []), [(1335, .aload_n 1, 1, [(.null, 1, [])]),
    (1336, .aload_n 0, 1, [(.null, 0, [])]),
    (1337, .iload_n 3, 1, [(.null, 3, [])]),
    (1338, .iconst 1, 1, [(.int 1, 0, [])]),
    (1339, .iadd, 1, []),
    (1340, .iaload, 1, []),
    (1341, .aload_n 0, 1, [(.null, 0, [])]),
    (1342, .iload_n 3, 1, [(.null, 3, [])]),
    (1343, .iconst 2, 1, [(.int 2, 0, [])]),
    (1344, .iadd, 1, []),
    (1345, .iaload, 1, []),
    (1346, .invokevirtual 164, 3, [(.null, 117, [3, 1, 6, 3, 705])]),
    (1349, .aload_n 2, 1, [(.null, 2, [])]),
    (1350, .aload_n 0, 1, [(.null, 0, [])]),
    (1351, .iload_n 3, 1, [(.null, 3, [])]),
    (1352, .iconst 1, 1, [(.int 1, 0, [])]),
    (1353, .iadd, 1, []),
    (1354, .iaload, 1, []),
    (1355, .aload_n 0, 1, [(.null, 0, [])]),
    (1356, .iload_n 3, 1, [(.null, 3, [])]),
    (1357, .iconst 2, 1, [(.int 2, 0, [])]),
    (1358, .iadd, 1, []),
    (1359, .iaload, 1, []),
    (1360, .invokevirtual 167, 3, [(.null, 243, [3, 1, 7, 4, 1199])]),
    (1363, .if_icmp .eq 146, 3, [(.null, 1509, [0, 1, 2, 3])]),
    (1366, .iconst 0, 1, [(.int 0, 0, [])]),
    (1367, .ireturn, 1, [])]),
  (1368, (0, []), [(1368, .aload_n 1, 1, [(.null, 1, [])]),
    (1369, .aload_n 0, 1, [(.null, 0, [])]),
    (1370, .iload_n 3, 1, [(.null, 3, [])]),
    (1371, .iconst 1, 1, [(.int 1, 0, [])]),
    (1372, .iadd, 1, []),
    (1373, .iaload, 1, []),
    (1374, .invokevirtual 168, 3, [(.null, 118, [2, 1, 6, 2, 725])]),
    (1377, .aload_n 2, 1, [(.null, 2, [])]),
    (1378, .aload_n 0, 1, [(.null, 0, [])]),
    (1379, .iload_n 3, 1, [(.null, 3, [])]),
    (1380, .iconst 1, 1, [(.int 1, 0, [])]),
    (1381, .iadd, 1, []),
    (1382, .iaload, 1, []),
    (1383, .invokevirtual 171, 3, [(.null, 244, [2, 1, 7, 3, 1209])]),
    (1386, .if_icmp .eq 123, 3, [(.null, 1509, [0, 1, 2, 3])]),
    (1389, .iconst 0, 1, [(.int 0, 0, [])]),
    (1390, .ireturn, 1, [])]),
  (1391, (0, []), [(1391, .aload_n 1, 1, [(.null, 1, [])]),
    (1392, .invokevirtual 172, 3, [(.null, 119, [1, 1, 6, 2, 733])]),
    (1395, .aload_n 2, 1, [(.null, 2, [])]),
    (1396, .invokevirtual 175, 3, [(.null, 245, [1, 1, 7, 3, 1213])]),
    (1399, .if_icmp .eq 110, 3, [(.null, 1509, [0, 1, 2, 3])]),
    (1402, .iconst 0, 1, [(.int 0, 0, [])]),
    (1403, .ireturn, 1, [])]),
  (1404, (0, []), [(1404, .aload_n 1, 1, [(.null, 1, [])]),
    (1405, .invokevirtual 176, 3, [(.null, 120, [1, 1, 6, 2, 741])]),
    (1408, .aload_n 2, 1, [(.null, 2, [])]),
    (1409, .invokevirtual 179, 3, [(.null, 246, [1, 1, 7, 2, 1217])]),
    (1412, .if_icmp .eq 97, 3, [(.null, 1509, [0, 1, 2, 3])]),
    (1415, .iconst 0, 1, [(.int 0, 0, [])]),
    (1416, .ireturn, 1, [])]),
  (1417, (0, []), [(1417, .aload_n 1, 1, [(.null, 1, [])]),
    (1418, .aload_n 0, 1, [(.null, 0, [])]),
    (1419, .iload_n 3, 1, [(.null, 3, [])]),
    (1420, .iconst 1, 1, [(.int 1, 0, [])]),
    (1421, .iadd, 1, []),
    (1422, .iaload, 1, []),
    (1423, .aload_n 0, 1, [(.null, 0, [])]),
    (1424, .iload_n 3, 1, [(.null, 3, [])]),
    (1425, .iconst 2, 1, [(.int 2, 0, [])]),
    (1426, .iadd, 1, []),
    (1427, .iaload, 1, []),
    (1428, .aload_n 0, 1, [(.null, 0, [])]),
    (1429, .iload_n 3, 1, [(.null, 3, [])]),
    (1430, .iconst 3, 1, [(.int 3, 0, [])]),
    (1431, .iadd, 1, []),
    (1432, .iaload, 1, []),
    (1433, .invokevirtual 180, 3, [(.null, 121, [4, 1, 6, 5, 745])]),
    (1436, .aload_n 2, 1, [(.null, 2, [])]),
    (1437, .aload_n 0, 1, [(.null, 0, [])]),
    (1438, .iload_n 3, 1, [(.null, 3, [])]),
    (1439, .iconst 1, 1, [(.int 1, 0, [])]),
    (1440, .iadd, 1, []),
    (1441, .iaload, 1, []),
    (1442, .aload_n 0, 1, [(.null, 0, [])]),
    (1443, .iload_n 3, 1, [(.null, 3, [])]),
    (1444, .iconst 2, 1, [(.int 2, 0, [])]),
    (1445, .iadd, 1, []),
    (1446, .iaload, 1, []),
    (1447, .aload_n 0, 1, [(.null, 0, [])]),
    (1448, .iload_n 3, 1, [(.null, 3, [])]),
    (1449, .iconst 3, 1, [(.int 3, 0, [])]),
    (1450, .iadd, 1, []),
    (1451, .iaload, 1, []),
    (1452, .invokevirtual 183, 3, [(.null, 248, [4, 1, 7, 8, 1221])]),
    (1455, .if_icmp .eq 54, 3, [(.null, 1509, [0, 1, 2, 3])]),
    (1458, .iconst 0, 1, [(.int 0, 0, [])]),
    (1459, .ireturn, 1, [])]),
  (1460, (0, []), [(1460, .aload_n 1, 1, [(.null, 1, [])]),
    (1461, .invokevirtual 184, 3, [(.null, 122, [1, 1, 6, 1, 757])]),
    (1464, .aload_n 2, 1, [(.null, 2, [])]),
    (1465, .invokevirtual 187, 3, [(.null, 166, [1, 1, 7, 1, 967])]),
    (1468, .if_icmp .eq 41, 3, [(.null, 1509, [0, 1, 2, 3])]),
    (1471, .iconst 0, 1, [(.int 0, 0, [])]),
    (1472, .ireturn, 1, [])]),
  (1473, (0, []), [(1473, .aload_n 1, 1, [(.null, 1, [])]),
    (1474, .invokevirtual 188, 3, [(.null, 123, [1, 1, 6, 1, 762])]),
    (1477, .aload_n 2, 1, [(.null, 2, [])]),
    (1478, .invokevirtual 191, 3, [(.null, 167, [1, 1, 7, 1, 971])]),
    (1481, .if_icmp .eq 28, 3, [(.null, 1509, [0, 1, 2, 3])]),
    (1484, .iconst 0, 1, [(.int 0, 0, [])]),
    (1485, .ireturn, 1, [])]),
  (1486, (0, []), [(1486, .aload_n 1, 1, [(.null, 1, [])]),
    (1487, .aload_n 0, 1, [(.null, 0, [])]),
    (1488, .iload_n 3, 1, [(.null, 3, [])]),
    (1489, .iconst 1, 1, [(.int 1, 0, [])]),
    (1490, .iadd, 1, []),
    (1491, .iaload, 1, []),
    (1492, .invokevirtual 192, 3, [(.null, 124, [2, 1, 6, 2, 766])]),
    (1495, .aload_n 2, 1, [(.null, 2, [])]),
    (1496, .aload_n 0, 1, [(.null, 0, [])]),
    (1497, .iload_n 3, 1, [(.null, 3, [])]),
    (1498, .iconst 1, 1, [(.int 1, 0, [])]),
    (1499, .iadd, 1, []),
    (1500, .iaload, 1, []),
    (1501, .invokevirtual 195, 3, [(.null, 250, [2, 1, 7, 2, 1231])]),
    (1504, .if_icmp .eq 5, 3, [(.null, 1509, [0, 1, 2, 3])]),
    (1507, .iconst 0, 1, [(.int 0, 0, [])]),
    (1508, .ireturn, 1, [])]),
  (1509, (0, []), [(1509, .iinc 3 5, 3, [(.int 5, 3, [])]),
    (1512, .goto (-1494), 3, [(.null, 18, [0, 1, 2, 3])])]),
  (1515, (0, []), [(1515, .iconst 1, 1, [(.int 1, 0, [])]),
    (1516, .ireturn, 1, [])])]
abbrev ax_En : Type := MethodName × ByteArray × Nat × Option FieldType × Nat × Nat × Bool × List Nat × Nat × Nat
/-- each method: name, bytes, locals, answer, frames and locals below it, static, the places of its words, its parameters, the number of its class -/
def ax_ents : List ax_En := [(yX0_closeIn, cX0_closeIn, 10, some .int, 3, 72, false, [514, 85, 512, 513], 3, 0),
  (yX0_stepsTo, cX0_stepsTo, 6, some .int, 2, 47, false, [518, 85, 517, 12], 3, 0),
  (yX0_coverOfAll, cX0_coverOfAll, 5, some .int, 1, 21, false, [521, 85, 520, 13], 2, 0),
  (yX0_closeBoth, cX0_closeBoth, 12, some .int, 3, 72, false, [530, 85, 528, 529], 4, 0),
  (yX0_chosen, cX0_chosen, 7, some .int, 0, 0, false, [535, 85, 534, 14], 3, 0),
  (yX0_isClosed, cX0_isClosed, 6, some .boolean, 2, 45, false, [538, 85, 537, 15], 4, 0),
  (yX0_spareBits, cX0_spareBits, 4, some .int, 2, 48, false, [547, 85, 545, 546], 1, 0),
  (yX0_gift, cX0_gift, 5, some .int, 2, 47, false, [560, 85, 558, 559], 3, 0),
  (yX0_mostGiving, cX0_mostGiving, 7, some .int, 3, 71, false, [556, 85, 554, 555], 3, 0),
  (yX0_fairShares, cX0_fairShares, 11, some .int, 3, 72, false, [571, 85, 569, 570], 3, 0),
  (yX0_worthOf, cX0_worthOf, 6, some .int, 2, 47, false, [574, 85, 573, 16], 3, 0),
  (yX0_screen, cX0_screen, 9, some .int, 2, 47, false, [631, 85, 629, 630], 3, 0),
  (yX0_waysTo, cX0_waysTo, 6, some .long, 4, 94, false, [651, 85, 649, 650], 4, 0),
  (yX0_goOn, cX0_goOn, 5, none, 3, 70, false, [654, 85, 653, 18], 2, 0),
  (yX1_write, cX1_write, 3, none, 0, 0, false, [354, 82, 352, 353], 2, 1),
  (yX1_had, cX1_had, 3, some .boolean, 1, 21, false, [687, 82, 686, 19], 2, 1),
  (yX1_hoursOf, cX1_hoursOf, 6, some .int, 2, 43, false, [684, 82, 682, 683], 3, 1),
  (yX1_hoursOfBoth, cX1_hoursOfBoth, 6, some .int, 2, 43, false, [704, 82, 702, 703], 3, 1),
  (yX1_longestOf, cX1_longestOf, 6, some .int, 2, 43, false, [695, 82, 693, 694], 2, 1),
  (yX2_coverOf, cX2_coverOf, 4, some .int, 0, 0, true, [289, 91, 288], 3, 2),
  (yX2_strides, cX2_strides, 3, some .boolean, 0, 0, true, [342, 91, 341], 2, 2),
  (yX2_panesOf, cX2_panesOf, 3, some .int, 0, 0, true, [613, 91, 612], 2, 2),
  (yX3_add, cX3_add, 2, some .int, 0, 0, false, [192, 83, 190, 191], 1, 3),
  (yX3_signAt, cX3_signAt, 2, some .int, 0, 0, false, [207, 83, 205, 206], 1, 3),
  (yX3_digitAt, cX3_digitAt, 2, some .int, 1, 21, false, [257, 83, 255, 256], 1, 3),
  (yX3_kindAt, cX3_kindAt, 2, some .int, 4, 92, false, [217, 83, 215, 216], 1, 3),
  (yX3_sizeOf, cX3_sizeOf, 1, some .int, 0, 0, true, [210, 83, 209], 1, 3),
  (yX3_fault, cX3_fault, 4, some .int, 7, 160, false, [200, 83, 198, 199], 2, 3),
  (yX3_misformedAt, cX3_misformedAt, 5, some .int, 6, 136, false, [203, 83, 202, 1], 0, 3),
  (yX3_fits, cX3_fits, 4, some .boolean, 5, 113, false, [213, 83, 212, 2], 3, 3),
  (yX3_senselessAt, cX3_senselessAt, 7, some .int, 4, 88, false, [260, 83, 259, 3], 2, 3),
  (yX3_hasSense, cX3_hasSense, 6, some .boolean, 3, 63, false, [263, 83, 262, 4], 3, 3),
  (yX3_hoursAt, cX3_hoursAt, 2, some .int, 2, 42, false, [271, 83, 270, 5], 1, 3),
  (yX4_add, cX4_add, 2, some .int, 0, 0, false, [732, 84, 730, 731], 1, 4),
  (yX4_numberAt, cX4_numberAt, 2, some .int, 0, 0, false, [720, 84, 718, 719], 1, 4),
  (yX5_copyFrom, cX5_copyFrom, 2, none, 1, 26, false, [427, 81, 425, 426], 1, 5),
  (yX5_addWall, cX5_addWall, 5, none, 2, 44, false, [283, 81, 281, 282], 3, 5),
  (yX5_takeTo, cX5_takeTo, 3, none, 2, 44, false, [293, 81, 291, 292], 2, 5),
  (yX5_sellTo, cX5_sellTo, 3, none, 1, 21, false, [301, 81, 299, 300], 2, 5),
  (yX5_turnInto, cX5_turnInto, 4, none, 2, 44, false, [404, 81, 402, 403], 3, 5),
  (yX5_setNeed, cX5_setNeed, 4, none, 1, 20, false, [305, 81, 303, 304], 3, 5),
  (yX5_turnBar, cX5_turnBar, 3, some .int, 2, 41, false, [309, 81, 307, 308], 2, 5),
  (yX5_passHour, cX5_passHour, 4, none, 4, 96, false, [318, 81, 316, 317], 0, 5),
  (yX5_nextHouse, cX5_nextHouse, 7, some .int, 3, 70, false, [321, 81, 320, 9], 1, 5),
  (yX5_canGo, cX5_canGo, 4, some .boolean, 2, 47, false, [334, 81, 332, 333], 3, 5),
  (yX5_weigh, cX5_weigh, 2, none, 1, 23, false, [286, 81, 285, 7], 0, 5),
  (yX5_isWall, cX5_isWall, 2, some .boolean, 0, 0, false, [297, 81, 295, 296], 1, 5),
  (yX5_isLent, cX5_isLent, 2, some .boolean, 0, 0, false, [454, 81, 452, 453], 1, 5),
  (yX5_needAt, cX5_needAt, 3, some .int, 0, 0, false, [391, 81, 389, 390], 2, 5),
  (yX5_needOf, cX5_needOf, 2, some .int, 0, 0, false, [329, 81, 327, 328], 1, 5),
  (yX5_lackOf, cX5_lackOf, 2, some .int, 1, 26, false, [325, 81, 323, 324], 1, 5),
  (yX5_lackWithout, cX5_lackWithout, 3, some .int, 1, 26, false, [346, 81, 344, 345], 1, 5),
  (yX5_allLacking, cX5_allLacking, 3, some .int, 2, 47, false, [412, 81, 410, 411], 0, 5),
  (yX5_seenBits, cX5_seenBits, 3, some .int, 2, 47, false, [350, 81, 348, 349], 0, 5),
  (yX5_lentBits, cX5_lentBits, 3, some .int, 1, 21, false, [479, 81, 477, 478], 0, 5),
  (yX5_wallsAt, cX5_wallsAt, 4, some .int, 0, 0, false, [370, 81, 368, 369], 1, 5),
  (yX5_wallsOwnedBy, cX5_wallsOwnedBy, 4, some .int, 0, 0, false, [374, 81, 372, 373], 1, 5),
  (yX5_allHoles, cX5_allHoles, 3, some .int, 0, 0, false, [773, 81, 771, 772], 0, 5),
  (yX5_needsAt, cX5_needsAt, 4, some .int, 1, 22, false, [586, 81, 584, 585], 1, 5),
  (yX5_coldestPart, cX5_coldestPart, 3, some .int, 2, 45, false, [582, 81, 580, 581], 0, 5),
  (yX5_bestWall, cX5_bestWall, 4, some .int, 0, 0, false, [596, 81, 594, 595], 0, 5),
  (yX5_warmerBits, cX5_warmerBits, 3, some .int, 1, 23, false, [601, 81, 599, 600], 0, 5),
  (yX5_looksAt, cX5_looksAt, 4, some .boolean, 2, 47, false, [621, 81, 619, 620], 2, 5),
  (yX6_begin, cX6_begin, 2, none, 2, 47, false, [423, 86, 422, 10], 1, 6),
  (yX6_goOn, cX6_goOn, 3, none, 5, 119, false, [433, 86, 432, 11], 1, 6),
  (yX6_after, cX6_after, 3, some (.object RX5), 6, 141, false, [420, 86, 418, 419], 2, 6),
  (yX6_hoursToHome, cX6_hoursToHome, 4, some .int, 5, 119, false, [450, 86, 448, 449], 2, 6),
  (yX6_hoursToGone, cX6_hoursToGone, 4, some .int, 5, 119, false, [458, 86, 456, 457], 2, 6),
  (yX6_hoursToSeen, cX6_hoursToSeen, 4, some .int, 5, 119, false, [466, 86, 464, 465], 2, 6),
  (yX6_hoursToAllLent, cX6_hoursToAllLent, 3, some .int, 5, 119, false, [475, 86, 473, 474], 1, 6),
  (yX6_goingsBetween, cX6_goingsBetween, 10, some .int, 5, 119, false, [496, 86, 494, 495], 4, 6),
  (yX6_bestLoan, cX6_bestLoan, 7, some .int, 6, 141, false, [504, 86, 502, 503], 2, 6),
  (yX6_settledPair, cX6_settledPair, 6, some .int, 6, 141, false, [639, 86, 637, 638], 4, 6),
  (yX6_seenWeight, cX6_seenWeight, 9, some .long, 5, 119, false, [664, 86, 662, 663], 4, 6),
  (yX6_fittingKinds, cX6_fittingKinds, 6, some .int, 6, 142, false, [712, 86, 710, 711], 3, 6),
  (yX6_fittingFigures, cX6_fittingFigures, 6, some .int, 6, 142, false, [724, 86, 722, 723], 3, 6),
  (yX6_isWhereTold, cX6_isWhereTold, 4, some .boolean, 5, 119, false, [716, 86, 715, 20], 2, 6),
  (yX6_firstNotSo, cX6_firstNotSo, 4, some .int, 5, 119, false, [740, 86, 738, 739], 2, 6),
  (yX6_overLots, cX6_overLots, 9, some .int, 6, 141, false, [752, 86, 750, 751], 4, 6),
  (yX7_letter, cX7_letter, 2, some .int, 1, 22, false, [185, 80, 183, 184], 1, 7),
  (yX7_street, cX7_street, 5, some .int, 8, 183, false, [196, 80, 194, 195], 0, 7),
  (yX7_tell, cX7_tell, 5, none, 6, 141, false, [276, 80, 275, 6], 1, 7),
  (yX7_pass, cX7_pass, 3, none, 5, 119, false, [314, 80, 313, 8], 1, 7),
  (yX7_wall, cX7_wall, 3, some .int, 1, 22, false, [359, 80, 357, 358], 2, 7),
  (yX7_house, cX7_house, 3, some .int, 2, 47, false, [364, 80, 362, 363], 2, 7),
  (yX7_takes, cX7_takes, 4, some .int, 3, 66, false, [378, 80, 376, 377], 2, 7),
  (yX7_sells, cX7_sells, 4, some .int, 2, 43, false, [382, 80, 380, 381], 2, 7),
  (yX7_needs, cX7_needs, 6, some .int, 2, 43, false, [386, 80, 384, 385], 3, 7),
  (yX7_bars, cX7_bars, 3, some .int, 3, 63, false, [395, 80, 393, 394], 2, 7),
  (yX7_turn, cX7_turn, 6, some .int, 3, 67, false, [400, 80, 398, 399], 3, 7),
  (yX7_hours, cX7_hours, 3, some .int, 6, 141, false, [408, 80, 406, 407], 1, 7),
  (yX7_atThen, cX7_atThen, 4, some .int, 7, 163, false, [416, 80, 414, 415], 2, 7),
  (yX7_lacksThen, cX7_lacksThen, 4, some .int, 7, 163, false, [438, 80, 436, 437], 2, 7),
  (yX7_allLack, cX7_allLack, 3, some .int, 7, 163, false, [442, 80, 440, 441], 1, 7),
  (yX7_goes, cX7_goes, 3, some .int, 6, 142, false, [446, 80, 444, 445], 2, 7),
  (yX7_shown, cX7_shown, 2, some .int, 6, 142, false, [462, 80, 460, 461], 1, 7),
  (yX7_asked, cX7_asked, 1, some .int, 6, 141, false, [471, 80, 469, 470], 0, 7),
  (yX7_coughs, cX7_coughs, 5, some .int, 6, 148, false, [492, 80, 490, 491], 3, 7),
  (yX7_lend, cX7_lend, 3, some .int, 7, 167, false, [500, 80, 498, 499], 1, 7),
  (yX7_close, cX7_close, 3, some .int, 4, 101, false, [510, 80, 508, 509], 2, 7),
  (yX7_split, cX7_split, 4, some .int, 4, 103, false, [526, 80, 524, 525], 3, 7),
  (yX7_spare, cX7_spare, 1, some .int, 3, 71, false, [543, 80, 541, 542], 0, 7),
  (yX7_price, cX7_price, 5, some .int, 4, 97, false, [552, 80, 550, 551], 2, 7),
  (yX7_shares, cX7_shares, 3, some .int, 4, 102, false, [567, 80, 565, 566], 2, 7),
  (yX7_coldest, cX7_coldest, 3, some .int, 3, 67, false, [578, 80, 576, 577], 1, 7),
  (yX7_best, cX7_best, 3, some .int, 3, 69, false, [592, 80, 590, 591], 1, 7),
  (yX7_each, cX7_each, 3, some .int, 2, 40, false, [605, 80, 603, 604], 1, 7),
  (yX7_panes, cX7_panes, 3, some .int, 1, 22, false, [610, 80, 608, 609], 1, 7),
  (yX7_sees, cX7_sees, 4, some .int, 3, 70, false, [617, 80, 615, 616], 1, 7),
  (yX7_hide, cX7_hide, 3, some .int, 3, 75, false, [627, 80, 625, 626], 2, 7),
  (yX7_two, cX7_two, 5, some .int, 7, 166, false, [635, 80, 633, 634], 3, 7),
  (yX7_ways, cX7_ways, 5, some .long, 5, 119, false, [643, 80, 641, 642], 3, 7),
  (yX7_rain, cX7_rain, 5, some .long, 6, 147, false, [660, 80, 658, 659], 4, 7),
  (yX7_mean, cX7_mean, 2, some .long, 3, 69, false, [675, 80, 673, 674], 1, 7),
  (yX7_wasSeen, cX7_wasSeen, 4, some .int, 3, 68, false, [679, 80, 677, 678], 3, 7),
  (yX7_longest, cX7_longest, 2, some .int, 3, 68, false, [691, 80, 689, 690], 1, 7),
  (yX7_together, cX7_together, 7, some .int, 3, 68, false, [700, 80, 698, 699], 3, 7),
  (yX7_whatIs, cX7_whatIs, 3, some .int, 7, 167, false, [708, 80, 706, 707], 2, 7),
  (yX7_row, cX7_row, 2, some .int, 1, 22, false, [728, 80, 726, 727], 1, 7),
  (yX7_judge, cX7_judge, 2, some .int, 6, 142, false, [736, 80, 734, 735], 0, 7),
  (yX7_clear, cX7_clear, 2, some .int, 0, 0, false, [744, 80, 742, 743], 0, 7),
  (yX7_lots, cX7_lots, 5, some .int, 7, 169, false, [748, 80, 746, 747], 3, 7),
  (yX7_image, cX7_image, 1, some .int, 2, 47, false, [760, 80, 758, 759], 0, 7),
  (yX7_on, cX7_on, 1, some .int, 2, 47, false, [765, 80, 763, 764], 0, 7),
  (yX7_count, cX7_count, 2, some .int, 3, 69, false, [769, 80, 767, 768], 1, 7),
  (yX7_refuse, cX7_refuse, 3, some .int, 0, 0, false, [188, 80, 187, 0], 1, 7),
  (yX7_refuseLong, cX7_refuseLong, 2, some .long, 1, 22, false, [646, 80, 645, 17], 1, 7),
  (yX7_isHouse, cX7_isHouse, 1, some .boolean, 0, 0, true, [265, 80, 264], 1, 7),
  (yX7_areTwoHouses, cX7_areTwoHouses, 2, some .boolean, 1, 20, true, [267, 80, 266], 2, 7),
  (yX7_outside, cX7_outside, 3, some .int, 0, 0, true, [273, 80, 272], 3, 7),
  (yX7_stepsBetween, cX7_stepsBetween, 2, some .int, 1, 26, true, [336, 80, 335], 2, 7),
  (yX7_hasBit, cX7_hasBit, 2, some .boolean, 0, 0, true, [311, 80, 310], 2, 7),
  (yX7_bitsIn, cX7_bitsIn, 1, some .int, 1, 20, true, [482, 80, 481], 1, 7),
  (yX7_power, cX7_power, 5, some .long, 0, 0, true, [532, 80, 531], 2, 7),
  (yX7_inLeastTerms, cX7_inLeastTerms, 7, some .long, 1, 30, true, [668, 80, 667], 3, 7),
  (yX7_commonDivisor, cX7_commonDivisor, 11, some .long, 0, 0, true, [671, 80, 670], 2, 7),
  (yX8_no, cX8_no, 2, some .int, 0, 0, false, [854, 87, 853, 21], 1, 8),
  (yX8_lowestOf, cX8_lowestOf, 2, some .long, 0, 0, false, [1165, 87, 1164, 73], 1, 8),
  (yX8_isIn, cX8_isIn, 3, some .boolean, 0, 0, true, [882, 87, 881], 3, 8),
  (yX8_bound, cX8_bound, 3, some .int, 0, 0, true, [851, 87, 850], 3, 8),
  (yX8_has, cX8_has, 2, some .boolean, 0, 0, true, [960, 87, 959], 2, 8),
  (yX8_bits, cX8_bits, 3, some .int, 0, 0, true, [1063, 87, 1062], 1, 8),
  (yX8_apart, cX8_apart, 2, some .int, 0, 0, true, [954, 87, 953], 2, 8),
  (yX8_isWall, cX8_isWall, 2, some .boolean, 1, 22, false, [906, 87, 905, 34], 1, 8),
  (yX8_isHouse, cX8_isHouse, 1, some .boolean, 1, 22, true, [900, 87, 899], 1, 8),
  (yX8_areTwo, cX8_areTwo, 2, some .boolean, 2, 42, true, [915, 87, 914], 2, 8),
  (yX8_letter, cX8_letter, 3, some .int, 1, 22, false, [848, 87, 846, 847], 1, 8),
  (yX8_letterNow, cX8_letterNow, 1, some .int, 0, 0, false, [864, 87, 863, 23], 0, 8),
  (yX8_readsDigits, cX8_readsDigits, 4, some .boolean, 1, 22, false, [879, 87, 878, 27], 1, 8),
  (yX8_kindTold, cX8_kindTold, 1, some .int, 0, 0, true, [873, 87, 872], 1, 8),
  (yX8_readsKind, cX8_readsKind, 2, some .boolean, 1, 20, false, [870, 87, 869, 25], 0, 8),
  (yX8_readsMany, cX8_readsMany, 3, some .boolean, 2, 45, false, [876, 87, 875, 26], 1, 8),
  (yX8_readsAll, cX8_readsAll, 2, some .boolean, 3, 67, false, [867, 87, 866, 24], 1, 8),
  (yX8_statement, cX8_statement, 2, some .boolean, 4, 88, false, [861, 87, 860, 22], 0, 8),
  (yX8_comesWall, cX8_comesWall, 4, some .boolean, 2, 42, false, [897, 87, 896, 32], 3, 8),
  (yX8_comesPlace, cX8_comesPlace, 4, some .boolean, 2, 43, false, [903, 87, 902, 33], 3, 8),
  (yX8_comesNeeds, cX8_comesNeeds, 3, some .boolean, 2, 42, false, [909, 87, 908, 35], 1, 8),
  (yX8_comesBar, cX8_comesBar, 3, some .boolean, 3, 63, false, [912, 87, 911, 36], 2, 8),
  (yX8_comesHours, cX8_comesHours, 2, some .boolean, 8, 178, false, [918, 87, 917, 37], 1, 8),
  (yX8_comesTold, cX8_comesTold, 3, some .boolean, 9, 199, false, [894, 87, 893, 31], 1, 8),
  (yX8_street, cX8_street, 3, some .int, 10, 221, false, [858, 87, 856, 857], 0, 8),
  (yX8_passes, cX8_passes, 3, none, 0, 0, false, [888, 87, 887, 29], 1, 8),
  (yX8_passOne, cX8_passOne, 3, some .int, 0, 0, false, [891, 87, 890, 30], 1, 8),
  (yX8_passesAll, cX8_passesAll, 3, none, 1, 22, false, [885, 87, 884, 28], 2, 8),
  (yX8_minds, cX8_minds, 1, none, 2, 44, false, [1022, 87, 1021, 54], 0, 8),
  (yX8_forgets, cX8_forgets, 1, none, 2, 44, false, [1025, 87, 1024, 55], 0, 8),
  (yX8_image, cX8_image, 1, some .int, 2, 44, false, [970, 87, 968, 969], 0, 8),
  (yX8_on, cX8_on, 1, some .int, 2, 44, false, [974, 87, 972, 973], 0, 8),
  (yX8_coversAt, cX8_coversAt, 4, some .int, 0, 0, false, [945, 87, 944, 46], 2, 8),
  (yX8_covers, cX8_covers, 2, some .int, 1, 23, false, [942, 87, 941, 45], 1, 8),
  (yX8_goesSteps, cX8_goesSteps, 3, some .boolean, 0, 0, false, [957, 87, 956, 49], 2, 8),
  (yX8_canGo, cX8_canGo, 4, some .boolean, 1, 22, false, [951, 87, 950, 48], 3, 8),
  (yX8_hasAt, cX8_hasAt, 4, some .int, 2, 44, false, [939, 87, 938, 44], 1, 8),
  (yX8_lacksWith, cX8_lacksWith, 4, some .int, 0, 0, false, [948, 87, 947, 47], 2, 8),
  (yX8_lacks, cX8_lacks, 2, some .int, 3, 67, false, [936, 87, 935, 43], 1, 8),
  (yX8_lacksWithout, cX8_lacksWithout, 2, some .int, 3, 67, false, [963, 87, 962, 50], 1, 8),
  (yX8_all, cX8_all, 3, some .int, 4, 88, false, [1012, 87, 1011, 53], 0, 8),
  (yX8_seenNow, cX8_seenNow, 3, some .int, 4, 88, false, [966, 87, 965, 51], 0, 8),
  (yX8_isLent, cX8_isLent, 2, some .boolean, 0, 0, false, [933, 87, 932, 42], 1, 8),
  (yX8_lentNow, cX8_lentNow, 3, some .int, 1, 21, false, [1060, 87, 1059, 60], 0, 8),
  (yX8_wallsOf, cX8_wallsOf, 5, some .int, 0, 0, false, [985, 87, 984, 52], 2, 8),
  (yX8_whereTo, cX8_whereTo, 5, some .int, 4, 88, false, [930, 87, 929, 41], 1, 8),
  (yX8_goesWall, cX8_goesWall, 4, none, 5, 112, false, [927, 87, 926, 40], 1, 8),
  (yX8_goesHour, cX8_goesHour, 2, none, 6, 135, false, [924, 87, 923, 39], 0, 8),
  (yX8_goes_, cX8_goes_, 3, none, 7, 156, false, [921, 87, 920, 38], 1, 8),
  (yX8_wall, cX8_wall, 3, some .int, 2, 44, false, [978, 87, 976, 977], 2, 8),
  (yX8_house, cX8_house, 3, some .int, 4, 88, false, [982, 87, 980, 981], 2, 8),
  (yX8_takes, cX8_takes, 4, some .int, 2, 43, false, [989, 87, 987, 988], 2, 8),
  (yX8_sells, cX8_sells, 4, some .int, 2, 43, false, [993, 87, 991, 992], 2, 8),
  (yX8_needs, cX8_needs, 6, some .int, 2, 42, false, [997, 87, 995, 996], 3, 8),
  (yX8_bars, cX8_bars, 3, some .int, 3, 63, false, [1001, 87, 999, 1000], 2, 8),
  (yX8_turn, cX8_turn, 6, some .int, 2, 43, false, [1005, 87, 1003, 1004], 3, 8),
  (yX8_hours, cX8_hours, 3, some .int, 8, 178, false, [1009, 87, 1007, 1008], 1, 8),
  (yX8_notHours, cX8_notHours, 1, some .int, 1, 22, true, [1019, 87, 1018], 1, 8),
  (yX8_atThen, cX8_atThen, 5, some .int, 8, 178, false, [1016, 87, 1014, 1015], 2, 8),
  (yX8_lacksIn, cX8_lacksIn, 4, some .int, 8, 178, false, [1032, 87, 1031, 56], 2, 8),
  (yX8_lacksThen, cX8_lacksThen, 4, some .int, 9, 201, false, [1029, 87, 1027, 1028], 2, 8),
  (yX8_allIn, cX8_allIn, 3, some .int, 8, 178, false, [1039, 87, 1038, 57], 1, 8),
  (yX8_allLack, cX8_allLack, 3, some .int, 9, 200, false, [1036, 87, 1034, 1035], 1, 8),
  (yX8_homeWhen, cX8_homeWhen, 4, some .int, 7, 156, false, [1046, 87, 1045, 58], 1, 8),
  (yX8_goneWhen, cX8_goneWhen, 5, some .int, 7, 156, false, [1049, 87, 1048, 59], 1, 8),
  (yX8_goes, cX8_goes, 4, some .int, 8, 180, false, [1043, 87, 1041, 1042], 2, 8),
  (yX8_shown, cX8_shown, 4, some .int, 7, 156, false, [1053, 87, 1051, 1052], 1, 8),
  (yX8_asked, cX8_asked, 3, some .int, 7, 156, false, [1057, 87, 1055, 1056], 0, 8),
  (yX8_coughs, cX8_coughs, 5, some .int, 8, 178, false, [1067, 87, 1065, 1066], 3, 8),
  (yX8_lend, cX8_lend, 8, some .int, 9, 200, false, [1071, 87, 1069, 1070], 1, 8),
  (yX8_coversAll, cX8_coversAll, 4, some .int, 2, 44, false, [1078, 87, 1077, 61], 1, 8),
  (yX8_stepsTo, cX8_stepsTo, 5, some .int, 1, 21, false, [1081, 87, 1080, 62], 2, 8),
  (yX8_close, cX8_close, 9, some .int, 3, 67, false, [1075, 87, 1073, 1074], 2, 8),
  (yX8_isSplit, cX8_isSplit, 7, some .boolean, 3, 67, false, [1091, 87, 1090, 63], 3, 8),
  (yX8_threes, cX8_threes, 3, some .int, 0, 0, true, [1088, 87, 1087], 1, 8),
  (yX8_split, cX8_split, 10, some .int, 4, 93, false, [1085, 87, 1083, 1084], 3, 8),
  (yX8_spare, cX8_spare, 3, some .int, 4, 88, false, [1095, 87, 1093, 1094], 0, 8),
  (yX8_gives, cX8_gives, 4, some .int, 4, 88, false, [1105, 87, 1104, 65], 2, 8),
  (yX8_buyerBut, cX8_buyerBut, 5, some .int, 5, 111, false, [1102, 87, 1101, 64], 2, 8),
  (yX8_price, cX8_price, 6, some .int, 6, 135, false, [1099, 87, 1097, 1098], 2, 8),
  (yX8_worth, cX8_worth, 5, some .int, 2, 44, false, [1112, 87, 1111, 66], 2, 8),
  (yX8_shares, cX8_shares, 9, some .int, 3, 68, false, [1109, 87, 1107, 1108], 2, 8),
  (yX8_needAt, cX8_needAt, 4, some .int, 0, 0, false, [1119, 87, 1118, 67], 1, 8),
  (yX8_coldest, cX8_coldest, 4, some .int, 1, 23, false, [1116, 87, 1114, 1115], 1, 8),
  (yX8_bestWall, cX8_bestWall, 3, some .int, 2, 44, false, [1126, 87, 1125, 68], 0, 8),
  (yX8_warmer, cX8_warmer, 3, some .int, 2, 44, false, [1129, 87, 1128, 69], 0, 8),
  (yX8_best, cX8_best, 3, some .int, 5, 110, false, [1123, 87, 1121, 1122], 1, 8),
  (yX8_each, cX8_each, 3, some .int, 3, 67, false, [1133, 87, 1131, 1132], 1, 8),
  (yX8_panes, cX8_panes, 2, some .int, 2, 43, false, [1137, 87, 1135, 1136], 1, 8),
  (yX8_isBetween, cX8_isBetween, 4, some .boolean, 0, 0, false, [1147, 87, 1146, 71], 3, 8),
  (yX8_sees_, cX8_sees_, 4, some .boolean, 4, 88, false, [1144, 87, 1143, 70], 2, 8),
  (yX8_sees, cX8_sees, 4, some .int, 5, 111, false, [1141, 87, 1139, 1140], 1, 8),
  (yX8_hide, cX8_hide, 7, some .int, 5, 111, false, [1151, 87, 1149, 1150], 2, 8),
  (yX8_findEnds, cX8_findEnds, 5, none, 8, 178, false, [1158, 87, 1157, 72], 3, 8),
  (yX8_two, cX8_two, 6, some .int, 9, 202, false, [1155, 87, 1153, 1154], 3, 8),
  (yX8_waysOn, cX8_waysOn, 4, none, 2, 45, false, [1169, 87, 1168, 74], 1, 8),
  (yX8_ways, cX8_ways, 6, some .long, 3, 68, false, [1162, 87, 1160, 1161], 3, 8),
  (yX8_divisor, cX8_divisor, 10, some .long, 0, 0, true, [1179, 87, 1178], 2, 8),
  (yX8_partOf, cX8_partOf, 5, some .long, 1, 29, true, [1176, 87, 1175], 3, 8),
  (yX8_rain, cX8_rain, 14, some .long, 7, 156, false, [1173, 87, 1171, 1172], 4, 8),
  (yX8_mean, cX8_mean, 3, some .long, 5, 110, false, [1183, 87, 1181, 1182], 1, 8),
  (yX8_wasSeenAt, cX8_wasSeenAt, 3, some .boolean, 1, 21, false, [1190, 87, 1189, 75], 2, 8),
  (yX8_wasSeen, cX8_wasSeen, 7, some .int, 2, 43, false, [1187, 87, 1185, 1186], 3, 8),
  (yX8_longest, cX8_longest, 5, some .int, 2, 43, false, [1194, 87, 1192, 1193], 1, 8),
  (yX8_together, cX8_together, 9, some .int, 3, 63, false, [1198, 87, 1196, 1197], 3, 8),
  (yX8_isSo, cX8_isSo, 4, some .boolean, 7, 156, false, [1208, 87, 1207, 77], 1, 8),
  (yX8_bitsFor, cX8_bitsFor, 7, some .int, 8, 179, false, [1205, 87, 1204, 76], 3, 8),
  (yX8_whatIs, cX8_whatIs, 4, some .int, 9, 205, false, [1202, 87, 1200, 1201], 2, 8),
  (yX8_row, cX8_row, 3, some .int, 1, 22, false, [1212, 87, 1210, 1211], 1, 8),
  (yX8_judge, cX8_judge, 3, some .int, 7, 156, false, [1216, 87, 1214, 1215], 0, 8),
  (yX8_clear, cX8_clear, 2, some .int, 0, 0, false, [1220, 87, 1218, 1219], 0, 8),
  (yX8_draw, cX8_draw, 2, some .int, 0, 0, false, [1227, 87, 1226, 78], 1, 8),
  (yX8_lots, cX8_lots, 8, some .int, 8, 178, false, [1224, 87, 1222, 1223], 3, 8),
  (yX8_allHoles, cX8_allHoles, 3, some .int, 0, 0, false, [1237, 87, 1236, 79], 0, 8),
  (yX8_count, cX8_count, 2, some .int, 5, 110, false, [1234, 87, 1232, 1233], 1, 8),
  (yJ6_bitCount_0f7a4, cJ6_bitCount_0f7a4, 1, some .int, 0, 0, true, [485, 93, 484], 1, 12),
  (yJ0_indexOf_0f7a4, cJ0_indexOf_0f7a4, 2, some .int, 3, 71, false, [221, 88, 219, 220], 1, 10),
  (yJ0_indexOf_7cf53, cJ0_indexOf_7cf53, 3, some .int, 2, 49, false, [225, 88, 223, 224], 2, 10),
  (yJ0_isLatin1_aae02, cJ0_isLatin1_aae02, 1, some .boolean, 0, 0, false, [229, 88, 227, 228], 0, 10),
  (yJ0_length_8abf5, cJ0_length_8abf5, 1, some .int, 1, 20, false, [234, 88, 232, 233], 0, 10),
  (yJ0_coder_7d493, cJ0_coder_7d493, 1, some .byte, 0, 0, false, [238, 88, 236, 237], 0, 10),
  (yJ1_indexOf_4cfef, cJ1_indexOf_4cfef, 4, some .int, 1, 26, true, [241, 89, 240], 4, 11),
  (yJ1_canEncode_9a6ad, cJ1_canEncode_9a6ad, 1, some .boolean, 0, 0, true, [244, 89, 243], 1, 11),
  (yJ1_indexOfChar_4cfef, cJ1_indexOfChar_4cfef, 6, some .int, 0, 0, true, [253, 89, 252], 4, 11)]
/-- what each method answers (0 nothing, 1 int, 2 long, 3 a reference, 4 boolean), and its code -/
def ax_code : List (Nat × List (Nat × ax_Bl)) := [(1, kd_0), (1, kd_1), (1, kd_2), (1, kd_3), (1, kd_4), (4, kd_5), (1, kd_6), (1, kd_7), (1, kd_8), (1, kd_9), (1, kd_10), (1, kd_11), (2, kd_12), (0, kd_13), (0, kd_14), (4, kd_15), (1, kd_16), (1, kd_17), (1, kd_18), (1, kd_19), (4, kd_20), (1, kd_21), (1, kd_22), (1, kd_23), (1, kd_24), (1, kd_25), (1, kd_26), (1, kd_27), (1, kd_28), (4, kd_29), (1, kd_30), (4, kd_31), (1, kd_32), (1, kd_33), (1, kd_34), (0, kd_35), (0, kd_36), (0, kd_37), (0, kd_38), (0, kd_39), (0, kd_40), (1, kd_41), (0, kd_42), (1, kd_43), (4, kd_44), (0, kd_45), (4, kd_46), (4, kd_47), (1, kd_48), (1, kd_49), (1, kd_50), (1, kd_51), (1, kd_52), (1, kd_53), (1, kd_54), (1, kd_55), (1, kd_56), (1, kd_57), (1, kd_58), (1, kd_59), (1, kd_60), (1, kd_61), (4, kd_62), (0, kd_63), (0, kd_64), (3, kd_65), (1, kd_66), (1, kd_67), (1, kd_68), (1, kd_69), (1, kd_70), (1, kd_71), (1, kd_72), (2, kd_73), (1, kd_74), (1, kd_75), (4, kd_76), (1, kd_77), (1, kd_78), (1, kd_79), (1, kd_80), (0, kd_81), (0, kd_82), (1, kd_83), (1, kd_84), (1, kd_85), (1, kd_86), (1, kd_87), (1, kd_88), (1, kd_89), (1, kd_90), (1, kd_91), (1, kd_92), (1, kd_93), (1, kd_94), (1, kd_95), (1, kd_96), (1, kd_97), (1, kd_98), (1, kd_99), (1, kd_100), (1, kd_101), (1, kd_102), (1, kd_103), (1, kd_104), (1, kd_105), (1, kd_106), (1, kd_107), (1, kd_108), (1, kd_109), (1, kd_110), (2, kd_111), (2, kd_112), (2, kd_113), (1, kd_114), (1, kd_115), (1, kd_116), (1, kd_117), (1, kd_118), (1, kd_119), (1, kd_120), (1, kd_121), (1, kd_122), (1, kd_123), (1, kd_124), (1, kd_125), (2, kd_126), (4, kd_127), (4, kd_128), (1, kd_129), (1, kd_130), (4, kd_131), (1, kd_132), (2, kd_133), (2, kd_134), (2, kd_135), (1, kd_136), (2, kd_137), (4, kd_138), (1, kd_139), (4, kd_140), (1, kd_141), (1, kd_142), (4, kd_143), (4, kd_144), (4, kd_145), (1, kd_146), (1, kd_147), (4, kd_148), (1, kd_149), (4, kd_150), (4, kd_151), (4, kd_152), (4, kd_153), (4, kd_154), (4, kd_155), (4, kd_156), (4, kd_157), (4, kd_158), (4, kd_159), (1, kd_160), (0, kd_161), (1, kd_162), (0, kd_163), (0, kd_164), (0, kd_165), (1, kd_166), (1, kd_167), (1, kd_168), (1, kd_169), (4, kd_170), (4, kd_171), (1, kd_172), (1, kd_173), (1, kd_174), (1, kd_175), (1, kd_176), (1, kd_177), (4, kd_178), (1, kd_179), (1, kd_180), (1, kd_181), (0, kd_182), (0, kd_183), (0, kd_184), (1, kd_185), (1, kd_186), (1, kd_187), (1, kd_188), (1, kd_189), (1, kd_190), (1, kd_191), (1, kd_192), (1, kd_193), (1, kd_194), (1, kd_195), (1, kd_196), (1, kd_197), (1, kd_198), (1, kd_199), (1, kd_200), (1, kd_201), (1, kd_202), (1, kd_203), (1, kd_204), (1, kd_205), (1, kd_206), (1, kd_207), (1, kd_208), (4, kd_209), (1, kd_210), (1, kd_211), (1, kd_212), (1, kd_213), (1, kd_214), (1, kd_215), (1, kd_216), (1, kd_217), (1, kd_218), (1, kd_219), (1, kd_220), (1, kd_221), (1, kd_222), (1, kd_223), (1, kd_224), (4, kd_225), (4, kd_226), (1, kd_227), (1, kd_228), (0, kd_229), (1, kd_230), (0, kd_231), (2, kd_232), (2, kd_233), (2, kd_234), (2, kd_235), (2, kd_236), (4, kd_237), (1, kd_238), (1, kd_239), (1, kd_240), (4, kd_241), (1, kd_242), (1, kd_243), (1, kd_244), (1, kd_245), (1, kd_246), (1, kd_247), (1, kd_248), (1, kd_249), (1, kd_250), (1, kd_251), (1, kd_252), (1, kd_253), (4, kd_254), (1, kd_255), (4, kd_256), (1, kd_257), (4, kd_258), (1, kd_259), (4, kd_260)]
end
section
/-! the words that the methods need, told by numbers; that the tables have them -/
def ax_nmL : List String := [RX0, RX1, RX2, RX3, RX4, RX5, RX6, RX7, RX8, RL, RJ0, RJ1, RJ6]
def ax_nmC (a : Nat) : String := ax_nmL.getD a ""
def ax_ent (z : Nat) : ax_En := ax_ents.getD z (⟨"", "", ""⟩, ByteArray.empty, 0, none, 0, 0, true, [], 0, 99)
def ax_y (z : Nat) : MethodName := (ax_ent z).1
def ax_c (z : Nat) : ByteArray := (ax_ent z).2.1
def ax_nL (z : Nat) : Nat := (ax_ent z).2.2.1
def ax_rT (z : Nat) : Option FieldType := (ax_ent z).2.2.2.1
def ax_fr (z : Nat) : Nat := (ax_ent z).2.2.2.2.1
def ax_lo (z : Nat) : Nat := (ax_ent z).2.2.2.2.2.1
def ax_sc (z : Nat) : Bool := (ax_ent z).2.2.2.2.2.2.1
def ax_pl (z : Nat) : List Nat := (ax_ent z).2.2.2.2.2.2.2.1
def ax_np (z : Nat) : Nat := (ax_ent z).2.2.2.2.2.2.2.2.1
def ax_ow (z : Nat) : Nat := (ax_ent z).2.2.2.2.2.2.2.2.2
/-- the number of a class of objects among all classes: 98 String -/
def ax_c2o (ci : Nat) : Nat := if ci = 98 then 10 else [0, 1, 3, 4, 5, 6, 7, 8].getD ci 77
def ax_cd (c : Nat) : vw_C := ax_cl.getD c ("", fun _ => ("", "", "", false), 0)
def ax_pn (p : Nat) : MethodName := match p with
  | 1 => Lib.Math.max.name
  | 2 => Lib.Math.min.name
  | 3 => Lib.Math.abs.name
  | _ => arraycopyName
abbrev ax_Ds : Type := Nat × Nat × Nat × Nat × Nat
def ax_wrd (q : ax_Ds) : Cond := match q with
  | (0, a, b, c, d) => .fieldLink (ax_nmC a) b ((ax_cd c).2.1 d).1 ((ax_cd c).2.1 d).2.1 ((ax_cd c).2.1 d).2.2.1
  | (1, a, b, z, _) => .methodLink (ax_nmC a) b (ax_y z)
  | (2, z, _, _, _) => .code (ax_y z) (ax_c z) (ax_nL z) (ax_rT z)
  | (3, a, _, _, _) => .initialized (ax_nmC a)
  | (4, z, _, _, _) => .static (ax_y z)
  | (5, z, _, _, _) => .instanceMethod (ax_y z)
  | (6, z, _, _, _) => .selects (ax_y z).cls (ax_y z) (ax_y z)
  | (7, c, d, _, _) => u_lay (ax_cd c).1 (ax_cd c).2.1 d
  | (8, a, b, v, _) => .constant (ax_nmC a) b (Int32.ofNat v)
  | (9, a, b, v, _) => .constantLong (ax_nmC a) b (Int64.ofNat v)
  | (10, a, b, p, _) => .methodLink (ax_nmC a) b (ax_pn p)
  | (11, p, _, _, _) => .static (ax_pn p)
  | (12, 1, _, _, _) => .code Lib.Math.max.name Lib.Math.max.code 2 (some .int)
  | (12, 2, _, _, _) => .code Lib.Math.min.name Lib.Math.min.code 2 (some .int)
  | (12, _, _, _, _) => .code Lib.Math.abs.name Lib.Math.abs.code 1 (some .int)
  | (13, _, _, _, _) => .initialized "java/lang/Math"
  | (14, _, _, _, _) => .native arraycopyName
  | (15, _, _, _, _) => .initialized "java/lang/System"
  | (16, a, b, 0, _) => .fieldLink (ax_nmC a) b "java/lang/String" "value" "[B"
  | (16, a, b, 1, _) => .fieldLink (ax_nmC a) b "java/lang/String" "coder" "B"
  | (_, a, b, _, _) => .fieldLink (ax_nmC a) b "java/lang/String" "COMPACT_STRINGS" "Z"
def ax_ds_0 : List ax_Ds := [(6, 125, 0, 0, 0), (6, 28, 0, 0, 0), (6, 29, 0, 0, 0), (6, 30, 0, 0, 0), (6, 31, 0, 0, 0), (6, 32, 0, 0, 0), (6, 81, 0, 0, 0), (6, 45, 0, 0, 0), (6, 82, 0, 0, 0), (6, 43, 0, 0, 0), (6, 63, 0, 0, 0), (6, 64, 0, 0, 0), (6, 1, 0, 0, 0), (6, 2, 0, 0, 0), (6, 4, 0, 0, 0), (6, 5, 0, 0, 0)]
set_option maxRecDepth 100000 in
set_option maxHeartbeats 4000000 in
theorem ax_sl_0 : List.Sublist (ax_ds_0.map ax_wrd) (k2_sels lw_privs_1) := .cons₂ _ (.cons₂ _ (.cons₂ _ (.cons₂ _ (.cons₂ _ (.cons₂ _ (.cons₂ _ (.cons₂ _ (.cons₂ _ (.cons₂ _ (.cons₂ _ (.cons₂ _ (.cons₂ _ (.cons₂ _ (.cons₂ _ (.cons₂ _ (.slnil))))))))))))))))
def ax_ds_1 : List ax_Ds := [(6, 10, 0, 0, 0), (6, 126, 0, 0, 0), (6, 13, 0, 0, 0), (6, 15, 0, 0, 0), (6, 76, 0, 0, 0), (6, 136, 0, 0, 0), (6, 153, 0, 0, 0), (6, 147, 0, 0, 0), (6, 152, 0, 0, 0), (6, 150, 0, 0, 0), (6, 151, 0, 0, 0), (6, 148, 0, 0, 0), (6, 163, 0, 0, 0), (6, 161, 0, 0, 0), (6, 162, 0, 0, 0), (6, 159, 0, 0, 0)]
set_option maxRecDepth 100000 in
set_option maxHeartbeats 4000000 in
theorem ax_sl_1 : List.Sublist (ax_ds_1.map ax_wrd) (k2_sels lw_privs_2) := .cons₂ _ (.cons₂ _ (.cons₂ _ (.cons₂ _ (.cons₂ _ (.cons₂ _ (.cons₂ _ (.cons₂ _ (.cons₂ _ (.cons₂ _ (.cons₂ _ (.cons₂ _ (.cons₂ _ (.cons₂ _ (.cons₂ _ (.cons₂ _ (.slnil))))))))))))))))
def ax_ds_2 : List ax_Ds := [(6, 154, 0, 0, 0), (6, 155, 0, 0, 0), (6, 143, 0, 0, 0), (6, 156, 0, 0, 0), (6, 157, 0, 0, 0), (6, 158, 0, 0, 0), (6, 184, 0, 0, 0), (6, 183, 0, 0, 0), (6, 182, 0, 0, 0), (6, 181, 0, 0, 0), (6, 178, 0, 0, 0), (6, 174, 0, 0, 0), (6, 172, 0, 0, 0), (6, 169, 0, 0, 0), (6, 168, 0, 0, 0), (6, 173, 0, 0, 0)]
set_option maxRecDepth 100000 in
set_option maxHeartbeats 4000000 in
theorem ax_sl_2 : List.Sublist (ax_ds_2.map ax_wrd) (k2_sels lw_privs_3) := .cons₂ _ (.cons₂ _ (.cons₂ _ (.cons₂ _ (.cons₂ _ (.cons₂ _ (.cons₂ _ (.cons₂ _ (.cons₂ _ (.cons₂ _ (.cons₂ _ (.cons₂ _ (.cons₂ _ (.cons₂ _ (.cons₂ _ (.cons₂ _ (.slnil))))))))))))))))
def ax_ds_3 : List ax_Ds := [(6, 171, 0, 0, 0), (6, 170, 0, 0, 0), (6, 175, 0, 0, 0), (6, 177, 0, 0, 0), (6, 180, 0, 0, 0), (6, 176, 0, 0, 0), (6, 164, 0, 0, 0), (6, 165, 0, 0, 0), (6, 195, 0, 0, 0), (6, 197, 0, 0, 0), (6, 199, 0, 0, 0), (6, 200, 0, 0, 0), (6, 179, 0, 0, 0), (6, 206, 0, 0, 0), (6, 207, 0, 0, 0), (6, 209, 0, 0, 0)]
set_option maxRecDepth 100000 in
set_option maxHeartbeats 4000000 in
theorem ax_sl_3 : List.Sublist (ax_ds_3.map ax_wrd) (k2_sels lw_privs_4) := .cons₂ _ (.cons₂ _ (.cons₂ _ (.cons₂ _ (.cons₂ _ (.cons₂ _ (.cons₂ _ (.cons₂ _ (.cons₂ _ (.cons₂ _ (.cons₂ _ (.cons₂ _ (.cons₂ _ (.cons₂ _ (.cons₂ _ (.cons₂ _ (.slnil))))))))))))))))
def ax_ds_4 : List ax_Ds := [(6, 214, 0, 0, 0), (6, 213, 0, 0, 0), (6, 216, 0, 0, 0), (6, 218, 0, 0, 0), (6, 220, 0, 0, 0), (6, 221, 0, 0, 0), (6, 226, 0, 0, 0), (6, 225, 0, 0, 0), (6, 229, 0, 0, 0), (6, 137, 0, 0, 0), (6, 231, 0, 0, 0), (6, 237, 0, 0, 0), (6, 242, 0, 0, 0), (6, 241, 0, 0, 0), (6, 247, 0, 0, 0), (6, 249, 0, 0, 0)]
set_option maxRecDepth 100000 in
set_option maxHeartbeats 4000000 in
theorem ax_sl_4 : List.Sublist (ax_ds_4.map ax_wrd) (k2_sels lw_privs_5) := .cons₂ _ (.cons₂ _ (.cons₂ _ (.cons₂ _ (.cons₂ _ (.cons₂ _ (.cons₂ _ (.cons₂ _ (.cons₂ _ (.cons₂ _ (.cons₂ _ (.cons₂ _ (.cons₂ _ (.cons₂ _ (.cons₂ _ (.cons₂ _ (.slnil))))))))))))))))
def ax_ds_5 : List ax_Ds := [(3, 7, 0, 0, 0), (3, 5, 0, 0, 0), (3, 1, 0, 0, 0), (3, 3, 0, 0, 0), (3, 4, 0, 0, 0), (3, 0, 0, 0, 0), (3, 6, 0, 0, 0), (3, 8, 0, 0, 0), (3, 10, 0, 0, 0), (3, 11, 0, 0, 0), (13, 0, 0, 0, 0), (3, 2, 0, 0, 0), (15, 0, 0, 0, 0), (3, 12, 0, 0, 0), (0, 5, 9, 4, 0), (0, 0, 24, 4, 0), (0, 7, 73, 4, 0), (0, 6, 50, 4, 0), (0, 5, 15, 4, 1), (0, 7, 76, 4, 1), (0, 5, 18, 4, 2), (0, 6, 78, 4, 2), (0, 5, 21, 4, 3), (0, 7, 133, 4, 3), (0, 6, 96, 4, 3), (0, 5, 25, 4, 4), (0, 7, 136, 4, 4), (0, 6, 85, 4, 4), (0, 5, 28, 4, 5), (0, 7, 139, 4, 5), (0, 6, 75, 4, 5), (0, 0, 85, 4, 5), (0, 5, 31, 4, 6), (0, 0, 43, 4, 6), (0, 6, 43, 4, 6), (0, 7, 142, 4, 6), (0, 5, 34, 4, 7), (0, 7, 145, 4, 7), (0, 5, 37, 4, 8), (0, 6, 61, 4, 8), (0, 5, 40, 4, 9), (0, 5, 43, 4, 10), (0, 7, 169, 4, 10), (0, 5, 46, 4, 11), (0, 0, 51, 4, 11), (0, 7, 148, 4, 11), (0, 5, 49, 4, 12), (0, 7, 157, 4, 12), (7, 4, 0, 0, 0), (7, 4, 1, 0, 0), (7, 4, 2, 0, 0), (7, 4, 3, 0, 0), (7, 4, 4, 0, 0), (7, 4, 5, 0, 0), (7, 4, 6, 0, 0), (7, 4, 7, 0, 0), (7, 4, 8, 0, 0), (7, 4, 9, 0, 0), (7, 4, 10, 0, 0), (7, 4, 11, 0, 0), (7, 4, 12, 0, 0), (0, 1, 9, 1, 0), (7, 1, 0, 0, 0), (0, 3, 9, 2, 0), (0, 3, 15, 2, 1), (0, 7, 66, 2, 1), (7, 2, 0, 0, 0), (7, 2, 1, 0, 0), (0, 4, 9, 3, 0), (0, 4, 15, 3, 1), (0, 6, 99, 3, 1), (0, 7, 306, 3, 1), (7, 3, 0, 0, 0), (7, 3, 1, 0, 0), (0, 0, 9, 0, 0), (0, 0, 15, 0, 1), (7, 0, 0, 0, 0), (7, 0, 1, 0, 0), (0, 6, 12, 5, 0), (0, 6, 18, 5, 1), (0, 6, 22, 5, 2), (7, 5, 0, 0, 0), (7, 5, 1, 0, 0), (7, 5, 2, 0, 0), (0, 7, 10, 6, 0), (0, 7, 16, 6, 1), (0, 7, 22, 6, 2), (0, 7, 26, 6, 3), (0, 7, 33, 6, 4), (0, 7, 40, 6, 5), (0, 7, 47, 6, 6), (0, 7, 54, 6, 7), (0, 7, 58, 6, 8), (7, 6, 0, 0, 0), (7, 6, 1, 0, 0), (7, 6, 2, 0, 0), (7, 6, 3, 0, 0), (7, 6, 4, 0, 0), (7, 6, 5, 0, 0), (7, 6, 6, 0, 0), (7, 6, 7, 0, 0), (7, 6, 8, 0, 0), (1, 9, 13, 79, 0), (5, 79, 0, 0, 0), (6, 79, 0, 0, 0), (2, 79, 0, 0, 0), (1, 7, 62, 125, 0), (5, 125, 0, 0, 0), (2, 125, 0, 0, 0), (1, 7, 70, 22, 0), (5, 22, 0, 0, 0), (6, 22, 0, 0, 0), (2, 22, 0, 0, 0), (1, 9, 18, 80, 0), (5, 80, 0, 0, 0), (6, 80, 0, 0, 0), (2, 80, 0, 0, 0), (1, 7, 79, 27, 0), (5, 27, 0, 0, 0), (6, 27, 0, 0, 0), (2, 27, 0, 0, 0), (1, 3, 30, 28, 0), (5, 28, 0, 0, 0), (2, 28, 0, 0, 0), (1, 3, 19, 23, 0), (5, 23, 0, 0, 0), (6, 23, 0, 0, 0), (2, 23, 0, 0, 0), (1, 3, 38, 26, 0), (4, 26, 0, 0, 0), (2, 26, 0, 0, 0), (1, 3, 41, 29, 0), (5, 29, 0, 0, 0), (2, 29, 0, 0, 0), (1, 3, 45, 25, 0), (5, 25, 0, 0, 0), (6, 25, 0, 0, 0), (2, 25, 0, 0, 0), (1, 3, 25, 252, 0), (5, 252, 0, 0, 0), (6, 252, 0, 0, 0), (2, 252, 0, 0, 0), (1, 10, 633, 253, 0), (5, 253, 0, 0, 0), (6, 253, 0, 0, 0)]
set_option maxRecDepth 100000 in
set_option maxHeartbeats 4000000 in
theorem ax_sl_5 : List.Sublist (ax_ds_5.map ax_wrd) (tables_1_1) := .cons _ (.cons₂ _ (.cons₂ _ (.cons₂ _ (.cons₂ _ (.cons₂ _ (.cons₂ _ (.cons₂ _ (.cons₂ _ (.cons₂ _ (.cons₂ _ (.cons₂ _ (.cons _ (.cons _ (.cons _ (.cons₂ _ (.cons₂ _ (.cons₂ _ (.cons _ (.cons _ (.cons _ (.cons _ (.cons _ (.cons _ (.cons _ (.cons _ (.cons _ (.cons _ (.cons _ (.cons _ (.cons _ (.cons _ (.cons₂ _ (.cons₂ _ (.cons₂ _ (.cons₂ _ (.cons₂ _ (.cons₂ _ (.cons₂ _ (.cons₂ _ (.cons₂ _ (.cons₂ _ (.cons₂ _ (.cons₂ _ (.cons₂ _ (.cons₂ _ (.cons₂ _ (.cons₂ _ (.cons₂ _ (.cons₂ _ (.cons₂ _ (.cons₂ _ (.cons₂ _ (.cons₂ _ (.cons₂ _ (.cons₂ _ (.cons₂ _ (.cons₂ _ (.cons₂ _ (.cons₂ _ (.cons₂ _ (.cons₂ _ (.cons₂ _ (.cons₂ _ (.cons₂ _ (.cons₂ _ (.cons₂ _ (.cons _ (.cons₂ _ (.cons _ (.cons₂ _ (.cons _ (.cons₂ _ (.cons _ (.cons₂ _ (.cons _ (.cons₂ _ (.cons _ (.cons₂ _ (.cons _ (.cons₂ _ (.cons _ (.cons₂ _ (.cons _ (.cons₂ _ (.cons _ (.cons₂ _ (.cons _ (.cons₂ _ (.cons _ (.cons₂ _ (.cons _ (.cons _ (.cons _ (.cons _ (.cons _ (.cons _ (.cons _ (.cons _ (.cons _ (.cons₂ _ (.cons₂ _ (.cons _ (.cons _ (.cons _ (.cons _ (.cons _ (.cons _ (.cons _ (.cons _ (.cons₂ _ (.cons₂ _ (.cons₂ _ (.cons₂ _ (.cons _ (.cons₂ _ (.cons _ (.cons _ (.cons _ (.cons _ (.cons _ (.cons _ (.cons _ (.cons _ (.cons₂ _ (.cons₂ _ (.cons₂ _ (.cons₂ _ (.cons₂ _ (.cons _ (.cons₂ _ (.cons _ (.cons _ (.cons _ (.cons _ (.cons _ (.cons _ (.cons _ (.cons _ (.cons₂ _ (.cons₂ _ (.cons₂ _ (.cons _ (.cons₂ _ (.cons _ (.cons _ (.cons _ (.cons _ (.cons _ (.cons _ (.cons _ (.cons _ (.cons _ (.cons _ (.cons _ (.cons₂ _ (.cons₂ _ (.cons₂ _ (.cons₂ _ (.cons _ (.cons₂ _ (.cons _ (.cons₂ _ (.cons _ (.cons _ (.cons₂ _ (.cons₂ _ (.cons₂ _ (.cons₂ _ (.cons₂ _ (.cons₂ _ (.cons₂ _ (.cons₂ _ (.cons₂ _ (.cons₂ _ (.cons _ (.cons₂ _ (.cons _ (.cons₂ _ (.cons _ (.cons₂ _ (.cons _ (.cons₂ _ (.cons _ (.cons₂ _ (.cons _ (.cons₂ _ (.cons _ (.cons₂ _ (.cons _ (.cons₂ _ (.cons _ (.cons _ (.cons₂ _ (.cons₂ _ (.cons₂ _ (.cons₂ _ (.cons₂ _ (.cons _ (.cons₂ _ (.cons₂ _ (.cons₂ _ (.cons₂ _ (.cons₂ _ (.cons₂ _ (.cons₂ _ (.cons₂ _ (.cons₂ _ (.cons₂ _ (.cons₂ _ (.cons₂ _ (.cons₂ _ (.cons₂ _ (.cons₂ _ (.cons _ (.cons₂ _ (.cons₂ _ (.cons₂ _ (.cons₂ _ (.cons₂ _ (.cons₂ _ (.cons₂ _ (.cons₂ _ (.cons₂ _ (.cons₂ _ (.cons _ (.cons₂ _ (.cons₂ _ (.cons₂ _ (.cons₂ _ (.cons₂ _ (.cons₂ _ (.cons _ (.cons₂ _ (.cons₂ _ (.cons₂ _ (.cons₂ _ (.cons₂ _ (.cons₂ _ (.cons₂ _ (.slnil))))))))))))))))))))))))))))))))))))))))))))))))))))))))))))))))))))))))))))))))))))))))))))))))))))))))))))))))))))))))))))))))))))))))))))))))))))))))))))))))))))))))))))))))))))))))))))))))))))))))))))))))))))))))))))))))))))))))))))))))
def ax_ds_6 : List ax_Ds := [(2, 253, 0, 0, 0), (1, 10, 492, 254, 0), (5, 254, 0, 0, 0), (6, 254, 0, 0, 0), (2, 254, 0, 0, 0), (16, 10, 38, 2, 0), (1, 10, 505, 255, 0), (5, 255, 0, 0, 0), (6, 255, 0, 0, 0), (2, 255, 0, 0, 0), (1, 10, 335, 256, 0), (5, 256, 0, 0, 0), (6, 256, 0, 0, 0), (2, 256, 0, 0, 0), (1, 10, 637, 257, 0), (4, 257, 0, 0, 0), (2, 257, 0, 0, 0), (1, 11, 88, 258, 0), (4, 258, 0, 0, 0), (2, 258, 0, 0, 0), (10, 11, 92, 1, 0), (11, 1, 0, 0, 0), (12, 1, 0, 0, 0), (10, 11, 38, 2, 0), (11, 2, 0, 0, 0), (12, 2, 0, 0, 0), (1, 11, 95, 259, 0), (4, 259, 0, 0, 0), (2, 259, 0, 0, 0), (1, 3, 48, 24, 0), (5, 24, 0, 0, 0), (6, 24, 0, 0, 0), (2, 24, 0, 0, 0), (1, 3, 34, 30, 0), (5, 30, 0, 0, 0), (2, 30, 0, 0, 0), (1, 3, 51, 31, 0), (5, 31, 0, 0, 0), (2, 31, 0, 0, 0), (4, 127, 0, 0, 0), (2, 127, 0, 0, 0), (4, 128, 0, 0, 0), (2, 128, 0, 0, 0), (1, 7, 151, 127, 0), (1, 3, 54, 32, 0), (5, 32, 0, 0, 0), (2, 32, 0, 0, 0), (4, 129, 0, 0, 0), (2, 129, 0, 0, 0), (1, 7, 83, 81, 0), (5, 81, 0, 0, 0), (2, 81, 0, 0, 0), (1, 7, 93, 24, 0), (1, 7, 87, 23, 0), (1, 7, 96, 25, 0), (1, 7, 99, 36, 0), (5, 36, 0, 0, 0), (6, 36, 0, 0, 0), (2, 36, 0, 0, 0), (1, 5, 62, 45, 0), (5, 45, 0, 0, 0), (2, 45, 0, 0, 0), (1, 5, 98, 19, 0), (4, 19, 0, 0, 0), (2, 19, 0, 0, 0), (1, 7, 103, 37, 0), (5, 37, 0, 0, 0), (6, 37, 0, 0, 0), (2, 37, 0, 0, 0), (1, 5, 65, 46, 0), (5, 46, 0, 0, 0), (6, 46, 0, 0, 0), (2, 46, 0, 0, 0), (1, 7, 107, 38, 0), (5, 38, 0, 0, 0), (6, 38, 0, 0, 0), (2, 38, 0, 0, 0), (1, 7, 110, 40, 0), (5, 40, 0, 0, 0), (6, 40, 0, 0, 0), (2, 40, 0, 0, 0), (1, 7, 113, 41, 0), (5, 41, 0, 0, 0), (6, 41, 0, 0, 0), (2, 41, 0, 0, 0), (4, 131, 0, 0, 0), (2, 131, 0, 0, 0), (1, 7, 116, 82, 0), (5, 82, 0, 0, 0), (2, 82, 0, 0, 0), (1, 7, 119, 42, 0), (5, 42, 0, 0, 0), (6, 42, 0, 0, 0), (2, 42, 0, 0, 0), (1, 5, 75, 43, 0), (5, 43, 0, 0, 0), (2, 43, 0, 0, 0), (1, 5, 79, 50, 0), (5, 50, 0, 0, 0), (6, 50, 0, 0, 0), (2, 50, 0, 0, 0), (1, 5, 102, 49, 0), (5, 49, 0, 0, 0), (6, 49, 0, 0, 0), (2, 49, 0, 0, 0), (10, 5, 105, 1, 0), (1, 5, 82, 44, 0), (5, 44, 0, 0, 0), (6, 44, 0, 0, 0), (2, 44, 0, 0, 0), (4, 130, 0, 0, 0), (2, 130, 0, 0, 0), (10, 7, 325, 3, 0), (11, 3, 0, 0, 0), (12, 3, 0, 0, 0), (1, 5, 93, 20, 0), (4, 20, 0, 0, 0), (2, 20, 0, 0, 0), (1, 5, 86, 51, 0), (5, 51, 0, 0, 0), (6, 51, 0, 0, 0), (2, 51, 0, 0, 0), (1, 7, 122, 53, 0), (5, 53, 0, 0, 0), (6, 53, 0, 0, 0), (2, 53, 0, 0, 0), (1, 7, 126, 14, 0), (5, 14, 0, 0, 0), (6, 14, 0, 0, 0), (2, 14, 0, 0, 0), (1, 7, 90, 26, 0), (1, 9, 23, 83, 0), (5, 83, 0, 0, 0), (6, 83, 0, 0, 0), (2, 83, 0, 0, 0), (1, 7, 129, 46, 0), (1, 9, 28, 84, 0), (5, 84, 0, 0, 0), (6, 84, 0, 0, 0), (2, 84, 0, 0, 0), (1, 7, 154, 49, 0), (1, 7, 160, 50, 0), (1, 7, 163, 55, 0), (5, 55, 0, 0, 0), (6, 55, 0, 0, 0), (2, 55, 0, 0, 0), (1, 7, 166, 56, 0), (5, 56, 0, 0, 0), (6, 56, 0, 0, 0), (2, 56, 0, 0, 0), (1, 9, 32, 85, 0), (5, 85, 0, 0, 0), (6, 85, 0, 0, 0), (2, 85, 0, 0, 0), (1, 9, 36, 86, 0), (5, 86, 0, 0, 0), (6, 86, 0, 0, 0), (2, 86, 0, 0, 0), (1, 9, 40, 87, 0), (5, 87, 0, 0, 0), (6, 87, 0, 0, 0), (2, 87, 0, 0, 0), (1, 7, 172, 129, 0), (1, 7, 176, 48, 0), (5, 48, 0, 0, 0), (6, 48, 0, 0, 0), (2, 48, 0, 0, 0), (1, 9, 45, 88, 0), (5, 88, 0, 0, 0), (6, 88, 0, 0, 0), (2, 88, 0, 0, 0), (1, 7, 179, 128, 0), (1, 9, 49, 89, 0), (5, 89, 0, 0, 0), (6, 89, 0, 0, 0)]
set_option maxRecDepth 100000 in
set_option maxHeartbeats 4000000 in
theorem ax_sl_6 : List.Sublist (ax_ds_6.map ax_wrd) (tables_1_2) := .cons₂ _ (.cons₂ _ (.cons₂ _ (.cons₂ _ (.cons₂ _ (.cons₂ _ (.cons _ (.cons₂ _ (.cons₂ _ (.cons₂ _ (.cons₂ _ (.cons₂ _ (.cons₂ _ (.cons₂ _ (.cons₂ _ (.cons₂ _ (.cons₂ _ (.cons₂ _ (.cons₂ _ (.cons₂ _ (.cons₂ _ (.cons₂ _ (.cons₂ _ (.cons₂ _ (.cons₂ _ (.cons₂ _ (.cons₂ _ (.cons₂ _ (.cons₂ _ (.cons₂ _ (.cons _ (.cons _ (.cons _ (.cons _ (.cons _ (.cons _ (.cons _ (.cons _ (.cons _ (.cons _ (.cons _ (.cons _ (.cons _ (.cons _ (.cons _ (.cons _ (.cons _ (.cons _ (.cons _ (.cons _ (.cons _ (.cons _ (.cons _ (.cons _ (.cons _ (.cons _ (.cons _ (.cons _ (.cons _ (.cons _ (.cons _ (.cons _ (.cons _ (.cons _ (.cons _ (.cons _ (.cons _ (.cons _ (.cons _ (.cons _ (.cons _ (.cons _ (.cons _ (.cons _ (.cons _ (.cons _ (.cons _ (.cons _ (.cons _ (.cons₂ _ (.cons₂ _ (.cons₂ _ (.cons₂ _ (.cons₂ _ (.cons _ (.cons₂ _ (.cons₂ _ (.cons₂ _ (.cons _ (.cons₂ _ (.cons₂ _ (.cons _ (.cons₂ _ (.cons₂ _ (.cons _ (.cons₂ _ (.cons₂ _ (.cons₂ _ (.cons₂ _ (.cons _ (.cons₂ _ (.cons₂ _ (.cons _ (.cons₂ _ (.cons₂ _ (.cons₂ _ (.cons _ (.cons₂ _ (.cons₂ _ (.cons₂ _ (.cons₂ _ (.cons₂ _ (.cons₂ _ (.cons₂ _ (.cons₂ _ (.cons₂ _ (.cons _ (.cons₂ _ (.cons _ (.cons₂ _ (.cons₂ _ (.cons₂ _ (.cons₂ _ (.cons₂ _ (.cons₂ _ (.cons₂ _ (.cons₂ _ (.cons₂ _ (.cons₂ _ (.cons₂ _ (.cons₂ _ (.cons₂ _ (.cons₂ _ (.cons₂ _ (.cons₂ _ (.cons₂ _ (.cons₂ _ (.cons₂ _ (.cons₂ _ (.cons₂ _ (.cons₂ _ (.cons₂ _ (.cons₂ _ (.cons₂ _ (.cons _ (.cons _ (.cons₂ _ (.cons₂ _ (.cons₂ _ (.cons _ (.cons₂ _ (.cons₂ _ (.cons₂ _ (.cons₂ _ (.cons₂ _ (.cons₂ _ (.cons₂ _ (.cons _ (.cons₂ _ (.cons₂ _ (.cons₂ _ (.cons₂ _ (.cons₂ _ (.cons₂ _ (.cons₂ _ (.cons₂ _ (.cons₂ _ (.cons₂ _ (.cons₂ _ (.cons₂ _ (.cons₂ _ (.cons₂ _ (.cons₂ _ (.cons _ (.cons₂ _ (.cons₂ _ (.cons₂ _ (.cons₂ _ (.cons₂ _ (.cons₂ _ (.cons₂ _ (.cons₂ _ (.cons₂ _ (.cons₂ _ (.cons₂ _ (.cons₂ _ (.cons₂ _ (.cons₂ _ (.cons₂ _ (.cons₂ _ (.cons₂ _ (.cons₂ _ (.cons₂ _ (.cons₂ _ (.cons₂ _ (.cons _ (.cons₂ _ (.cons₂ _ (.cons₂ _ (.cons₂ _ (.cons₂ _ (.cons₂ _ (.cons₂ _ (.cons₂ _ (.cons₂ _ (.cons₂ _ (.cons₂ _ (.cons₂ _ (.cons₂ _ (.cons₂ _ (.cons₂ _ (.cons₂ _ (.cons₂ _ (.cons₂ _ (.cons₂ _ (.cons₂ _ (.cons₂ _ (.cons₂ _ (.cons₂ _ (.cons₂ _ (.cons₂ _ (.cons₂ _ (.cons₂ _ (.cons₂ _ (.cons₂ _ (.cons₂ _ (.cons₂ _ (.cons₂ _ (.cons₂ _ (.cons₂ _ (.cons₂ _ (.cons₂ _ (.cons₂ _ (.cons₂ _ (.cons₂ _ (.cons₂ _ (.cons₂ _ (.cons₂ _ (.cons₂ _ (.cons₂ _ (.slnil))))))))))))))))))))))))))))))))))))))))))))))))))))))))))))))))))))))))))))))))))))))))))))))))))))))))))))))))))))))))))))))))))))))))))))))))))))))))))))))))))))))))))))))))))))))))))))))))))))))))))))))))))))))))))))))))))))))))))))))))
def ax_ds_7 : List ax_Ds := [(2, 89, 0, 0, 0), (1, 7, 183, 39, 0), (5, 39, 0, 0, 0), (6, 39, 0, 0, 0), (2, 39, 0, 0, 0), (1, 9, 53, 90, 0), (5, 90, 0, 0, 0), (6, 90, 0, 0, 0), (2, 90, 0, 0, 0), (1, 7, 186, 52, 0), (5, 52, 0, 0, 0), (6, 52, 0, 0, 0), (2, 52, 0, 0, 0), (1, 9, 57, 91, 0), (5, 91, 0, 0, 0), (6, 91, 0, 0, 0), (2, 91, 0, 0, 0), (1, 7, 189, 65, 0), (5, 65, 0, 0, 0), (6, 65, 0, 0, 0), (2, 65, 0, 0, 0), (1, 6, 32, 63, 0), (5, 63, 0, 0, 0), (2, 63, 0, 0, 0), (1, 6, 25, 35, 0), (5, 35, 0, 0, 0), (6, 35, 0, 0, 0), (2, 35, 0, 0, 0), (10, 5, 52, 4, 0), (11, 4, 0, 0, 0), (14, 0, 0, 0, 0), (1, 6, 35, 64, 0), (5, 64, 0, 0, 0), (2, 64, 0, 0, 0), (1, 6, 29, 42, 0), (1, 9, 61, 92, 0), (5, 92, 0, 0, 0), (6, 92, 0, 0, 0), (2, 92, 0, 0, 0), (1, 9, 65, 93, 0), (5, 93, 0, 0, 0), (6, 93, 0, 0, 0), (2, 93, 0, 0, 0), (1, 9, 69, 94, 0), (5, 94, 0, 0, 0), (6, 94, 0, 0, 0), (2, 94, 0, 0, 0), (1, 7, 193, 66, 0), (5, 66, 0, 0, 0), (6, 66, 0, 0, 0), (2, 66, 0, 0, 0), (1, 6, 39, 47, 0), (5, 47, 0, 0, 0), (6, 47, 0, 0, 0), (2, 47, 0, 0, 0), (1, 7, 197, 67, 0), (5, 67, 0, 0, 0), (6, 67, 0, 0, 0), (2, 67, 0, 0, 0), (1, 9, 73, 95, 0), (5, 95, 0, 0, 0), (6, 95, 0, 0, 0), (2, 95, 0, 0, 0), (1, 7, 200, 68, 0), (5, 68, 0, 0, 0), (6, 68, 0, 0, 0), (2, 68, 0, 0, 0), (1, 6, 46, 50, 0), (1, 9, 77, 96, 0), (5, 96, 0, 0, 0), (6, 96, 0, 0, 0), (2, 96, 0, 0, 0), (1, 7, 203, 69, 0), (5, 69, 0, 0, 0), (6, 69, 0, 0, 0), (2, 69, 0, 0, 0), (1, 6, 54, 54, 0), (5, 54, 0, 0, 0), (6, 54, 0, 0, 0), (2, 54, 0, 0, 0), (1, 5, 110, 47, 0), (4, 132, 0, 0, 0), (2, 132, 0, 0, 0), (1, 7, 328, 251, 0), (4, 251, 0, 0, 0), (2, 251, 0, 0, 0), (8, 12, 265, 1431655765, 0), (8, 12, 266, 858993459, 0), (8, 12, 267, 252645135, 0), (1, 9, 81, 97, 0), (5, 97, 0, 0, 0), (6, 97, 0, 0, 0), (2, 97, 0, 0, 0), (1, 7, 207, 70, 0), (5, 70, 0, 0, 0), (6, 70, 0, 0, 0), (2, 70, 0, 0, 0), (1, 9, 85, 98, 0), (5, 98, 0, 0, 0), (6, 98, 0, 0, 0), (2, 98, 0, 0, 0), (1, 7, 211, 71, 0), (5, 71, 0, 0, 0), (6, 71, 0, 0, 0), (2, 71, 0, 0, 0), (1, 6, 64, 52, 0), (1, 6, 67, 37, 0), (1, 9, 89, 99, 0), (5, 99, 0, 0, 0), (6, 99, 0, 0, 0), (2, 99, 0, 0, 0), (1, 7, 214, 0, 0), (5, 0, 0, 0, 0), (6, 0, 0, 0, 0), (2, 0, 0, 0, 0), (1, 0, 18, 55, 0), (1, 0, 28, 1, 0), (5, 1, 0, 0, 0), (2, 1, 0, 0, 0), (1, 0, 32, 2, 0), (5, 2, 0, 0, 0), (2, 2, 0, 0, 0), (1, 0, 36, 50, 0), (1, 9, 93, 100, 0), (5, 100, 0, 0, 0), (6, 100, 0, 0, 0), (2, 100, 0, 0, 0), (1, 7, 218, 3, 0), (5, 3, 0, 0, 0), (6, 3, 0, 0, 0), (2, 3, 0, 0, 0), (4, 133, 0, 0, 0), (2, 133, 0, 0, 0), (1, 0, 58, 4, 0), (5, 4, 0, 0, 0), (2, 4, 0, 0, 0), (1, 0, 61, 5, 0), (5, 5, 0, 0, 0), (2, 5, 0, 0, 0), (1, 0, 65, 49, 0), (1, 9, 97, 101, 0), (5, 101, 0, 0, 0), (6, 101, 0, 0, 0), (2, 101, 0, 0, 0), (1, 7, 221, 6, 0), (5, 6, 0, 0, 0), (6, 6, 0, 0, 0), (2, 6, 0, 0, 0), (1, 0, 68, 51, 0), (1, 9, 101, 102, 0), (5, 102, 0, 0, 0), (6, 102, 0, 0, 0), (2, 102, 0, 0, 0), (1, 7, 224, 8, 0), (5, 8, 0, 0, 0), (6, 8, 0, 0, 0), (2, 8, 0, 0, 0), (1, 0, 79, 7, 0), (5, 7, 0, 0, 0), (6, 7, 0, 0, 0), (2, 7, 0, 0, 0), (10, 0, 71, 2, 0), (10, 0, 76, 1, 0), (1, 7, 228, 7, 0), (1, 9, 105, 103, 0), (5, 103, 0, 0, 0), (6, 103, 0, 0, 0), (2, 103, 0, 0, 0), (1, 7, 231, 9, 0), (5, 9, 0, 0, 0), (6, 9, 0, 0, 0), (2, 9, 0, 0, 0), (1, 0, 82, 10, 0), (5, 10, 0, 0, 0), (2, 10, 0, 0, 0), (1, 9, 109, 104, 0), (5, 104, 0, 0, 0), (6, 104, 0, 0, 0), (2, 104, 0, 0, 0), (1, 7, 234, 59, 0), (5, 59, 0, 0, 0), (6, 59, 0, 0, 0), (2, 59, 0, 0, 0), (1, 5, 116, 58, 0), (5, 58, 0, 0, 0), (6, 58, 0, 0, 0), (2, 58, 0, 0, 0), (1, 5, 113, 48, 0), (1, 7, 237, 58, 0), (1, 9, 113, 105, 0), (5, 105, 0, 0, 0), (6, 105, 0, 0, 0), (2, 105, 0, 0, 0), (1, 7, 240, 60, 0), (5, 60, 0, 0, 0), (6, 60, 0, 0, 0), (2, 60, 0, 0, 0), (1, 7, 243, 54, 0), (1, 7, 246, 61, 0), (5, 61, 0, 0, 0), (6, 61, 0, 0, 0), (2, 61, 0, 0, 0), (1, 9, 117, 106, 0), (5, 106, 0, 0, 0), (6, 106, 0, 0, 0), (2, 106, 0, 0, 0), (1, 7, 249, 132, 0), (1, 9, 121, 107, 0), (5, 107, 0, 0, 0), (6, 107, 0, 0, 0), (2, 107, 0, 0, 0), (1, 7, 252, 21, 0), (4, 21, 0, 0, 0), (2, 21, 0, 0, 0), (1, 9, 125, 108, 0), (5, 108, 0, 0, 0), (6, 108, 0, 0, 0), (2, 108, 0, 0, 0), (1, 7, 257, 62, 0), (5, 62, 0, 0, 0), (6, 62, 0, 0, 0), (2, 62, 0, 0, 0), (10, 5, 119, 2, 0), (1, 5, 122, 55, 0), (1, 9, 129, 109, 0), (5, 109, 0, 0, 0), (6, 109, 0, 0, 0), (2, 109, 0, 0, 0), (1, 7, 260, 11, 0)]
set_option maxRecDepth 100000 in
set_option maxHeartbeats 4000000 in
theorem ax_sl_7 : List.Sublist (ax_ds_7.map ax_wrd) (tables_1_3) := .cons₂ _ (.cons₂ _ (.cons₂ _ (.cons₂ _ (.cons₂ _ (.cons₂ _ (.cons₂ _ (.cons₂ _ (.cons₂ _ (.cons₂ _ (.cons₂ _ (.cons₂ _ (.cons₂ _ (.cons₂ _ (.cons₂ _ (.cons₂ _ (.cons₂ _ (.cons₂ _ (.cons₂ _ (.cons₂ _ (.cons₂ _ (.cons₂ _ (.cons _ (.cons₂ _ (.cons₂ _ (.cons₂ _ (.cons₂ _ (.cons₂ _ (.cons₂ _ (.cons₂ _ (.cons₂ _ (.cons₂ _ (.cons₂ _ (.cons _ (.cons₂ _ (.cons₂ _ (.cons₂ _ (.cons₂ _ (.cons₂ _ (.cons₂ _ (.cons₂ _ (.cons₂ _ (.cons₂ _ (.cons₂ _ (.cons₂ _ (.cons₂ _ (.cons₂ _ (.cons₂ _ (.cons₂ _ (.cons₂ _ (.cons₂ _ (.cons₂ _ (.cons₂ _ (.cons₂ _ (.cons₂ _ (.cons₂ _ (.cons₂ _ (.cons₂ _ (.cons₂ _ (.cons₂ _ (.cons₂ _ (.cons₂ _ (.cons₂ _ (.cons₂ _ (.cons₂ _ (.cons₂ _ (.cons₂ _ (.cons₂ _ (.cons₂ _ (.cons₂ _ (.cons₂ _ (.cons₂ _ (.cons₂ _ (.cons₂ _ (.cons₂ _ (.cons₂ _ (.cons₂ _ (.cons₂ _ (.cons₂ _ (.cons₂ _ (.cons₂ _ (.cons₂ _ (.cons₂ _ (.cons _ (.cons₂ _ (.cons₂ _ (.cons₂ _ (.cons₂ _ (.cons₂ _ (.cons₂ _ (.cons₂ _ (.cons₂ _ (.cons₂ _ (.cons₂ _ (.cons₂ _ (.cons₂ _ (.cons₂ _ (.cons₂ _ (.cons₂ _ (.cons₂ _ (.cons₂ _ (.cons₂ _ (.cons₂ _ (.cons₂ _ (.cons₂ _ (.cons₂ _ (.cons₂ _ (.cons₂ _ (.cons₂ _ (.cons₂ _ (.cons₂ _ (.cons₂ _ (.cons₂ _ (.cons₂ _ (.cons₂ _ (.cons₂ _ (.cons₂ _ (.cons₂ _ (.cons₂ _ (.cons₂ _ (.cons _ (.cons₂ _ (.cons₂ _ (.cons _ (.cons _ (.cons₂ _ (.cons _ (.cons₂ _ (.cons₂ _ (.cons₂ _ (.cons₂ _ (.cons₂ _ (.cons₂ _ (.cons₂ _ (.cons₂ _ (.cons₂ _ (.cons₂ _ (.cons₂ _ (.cons _ (.cons₂ _ (.cons₂ _ (.cons₂ _ (.cons _ (.cons₂ _ (.cons₂ _ (.cons₂ _ (.cons _ (.cons₂ _ (.cons₂ _ (.cons₂ _ (.cons₂ _ (.cons₂ _ (.cons₂ _ (.cons₂ _ (.cons₂ _ (.cons₂ _ (.cons₂ _ (.cons₂ _ (.cons₂ _ (.cons₂ _ (.cons₂ _ (.cons₂ _ (.cons₂ _ (.cons₂ _ (.cons₂ _ (.cons₂ _ (.cons₂ _ (.cons₂ _ (.cons₂ _ (.cons₂ _ (.cons₂ _ (.cons₂ _ (.cons₂ _ (.cons₂ _ (.cons₂ _ (.cons₂ _ (.cons₂ _ (.cons₂ _ (.cons₂ _ (.cons₂ _ (.cons₂ _ (.cons₂ _ (.cons₂ _ (.cons _ (.cons₂ _ (.cons₂ _ (.cons₂ _ (.cons₂ _ (.cons₂ _ (.cons₂ _ (.cons₂ _ (.cons₂ _ (.cons₂ _ (.cons₂ _ (.cons₂ _ (.cons₂ _ (.cons₂ _ (.cons₂ _ (.cons₂ _ (.cons₂ _ (.cons₂ _ (.cons₂ _ (.cons₂ _ (.cons₂ _ (.cons₂ _ (.cons₂ _ (.cons₂ _ (.cons₂ _ (.cons₂ _ (.cons₂ _ (.cons₂ _ (.cons₂ _ (.cons₂ _ (.cons₂ _ (.cons₂ _ (.cons₂ _ (.cons₂ _ (.cons₂ _ (.cons₂ _ (.cons₂ _ (.cons₂ _ (.cons₂ _ (.cons₂ _ (.cons₂ _ (.cons₂ _ (.cons₂ _ (.cons₂ _ (.cons₂ _ (.cons₂ _ (.cons₂ _ (.cons₂ _ (.cons₂ _ (.cons₂ _ (.cons₂ _ (.cons₂ _ (.cons₂ _ (.cons₂ _ (.cons₂ _ (.cons₂ _ (.cons₂ _ (.slnil))))))))))))))))))))))))))))))))))))))))))))))))))))))))))))))))))))))))))))))))))))))))))))))))))))))))))))))))))))))))))))))))))))))))))))))))))))))))))))))))))))))))))))))))))))))))))))))))))))))))))))))))))))))))))))))))))))))))))))))))
def ax_ds_8 : List ax_Ds := [(5, 11, 0, 0, 0), (6, 11, 0, 0, 0), (2, 11, 0, 0, 0), (1, 9, 133, 110, 0), (5, 110, 0, 0, 0), (6, 110, 0, 0, 0), (2, 110, 0, 0, 0), (1, 7, 263, 72, 0), (5, 72, 0, 0, 0), (6, 72, 0, 0, 0), (2, 72, 0, 0, 0), (1, 9, 137, 111, 0), (5, 111, 0, 0, 0), (6, 111, 0, 0, 0), (2, 111, 0, 0, 0), (1, 7, 266, 126, 0), (5, 126, 0, 0, 0), (2, 126, 0, 0, 0), (9, 7, 323, 4000000000000000000, 0), (1, 7, 270, 12, 0), (5, 12, 0, 0, 0), (6, 12, 0, 0, 0), (2, 12, 0, 0, 0), (1, 0, 88, 13, 0), (5, 13, 0, 0, 0), (2, 13, 0, 0, 0), (1, 0, 92, 44, 0), (10, 0, 96, 4, 0), (1, 9, 142, 112, 0), (5, 112, 0, 0, 0), (6, 112, 0, 0, 0), (2, 112, 0, 0, 0), (1, 7, 274, 73, 0), (5, 73, 0, 0, 0), (6, 73, 0, 0, 0), (2, 73, 0, 0, 0), (1, 7, 277, 133, 0), (1, 7, 281, 134, 0), (4, 134, 0, 0, 0), (2, 134, 0, 0, 0), (1, 7, 333, 135, 0), (4, 135, 0, 0, 0), (2, 135, 0, 0, 0), (1, 9, 147, 113, 0), (5, 113, 0, 0, 0), (6, 113, 0, 0, 0), (2, 113, 0, 0, 0), (1, 9, 152, 114, 0), (5, 114, 0, 0, 0), (6, 114, 0, 0, 0), (2, 114, 0, 0, 0), (10, 7, 285, 2, 0), (1, 7, 290, 16, 0), (5, 16, 0, 0, 0), (6, 16, 0, 0, 0), (2, 16, 0, 0, 0), (1, 1, 19, 15, 0), (5, 15, 0, 0, 0), (2, 15, 0, 0, 0), (1, 9, 156, 115, 0), (5, 115, 0, 0, 0), (6, 115, 0, 0, 0), (2, 115, 0, 0, 0), (1, 7, 293, 18, 0), (5, 18, 0, 0, 0), (6, 18, 0, 0, 0), (2, 18, 0, 0, 0), (10, 1, 22, 1, 0), (1, 9, 160, 116, 0), (5, 116, 0, 0, 0), (6, 116, 0, 0, 0), (2, 116, 0, 0, 0), (1, 7, 296, 17, 0), (5, 17, 0, 0, 0), (6, 17, 0, 0, 0), (2, 17, 0, 0, 0), (1, 9, 164, 117, 0), (5, 117, 0, 0, 0), (6, 117, 0, 0, 0), (2, 117, 0, 0, 0), (1, 7, 299, 74, 0), (5, 74, 0, 0, 0), (6, 74, 0, 0, 0), (2, 74, 0, 0, 0), (1, 6, 88, 39, 0), (1, 6, 92, 76, 0), (5, 76, 0, 0, 0), (2, 76, 0, 0, 0), (1, 6, 104, 34, 0), (5, 34, 0, 0, 0), (6, 34, 0, 0, 0), (2, 34, 0, 0, 0), (1, 7, 303, 75, 0), (5, 75, 0, 0, 0), (6, 75, 0, 0, 0), (2, 75, 0, 0, 0), (1, 9, 168, 118, 0), (5, 118, 0, 0, 0), (6, 118, 0, 0, 0), (2, 118, 0, 0, 0), (1, 7, 307, 33, 0), (5, 33, 0, 0, 0), (6, 33, 0, 0, 0), (2, 33, 0, 0, 0), (1, 9, 172, 119, 0), (5, 119, 0, 0, 0), (6, 119, 0, 0, 0), (2, 119, 0, 0, 0), (1, 7, 308, 77, 0), (5, 77, 0, 0, 0), (6, 77, 0, 0, 0), (2, 77, 0, 0, 0), (1, 9, 176, 120, 0), (5, 120, 0, 0, 0), (6, 120, 0, 0, 0), (2, 120, 0, 0, 0), (1, 9, 180, 121, 0), (5, 121, 0, 0, 0), (6, 121, 0, 0, 0), (2, 121, 0, 0, 0), (1, 7, 312, 78, 0), (5, 78, 0, 0, 0), (6, 78, 0, 0, 0), (2, 78, 0, 0, 0), (8, 6, 107, 1664525, 0), (8, 6, 108, 1013904223, 0), (8, 6, 109, 2147483647, 0), (1, 6, 110, 53, 0), (1, 9, 184, 122, 0), (5, 122, 0, 0, 0), (6, 122, 0, 0, 0), (2, 122, 0, 0, 0), (1, 7, 316, 35, 0), (1, 9, 188, 123, 0), (5, 123, 0, 0, 0), (6, 123, 0, 0, 0), (2, 123, 0, 0, 0), (1, 9, 192, 124, 0), (5, 124, 0, 0, 0), (6, 124, 0, 0, 0), (2, 124, 0, 0, 0), (1, 7, 320, 57, 0), (5, 57, 0, 0, 0), (6, 57, 0, 0, 0), (2, 57, 0, 0, 0), (0, 8, 7, 7, 0), (0, 8, 13, 7, 1), (0, 8, 16, 7, 2), (0, 8, 19, 7, 3), (0, 8, 22, 7, 4), (0, 8, 25, 7, 5), (0, 8, 28, 7, 6), (0, 8, 31, 7, 7), (0, 8, 65, 7, 8), (0, 8, 126, 7, 9), (0, 8, 34, 7, 10), (0, 8, 37, 7, 11), (0, 8, 40, 7, 12), (0, 8, 43, 7, 13), (0, 8, 83, 7, 14), (0, 8, 90, 7, 15), (0, 8, 113, 7, 16), (0, 8, 97, 7, 17), (0, 8, 46, 7, 18), (0, 8, 173, 7, 19), (0, 8, 159, 7, 20), (0, 8, 163, 7, 21), (0, 8, 192, 7, 22), (0, 8, 49, 7, 23), (0, 8, 219, 7, 24), (0, 8, 222, 7, 25), (0, 8, 216, 7, 26), (0, 8, 274, 7, 28), (0, 8, 277, 7, 29), (0, 8, 52, 7, 30), (0, 8, 55, 7, 31), (0, 8, 59, 7, 32), (0, 8, 62, 7, 33), (0, 8, 332, 7, 34), (0, 8, 342, 7, 35), (7, 7, 0, 0, 0), (7, 7, 1, 0, 0), (7, 7, 2, 0, 0), (7, 7, 3, 0, 0), (7, 7, 4, 0, 0), (7, 7, 5, 0, 0), (7, 7, 6, 0, 0), (7, 7, 7, 0, 0), (7, 7, 8, 0, 0), (7, 7, 9, 0, 0), (7, 7, 10, 0, 0), (7, 7, 11, 0, 0), (7, 7, 12, 0, 0), (7, 7, 13, 0, 0), (7, 7, 14, 0, 0), (7, 7, 15, 0, 0), (7, 7, 16, 0, 0), (7, 7, 17, 0, 0), (7, 7, 18, 0, 0), (7, 7, 19, 0, 0), (7, 7, 20, 0, 0), (7, 7, 21, 0, 0), (7, 7, 22, 0, 0), (7, 7, 23, 0, 0)]
set_option maxRecDepth 100000 in
set_option maxHeartbeats 4000000 in
theorem ax_sl_8 : List.Sublist (ax_ds_8.map ax_wrd) (tables_1_4) := .cons₂ _ (.cons₂ _ (.cons₂ _ (.cons₂ _ (.cons₂ _ (.cons₂ _ (.cons₂ _ (.cons₂ _ (.cons₂ _ (.cons₂ _ (.cons₂ _ (.cons _ (.cons₂ _ (.cons₂ _ (.cons₂ _ (.cons₂ _ (.cons₂ _ (.cons _ (.cons₂ _ (.cons₂ _ (.cons₂ _ (.cons₂ _ (.cons₂ _ (.cons₂ _ (.cons₂ _ (.cons₂ _ (.cons _ (.cons₂ _ (.cons₂ _ (.cons₂ _ (.cons₂ _ (.cons₂ _ (.cons₂ _ (.cons₂ _ (.cons₂ _ (.cons₂ _ (.cons₂ _ (.cons₂ _ (.cons₂ _ (.cons _ (.cons₂ _ (.cons₂ _ (.cons₂ _ (.cons₂ _ (.cons₂ _ (.cons₂ _ (.cons₂ _ (.cons₂ _ (.cons₂ _ (.cons₂ _ (.cons₂ _ (.cons₂ _ (.cons₂ _ (.cons₂ _ (.cons₂ _ (.cons₂ _ (.cons₂ _ (.cons₂ _ (.cons₂ _ (.cons₂ _ (.cons₂ _ (.cons _ (.cons₂ _ (.cons₂ _ (.cons _ (.cons₂ _ (.cons₂ _ (.cons₂ _ (.cons₂ _ (.cons₂ _ (.cons₂ _ (.cons₂ _ (.cons₂ _ (.cons₂ _ (.cons₂ _ (.cons₂ _ (.cons₂ _ (.cons₂ _ (.cons₂ _ (.cons₂ _ (.cons₂ _ (.cons₂ _ (.cons₂ _ (.cons₂ _ (.cons₂ _ (.cons₂ _ (.cons₂ _ (.cons₂ _ (.cons₂ _ (.cons₂ _ (.cons₂ _ (.cons₂ _ (.cons _ (.cons₂ _ (.cons₂ _ (.cons₂ _ (.cons₂ _ (.cons₂ _ (.cons₂ _ (.cons₂ _ (.cons₂ _ (.cons₂ _ (.cons₂ _ (.cons₂ _ (.cons₂ _ (.cons₂ _ (.cons₂ _ (.cons₂ _ (.cons₂ _ (.cons₂ _ (.cons₂ _ (.cons₂ _ (.cons₂ _ (.cons₂ _ (.cons₂ _ (.cons₂ _ (.cons₂ _ (.cons₂ _ (.cons₂ _ (.cons₂ _ (.cons₂ _ (.cons₂ _ (.cons₂ _ (.cons₂ _ (.cons₂ _ (.cons₂ _ (.cons₂ _ (.cons₂ _ (.cons₂ _ (.cons₂ _ (.cons₂ _ (.cons₂ _ (.cons₂ _ (.cons₂ _ (.cons₂ _ (.cons₂ _ (.cons₂ _ (.cons₂ _ (.cons₂ _ (.cons₂ _ (.cons₂ _ (.cons₂ _ (.cons₂ _ (.cons₂ _ (.cons₂ _ (.cons₂ _ (.cons₂ _ (.cons₂ _ (.cons₂ _ (.cons₂ _ (.cons₂ _ (.cons₂ _ (.cons _ (.cons _ (.cons _ (.cons _ (.cons _ (.cons _ (.cons₂ _ (.cons₂ _ (.cons₂ _ (.cons₂ _ (.cons₂ _ (.cons₂ _ (.cons₂ _ (.cons₂ _ (.cons₂ _ (.cons₂ _ (.cons₂ _ (.cons₂ _ (.cons₂ _ (.cons₂ _ (.cons₂ _ (.cons₂ _ (.cons₂ _ (.cons₂ _ (.cons₂ _ (.cons₂ _ (.cons₂ _ (.cons₂ _ (.cons₂ _ (.cons₂ _ (.cons₂ _ (.cons₂ _ (.cons₂ _ (.cons₂ _ (.cons₂ _ (.cons₂ _ (.cons₂ _ (.cons₂ _ (.cons₂ _ (.cons₂ _ (.cons₂ _ (.cons₂ _ (.cons _ (.cons₂ _ (.cons _ (.cons₂ _ (.cons _ (.cons₂ _ (.cons _ (.cons₂ _ (.cons _ (.cons₂ _ (.cons _ (.cons₂ _ (.cons _ (.cons₂ _ (.cons _ (.cons₂ _ (.cons _ (.cons₂ _ (.cons _ (.cons₂ _ (.cons _ (.cons₂ _ (.cons _ (.cons₂ _ (.cons _ (.cons₂ _ (.cons _ (.cons₂ _ (.cons _ (.cons₂ _ (.cons _ (.cons₂ _ (.cons _ (.cons₂ _ (.cons _ (.cons₂ _ (.cons _ (.cons₂ _ (.cons _ (.cons₂ _ (.cons _ (.cons₂ _ (.cons _ (.cons₂ _ (.cons _ (.cons₂ _ (.slnil))))))))))))))))))))))))))))))))))))))))))))))))))))))))))))))))))))))))))))))))))))))))))))))))))))))))))))))))))))))))))))))))))))))))))))))))))))))))))))))))))))))))))))))))))))))))))))))))))))))))))))))))))))))))))))))))))))))))))))))))
def ax_ds_9 : List ax_Ds := [(7, 7, 24, 0, 0), (7, 7, 25, 0, 0), (7, 7, 26, 0, 0), (7, 7, 27, 0, 0), (7, 7, 28, 0, 0), (7, 7, 29, 0, 0), (7, 7, 30, 0, 0), (7, 7, 31, 0, 0), (7, 7, 32, 0, 0), (7, 7, 33, 0, 0), (7, 7, 34, 0, 0), (7, 7, 35, 0, 0), (1, 9, 17, 146, 0), (5, 146, 0, 0, 0), (6, 146, 0, 0, 0), (2, 146, 0, 0, 0), (1, 8, 79, 139, 0), (4, 139, 0, 0, 0), (2, 139, 0, 0, 0), (1, 8, 86, 136, 0), (5, 136, 0, 0, 0), (2, 136, 0, 0, 0), (1, 9, 22, 160, 0), (5, 160, 0, 0, 0), (6, 160, 0, 0, 0), (2, 160, 0, 0, 0), (1, 8, 149, 153, 0), (5, 153, 0, 0, 0), (2, 153, 0, 0, 0), (1, 8, 93, 147, 0), (5, 147, 0, 0, 0), (2, 147, 0, 0, 0), (1, 8, 116, 152, 0), (5, 152, 0, 0, 0), (2, 152, 0, 0, 0), (1, 8, 106, 150, 0), (5, 150, 0, 0, 0), (2, 150, 0, 0, 0), (1, 8, 100, 149, 0), (4, 149, 0, 0, 0), (2, 149, 0, 0, 0), (1, 8, 110, 151, 0), (5, 151, 0, 0, 0), (2, 151, 0, 0, 0), (1, 8, 103, 148, 0), (5, 148, 0, 0, 0), (2, 148, 0, 0, 0), (1, 8, 71, 138, 0), (4, 138, 0, 0, 0), (2, 138, 0, 0, 0), (1, 8, 152, 163, 0), (5, 163, 0, 0, 0), (2, 163, 0, 0, 0), (1, 8, 166, 161, 0), (5, 161, 0, 0, 0), (2, 161, 0, 0, 0), (1, 8, 170, 162, 0), (5, 162, 0, 0, 0), (2, 162, 0, 0, 0), (1, 8, 156, 159, 0), (5, 159, 0, 0, 0), (2, 159, 0, 0, 0), (1, 8, 133, 154, 0), (5, 154, 0, 0, 0), (2, 154, 0, 0, 0), (1, 8, 75, 144, 0), (4, 144, 0, 0, 0), (2, 144, 0, 0, 0), (1, 8, 136, 155, 0), (5, 155, 0, 0, 0), (2, 155, 0, 0, 0), (1, 8, 119, 143, 0), (5, 143, 0, 0, 0), (2, 143, 0, 0, 0), (1, 8, 140, 156, 0), (5, 156, 0, 0, 0), (2, 156, 0, 0, 0), (1, 8, 143, 157, 0), (5, 157, 0, 0, 0), (2, 157, 0, 0, 0), (1, 8, 122, 145, 0), (4, 145, 0, 0, 0), (2, 145, 0, 0, 0), (1, 8, 146, 158, 0), (5, 158, 0, 0, 0), (2, 158, 0, 0, 0), (1, 8, 129, 184, 0), (5, 184, 0, 0, 0), (2, 184, 0, 0, 0), (1, 8, 231, 183, 0), (5, 183, 0, 0, 0), (2, 183, 0, 0, 0), (1, 8, 225, 182, 0), (5, 182, 0, 0, 0), (2, 182, 0, 0, 0), (1, 8, 213, 181, 0), (5, 181, 0, 0, 0), (2, 181, 0, 0, 0), (1, 8, 204, 178, 0), (5, 178, 0, 0, 0), (2, 178, 0, 0, 0), (1, 8, 201, 174, 0), (5, 174, 0, 0, 0), (2, 174, 0, 0, 0), (1, 8, 195, 172, 0), (5, 172, 0, 0, 0), (2, 172, 0, 0, 0), (1, 8, 189, 169, 0), (5, 169, 0, 0, 0), (2, 169, 0, 0, 0), (1, 8, 176, 168, 0), (5, 168, 0, 0, 0), (2, 168, 0, 0, 0), (1, 8, 198, 173, 0), (5, 173, 0, 0, 0), (2, 173, 0, 0, 0), (1, 8, 207, 171, 0), (5, 171, 0, 0, 0), (2, 171, 0, 0, 0), (1, 8, 180, 142, 0), (4, 142, 0, 0, 0), (2, 142, 0, 0, 0), (1, 8, 183, 170, 0), (5, 170, 0, 0, 0), (2, 170, 0, 0, 0), (1, 8, 186, 140, 0), (4, 140, 0, 0, 0), (2, 140, 0, 0, 0), (1, 8, 210, 175, 0), (5, 175, 0, 0, 0), (2, 175, 0, 0, 0), (1, 8, 228, 177, 0), (5, 177, 0, 0, 0), (2, 177, 0, 0, 0), (1, 9, 187, 166, 0), (5, 166, 0, 0, 0), (6, 166, 0, 0, 0), (2, 166, 0, 0, 0), (1, 9, 191, 167, 0), (5, 167, 0, 0, 0), (6, 167, 0, 0, 0), (2, 167, 0, 0, 0), (1, 9, 27, 185, 0), (5, 185, 0, 0, 0), (6, 185, 0, 0, 0), (2, 185, 0, 0, 0), (1, 9, 31, 186, 0), (5, 186, 0, 0, 0), (6, 186, 0, 0, 0), (2, 186, 0, 0, 0), (1, 8, 234, 180, 0), (5, 180, 0, 0, 0), (2, 180, 0, 0, 0), (1, 9, 35, 187, 0), (5, 187, 0, 0, 0), (6, 187, 0, 0, 0), (2, 187, 0, 0, 0), (1, 9, 39, 188, 0), (5, 188, 0, 0, 0), (6, 188, 0, 0, 0), (2, 188, 0, 0, 0), (1, 9, 44, 189, 0), (5, 189, 0, 0, 0), (6, 189, 0, 0, 0), (2, 189, 0, 0, 0), (1, 9, 48, 190, 0), (5, 190, 0, 0, 0), (6, 190, 0, 0, 0), (2, 190, 0, 0, 0), (1, 9, 52, 191, 0), (5, 191, 0, 0, 0), (6, 191, 0, 0, 0), (2, 191, 0, 0, 0), (1, 9, 56, 192, 0), (5, 192, 0, 0, 0), (6, 192, 0, 0, 0), (2, 192, 0, 0, 0), (1, 8, 238, 176, 0), (5, 176, 0, 0, 0), (2, 176, 0, 0, 0), (1, 9, 60, 194, 0), (5, 194, 0, 0, 0), (6, 194, 0, 0, 0), (2, 194, 0, 0, 0), (1, 8, 241, 193, 0), (4, 193, 0, 0, 0), (2, 193, 0, 0, 0), (1, 8, 244, 164, 0), (5, 164, 0, 0, 0), (2, 164, 0, 0, 0), (1, 8, 247, 165, 0)]
set_option maxRecDepth 100000 in
set_option maxHeartbeats 4000000 in
theorem ax_sl_9 : List.Sublist (ax_ds_9.map ax_wrd) (tables_1_5) := .cons _ (.cons₂ _ (.cons _ (.cons₂ _ (.cons _ (.cons₂ _ (.cons _ (.cons₂ _ (.cons _ (.cons₂ _ (.cons _ (.cons₂ _ (.cons _ (.cons₂ _ (.cons _ (.cons₂ _ (.cons _ (.cons₂ _ (.cons _ (.cons₂ _ (.cons _ (.cons₂ _ (.cons _ (.cons₂ _ (.cons _ (.cons _ (.cons₂ _ (.cons₂ _ (.cons₂ _ (.cons₂ _ (.cons₂ _ (.cons₂ _ (.cons₂ _ (.cons₂ _ (.cons _ (.cons₂ _ (.cons₂ _ (.cons₂ _ (.cons₂ _ (.cons₂ _ (.cons₂ _ (.cons₂ _ (.cons _ (.cons₂ _ (.cons₂ _ (.cons₂ _ (.cons _ (.cons₂ _ (.cons₂ _ (.cons₂ _ (.cons _ (.cons₂ _ (.cons₂ _ (.cons₂ _ (.cons _ (.cons₂ _ (.cons₂ _ (.cons₂ _ (.cons₂ _ (.cons₂ _ (.cons₂ _ (.cons _ (.cons₂ _ (.cons₂ _ (.cons₂ _ (.cons _ (.cons₂ _ (.cons₂ _ (.cons₂ _ (.cons₂ _ (.cons₂ _ (.cons₂ _ (.cons _ (.cons₂ _ (.cons₂ _ (.cons₂ _ (.cons _ (.cons₂ _ (.cons₂ _ (.cons₂ _ (.cons _ (.cons₂ _ (.cons₂ _ (.cons₂ _ (.cons _ (.cons₂ _ (.cons₂ _ (.cons₂ _ (.cons _ (.cons₂ _ (.cons₂ _ (.cons₂ _ (.cons₂ _ (.cons₂ _ (.cons₂ _ (.cons _ (.cons₂ _ (.cons₂ _ (.cons₂ _ (.cons _ (.cons₂ _ (.cons₂ _ (.cons₂ _ (.cons _ (.cons₂ _ (.cons₂ _ (.cons₂ _ (.cons _ (.cons₂ _ (.cons₂ _ (.cons₂ _ (.cons₂ _ (.cons₂ _ (.cons₂ _ (.cons _ (.cons₂ _ (.cons₂ _ (.cons₂ _ (.cons _ (.cons₂ _ (.cons₂ _ (.cons₂ _ (.cons _ (.cons₂ _ (.cons₂ _ (.cons₂ _ (.cons _ (.cons₂ _ (.cons₂ _ (.cons₂ _ (.cons _ (.cons₂ _ (.cons₂ _ (.cons₂ _ (.cons _ (.cons₂ _ (.cons₂ _ (.cons₂ _ (.cons _ (.cons₂ _ (.cons₂ _ (.cons₂ _ (.cons _ (.cons₂ _ (.cons₂ _ (.cons₂ _ (.cons _ (.cons₂ _ (.cons₂ _ (.cons₂ _ (.cons _ (.cons₂ _ (.cons₂ _ (.cons₂ _ (.cons _ (.cons₂ _ (.cons₂ _ (.cons₂ _ (.cons _ (.cons₂ _ (.cons₂ _ (.cons₂ _ (.cons₂ _ (.cons₂ _ (.cons₂ _ (.cons _ (.cons₂ _ (.cons₂ _ (.cons₂ _ (.cons₂ _ (.cons₂ _ (.cons₂ _ (.cons _ (.cons₂ _ (.cons₂ _ (.cons₂ _ (.cons _ (.cons₂ _ (.cons₂ _ (.cons₂ _ (.cons₂ _ (.cons₂ _ (.cons₂ _ (.cons₂ _ (.cons₂ _ (.cons₂ _ (.cons₂ _ (.cons₂ _ (.cons₂ _ (.cons₂ _ (.cons₂ _ (.cons₂ _ (.cons₂ _ (.cons₂ _ (.cons₂ _ (.cons₂ _ (.cons _ (.cons₂ _ (.cons₂ _ (.cons₂ _ (.cons₂ _ (.cons₂ _ (.cons₂ _ (.cons₂ _ (.cons₂ _ (.cons₂ _ (.cons₂ _ (.cons₂ _ (.cons₂ _ (.cons₂ _ (.cons₂ _ (.cons₂ _ (.cons₂ _ (.cons₂ _ (.cons₂ _ (.cons₂ _ (.cons₂ _ (.cons₂ _ (.cons₂ _ (.cons₂ _ (.cons₂ _ (.cons₂ _ (.cons₂ _ (.cons₂ _ (.cons _ (.cons₂ _ (.cons₂ _ (.cons₂ _ (.cons₂ _ (.cons₂ _ (.cons₂ _ (.cons₂ _ (.cons₂ _ (.cons₂ _ (.cons₂ _ (.cons _ (.cons₂ _ (.cons₂ _ (.cons₂ _ (.cons _ (.slnil))))))))))))))))))))))))))))))))))))))))))))))))))))))))))))))))))))))))))))))))))))))))))))))))))))))))))))))))))))))))))))))))))))))))))))))))))))))))))))))))))))))))))))))))))))))))))))))))))))))))))))))))))))))))))))))))))))))))))))))))
def ax_ds_10 : List ax_Ds := [(5, 165, 0, 0, 0), (2, 165, 0, 0, 0), (1, 9, 64, 196, 0), (5, 196, 0, 0, 0), (6, 196, 0, 0, 0), (2, 196, 0, 0, 0), (1, 8, 250, 195, 0), (5, 195, 0, 0, 0), (2, 195, 0, 0, 0), (1, 9, 68, 198, 0), (5, 198, 0, 0, 0), (6, 198, 0, 0, 0), (2, 198, 0, 0, 0), (1, 8, 253, 197, 0), (5, 197, 0, 0, 0), (2, 197, 0, 0, 0), (1, 9, 72, 201, 0), (5, 201, 0, 0, 0), (6, 201, 0, 0, 0), (2, 201, 0, 0, 0), (1, 8, 256, 199, 0), (5, 199, 0, 0, 0), (2, 199, 0, 0, 0), (1, 8, 259, 200, 0), (5, 200, 0, 0, 0), (2, 200, 0, 0, 0), (1, 9, 76, 202, 0), (5, 202, 0, 0, 0), (6, 202, 0, 0, 0), (2, 202, 0, 0, 0), (1, 9, 80, 203, 0), (5, 203, 0, 0, 0), (6, 203, 0, 0, 0), (2, 203, 0, 0, 0), (1, 8, 262, 179, 0), (5, 179, 0, 0, 0), (2, 179, 0, 0, 0), (1, 8, 265, 141, 0), (4, 141, 0, 0, 0), (2, 141, 0, 0, 0), (1, 9, 84, 204, 0), (5, 204, 0, 0, 0), (6, 204, 0, 0, 0), (2, 204, 0, 0, 0), (1, 9, 88, 205, 0), (5, 205, 0, 0, 0), (6, 205, 0, 0, 0), (2, 205, 0, 0, 0), (1, 9, 92, 208, 0), (5, 208, 0, 0, 0), (6, 208, 0, 0, 0), (2, 208, 0, 0, 0), (1, 8, 268, 206, 0), (5, 206, 0, 0, 0), (2, 206, 0, 0, 0), (1, 8, 271, 207, 0), (5, 207, 0, 0, 0), (2, 207, 0, 0, 0), (1, 9, 96, 211, 0), (5, 211, 0, 0, 0), (6, 211, 0, 0, 0), (2, 211, 0, 0, 0), (1, 8, 280, 210, 0), (4, 210, 0, 0, 0), (2, 210, 0, 0, 0), (1, 8, 283, 209, 0), (5, 209, 0, 0, 0), (2, 209, 0, 0, 0), (1, 9, 100, 212, 0), (5, 212, 0, 0, 0), (6, 212, 0, 0, 0), (2, 212, 0, 0, 0), (1, 9, 104, 215, 0), (5, 215, 0, 0, 0), (6, 215, 0, 0, 0), (2, 215, 0, 0, 0), (1, 8, 289, 214, 0), (5, 214, 0, 0, 0), (2, 214, 0, 0, 0), (1, 8, 286, 213, 0), (5, 213, 0, 0, 0), (2, 213, 0, 0, 0), (1, 9, 108, 217, 0), (5, 217, 0, 0, 0), (6, 217, 0, 0, 0), (2, 217, 0, 0, 0), (1, 8, 292, 216, 0), (5, 216, 0, 0, 0), (2, 216, 0, 0, 0), (1, 9, 112, 219, 0), (5, 219, 0, 0, 0), (6, 219, 0, 0, 0), (2, 219, 0, 0, 0), (1, 8, 295, 218, 0), (5, 218, 0, 0, 0), (2, 218, 0, 0, 0), (1, 9, 116, 222, 0), (5, 222, 0, 0, 0), (6, 222, 0, 0, 0), (2, 222, 0, 0, 0), (1, 8, 298, 220, 0), (5, 220, 0, 0, 0), (2, 220, 0, 0, 0), (1, 8, 301, 221, 0), (5, 221, 0, 0, 0), (2, 221, 0, 0, 0), (1, 9, 120, 223, 0), (5, 223, 0, 0, 0), (6, 223, 0, 0, 0), (2, 223, 0, 0, 0), (1, 9, 124, 224, 0), (5, 224, 0, 0, 0), (6, 224, 0, 0, 0), (2, 224, 0, 0, 0), (1, 9, 128, 227, 0), (5, 227, 0, 0, 0), (6, 227, 0, 0, 0), (2, 227, 0, 0, 0), (1, 8, 307, 226, 0), (5, 226, 0, 0, 0), (2, 226, 0, 0, 0), (1, 8, 304, 225, 0), (5, 225, 0, 0, 0), (2, 225, 0, 0, 0), (1, 9, 132, 228, 0), (5, 228, 0, 0, 0), (6, 228, 0, 0, 0), (2, 228, 0, 0, 0), (1, 9, 136, 230, 0), (5, 230, 0, 0, 0), (6, 230, 0, 0, 0), (2, 230, 0, 0, 0), (1, 8, 310, 229, 0), (5, 229, 0, 0, 0), (2, 229, 0, 0, 0), (1, 9, 141, 232, 0), (5, 232, 0, 0, 0), (6, 232, 0, 0, 0), (2, 232, 0, 0, 0), (1, 8, 314, 137, 0), (5, 137, 0, 0, 0), (2, 137, 0, 0, 0), (9, 8, 69, 4000000000000000000, 0), (1, 8, 318, 231, 0), (5, 231, 0, 0, 0), (2, 231, 0, 0, 0), (1, 9, 146, 235, 0), (5, 235, 0, 0, 0), (6, 235, 0, 0, 0), (2, 235, 0, 0, 0), (1, 8, 325, 234, 0), (4, 234, 0, 0, 0), (2, 234, 0, 0, 0), (1, 8, 321, 233, 0), (4, 233, 0, 0, 0), (2, 233, 0, 0, 0), (1, 9, 151, 236, 0), (5, 236, 0, 0, 0), (6, 236, 0, 0, 0), (2, 236, 0, 0, 0), (1, 9, 155, 238, 0), (5, 238, 0, 0, 0), (6, 238, 0, 0, 0), (2, 238, 0, 0, 0), (1, 8, 329, 237, 0), (5, 237, 0, 0, 0), (2, 237, 0, 0, 0), (1, 9, 159, 239, 0), (5, 239, 0, 0, 0), (6, 239, 0, 0, 0), (2, 239, 0, 0, 0), (1, 9, 163, 240, 0), (5, 240, 0, 0, 0), (6, 240, 0, 0, 0), (2, 240, 0, 0, 0), (1, 9, 167, 243, 0), (5, 243, 0, 0, 0), (6, 243, 0, 0, 0), (2, 243, 0, 0, 0), (1, 8, 338, 242, 0), (5, 242, 0, 0, 0), (2, 242, 0, 0, 0), (1, 8, 335, 241, 0), (5, 241, 0, 0, 0), (2, 241, 0, 0, 0), (1, 9, 171, 244, 0), (5, 244, 0, 0, 0), (6, 244, 0, 0, 0), (2, 244, 0, 0, 0), (1, 9, 175, 245, 0), (5, 245, 0, 0, 0), (6, 245, 0, 0, 0), (2, 245, 0, 0, 0), (1, 9, 179, 246, 0), (5, 246, 0, 0, 0), (6, 246, 0, 0, 0), (2, 246, 0, 0, 0), (1, 9, 183, 248, 0), (5, 248, 0, 0, 0), (6, 248, 0, 0, 0), (2, 248, 0, 0, 0), (1, 8, 348, 247, 0), (5, 247, 0, 0, 0), (2, 247, 0, 0, 0), (8, 8, 345, 1664525, 0), (8, 8, 346, 1013904223, 0), (8, 8, 347, 2147483647, 0), (1, 9, 195, 250, 0), (5, 250, 0, 0, 0), (6, 250, 0, 0, 0), (2, 250, 0, 0, 0), (1, 8, 351, 249, 0), (5, 249, 0, 0, 0), (2, 249, 0, 0, 0), (16, 10, 15, 1, 0), (16, 10, 9, 0, 0)]
set_option maxRecDepth 100000 in
set_option maxHeartbeats 4000000 in
theorem ax_sl_10 : List.Sublist (ax_ds_10.map ax_wrd) (tables_1_6) := .cons₂ _ (.cons₂ _ (.cons₂ _ (.cons₂ _ (.cons₂ _ (.cons₂ _ (.cons₂ _ (.cons _ (.cons₂ _ (.cons₂ _ (.cons₂ _ (.cons₂ _ (.cons₂ _ (.cons₂ _ (.cons₂ _ (.cons _ (.cons₂ _ (.cons₂ _ (.cons₂ _ (.cons₂ _ (.cons₂ _ (.cons₂ _ (.cons₂ _ (.cons _ (.cons₂ _ (.cons₂ _ (.cons₂ _ (.cons _ (.cons₂ _ (.cons₂ _ (.cons₂ _ (.cons₂ _ (.cons₂ _ (.cons₂ _ (.cons₂ _ (.cons₂ _ (.cons₂ _ (.cons₂ _ (.cons₂ _ (.cons _ (.cons₂ _ (.cons₂ _ (.cons₂ _ (.cons₂ _ (.cons₂ _ (.cons₂ _ (.cons₂ _ (.cons₂ _ (.cons₂ _ (.cons₂ _ (.cons₂ _ (.cons₂ _ (.cons₂ _ (.cons₂ _ (.cons₂ _ (.cons₂ _ (.cons₂ _ (.cons₂ _ (.cons _ (.cons₂ _ (.cons₂ _ (.cons₂ _ (.cons _ (.cons₂ _ (.cons₂ _ (.cons₂ _ (.cons₂ _ (.cons₂ _ (.cons₂ _ (.cons₂ _ (.cons₂ _ (.cons₂ _ (.cons₂ _ (.cons _ (.cons₂ _ (.cons₂ _ (.cons₂ _ (.cons₂ _ (.cons₂ _ (.cons₂ _ (.cons₂ _ (.cons₂ _ (.cons₂ _ (.cons₂ _ (.cons₂ _ (.cons _ (.cons₂ _ (.cons₂ _ (.cons₂ _ (.cons _ (.cons₂ _ (.cons₂ _ (.cons₂ _ (.cons₂ _ (.cons₂ _ (.cons₂ _ (.cons₂ _ (.cons _ (.cons₂ _ (.cons₂ _ (.cons₂ _ (.cons₂ _ (.cons₂ _ (.cons₂ _ (.cons₂ _ (.cons _ (.cons₂ _ (.cons₂ _ (.cons₂ _ (.cons₂ _ (.cons₂ _ (.cons₂ _ (.cons₂ _ (.cons _ (.cons₂ _ (.cons₂ _ (.cons₂ _ (.cons _ (.cons₂ _ (.cons₂ _ (.cons₂ _ (.cons₂ _ (.cons₂ _ (.cons₂ _ (.cons₂ _ (.cons₂ _ (.cons₂ _ (.cons₂ _ (.cons₂ _ (.cons₂ _ (.cons₂ _ (.cons₂ _ (.cons₂ _ (.cons _ (.cons₂ _ (.cons₂ _ (.cons₂ _ (.cons _ (.cons₂ _ (.cons₂ _ (.cons₂ _ (.cons₂ _ (.cons₂ _ (.cons₂ _ (.cons₂ _ (.cons₂ _ (.cons₂ _ (.cons₂ _ (.cons₂ _ (.cons _ (.cons₂ _ (.cons₂ _ (.cons₂ _ (.cons₂ _ (.cons₂ _ (.cons₂ _ (.cons₂ _ (.cons _ (.cons₂ _ (.cons₂ _ (.cons₂ _ (.cons₂ _ (.cons _ (.cons₂ _ (.cons₂ _ (.cons₂ _ (.cons₂ _ (.cons₂ _ (.cons₂ _ (.cons₂ _ (.cons₂ _ (.cons₂ _ (.cons₂ _ (.cons₂ _ (.cons₂ _ (.cons₂ _ (.cons₂ _ (.cons₂ _ (.cons₂ _ (.cons₂ _ (.cons₂ _ (.cons₂ _ (.cons₂ _ (.cons₂ _ (.cons _ (.cons₂ _ (.cons₂ _ (.cons₂ _ (.cons₂ _ (.cons₂ _ (.cons₂ _ (.cons₂ _ (.cons₂ _ (.cons₂ _ (.cons₂ _ (.cons₂ _ (.cons₂ _ (.cons₂ _ (.cons₂ _ (.cons₂ _ (.cons _ (.cons₂ _ (.cons₂ _ (.cons₂ _ (.cons _ (.cons₂ _ (.cons₂ _ (.cons₂ _ (.cons₂ _ (.cons₂ _ (.cons₂ _ (.cons₂ _ (.cons₂ _ (.cons₂ _ (.cons₂ _ (.cons₂ _ (.cons₂ _ (.cons₂ _ (.cons₂ _ (.cons₂ _ (.cons₂ _ (.cons₂ _ (.cons₂ _ (.cons₂ _ (.cons _ (.cons₂ _ (.cons₂ _ (.cons₂ _ (.cons₂ _ (.cons₂ _ (.cons₂ _ (.cons₂ _ (.cons₂ _ (.cons₂ _ (.cons₂ _ (.cons _ (.cons₂ _ (.cons₂ _ (.cons₂ _ (.cons₂ _ (.slnil))))))))))))))))))))))))))))))))))))))))))))))))))))))))))))))))))))))))))))))))))))))))))))))))))))))))))))))))))))))))))))))))))))))))))))))))))))))))))))))))))))))))))))))))))))))))))))))))))))))))))))))))))))))))))))))))))))))))))))))))
def ax_ds : List ax_Ds := ax_ds_0 ++ (ax_ds_1 ++ (ax_ds_2 ++ (ax_ds_3 ++ (ax_ds_4 ++ (ax_ds_5 ++ (ax_ds_6 ++ (ax_ds_7 ++ (ax_ds_8 ++ (ax_ds_9 ++ (ax_ds_10))))))))))
def ax_tb : List Cond := ax_ds.map ax_wrd
theorem ax_tb_mem : ∀ w ∈ ax_tb, w ∈ lw_tbl := by
  intro w hw
  have h : ∀ {l : List ax_Ds} {T : List Cond}, List.Sublist (l.map ax_wrd) T → ∀ w ∈ l.map ax_wrd, w ∈ T := fun h w hw => h.mem hw
  unfold ax_tb ax_ds at hw
  simp only [List.map_append, List.mem_append] at hw
  unfold lw_tbl lw_privs tables_1 k2_sels
  simp only [List.map_append, List.mem_append]
  rcases hw with hw | hw | hw | hw | hw | hw | hw | hw | hw | hw | hw
  · exact Or.inl (Or.inl (h ax_sl_0 w hw))
  · exact Or.inl (Or.inr (Or.inl (h ax_sl_1 w hw)))
  · exact Or.inl (Or.inr (Or.inr (Or.inl (h ax_sl_2 w hw))))
  · exact Or.inl (Or.inr (Or.inr (Or.inr (Or.inl (h ax_sl_3 w hw)))))
  · exact Or.inl (Or.inr (Or.inr (Or.inr (Or.inr ((h ax_sl_4 w hw))))))
  · exact Or.inr (Or.inl (h ax_sl_5 w hw))
  · exact Or.inr (Or.inr (Or.inl (h ax_sl_6 w hw)))
  · exact Or.inr (Or.inr (Or.inr (Or.inl (h ax_sl_7 w hw))))
  · exact Or.inr (Or.inr (Or.inr (Or.inr (Or.inl (h ax_sl_8 w hw)))))
  · exact Or.inr (Or.inr (Or.inr (Or.inr (Or.inr (Or.inl (h ax_sl_9 w hw))))))
  · exact Or.inr (Or.inr (Or.inr (Or.inr (Or.inr (Or.inr ((h ax_sl_10 w hw)))))))
set_option maxRecDepth 100000 in
theorem ax_tb_gw : ax_tb.all goodWord = true := by decide +kernel
theorem ax_tb_good : GoodIn ax_tb ax_tb := fun w hw => ⟨hw, good_of_word (List.all_eq_true.mp ax_tb_gw w hw)⟩
/-- the links to private members of a nest mate: whose, where, which -/
def ax_nd : List (Nat × Nat × Nat) := [(0, 39, 131), (0, 47, 130), (0, 54, 133), (1, 15, 131), (3, 57, 127), (3, 61, 128), (3, 65, 129), (5, 58, 127), (5, 68, 128), (5, 72, 131), (5, 89, 130), (6, 58, 132), (6, 71, 131), (6, 81, 133)]
def ax_tn : List Cond := ax_nd.map (fun q => .methodLinkNest (ax_nmC q.1) q.2.1 (ax_y q.2.2) RX7)
theorem ax_tn_mem : ∀ w ∈ ax_tn, w ∈ lw_tbl := by
  intro w hw
  refine List.mem_append_right _ ?_
  simp only [ax_tn, ax_nd, List.map_cons, List.map_nil, List.mem_cons, List.not_mem_nil, or_false] at hw
  rcases hw with rfl | rfl | rfl | rfl | rfl | rfl | rfl | rfl | rfl | rfl | rfl | rfl | rfl | rfl
  · exact List.mem_append_right _ (List.mem_append_right _ (List.mem_append_left _ (List.mem_of_getElem? (i := 123) (rfl : tables_1_3[123]? = some _))))
  · exact List.mem_append_right _ (List.mem_append_right _ (List.mem_append_left _ (List.mem_of_getElem? (i := 124) (rfl : tables_1_3[124]? = some _))))
  · exact List.mem_append_right _ (List.mem_append_right _ (List.mem_append_left _ (List.mem_of_getElem? (i := 138) (rfl : tables_1_3[138]? = some _))))
  · exact List.mem_append_right _ (List.mem_append_right _ (List.mem_append_right _ (List.mem_append_left _ (List.mem_of_getElem? (i := 64) (rfl : tables_1_4[64]? = some _)))))
  · exact List.mem_append_right _ (List.mem_append_left _ (List.mem_of_getElem? (i := 91) (rfl : tables_1_2[91]? = some _)))
  · exact List.mem_append_right _ (List.mem_append_left _ (List.mem_of_getElem? (i := 94) (rfl : tables_1_2[94]? = some _)))
  · exact List.mem_append_right _ (List.mem_append_left _ (List.mem_of_getElem? (i := 102) (rfl : tables_1_2[102]? = some _)))
  · exact List.mem_append_right _ (List.mem_append_left _ (List.mem_of_getElem? (i := 116) (rfl : tables_1_2[116]? = some _)))
  · exact List.mem_append_right _ (List.mem_append_left _ (List.mem_of_getElem? (i := 144) (rfl : tables_1_2[144]? = some _)))
  · exact List.mem_append_right _ (List.mem_append_left _ (List.mem_of_getElem? (i := 145) (rfl : tables_1_2[145]? = some _)))
  · exact List.mem_append_right _ (List.mem_append_left _ (List.mem_of_getElem? (i := 173) (rfl : tables_1_2[173]? = some _)))
  · exact List.mem_append_right _ (List.mem_append_right _ (List.mem_append_left _ (List.mem_of_getElem? (i := 83) (rfl : tables_1_3[83]? = some _))))
  · exact List.mem_append_right _ (List.mem_append_right _ (List.mem_append_right _ (List.mem_append_left _ (List.mem_of_getElem? (i := 11) (rfl : tables_1_4[11]? = some _)))))
  · exact List.mem_append_right _ (List.mem_append_right _ (List.mem_append_right _ (List.mem_append_left _ (List.mem_of_getElem? (i := 39) (rfl : tables_1_4[39]? = some _)))))
end
section
/-! THE ABSTRACT MACHINE: cells by number, int arrays and fields as functions, the code as blocks; its run as a least fixed point -/
/-- the script's length and ints are the last two -/
abbrev ax_Hp : Type := (Nat → Nat → Int32) × (Nat → Nat → Int64) × Nat × (Nat → Int32)
abbrev ax_Lc : Type := List (Nat × Value)
abbrev ax_Rs : Type := Option Value × ax_Hp
abbrev ax_Rn : Type := Nat → Nat → ax_Lc → List Value → ax_Hp → Option ax_Rs
def sA (h : ax_Hp) (k : Nat) (f : Nat → Int32) : ax_Hp := (fun a => if a = k then f else h.1 a, h.2)
def sL (h : ax_Hp) (k : Nat) (f : Nat → Int64) : ax_Hp := (h.1, fun a => if a = k then f else h.2.1 a, h.2.2)
/-- is the place in the row (by choice, so that nobody unfolds it) -/
noncomputable def ax_in (i : Int32) (n : Nat) : Bool := @decide (vp_in i n) (Classical.propDecidable _)
def ax_g (b : Bool) (o : Option ax_Rs) : Option ax_Rs := match b with
  | true => o
  | false => none
def ax_get (i : Nat) : ax_Lc → Option Value
  | [] => none
  | q :: l => match Nat.beq q.1 i with
    | true => some q.2
    | false => ax_get i l
def ax_nrm : List Nat → ax_Lc → Option ax_Lc
  | [], _ => some []
  | i :: is, l => match ax_get i l with
    | none => none
    | some v => match ax_nrm is l with
      | none => none
      | some r => some ((i, v) :: r)
def ax_sum : List Value → Nat
  | [] => 0
  | v :: r => v.category + ax_sum r
def ax_st1 (i : Nat) (v : Value) (l : ax_Lc) : ax_Lc := (i, v) :: l.filter (fun q => !(q.1 == i) && !(q.1 + 1 == i && q.2.category == 2))
def ax_st2 (i : Nat) (v : Value) (l : ax_Lc) : ax_Lc := (i, v) :: l.filter (fun q => !(q.1 == i) && (!(q.1 == i + 1) && !(q.1 + 1 == i && q.2.category == 2)))
/-- the letters of the kinds, as bytes -/
def ax_by : List Int32 := [119, 111, 98, 112, 108, 102]
abbrev ax_Stp : Type := Option (Bool × ax_Lc × List Value × ax_Hp)
def ax_prim (p : Nat) (ls : ax_Lc) (st : List Value) (h : ax_Hp) : ax_Stp := match p with
  | 1 => match st with
    | .int y :: .int x :: r => some (decide (ax_sum r ≤ 8), ls, .int (if x < y then y else x) :: r, h)
    | _ => none
  | 2 => match st with
    | .int y :: .int x :: r => some (decide (ax_sum r ≤ 8), ls, .int (if y < x then y else x) :: r, h)
    | _ => none
  | 3 => match st with
    | .int x :: r => some (decide (ax_sum r ≤ 8), ls, .int (if 0 ≤ x then x else 0 - x) :: r, h)
    | _ => none
  | 4 => match st with
    | .int n :: .int dp :: .ref d :: .int sp :: .ref s :: r => match ax_shp s, ax_shp d with
      | (1, m, _), (1, m', _) => some (decide (ax_sum r ≤ 8) && (decide (n = Int32.ofNat m) && (decide (m = m') && (decide (dp = 0) && decide (sp = 0)))), ls, r, sA h d (h.1 s))
      | _, _ => none
    | _ => none
  | _ => none
/-- an instruction that stays in its method and goes on behind itself: the Bool is what must hold -/
noncomputable def ax_stp (ins : Instr) (inf : ax_If) (ls : ax_Lc) (st : List Value) (h : ax_Hp) : ax_Stp :=
  match inf with
  | [] => (match ins with
    | .iadd => match st with | .int y :: .int x :: r => some (true, ls, .int (x + y) :: r, h) | _ => none
    | .isub => match st with | .int y :: .int x :: r => some (true, ls, .int (x - y) :: r, h) | _ => none
    | .imul => match st with | .int y :: .int x :: r => some (true, ls, .int (x * y) :: r, h) | _ => none
    | .idiv => match st with | .int y :: .int x :: r => some (!(decide (y = 0)), ls, .int (x / y) :: r, h) | _ => none
    | .irem => match st with | .int y :: .int x :: r => some (!(decide (y = 0)), ls, .int (x - x / y * y) :: r, h) | _ => none
    | .ineg => match st with | .int x :: r => some (true, ls, .int (-x) :: r, h) | _ => none
    | .iand => match st with | .int y :: .int x :: r => some (true, ls, .int (x &&& y) :: r, h) | _ => none
    | .ior => match st with | .int y :: .int x :: r => some (true, ls, .int (x ||| y) :: r, h) | _ => none
    | .ixor => match st with | .int y :: .int x :: r => some (true, ls, .int (x ^^^ y) :: r, h) | _ => none
    | .ishl => match st with | .int y :: .int x :: r => some (true, ls, .int (x <<< (y &&& 31)) :: r, h) | _ => none
    | .ishr => match st with | .int y :: .int x :: r => some (true, ls, .int (x >>> (y &&& 31)) :: r, h) | _ => none
    | .iushr => match st with | .int y :: .int x :: r => some (true, ls, .int ((x.toUInt32 >>> (y.toUInt32 &&& Int32.toUInt32 31)).toInt32) :: r, h) | _ => none
    | .ladd => match st with | .long y :: .long x :: r => some (true, ls, .long (x + y) :: r, h) | _ => none
    | .lsub => match st with | .long y :: .long x :: r => some (true, ls, .long (x - y) :: r, h) | _ => none
    | .lmul => match st with | .long y :: .long x :: r => some (true, ls, .long (x * y) :: r, h) | _ => none
    | .ldiv => match st with | .long y :: .long x :: r => some (!(decide (y = 0)), ls, .long (x / y) :: r, h) | _ => none
    | .lrem => match st with | .long y :: .long x :: r => some (!(decide (y = 0)), ls, .long (x - x / y * y) :: r, h) | _ => none
    | .lcmp => match st with | .long y :: .long x :: r => some (true, ls, .int (lg_cmp x y) :: r, h) | _ => none
    | .i2l => match st with | .int x :: r => some (true, ls, .long x.toInt64 :: r, h) | _ => none
    | .l2i => match st with | .long x :: r => some (true, ls, .int x.toInt32 :: r, h) | _ => none
    | .i2b => match st with | .int x :: r => some (true, ls, .int x.toInt8.toInt32 :: r, h) | _ => none
    | .i2c => match st with | .int x :: r => some (true, ls, .int (x.toUInt32 % 65536).toInt32 :: r, h) | _ => none
    | .dup => match st with | v :: r => some (v.category == 1, ls, v :: v :: r, h) | _ => none
    | .dup2 => match st with | v :: w :: r => some (v.category == 1 && w.category == 1, ls, v :: w :: v :: w :: r, h) | _ => none
    | .pop => match st with | v :: r => some (v.category == 1, ls, r, h) | _ => none
    | .iaload => match st with
      | .int i :: .ref a :: r => match ax_shp a with
        | (1, n, _) => some (ax_in i n, ls, .int (h.1 a i.toNatClampNeg) :: r, h)
        | (3, _, _) => some (ax_in i h.2.2.1, ls, .int (h.2.2.2 i.toNatClampNeg) :: r, h)
        | _ => none
      | _ => none
    | .baload => match st with
      | .int i :: .ref a :: r => match ax_shp a with
        | (5, n, _) => some (ax_in i n, ls, .int (ax_by.getD i.toNatClampNeg 0) :: r, h)
        | _ => none
      | _ => none
    | .iastore => match st with
      | .int x :: .int i :: .ref a :: r => match ax_shp a with
        | (1, n, _) => some (ax_in i n, ls, r, sA h a (upd (h.1 a) i.toNatClampNeg x))
        | _ => none
      | _ => none
    | .laload => match st with
      | .int i :: .ref a :: r => match ax_shp a with
        | (2, n, _) => some (ax_in i n, ls, .long (h.2.1 a i.toNatClampNeg) :: r, h)
        | _ => none
      | _ => none
    | .lastore => match st with
      | .long x :: .int i :: .ref a :: r => match ax_shp a with
        | (2, n, _) => some (ax_in i n, ls, r, sL h a (vp_updL (h.2.1 a) i.toNatClampNeg x))
        | _ => none
      | _ => none
    | .arraylength => match st with
      | .ref a :: r => match ax_shp a with
        | (1, n, _) => some (true, ls, .int (Int32.ofNat n) :: r, h)
        | (3, _, _) => some (true, ls, .int (Int32.ofNat h.2.2.1) :: r, h)
        | (5, n, _) => some (true, ls, .int (Int32.ofNat n) :: r, h)
        | _ => none
      | _ => none
    | _ => none)
  | (v, i, a) :: _ => (match ins with
    | .iconst _ | .bipush _ | .sipush _ | .ldc _ | .ldc_w _ | .lconst _ | .ldc2_w _ | .getstatic _ => some (true, ls, v :: st, h)
    | .iload _ | .iload_n _ => match ax_get i ls with | some (.int x) => some (true, ls, .int x :: st, h) | _ => none
    | .lload _ | .lload_n _ => match ax_get i ls with | some (.long x) => some (true, ls, .long x :: st, h) | _ => none
    | .aload _ | .aload_n _ => match ax_get i ls with | some (.ref x) => some (true, ls, .ref x :: st, h) | _ => none
    | .istore _ | .istore_n _ => match st with | .int x :: r => some (true, ax_st1 i (.int x) ls, r, h) | _ => none
    | .lstore _ | .lstore_n _ => match st with | .long x :: r => some (true, ax_st2 i (.long x) ls, r, h) | _ => none
    | .iinc _ _ => match ax_get i ls, v with | some (.int x), .int d => some (true, ax_st1 i (.int (x + d)) ls, st, h) | _, _ => none
    | .getfield _ => match a, st with
      | k :: _, .ref c :: r => match ax_shp c with
        | (0, ci, fl) => match fl[k]? with
          | some (some j) => some (Nat.beq ci i, ls, .ref j :: r, h)
          | some none => some (Nat.beq ci i, ls, .int (h.1 c k) :: r, h)
          | none => none
        | (4, _, _) => some (Nat.beq i 98, ls, v :: r, h)
        | _ => none
      | _, _ => none
    | .putfield _ => match a, st with
      | k :: _, .int x :: .ref c :: r => match ax_shp c with
        | (0, ci, fl) => match fl[k]? with
          | some none => match v with
            | .int _ => some (Nat.beq ci i && (decide (x = 0) || decide (x = 1)), ls, r, sA h c (upd (h.1 c) k x))
            | _ => some (Nat.beq ci i, ls, r, sA h c (upd (h.1 c) k x))
          | _ => none
        | _ => none
      | _, _ => none
    | .invokestatic _ | .invokevirtual _ => ax_prim i ls st h
    | _ => none)
def ax_jmp (R : ax_Rn) (m : Nat) (t : Nat × List Nat) (ls : ax_Lc) (st : List Value) (h : ax_Hp) : Option ax_Rs := match ax_nrm t.2 ls with
  | some l => R m t.1 l st h
  | none => none
def ax_sw (R : ax_Rn) (m : Nat) (x : Int32) (ls : ax_Lc) (st : List Value) (h : ax_Hp) : ax_If → Option ax_Rs
  | [] => none
  | (v, t) :: r => match r with
    | [] => ax_jmp R m t ls st h
    | _ :: _ => match v with
      | .int w => if x = w then ax_jmp R m t ls st h else ax_sw R m x ls st h r
      | _ => none
def ax_rV (R : ax_Rn) (z : Nat) (as : List Value) (h : ax_Hp) : Option ax_Hp := match R z 0 (lv_args 0 as) [] h with
  | some (none, h') => some h'
  | _ => none
def ax_rI (R : ax_Rn) (z : Nat) (as : List Value) (h : ax_Hp) : Option (Int32 × ax_Hp) := match R z 0 (lv_args 0 as) [] h with
  | some (some (.int x), h') => some (x, h')
  | _ => none
def ax_rL (R : ax_Rn) (z : Nat) (as : List Value) (h : ax_Hp) : Option (Int64 × ax_Hp) := match R z 0 (lv_args 0 as) [] h with
  | some (some (.long x), h') => some (x, h')
  | _ => none
def ax_rA (R : ax_Rn) (z : Nat) (as : List Value) (h : ax_Hp) : Option (Nat × ax_Hp) := match R z 0 (lv_args 0 as) [] h with
  | some (some (.ref x), h') => some (x, h')
  | _ => none
/-- may the call be made: the operands that stay are few, the arguments fit into w locals, the receiver is of the method's class (ci 99: no receiver; 98: String) -/
def ax_may (st : List Value) (n ci w : Nat) : Bool := decide (n ≤ st.length) && (decide (ax_sum (st.drop n) ≤ 8) && (decide (ax_sum (st.take n) ≤ w) && (Nat.beq ci 99 || (match (st.take n).reverse with
  | .ref c :: _ => (match ax_shp c with
    | (0, cj, _) => Nat.beq cj ci
    | (4, _, _) => Nat.beq 98 ci
    | _ => false)
  | _ => false))))
def ax_call (R : ax_Rn) (z : Nat) (n k : Nat) (st : List Value) (h : ax_Hp) (go : List Value → ax_Hp → Option ax_Rs) : Option ax_Rs := match k with
  | 0 => (ax_rV R z (st.take n).reverse h).bind (fun q => go (st.drop n) q)
  | 1 => (ax_rI R z (st.take n).reverse h).bind (fun q => go (.int q.1 :: st.drop n) q.2)
  | 2 => (ax_rL R z (st.take n).reverse h).bind (fun q => go (.long q.1 :: st.drop n) q.2)
  | _ => (ax_rA R z (st.take n).reverse h).bind (fun q => go (.ref q.1 :: st.drop n) q.2)
/-- what an instruction of control does: 0 none, 1 goto, 2 if, 3 if_icmp, 4 switch, 5 call, 6 return -/
def ax_if (c : ClassFile.Cond) (x y : Int32) (a b : Option ax_Rs) : Option ax_Rs := match c with
  | .eq => if x = y then a else b
  | .ne => if x = y then b else a
  | .lt => if x < y then a else b
  | .ge => if y ≤ x then a else b
  | .gt => if y < x then a else b
  | .le => if x ≤ y then a else b
def ax_ret (rt : Nat) (st : List Value) (h : ax_Hp) : Option ax_Rs := match st with
  | [] => if rt = 0 then some (none, h) else none
  | [.int x] => if rt = 1 then some (some (.int x), h) else if rt = 4 then (if x = 0 ∨ x = 1 then some (some (.int x), h) else none) else none
  | [.long x] => if rt = 2 then some (some (.long x), h) else none
  | [.ref x] => if rt = 3 then some (some (.ref x), h) else none
  | _ => none
noncomputable def ax_exec (R : ax_Rn) (m rt : Nat) (nx : Nat × List Nat) : List ax_Op → ax_Lc → List Value → ax_Hp → Option ax_Rs
  | [], ls, st, h => ax_jmp R m nx ls st h
  | op :: rest, ls, st, h => match op.2.1 with
    | .goto _ => match op.2.2.2 with
      | (_, t) :: _ => ax_jmp R m t ls st h
      | [] => none
    | .ifCond c _ => match op.2.2.2, st with
      | (_, t) :: _, .int x :: r => ax_if c x 0 (ax_jmp R m t ls r h) (ax_exec R m rt nx rest ls r h)
      | _, _ => none
    | .if_icmp c _ => match op.2.2.2, st with
      | (_, t) :: _, .int y :: .int x :: r => ax_if c x y (ax_jmp R m t ls r h) (ax_exec R m rt nx rest ls r h)
      | _, _ => none
    | .tableswitch _ _ _ _ | .lookupswitch _ _ => match st with
      | .int x :: r => ax_sw R m x ls r h op.2.2.2
      | _ => none
    | .ireturn | .lreturn | .areturn | .return_ => ax_ret rt st h
    | ins => match op.2.2.2 with
      | (_, z, [n, k, ci, w, _]) :: _ => match ax_may st n ci w with
        | true => ax_call R z n k st h (fun st' h' => ax_exec R m rt nx rest ls st' h')
        | false => none
      | inf => match ax_stp ins inf ls st h with
        | none => none
        | some (b, ls', st', h') => ax_g b (ax_exec R m rt nx rest ls' st' h')
def ax_lk (pc : Nat) : List (Nat × ax_Bl) → Option ax_Bl
  | [] => none
  | q :: l => match Nat.beq q.1 pc with
    | true => some q.2
    | false => ax_lk pc l
def ax_find (m pc : Nat) : Option (Nat × ax_Bl) := match ax_code[m]? with
  | none => none
  | some e => match ax_lk pc e.2 with
    | none => none
    | some b => some (e.1, b)
noncomputable def ax_step (R : ax_Rn) : ax_Rn := fun m pc ls st h => match ax_find m pc with
  | none => none
  | some (rt, b) => ax_exec R m rt b.1 b.2 ls st h
noncomputable def ax_fuel : Nat → ax_Rn
  | 0 => fun _ _ _ _ _ => none
  | n + 1 => ax_step (ax_fuel n)
noncomputable def ax_run : ax_Rn := fun m pc ls st h => @dite _ (∃ (r : ax_Rs) (n : Nat), ax_fuel n m pc ls st h = some r) (Classical.propDecidable _) (fun hx => some hx.choose) (fun _ => none)
end
section
/-! the run: a fixed point of the step; what it answers, some fuel answers -/
abbrev ax_Q : Type := (Nat × Nat × ax_Lc × List Value × ax_Hp) × ax_Rs
def ax_A (R : ax_Rn) (q : ax_Q) : Prop := R q.1.1 q.1.2.1 q.1.2.2.1 q.1.2.2.2.1 q.1.2.2.2.2 = some q.2
def ax_F {α : Type} (f : ax_Rn → Option α) (R : ax_Rn) (r : α) : Prop := ∃ qs : List ax_Q, (∀ q ∈ qs, ax_A R q) ∧ ∀ R' : ax_Rn, (∀ q ∈ qs, ax_A R' q) → f R' = some r
theorem ax_F_const {α : Type} {o : Option α} {R : ax_Rn} {r : α} (h : o = some r) : ax_F (fun _ => o) R r := ⟨[], fun q hq => absurd hq List.not_mem_nil, fun _ _ => h⟩
theorem ax_F_ask {m pc : Nat} {ls : ax_Lc} {st : List Value} {h : ax_Hp} {R : ax_Rn} {r : ax_Rs} (e : R m pc ls st h = some r) : ax_F (fun R => R m pc ls st h) R r :=
  ⟨[((m, pc, ls, st, h), r)], fun q hq => by cases List.mem_singleton.mp hq; exact e, fun R' hR => hR _ (List.mem_singleton.mpr rfl)⟩
theorem ax_F_bind {α β : Type} {f : ax_Rn → Option α} {g : α → ax_Rn → Option β} {R : ax_Rn} {a : α} {b : β} (h1 : ax_F f R a) (h2 : ax_F (g a) R b) : ax_F (fun R => (f R).bind (fun x => g x R)) R b := by
  obtain ⟨q1, a1, b1⟩ := h1
  obtain ⟨q2, a2, b2⟩ := h2
  refine ⟨q1 ++ q2, fun q hq => (List.mem_append.mp hq).elim (a1 q) (a2 q), fun R' hR => ?_⟩
  show (f R').bind (fun x => g x R') = some b
  rw [b1 R' (fun q hq => hR q (List.mem_append_left _ hq))]
  exact b2 R' (fun q hq => hR q (List.mem_append_right _ hq))
theorem ax_F_eq {α : Type} {f g : ax_Rn → Option α} {R : ax_Rn} {r : α} (e : ∀ R', g R' = f R') (h : ax_F f R r) : ax_F g R r := by
  obtain ⟨qs, a, b⟩ := h
  exact ⟨qs, a, fun R' hR => (e R').trans (b R' hR)⟩
theorem ax_F_jmp {m : Nat} {t : Nat × List Nat} {ls : ax_Lc} {st : List Value} {h : ax_Hp} {R : ax_Rn} {r : ax_Rs} (e : ax_jmp R m t ls st h = some r) : ax_F (fun R => ax_jmp R m t ls st h) R r := by
  unfold ax_jmp at e ⊢
  cases hn : ax_nrm t.2 ls with
  | none => rw [hn] at e; cases e
  | some l => rw [hn] at e; exact ax_F_ask e
theorem ax_F_sw {m : Nat} {x : Int32} {ls : ax_Lc} {st : List Value} {h : ax_Hp} {R : ax_Rn} {r : ax_Rs} : ∀ (l : ax_If), ax_sw R m x ls st h l = some r → ax_F (fun R => ax_sw R m x ls st h l) R r
  | [], e => by cases e
  | [(v, t)], e => ax_F_jmp e
  | (v, t) :: q :: l, e => by
    cases v with
    | int w =>
      have e0 : ∀ R' : ax_Rn, ax_sw R' m x ls st h ((.int w, t) :: q :: l) = if x = w then ax_jmp R' m t ls st h else ax_sw R' m x ls st h (q :: l) := fun _ => rfl
      rw [e0] at e
      by_cases hx : x = w
      · rw [if_pos hx] at e
        exact ax_F_eq (fun R' => (e0 R').trans (if_pos hx)) (ax_F_jmp e)
      · rw [if_neg hx] at e
        exact ax_F_eq (fun R' => (e0 R').trans (if_neg hx)) (ax_F_sw (q :: l) e)
    | _ => cases e
theorem ax_F_rV {z : Nat} {as : List Value} {h : ax_Hp} {R : ax_Rn} {r : ax_Hp} (e : ax_rV R z as h = some r) : ax_F (fun R => ax_rV R z as h) R r := by
  unfold ax_rV at e
  split at e
  · next h' hR =>
    cases e
    obtain ⟨qs, a, b⟩ := ax_F_ask hR
    exact ⟨qs, a, fun R' hR' => by simp only [ax_rV, b R' hR']⟩
  · cases e
theorem ax_F_rI {z : Nat} {as : List Value} {h : ax_Hp} {R : ax_Rn} {r : Int32 × ax_Hp} (e : ax_rI R z as h = some r) : ax_F (fun R => ax_rI R z as h) R r := by
  unfold ax_rI at e
  split at e
  · next h' hR =>
    cases e
    obtain ⟨qs, a, b⟩ := ax_F_ask hR
    exact ⟨qs, a, fun R' hR' => by simp only [ax_rI, b R' hR']⟩
  · cases e
theorem ax_F_rL {z : Nat} {as : List Value} {h : ax_Hp} {R : ax_Rn} {r : Int64 × ax_Hp} (e : ax_rL R z as h = some r) : ax_F (fun R => ax_rL R z as h) R r := by
  unfold ax_rL at e
  split at e
  · next h' hR =>
    cases e
    obtain ⟨qs, a, b⟩ := ax_F_ask hR
    exact ⟨qs, a, fun R' hR' => by simp only [ax_rL, b R' hR']⟩
  · cases e
theorem ax_F_rA {z : Nat} {as : List Value} {h : ax_Hp} {R : ax_Rn} {r : Nat × ax_Hp} (e : ax_rA R z as h = some r) : ax_F (fun R => ax_rA R z as h) R r := by
  unfold ax_rA at e
  split at e
  · next h' hR =>
    cases e
    obtain ⟨qs, a, b⟩ := ax_F_ask hR
    exact ⟨qs, a, fun R' hR' => by simp only [ax_rA, b R' hR']⟩
  · cases e
theorem ax_bind_some {α β : Type} {o : Option α} {g : α → Option β} {b : β} (h : o.bind g = some b) : ∃ a, o = some a ∧ g a = some b := by
  cases o with
  | none => cases h
  | some a => exact ⟨a, rfl, h⟩
theorem ax_F_call {z n k : Nat} {st : List Value} {h : ax_Hp} {R : ax_Rn} {r : ax_Rs} {go : ax_Rn → List Value → ax_Hp → Option ax_Rs} (hgo : ∀ st' h', go R st' h' = some r → ax_F (fun R => go R st' h') R r)
    (e : ax_call R z n k st h (go R) = some r) : ax_F (fun R => ax_call R z n k st h (go R)) R r := by
  unfold ax_call at e ⊢
  split at e
  · obtain ⟨a, h1, h2⟩ := ax_bind_some e
    exact ax_F_bind (ax_F_rV h1) (hgo _ _ h2)
  · obtain ⟨a, h1, h2⟩ := ax_bind_some e
    exact ax_F_bind (g := fun q R => go R (.int q.1 :: st.drop n) q.2) (ax_F_rI h1) (hgo _ _ h2)
  · obtain ⟨a, h1, h2⟩ := ax_bind_some e
    exact ax_F_bind (g := fun q R => go R (.long q.1 :: st.drop n) q.2) (ax_F_rL h1) (hgo _ _ h2)
  · obtain ⟨a, h1, h2⟩ := ax_bind_some e
    exact ax_F_bind (g := fun q R => go R (.ref q.1 :: st.drop n) q.2) (ax_F_rA h1) (hgo _ _ h2)
theorem ax_F_if {c : ClassFile.Cond} {x y : Int32} {f g : ax_Rn → Option ax_Rs} {R : ax_Rn} {r : ax_Rs} (hf : f R = some r → ax_F f R r) (hg : g R = some r → ax_F g R r)
    (e : ax_if c x y (f R) (g R) = some r) : ax_F (fun R => ax_if c x y (f R) (g R)) R r := by
  cases c <;> simp only [ax_if] at e ⊢ <;> split at e <;> rename_i hc <;> simp only [hc, if_true, if_false] <;> first | exact hf e | exact hg e
theorem ax_F_exec {m rt : Nat} {nx : Nat × List Nat} {R : ax_Rn} {r : ax_Rs} : ∀ (ops : List ax_Op) (ls : ax_Lc) (st : List Value) (h : ax_Hp), ax_exec R m rt nx ops ls st h = some r → ax_F (fun R => ax_exec R m rt nx ops ls st h) R r
  | [], ls, st, h, e => ax_F_jmp e
  | op :: rest, ls, st, h, e => by
    unfold ax_exec at e ⊢
    split at e
    · split at e
      · exact ax_F_jmp e
      · cases e
    · split at e
      · exact ax_F_if ax_F_jmp (ax_F_exec rest _ _ _) e
      · cases e
    · split at e
      · exact ax_F_if ax_F_jmp (ax_F_exec rest _ _ _) e
      · cases e
    · split at e
      · exact ax_F_sw _ e
      · cases e
    · split at e
      · exact ax_F_sw _ e
      · cases e
    · exact ax_F_const e
    · exact ax_F_const e
    · exact ax_F_const e
    · exact ax_F_const e
    · split at e
      · split at e
        · exact ax_F_call (go := fun R st' h' => ax_exec R m rt nx rest ls st' h') (fun st' h' => ax_F_exec rest ls st' h') e
        · cases e
      · split at e
        · cases e
        · next b ls' st' h' hs =>
          cases b with
          | false => cases e
          | true => exact ax_F_exec rest ls' st' h' e
theorem ax_F_step {R : ax_Rn} {r : ax_Rs} {m pc : Nat} {ls : ax_Lc} {st : List Value} {h : ax_Hp} (e : ax_step R m pc ls st h = some r) : ax_F (fun R => ax_step R m pc ls st h) R r := by
  unfold ax_step at e ⊢
  split at e
  · cases e
  · exact ax_F_exec _ _ _ _ e
theorem ax_fuel_up : ∀ (n m pc : Nat) (ls : ax_Lc) (st : List Value) (h : ax_Hp) (r : ax_Rs), ax_fuel n m pc ls st h = some r → ax_fuel (n + 1) m pc ls st h = some r
  | 0, m, pc, ls, st, h, r, e => by cases e
  | n + 1, m, pc, ls, st, h, r, e => by
    obtain ⟨qs, a, b⟩ := ax_F_step (R := ax_fuel n) e
    exact b (ax_fuel (n + 1)) (fun q hq => ax_fuel_up n _ _ _ _ _ _ (a q hq))
theorem ax_fuel_le {n k : Nat} (hk : n ≤ k) {m pc : Nat} {ls : ax_Lc} {st : List Value} {h : ax_Hp} {r : ax_Rs} (e : ax_fuel n m pc ls st h = some r) : ax_fuel k m pc ls st h = some r := by
  induction hk with
  | refl => exact e
  | step _ ih => exact ax_fuel_up _ _ _ _ _ _ _ ih
theorem ax_run_fuel {m pc : Nat} {ls : ax_Lc} {st : List Value} {h : ax_Hp} {r : ax_Rs} : ax_run m pc ls st h = some r ↔ ∃ n, ax_fuel n m pc ls st h = some r := by
  unfold ax_run
  by_cases hx : ∃ (r : ax_Rs) (n : Nat), ax_fuel n m pc ls st h = some r
  · rw [dif_pos hx]
    obtain ⟨n, hn⟩ := hx.choose_spec
    constructor
    · intro e
      exact ⟨n, by rw [hn]; exact e⟩
    · rintro ⟨k, hk⟩
      have h1 := ax_fuel_le (Nat.le_max_left n k) hn
      have h2 := ax_fuel_le (Nat.le_max_right n k) hk
      rw [h1] at h2
      exact h2
  · rw [dif_neg hx]
    exact ⟨fun e => by (cases e), fun ⟨n, hn⟩ => absurd ⟨r, n, hn⟩ hx⟩
theorem ax_fuel_all : ∀ (qs : List ax_Q), (∀ q ∈ qs, ax_A ax_run q) → ∃ n, ∀ q ∈ qs, ax_A (ax_fuel n) q
  | [], _ => ⟨0, fun _ h => by cases h⟩
  | q :: qs, h => by
    obtain ⟨n, hn⟩ := ax_fuel_all qs (fun q' hq => h q' (List.mem_cons_of_mem _ hq))
    obtain ⟨k, hk⟩ := ax_run_fuel.mp (h q List.mem_cons_self)
    refine ⟨max n k, fun q' hq => ?_⟩
    rcases List.mem_cons.mp hq with rfl | hq
    · exact ax_fuel_le (Nat.le_max_right n k) hk
    · exact ax_fuel_le (Nat.le_max_left n k) (hn q' hq)
/-- the run goes on as the step says -/
theorem ax_run_eq (m pc : Nat) (ls : ax_Lc) (st : List Value) (h : ax_Hp) : ax_run m pc ls st h = ax_step ax_run m pc ls st h := by
  have up : ∀ r, ax_run m pc ls st h = some r → ax_step ax_run m pc ls st h = some r := by
    intro r e
    obtain ⟨n, hn⟩ := ax_run_fuel.mp e
    cases n with
    | zero => cases hn
    | succ n =>
      obtain ⟨qs, a, b⟩ := ax_F_step (R := ax_fuel n) hn
      exact b ax_run (fun q hq => ax_run_fuel.mpr ⟨n, a q hq⟩)
  have down : ∀ r, ax_step ax_run m pc ls st h = some r → ax_run m pc ls st h = some r := by
    intro r e
    obtain ⟨qs, a, b⟩ := ax_F_step e
    obtain ⟨n, hn⟩ := ax_fuel_all qs a
    exact ax_run_fuel.mpr ⟨n + 1, b (ax_fuel n) hn⟩
  cases hs : ax_step ax_run m pc ls st h with
  | some r => exact down r hs
  | none =>
    cases hr : ax_run m pc ls st h with
    | none => rfl
    | some r => rw [up r hr] at hs; cases hs
end
section
/-! the check of the code against the class files: decided by the kernel -/
def ax_kOk (k : Nat) (r : Option FieldType) : Bool := match r with
  | none => k == 0
  | some .int | some .boolean | some .byte => k == 1
  | some .long => k == 2
  | some (.object _) => k == 3
  | _ => false
def ax_rOk (k : Nat) (r : Option FieldType) : Bool := match r with
  | none => k == 0
  | some .int => k == 1
  | some .boolean | some .byte => k == 4
  | some .long => k == 2
  | some (.object _) => k == 3
  | _ => false
/-- a call of method z from code of class own -/
def ax_okc (own fr lo idx : Nat) (sc : Bool) (z n k ci w pl : Nat) : Bool :=
  decide (z < ax_ents.length) && (decide (ax_sc z = sc) && (decide (n = ax_np z + (if sc then 0 else 1)) && (decide (ax_fr z + 1 ≤ fr) && (decide (8 + (ax_nL z + 11) + ax_lo z ≤ lo) && (ax_kOk k (ax_rT z) && (decide (w = ax_nL z) &&
  ((if pl < 5000 then decide (ax_ds[pl]? = some (1, own, idx, z, 0)) else sc && decide (ax_nd[pl - 5000]? = some (own, idx, z))) &&
  (if sc then decide (ci = 99) else decide (ci ≠ 99) && decide (ax_c2o ci = ax_ow z)))))))))
/-- a library member that the machine answers itself -/
def ax_okp (own fr lo idx p pl : Nat) : Bool := decide (1 ≤ fr) && (decide (26 ≤ lo) && (decide (1 ≤ p) && (decide (p ≤ 4) && decide (ax_ds[pl]? = some (10, own, idx, p, 0)))))
def ax_okv (own k pl : Nat) (x : Int32) : Bool := match ax_ds[pl]? with
  | some (8, o, j, c, _) => decide (o = own) && (decide (j = k) && decide (Int32.ofNat c = x))
  | _ => false
def ax_okw (own k pl : Nat) (x : Int64) : Bool := match ax_ds[pl]? with
  | some (9, o, j, c, _) => decide (o = own) && (decide (j = k) && decide (Int64.ofNat c = x))
  | _ => false
def ax_okT (pc : Nat) (d : Int) : Int → List Int → ax_If → Bool
  | _, [], [(_, t, _)] => decide ((pc : Int) + d = t)
  | lo, o :: os, (.int w, t, _) :: q :: r => decide (w.toInt = lo) && (decide ((pc : Int) + o = t) && ax_okT pc d (lo + 1) os (q :: r))
  | _, _, _ => false
def ax_okL (pc : Nat) (d : Int) : List (Int × Int) → ax_If → Bool
  | [], [(_, t, _)] => decide ((pc : Int) + d = t)
  | (v, o) :: os, (.int w, t, _) :: q :: r => decide (w.toInt = v) && (decide ((pc : Int) + o = t) && ax_okL pc d os (q :: r))
  | _, _ => false
def ax_okI (own nL fr lo pc : Nat) (ins : Instr) (len : Nat) (inf : ax_If) : Bool :=
  match inf with
  | [] => (match ins with
    | .iadd | .isub | .imul | .idiv | .irem | .ineg | .iand | .ior | .ixor | .ishl | .ishr | .iushr | .ladd | .lsub | .lmul | .ldiv | .lrem | .lcmp | .i2l | .l2i | .i2b | .i2c | .dup | .dup2 | .pop | .iaload | .baload | .iastore | .laload | .lastore | .arraylength | .ireturn | .lreturn | .areturn | .return_ => len == 1
    | _ => false)
  | (v, i, a) :: _ => (match ins with
    | .iconst n => len == 1 && (match v with | .int x => decide (Int32.ofInt n = x) | _ => false)
    | .bipush n => len == 2 && (match v with | .int x => decide ((Int8.ofInt n).toInt32 = x) | _ => false)
    | .sipush n => len == 3 && (match v with | .int x => decide ((Int16.ofInt n).toInt32 = x) | _ => false)
    | .ldc k => len == 2 && (match v, a with
      | .int x, [pl] => ax_okv own k pl x
      | .ref 67, [] => decide (k = 23) && decide (own = 3)
      | _, _ => false)
    | .ldc_w k => len == 3 && (match v, a with
      | .int x, [pl] => ax_okv own k pl x
      | _, _ => false)
    | .lconst n => len == 1 && (match v with | .long x => decide (Int64.ofNat n.val = x) | _ => false)
    | .ldc2_w k => len == 3 && (match v, a with
      | .long x, [pl] => ax_okw own k pl x
      | _, _ => false)
    | .getstatic k => len == 3 && (match v, a with
      | .int x, [pl] => decide (x = 1) && decide (ax_ds[pl]? = some (16, own, k, 2, 0))
      | _, _ => false)
    | .iload j | .lload j | .aload j => len == 2 && decide (j = i)
    | .iload_n j | .lload_n j | .aload_n j => len == 1 && decide (j.val = i)
    | .istore j => len == 2 && (decide (j = i) && decide (i < nL))
    | .istore_n j => len == 1 && (decide (j.val = i) && decide (i < nL))
    | .lstore j => len == 2 && (decide (j = i) && decide (i + 1 < nL))
    | .lstore_n j => len == 1 && (decide (j.val = i) && decide (i + 1 < nL))
    | .iinc j n => len == 3 && (decide (j = i) && (decide (i < nL) && (match v with | .int x => decide (Int32.ofInt n = x) | _ => false)))
    | .getfield k => len == 3 && (match a with
      | [f, pl] => if i = 98 then (match v with
          | .ref 68 => decide (ax_ds[pl]? = some (16, own, k, 0, 0))
          | .int x => decide (x = 0) && decide (ax_ds[pl]? = some (16, own, k, 1, 0))
          | _ => false)
        else decide (i < ax_cl.length) && (decide (f < (ax_cd i).2.2) && decide (ax_ds[pl]? = some (0, own, k, i, f)))
      | _ => false)
    | .putfield k => len == 3 && (match a with
      | [f, pl] => decide (i < ax_cl.length) && (decide (f < (ax_cd i).2.2) && (decide (ax_ds[pl]? = some (0, own, k, i, f)) && (decide (((ax_cd i).2.1 f).2.2.2 = false) && decide (parseFieldDescriptor ((ax_cd i).2.1 f).2.2.1 = some (match v with | .int _ => .boolean | _ => .int)))))
      | _ => false)
    | .goto o => len == 3 && decide ((pc : Int) + o = i)
    | .ifCond _ o => len == 3 && decide ((pc : Int) + o = i)
    | .if_icmp _ o => len == 3 && decide ((pc : Int) + o = i)
    | .tableswitch d lo hi os => decide (os.size = (hi - lo + 1).toNat) && ax_okT pc d lo os.toList inf
    | .lookupswitch d ps => (ps.toList.zip (ps.toList.drop 1)).all (fun (a, next) => a.1 < next.1) && ax_okL pc d ps.toList inf
    | .invokestatic k => len == 3 && (match a with
      | [n, r, ci, w, pl] => ax_okc own fr lo k true i n r ci w pl
      | [pl] => ax_okp own fr lo k i pl
      | _ => false)
    | .invokevirtual k => len == 3 && (match a with
      | [n, r, ci, w, pl] => ax_okc own fr lo k false i n r ci w pl
      | _ => false)
    | _ => false)
def ax_end : Instr → Bool
  | .goto _ | .tableswitch .. | .lookupswitch .. | .ireturn | .lreturn | .areturn | .return_ => true
  | _ => false
/-- only a call is told by five numbers (a jump's mask may have five) -/
def ax_five (ins : Instr) (inf : ax_If) : Bool := match inf with
  | (_, _, [_, _, _, _, _]) :: _ => (match ins with
    | .invokestatic _ | .invokevirtual _ | .goto _ | .ifCond _ _ | .if_icmp _ _ | .tableswitch _ _ _ _ | .lookupswitch _ _ => true
    | _ => false)
  | _ => true
def ax_okO (own : Nat) (cc : ByteArray) (nL fr lo : Nat) (nx : Nat) : Nat → List ax_Op → Bool
  | pc, [] => decide (pc = nx)
  | pc, op :: r => decide (op.1 = pc) && (decide (decode cc pc = .ok (op.2.1, op.2.2.1)) && (ax_okI own nL fr lo pc op.2.1 op.2.2.1 op.2.2.2 && (ax_five op.2.1 op.2.2.2 && (ax_end op.2.1 || ax_okO own cc nL fr lo nx (pc + op.2.2.1) r))))
def ax_okB (own : Nat) (cc : ByteArray) (nL fr lo : Nat) (l : List (Nat × ax_Bl)) : Bool := l.all (fun b => ax_okO own cc nL fr lo b.2.1.1 b.1 b.2.2)
/-- which of its returns a method may use: by its kind of answer -/
def ax_retI (rt : Nat) (ins : Instr) : Bool := match ins with
  | .ireturn => rt == 1 || rt == 4
  | .lreturn => rt == 2
  | .areturn => rt == 3
  | .return_ => rt == 0
  | _ => true
def ax_okR (rt : Nat) (ops : List ax_Op) : Bool := ops.all (fun op => ax_retI rt op.2.1)
/-- the method's own words, by their places -/
def ax_okW (z : Nat) : Bool :=
  plainName (ax_y z).cls && (decide ((ax_y z).cls ≠ "java/lang/invoke/MethodHandle") && (decide ((ax_y z).cls ≠ "java/lang/invoke/VarHandle") && (decide ((parseMethodDescriptor (ax_y z).desc).map (fun d => d.parameters.length) = some (ax_np z)) &&
  (decide ((ax_y z).cls = ax_nmC (ax_ow z)) && (match ax_sc z, ax_pl z with
    | true, [p0, p1, p2] => decide (ax_ds[p0]? = some (2, z, 0, 0, 0)) && (decide (ax_ds[p1]? = some (3, ax_ow z, 0, 0, 0)) && decide (ax_ds[p2]? = some (4, z, 0, 0, 0)))
    | false, [p0, p1, p2, p3] => decide (ax_ds[p0]? = some (2, z, 0, 0, 0)) && (decide (ax_ds[p1]? = some (3, ax_ow z, 0, 0, 0)) && (decide (ax_ds[p2]? = some (5, z, 0, 0, 0)) && decide (ax_ds[p3]? = some (6, z, 0, 0, 0))))
    | _, _ => false)))))
def ax_okM (z : Nat) : Bool := ax_okW z && (match ax_code[z]? with
  | some e => ax_rOk e.1 (ax_rT z) && (ax_okB (ax_ow z) (ax_c z) (ax_nL z) (ax_fr z) (ax_lo z) e.2 && e.2.all (fun b => ax_okR e.1 b.2.2))
  | none => false)
end
section
/-! SOUNDNESS: what the abstract machine answers, the machine does -/
theorem ax_lk_mem {pc : Nat} : ∀ {l : List (Nat × ax_Bl)} {b : ax_Bl}, ax_lk pc l = some b → (pc, b) ∈ l
  | [], b, h => by cases h
  | q :: l, b, h => by
    unfold ax_lk at h
    split at h
    · next e =>
      cases h
      have : q.1 = pc := Nat.eq_of_beq_eq_true e
      subst this
      exact List.mem_cons_self
    · exact List.mem_cons_of_mem _ (ax_lk_mem h)
def ax_cv (ad : Nat → Nat) : Value → Value
  | .ref k => .ref (ad k)
  | v => v
theorem ax_cv_cat (ad : Nat → Nat) (v : Value) : (ax_cv ad v).category = v.category := by cases v <;> rfl
def ax_cls (ad : Nat → Nat) (ls : ax_Lc) : List (Nat × Value) := ls.map (fun q => (q.1, ax_cv ad q.2))
def ax_fv (ad : Nat → Nat) (f : Nat → Int32) (fl : List (Option Nat)) (i : Nat) : List Value := match fl with
  | [] => []
  | none :: r => .int (f i) :: ax_fv ad f r (i + 1)
  | some j :: r => .ref (ad j) :: ax_fv ad f r (i + 1)
theorem ax_fv_len (ad : Nat → Nat) (f : Nat → Int32) : ∀ (fl : List (Option Nat)) (i : Nat), (ax_fv ad f fl i).length = fl.length
  | [], _ => rfl
  | none :: r, i => by simp only [ax_fv, List.length_cons, ax_fv_len ad f r (i + 1)]
  | some _ :: r, i => by simp only [ax_fv, List.length_cons, ax_fv_len ad f r (i + 1)]
theorem ax_fv_get (ad : Nat → Nat) (f : Nat → Int32) : ∀ (fl : List (Option Nat)) (i k : Nat), (ax_fv ad f fl i)[k]? = (fl[k]?).map (fun o => match o with | none => .int (f (i + k)) | some j => .ref (ad j))
  | [], _, _ => by simp [ax_fv]
  | none :: r, i, 0 => by simp [ax_fv]
  | some _ :: r, i, 0 => by simp [ax_fv]
  | none :: r, i, k + 1 => by
    simp only [ax_fv, List.getElem?_cons_succ, ax_fv_get ad f r (i + 1) k]
    rw [show i + 1 + k = i + (k + 1) by omega]
  | some _ :: r, i, k + 1 => by
    simp only [ax_fv, List.getElem?_cons_succ, ax_fv_get ad f r (i + 1) k]
    rw [show i + 1 + k = i + (k + 1) by omega]
theorem ax_fv_set (ad : Nat → Nat) (f : Nat → Int32) (x : Int32) (fl : List (Option Nat)) (k : Nat) (hk : fl[k]? = some none) : (ax_fv ad f fl 0).set k (.int x) = ax_fv ad (upd f k x) fl 0 := by
  apply List.ext_getElem?
  intro j
  rw [List.getElem?_set, ax_fv_len, ax_fv_get, ax_fv_get]
  have hl : k < fl.length := (List.getElem?_eq_some_iff.mp hk).1
  by_cases hj : k = j
  · subst hj
    rw [if_pos rfl, if_pos hl, hk]
    simp [upd]
  · simp only [if_neg hj, Nat.zero_add]
    cases fl[j]? with
    | none => rfl
    | some o => cases o with
      | some _ => rfl
      | none => simp [upd, Ne.symm hj]
def ax_cell (ad : Nat → Nat) (cI cL : ClassId) (h : ax_Hp) (k : Nat) : va_E := match ax_shp k with
  | (0, ci, fl) => .inr (ci, ax_fv ad (h.1 k) fl 0)
  | (1, n, _) => .inl (cI, n, .inl (h.1 k))
  | (_, n, _) => .inl (cL, n, .inr (.inl (h.2.1 k)))
def ax_wd (ad : Nat → Nat) (cI cL : ClassId) (h : ax_Hp) : va_W := (List.range 66).map (fun k => (ad k, ax_cell ad cI cL h k))
theorem ax_wd_get {ad : Nat → Nat} {cI cL : ClassId} {h : ax_Hp} {k : Nat} (hk : k < 66) : (ax_wd ad cI cL h)[k]? = some (ad k, ax_cell ad cI cL h k) := by
  simp [ax_wd, hk]
theorem ax_wd_set {ad : Nat → Nat} {cI cL : ClassId} {h h' : ax_Hp} {k : Nat} {e : va_E} (he : ax_cell ad cI cL h' k = e) (ho : ∀ j, j ≠ k → ax_cell ad cI cL h' j = ax_cell ad cI cL h j) : (ax_wd ad cI cL h).set k (ad k, e) = ax_wd ad cI cL h' := by
  apply List.ext_getElem?
  intro j
  rw [List.getElem?_set]
  by_cases hj : k = j
  · subst hj
    by_cases hk : k < 66
    · rw [ax_wd_get (h := h') hk, he]
      simp [ax_wd, hk]
    · simp [ax_wd, hk]
  · rw [if_neg hj]
    by_cases hk : j < 66
    · rw [ax_wd_get hk, ax_wd_get hk, ho j (fun q => hj q.symm)]
    · simp [ax_wd, hk]
theorem ax_cell_sA {ad : Nat → Nat} {cI cL : ClassId} {h : ax_Hp} {k : Nat} {f : Nat → Int32} {j : Nat} (hj : j ≠ k) : ax_cell ad cI cL (sA h k f) j = ax_cell ad cI cL h j := by
  simp only [ax_cell, sA, if_neg hj]
theorem ax_cell_sL {ad : Nat → Nat} {cI cL : ClassId} {h : ax_Hp} {k : Nat} {f : Nat → Int64} {j : Nat} (hj : j ≠ k) : ax_cell ad cI cL (sL h k f) j = ax_cell ad cI cL h j := by
  simp only [ax_cell, sL, if_neg hj]
set_option maxRecDepth 100000 in
theorem ax_shp_66 : ∀ k, k < 69 → (ax_shp k).1 ≤ 2 → k < 66 := by decide +kernel
theorem ax_shp_lt {k : Nat} (h : (ax_shp k).1 ≤ 2) : k < 66 := by
  by_cases hk : k < 69
  · exact ax_shp_66 k hk h
  · have : ax_shp k = (9, 0, []) := by
      unfold ax_shp
      rw [List.getD_eq_getElem?_getD, List.getElem?_eq_none (by show 69 ≤ k; omega)]
      rfl
    rw [this] at h
    exact absurd h (by decide)
set_option maxRecDepth 100000 in
theorem ax_shp_3 : ∀ k, k < 69 → (ax_shp k).1 = 3 → k = 66 := by decide +kernel
set_option maxRecDepth 100000 in
theorem ax_shp_4 : ∀ k, k < 69 → (ax_shp k).1 = 4 → k = 67 := by decide +kernel
set_option maxRecDepth 100000 in
theorem ax_shp_5 : ∀ k, k < 69 → (ax_shp k).1 = 5 → k = 68 ∧ (ax_shp k).2.1 = 6 := by decide +kernel
theorem ax_shp_69 {k : Nat} (h : (ax_shp k).1 ≤ 5) : k < 69 := by
  by_cases hk : k < 69
  · exact hk
  · have : ax_shp k = (9, 0, []) := by
      unfold ax_shp
      rw [List.getD_eq_getElem?_getD, List.getElem?_eq_none (by show 69 ≤ k; omega)]
      rfl
    rw [this] at h
    exact absurd h (by decide)
theorem ax_in_iff {i : Int32} {n : Nat} (h : ax_in i n = true) : vp_in i n := by
  unfold ax_in at h
  exact @of_decide_eq_true _ (Classical.propDecidable _) h
abbrev ax_tys (cI cL : ClassId) : List (ClassId × FieldType) := [(cI, .int), (cL, .long)]
/-- what is the same all through a method's body -/
def ax_Ex (ad : Nat → Nat) (h : ax_Hp) (A : Nat → Prop) (U : State) (H : Heap) : Prop :=
  va_X (ad 66) h.2.2.1 h.2.2.2 U H ∧ ad 66 < H.size ∧ ¬ A (ad 66) ∧ vk_R "WallsByTheHour$Letters" 23 "wobplf" (ad 67) U ∧ vk_S 1 [6] [ax_by] (fun _ => ad 67) (fun _ => ad 68) A U H ∧ va_Z "java/lang/String" "COMPACT_STRINGS" "Z" (.int 1) A U H ∧ ∀ w ∈ ax_tn, va_Nw w U
theorem ax_Ex.congr {ad : Nat → Nat} {h h' : ax_Hp} {A : Nat → Prop} {U : State} {H : Heap} (e : h'.2.2 = h.2.2) (hE : ax_Ex ad h A U H) : ax_Ex ad h' A U H := by
  unfold ax_Ex
  rw [e]
  exact hE
end
section
/-! soundness of the plain instructions -/
section
variable {p : Program} {l : Launch} {e : Env} {R : Room} {s : State} {m : MethodId} {args : Array Value} {below : List Frame} {meth : Method} {c : Code} {locs : List Loc} {cells slots : Nat} {Q : State → Prop}
variable {cc : ByteArray} {nL own pc len : Nat} {ad : Nat → Nat} {cI cL : ClassId} {dC : Nat → ClassId} {dI : Nat → Nat → Nat} {A : Nat → Prop}
/-- what holds all through a body -/
def ax_G (p : Program) (s : State) (m : MethodId) (args : Array Value) (c : Code) (R : Room) (cells slots : Nat) (own nL fr lo : Nat) (cc : ByteArray) (ad : Nat → Nat) (cI cL : ClassId) (dC : Nat → ClassId) (dI : Nat → Nat → Nat) (A : Nat → Prop) (h0 : ax_Hp) : Prop :=
  p.tables.exec = Jvm.exec ∧ c.code = cc ∧ c.maxLocals = nL ∧ s.vm.findClass (ax_nmC own) = some m.cls ∧ (∀ w ∈ ax_tb, w.before args s = true) ∧ va_K (dC, dI) ax_cl (ax_tys cI cL) s ∧ (∀ q : Nat, s.heap.size ≤ q → A q) ∧ ax_Ex ad h0 A s s.heap ∧ fr ≤ R.frames ∧ lo ≤ R.locals ∧ cells ≤ R.cells ∧ slots ≤ R.slots
/-- the world at a point of it -/
def ax_P (s : State) (ad : Nat → Nat) (cI cL : ClassId) (dC : Nat → ClassId) (dI : Nat → Nat → Nat) (A : Nat → Prop) (h0 h : ax_Hp) (H : Heap) (locs : List Loc) : Prop :=
  va_P (dC, dI) ax_cl (ax_wd ad cI cL h) H ∧ va_D A (ax_wd ad cI cL h) ∧ va_S A s.heap H locs ∧ h.2.2 = h0.2.2
theorem ax_cls_st1 (i : Nat) (v : Value) (ls : ax_Lc) : (i, ax_cv ad v) :: (ax_cls ad ls).filter (fun q => !(q.1 == i) && !(q.1 + 1 == i && q.2.category == 2)) = ax_cls ad (ax_st1 i v ls) := by
  simp only [ax_cls, ax_st1, List.map_cons, List.filter_map]
  congr 3
  funext q
  simp only [Function.comp, ax_cv_cat]
theorem ax_cls_st2 (i : Nat) (v : Value) (ls : ax_Lc) : (i, ax_cv ad v) :: (ax_cls ad ls).filter (fun q => !(q.1 == i) && (!(q.1 == i + 1) && !(q.1 + 1 == i && q.2.category == 2))) = ax_cls ad (ax_st2 i v ls) := by
  simp only [ax_cls, ax_st2, List.map_cons, List.filter_map]
  congr 3
  funext q
  simp only [Function.comp, ax_cv_cat]
theorem ax_get_mem {i : Nat} {v : Value} : ∀ {ls : ax_Lc}, ax_get i ls = some v → (i, v) ∈ ls
  | [], h => by cases h
  | q :: ls, h => by
    unfold ax_get at h
    split at h
    · next e =>
      cases h
      have : q.1 = i := Nat.eq_of_beq_eq_true e
      subst this
      exact List.mem_cons_self
    · exact List.mem_cons_of_mem _ (ax_get_mem h)
theorem ax_get_cls {i : Nat} {v : Value} {ls : ax_Lc} (h : ax_get i ls = some v) : (i, ax_cv ad v) ∈ ax_cls ad ls := List.mem_map.mpr ⟨_, ax_get_mem h, rfl⟩
theorem ax_get_at {i : Nat} {v : Value} {ls : ax_Lc} {la : Array Slot} (hl : lv_has la nL (ax_cls ad ls)) (h : ax_get i ls = some v) : la[i]? = some (.val (ax_cv ad v)) := hl.2.2 _ (ax_get_cls h)
set_option maxRecDepth 100000 in
theorem ax_lays_b : (List.range 8).all (fun ci => (List.range (ax_cd ci).2.2).all (fun d => ax_ds.any (fun q => decide (q = (7, ci, d, 0, 0))))) = true := by decide +kernel
theorem ax_lays (ci : Nat) (hc : ci < 8) (d : Nat) (hd : d < (ax_cd ci).2.2) : (7, ci, d, 0, 0) ∈ ax_ds := by
  have h := List.all_eq_true.mp (List.all_eq_true.mp ax_lays_b ci (List.mem_range.mpr hc)) d (List.mem_range.mpr hd)
  obtain ⟨q, hq, he⟩ := List.any_eq_true.mp h
  rw [of_decide_eq_true he] at hq
  exact hq
theorem ax_cl_get {ci : Nat} (h : ci < ax_cl.length) : ax_cl[ci]? = some ((ax_cd ci).1, (ax_cd ci).2.1, (ax_cd ci).2.2) := by
  unfold ax_cd
  rw [List.getD_eq_getElem?_getD, List.getElem?_eq_getElem h]
  rfl
theorem ax_lay_in {ci : Nat} (h : ci < ax_cl.length) : ∀ w ∈ u_ws (ax_cd ci).1 (ax_cd ci).2.1 (ax_cd ci).2.2, w ∈ ax_tb := by
  intro w hw
  obtain ⟨k, hk, rfl⟩ := List.mem_map.mp hw
  exact List.mem_map.mpr ⟨(7, ci, k, 0, 0), ax_lays ci h k (List.mem_range.mp hk), rfl⟩
theorem ax_names : ∀ ci, ci < 8 → ∀ a, a < (ax_cd ci).2.2 → ∀ b, b < (ax_cd ci).2.2 → a ≠ b → ((ax_cd ci).2.1 a).2.1 ≠ ((ax_cd ci).2.1 b).2.1
  | 0, _ => nmX0
  | 1, _ => nmX1
  | 2, _ => nmX3
  | 3, _ => nmX4
  | 4, _ => nmX5
  | 5, _ => nmX6
  | 6, _ => nmX7
  | 7, _ => nmX8
  | n + 8, h => absurd h (by omega)
theorem ax_types : ∀ ci, ci < 8 → ∃ ty : Nat → FieldType, ∀ k, k < (ax_cd ci).2.2 → parseFieldDescriptor ((ax_cd ci).2.1 k).2.2.1 = some (ty k)
  | 0, _ => ⟨_, tyX0_ok⟩
  | 1, _ => ⟨_, tyX1_ok⟩
  | 2, _ => ⟨_, tyX3_ok⟩
  | 3, _ => ⟨_, tyX4_ok⟩
  | 4, _ => ⟨_, tyX5_ok⟩
  | 5, _ => ⟨_, tyX6_ok⟩
  | 6, _ => ⟨_, tyX7_ok⟩
  | 7, _ => ⟨_, tyX8_ok⟩
  | n + 8, h => absurd h (by omega)
theorem ax_word {pl : Nat} {d : ax_Ds} (h : ax_ds[pl]? = some d) : ax_wrd d ∈ ax_tb := List.mem_map.mpr ⟨d, List.mem_of_getElem? h, rfl⟩
theorem ax_cellO {h : ax_Hp} {k ci : Nat} {fl : List (Option Nat)} (hs : ax_shp k = (0, ci, fl)) : (ax_wd ad cI cL h)[k]? = some (ad k, .inr (ci, ax_fv ad (h.1 k) fl 0)) := by
  rw [ax_wd_get (ax_shp_lt (by rw [hs]; exact Nat.zero_le 2))]
  simp only [ax_cell, hs]
theorem ax_cellI {h : ax_Hp} {k n : Nat} {fl : List (Option Nat)} (hs : ax_shp k = (1, n, fl)) : (ax_wd ad cI cL h)[k]? = some (ad k, .inl (cI, n, .inl (h.1 k))) := by
  rw [ax_wd_get (ax_shp_lt (by rw [hs]; exact (by decide : (1 : Nat) ≤ 2)))]
  simp only [ax_cell, hs]
theorem ax_cellL {h : ax_Hp} {k n : Nat} {fl : List (Option Nat)} (hs : ax_shp k = (2, n, fl)) : (ax_wd ad cI cL h)[k]? = some (ad k, .inl (cL, n, .inr (.inl (h.2.1 k)))) := by
  rw [ax_wd_get (ax_shp_lt (by rw [hs]; exact Nat.le_refl 2))]
  simp only [ax_cell, hs]
/-- an instruction without operand or one whose operand needs no table -/
def ax_Go (p : Program) (l : Launch) (e : Env) (R : Room) (s : State) (m : MethodId) (args : Array Value) (below : List Frame) (meth : Method) (c : Code) (cells slots : Nat) (Q : State → Prop) (nL : Nat) (ad : Nat → Nat) (cI cL : ClassId) (dC : Nat → ClassId) (dI : Nat → Nat → Nat) (A : Nat → Prop) (h0 : ax_Hp) (pc : Nat) (ls : ax_Lc) (st : List Value) (h : ax_Hp) : Prop :=
  ∀ (H : Heap) (locs : List Loc) (la : Array Slot), ax_P s ad cI cL dC dI A h0 h H locs → lv_has la nL (ax_cls ad ls) → W p l e R s m args below meth c H locs cells slots Q (F0 m pc la (st.map (ax_cv ad)))
end
end
section
/-! soundness of the plain instructions, a case each: by wip/whole/gen6.py -/
theorem ax_okv_at {own k pl : Nat} {x : Int32} {args : Array Value} {s : State} (h : ax_okv own k pl x = true) (hts : ∀ w ∈ ax_tb, w.before args s = true) : (Cond.constant (ax_nmC own) k x).before args s = true := by
  unfold ax_okv at h
  split at h
  · next o j c9 d9 hp =>
    simp only [Bool.and_eq_true, decide_eq_true_eq] at h
    obtain ⟨rfl, rfl, rfl⟩ := h
    exact hts _ (ax_word hp)
  · cases h
theorem ax_okw_at {own k pl : Nat} {x : Int64} {args : Array Value} {s : State} (h : ax_okw own k pl x = true) (hts : ∀ w ∈ ax_tb, w.before args s = true) : (Cond.constantLong (ax_nmC own) k x).before args s = true := by
  unfold ax_okw at h
  split at h
  · next o j c9 d9 hp =>
    simp only [Bool.and_eq_true, decide_eq_true_eq] at h
    obtain ⟨rfl, rfl, rfl⟩ := h
    exact hts _ (ax_word hp)
  · cases h
set_option maxRecDepth 100000 in
theorem ax_ci_lt0 : ∀ k, k < 69 → (ax_shp k).1 = 0 → (ax_shp k).2.1 < 8 := by decide +kernel
theorem ax_ci_lt (k : Nat) (h : (ax_shp k).1 = 0) (h98 : (ax_shp k).2.1 = 98) : False := by
  have h1 := ax_ci_lt0 k (ax_shp_69 (by rw [h]; exact Nat.zero_le 5)) h
  omega
theorem ax_sum_map {ad : Nat → Nat} : ∀ (r : List Value), ((r.map (ax_cv ad)).map fun v => v.category).sum = ax_sum r
  | [] => rfl
  | v :: r => by
    simp only [List.map_cons, List.sum_cons, ax_sum, ax_cv_cat]
    rw [← ax_sum_map (ad := ad) r]
set_option maxRecDepth 100000 in
theorem ax_len_31b : ∀ k, k < 69 → (ax_shp k).2.1 < 2000 := by decide +kernel
theorem ax_len_31 {k n : Nat} {fl : List (Option Nat)} (h : ax_shp k = (1, n, fl)) : n < 2 ^ 31 := by
  have h1 := ax_len_31b k (ax_shp_69 (by rw [h]; exact (by decide : (1 : Nat) ≤ 5)))
  rw [h] at h1
  exact Nat.lt_trans h1 (by decide)
theorem ax_arrV_congr {cA : ClassId} {n : Nat} {f g : Nat → Value} (h : ∀ j, j < n → f j = g j) : arrV cA n f = arrV cA n g := by
  unfold arrV
  congr 1
  apply Array.ext
  · simp
  · intro j h1 h2
    simp at h1 h2
    simp [h j h1]
theorem ax_cpy_cell {cA : ClassId} {n : Nat} {f g : Nat → Int32} : vp_cell cA (n, .inl (va_cpy f g (0 : Int32).toNatClampNeg (0 : Int32).toNatClampNeg n)) = vp_cell cA (n, .inl f) := by
  rw [vp_cell_i, vp_cell_i, sb_cl0]
  exact ax_arrV_congr (fun j hj => by rw [sb_cpy0 hj])
theorem ax_set_cell {D : va_G} {cl : List vw_C} {ws : va_W} {H : Heap} {k a : Nat} {cA : ClassId} {x x' : vp_A} (h : va_P D cl (ws.set k (a, .inl (cA, x))) H) (e : vp_cell cA x = vp_cell cA x') : va_P D cl (ws.set k (a, .inl (cA, x'))) H := by
  intro j q hq
  rw [List.getElem?_set] at hq
  by_cases hj : k = j
  · subst hj
    rw [if_pos rfl] at hq
    split at hq
    · next hl =>
      cases hq
      have h1 := h k (a, .inl (cA, x)) (by rw [List.getElem?_set, if_pos rfl, if_pos hl])
      show H[a]? = some (vp_cell cA x')
      rw [← e]
      exact h1
    · cases hq
  · rw [if_neg hj] at hq
    exact h j q (by rw [List.getElem?_set, if_neg hj]; exact hq)
theorem ax_set_D {A : Nat → Prop} {ws : va_W} {k a : Nat} {x x' : va_E} (h : va_D A (ws.set k (a, x))) : va_D A (ws.set k (a, x')) := by
  have key : ∀ {j : Nat} {q : Nat × va_E}, (ws.set k (a, x'))[j]? = some q → ∃ q', (ws.set k (a, x))[j]? = some q' ∧ q'.1 = q.1 := by
    intro j q hq
    rw [List.getElem?_set] at hq ⊢
    by_cases hj : k = j
    · subst hj
      rw [if_pos rfl] at hq ⊢
      by_cases hl : k < ws.length
      · rw [if_pos hl] at hq ⊢
        cases hq
        exact ⟨_, rfl, rfl⟩
      · rw [if_neg hl] at hq
        cases hq
    · rw [if_neg hj] at hq ⊢
      exact ⟨q, hq, rfl⟩
  refine ⟨fun i j p q hp hq he => ?_, fun j q hq => ?_⟩
  · obtain ⟨p', h1, h2⟩ := key hp
    obtain ⟨q', h3, h4⟩ := key hq
    exact h.1 i j p' q' h1 h3 (by rw [h2, h4]; exact he)
  · obtain ⟨q', h1, h2⟩ := key hq
    rw [← h2]
    exact h.2 j q' h1
set_option maxRecDepth 100000 in
theorem ax_pw_b : [(13, 0, 0, 0, 0), (11, 1, 0, 0, 0), (12, 1, 0, 0, 0), (11, 2, 0, 0, 0), (12, 2, 0, 0, 0), (11, 3, 0, 0, 0), (12, 3, 0, 0, 0), (14, 0, 0, 0, 0), (11, 4, 0, 0, 0), (15, 0, 0, 0, 0)].all (fun (d : ax_Ds) => ax_ds.any (fun q => decide (q = d))) = true := by decide +kernel
theorem ax_pw {d : ax_Ds} (h : ax_ds.any (fun q => decide (q = d)) = true) : ax_wrd d ∈ ax_tb := by
  obtain ⟨q, hq, he⟩ := List.any_eq_true.mp h
  rw [of_decide_eq_true he] at hq
  exact List.mem_map.mpr ⟨d, hq, rfl⟩
theorem ax_pwi (i : Nat) {d : ax_Ds} (h : [(13, 0, 0, 0, 0), (11, 1, 0, 0, 0), (12, 1, 0, 0, 0), (11, 2, 0, 0, 0), (12, 2, 0, 0, 0), (11, 3, 0, 0, 0), (12, 3, 0, 0, 0), (14, 0, 0, 0, 0), (11, 4, 0, 0, 0), (15, 0, 0, 0, 0)][i]? = some d) : ax_wrd d ∈ ax_tb := ax_pw (List.all_eq_true.mp ax_pw_b d (List.mem_of_getElem? h))
theorem ax_pw_ini : Cond.initialized "java/lang/Math" ∈ ax_tb := ax_pwi 0 (d := (13, 0, 0, 0, 0)) rfl
theorem ax_pw_s1 : Cond.static Lib.Math.max.name ∈ ax_tb := ax_pwi 1 (d := (11, 1, 0, 0, 0)) rfl
theorem ax_pw_c1 : Cond.code Lib.Math.max.name Lib.Math.max.code 2 (some .int) ∈ ax_tb := ax_pwi 2 (d := (12, 1, 0, 0, 0)) rfl
theorem ax_pw_s2 : Cond.static Lib.Math.min.name ∈ ax_tb := ax_pwi 3 (d := (11, 2, 0, 0, 0)) rfl
theorem ax_pw_c2 : Cond.code Lib.Math.min.name Lib.Math.min.code 2 (some .int) ∈ ax_tb := ax_pwi 4 (d := (12, 2, 0, 0, 0)) rfl
theorem ax_pw_s3 : Cond.static Lib.Math.abs.name ∈ ax_tb := ax_pwi 5 (d := (11, 3, 0, 0, 0)) rfl
theorem ax_pw_c3 : Cond.code Lib.Math.abs.name Lib.Math.abs.code 1 (some .int) ∈ ax_tb := ax_pwi 6 (d := (12, 3, 0, 0, 0)) rfl
theorem ax_pw_n4 : Cond.native arraycopyName ∈ ax_tb := ax_pwi 7 (d := (14, 0, 0, 0, 0)) rfl
theorem ax_pw_s4 : Cond.static arraycopyName ∈ ax_tb := ax_pwi 8 (d := (11, 4, 0, 0, 0)) rfl
theorem ax_pw_i4 : Cond.initialized "java/lang/System" ∈ ax_tb := ax_pwi 9 (d := (15, 0, 0, 0, 0)) rfl
set_option maxHeartbeats 4000000 in
theorem ax_stp_nil {p : Program} {l : Launch} {e : Env} {R : Room} {s : State} {m : MethodId} {args : Array Value} {below : List Frame} {meth : Method} {c : Code} {cells slots : Nat} {Q : State → Prop} {cc : ByteArray} {nL own fr lo pc len : Nat} {ad : Nat → Nat} {cI cL : ClassId} {dC : Nat → ClassId} {dI : Nat → Nat → Nat} {A : Nat → Prop} {h0 : ax_Hp} {ins : Instr} {ls ls' : ax_Lc} {st st' : List Value} {h h' : ax_Hp}
    (hG : ax_G p s m args c R cells slots own nL fr lo cc ad cI cL dC dI A h0) (hd : decode cc pc = .ok (ins, len)) (hok : ax_okI own nL fr lo pc ins len [] = true) (hs : ax_stp ins [] ls st h = some (true, ls', st', h'))
    (kk : ax_Go p l e R s m args below meth c cells slots Q nL ad cI cL dC dI A h0 (pc + len) ls' st' h') : ax_Go p l e R s m args below meth c cells slots Q nL ad cI cL dC dI A h0 pc ls st h := by
  intro H locs la hP hl
  obtain ⟨hx, hb, hml, hown, hts, hK, hA, hE, hfr, hlo, hcc, hss⟩ := hG
  cases ins with
  | iadd =>
    have e1 : len = 1 := by simpa [ax_okI] using hok
    subst e1
    simp only [ax_stp] at hs
    split at hs
    · cases hs
      exact lv_iadd hx hb hd (kk H locs la hP hl)
    · cases hs
  | isub =>
    have e1 : len = 1 := by simpa [ax_okI] using hok
    subst e1
    simp only [ax_stp] at hs
    split at hs
    · cases hs
      exact lv_isub hx hb hd (kk H locs la hP hl)
    · cases hs
  | imul =>
    have e1 : len = 1 := by simpa [ax_okI] using hok
    subst e1
    simp only [ax_stp] at hs
    split at hs
    · cases hs
      exact lv_imul hx hb hd (kk H locs la hP hl)
    · cases hs
  | iand =>
    have e1 : len = 1 := by simpa [ax_okI] using hok
    subst e1
    simp only [ax_stp] at hs
    split at hs
    · cases hs
      exact lv_iand hx hb hd (kk H locs la hP hl)
    · cases hs
  | ior =>
    have e1 : len = 1 := by simpa [ax_okI] using hok
    subst e1
    simp only [ax_stp] at hs
    split at hs
    · cases hs
      exact lv_ior hx hb hd (kk H locs la hP hl)
    · cases hs
  | ixor =>
    have e1 : len = 1 := by simpa [ax_okI] using hok
    subst e1
    simp only [ax_stp] at hs
    split at hs
    · cases hs
      exact lv_ixor hx hb hd (kk H locs la hP hl)
    · cases hs
  | ishl =>
    have e1 : len = 1 := by simpa [ax_okI] using hok
    subst e1
    simp only [ax_stp] at hs
    split at hs
    · cases hs
      exact lv_ishl hx hb hd (kk H locs la hP hl)
    · cases hs
  | ishr =>
    have e1 : len = 1 := by simpa [ax_okI] using hok
    subst e1
    simp only [ax_stp] at hs
    split at hs
    · cases hs
      exact lv_ishr hx hb hd (kk H locs la hP hl)
    · cases hs
  | ineg =>
    have e1 : len = 1 := by simpa [ax_okI] using hok
    subst e1
    simp only [ax_stp] at hs
    split at hs
    · cases hs
      exact lv_ineg hx hb hd (kk H locs la hP hl)
    · cases hs
  | ladd =>
    have e1 : len = 1 := by simpa [ax_okI] using hok
    subst e1
    simp only [ax_stp] at hs
    split at hs
    · cases hs
      exact lv_ladd hx hb hd (kk H locs la hP hl)
    · cases hs
  | lsub =>
    have e1 : len = 1 := by simpa [ax_okI] using hok
    subst e1
    simp only [ax_stp] at hs
    split at hs
    · cases hs
      exact lv_lsub hx hb hd (kk H locs la hP hl)
    · cases hs
  | lmul =>
    have e1 : len = 1 := by simpa [ax_okI] using hok
    subst e1
    simp only [ax_stp] at hs
    split at hs
    · cases hs
      exact lv_lmul hx hb hd (kk H locs la hP hl)
    · cases hs
  | iushr =>
    have e1 : len = 1 := by simpa [ax_okI] using hok
    subst e1
    simp only [ax_stp] at hs
    split at hs
    · cases hs
      exact lv_iushr hx hb hd rfl (kk H locs la hP hl)
    · cases hs
  | i2l =>
    have e1 : len = 1 := by simpa [ax_okI] using hok
    subst e1
    simp only [ax_stp] at hs
    split at hs
    · cases hs
      exact lv_i2l hx hb hd rfl (kk H locs la hP hl)
    · cases hs
  | l2i =>
    have e1 : len = 1 := by simpa [ax_okI] using hok
    subst e1
    simp only [ax_stp] at hs
    split at hs
    · cases hs
      exact lv_l2i hx hb hd rfl (kk H locs la hP hl)
    · cases hs
  | i2b =>
    have e1 : len = 1 := by simpa [ax_okI] using hok
    subst e1
    simp only [ax_stp] at hs
    split at hs
    · cases hs
      exact lv_i2b hx hb hd rfl (kk H locs la hP hl)
    · cases hs
  | i2c =>
    have e1 : len = 1 := by simpa [ax_okI] using hok
    subst e1
    simp only [ax_stp] at hs
    split at hs
    · cases hs
      exact lv_i2c hx hb hd rfl (kk H locs la hP hl)
    · cases hs
  | lcmp =>
    have e1 : len = 1 := by simpa [ax_okI] using hok
    subst e1
    simp only [ax_stp] at hs
    split at hs
    · cases hs
      exact W.lcmp hx hb hd (kk H locs la hP hl)
    · cases hs
  | idiv =>
    have e1 : len = 1 := by simpa [ax_okI] using hok
    subst e1
    simp only [ax_stp] at hs
    split at hs
    · simp only [Option.some.injEq, Prod.mk.injEq] at hs
      obtain ⟨hz, rfl, rfl, rfl⟩ := hs
      exact lv_idiv hx hb hd (by simpa using hz) (kk H locs la hP hl)
    · cases hs
  | irem =>
    have e1 : len = 1 := by simpa [ax_okI] using hok
    subst e1
    simp only [ax_stp] at hs
    split at hs
    · simp only [Option.some.injEq, Prod.mk.injEq] at hs
      obtain ⟨hz, rfl, rfl, rfl⟩ := hs
      exact lv_irem hx hb hd (by simpa using hz) (kk H locs la hP hl)
    · cases hs
  | ldiv =>
    have e1 : len = 1 := by simpa [ax_okI] using hok
    subst e1
    simp only [ax_stp] at hs
    split at hs
    · simp only [Option.some.injEq, Prod.mk.injEq] at hs
      obtain ⟨hz, rfl, rfl, rfl⟩ := hs
      exact lv_ldiv hx hb hd (by simpa using hz) (kk H locs la hP hl)
    · cases hs
  | lrem =>
    have e1 : len = 1 := by simpa [ax_okI] using hok
    subst e1
    simp only [ax_stp] at hs
    split at hs
    · simp only [Option.some.injEq, Prod.mk.injEq] at hs
      obtain ⟨hz, rfl, rfl, rfl⟩ := hs
      exact lv_lrem hx hb hd (by simpa using hz) (kk H locs la hP hl)
    · cases hs
  | dup =>
    have e1 : len = 1 := by simpa [ax_okI] using hok
    subst e1
    simp only [ax_stp] at hs
    split at hs
    · simp only [Option.some.injEq, Prod.mk.injEq] at hs
      obtain ⟨hz, rfl, rfl, rfl⟩ := hs
      exact lv_dup hx hb hd (by rw [ax_cv_cat]; exact beq_iff_eq.mp hz) (kk H locs la hP hl)
    · cases hs
  | pop =>
    have e1 : len = 1 := by simpa [ax_okI] using hok
    subst e1
    simp only [ax_stp] at hs
    split at hs
    · simp only [Option.some.injEq, Prod.mk.injEq] at hs
      obtain ⟨hz, rfl, rfl, rfl⟩ := hs
      exact lv_pop hx hb hd (by rw [ax_cv_cat]; exact beq_iff_eq.mp hz) (kk H locs la hP hl)
    · cases hs
  | dup2 =>
    have e1 : len = 1 := by simpa [ax_okI] using hok
    subst e1
    simp only [ax_stp] at hs
    split at hs
    · simp only [Option.some.injEq, Prod.mk.injEq, Bool.and_eq_true] at hs
      obtain ⟨⟨hz, hy⟩, rfl, rfl, rfl⟩ := hs
      exact lv_dup2_11 hx hb hd (by rw [ax_cv_cat]; exact beq_iff_eq.mp hz) (by rw [ax_cv_cat]; exact beq_iff_eq.mp hy) (kk H locs la hP hl)
    · cases hs
  | iaload =>
    have e1 : len = 1 := by simpa [ax_okI] using hok
    subst e1
    simp only [ax_stp] at hs
    split at hs
    · next i a r =>
      split at hs
      · next n fl hsh =>
        simp only [Option.some.injEq, Prod.mk.injEq] at hs
        obtain ⟨hz, rfl, rfl, rfl⟩ := hs
        exact va_iald hx hb hK hP.1 a 0 (ax_cellI hsh) rfl (ax_in_iff hz) hd (kk H locs la hP hl)
      · next n fl hsh =>
        simp only [Option.some.injEq, Prod.mk.injEq] at hs
        obtain ⟨hz, rfl, rfl, rfl⟩ := hs
        have ea : a = 66 := ax_shp_3 a (ax_shp_69 (by rw [hsh]; exact (by decide : (3 : Nat) ≤ 5))) (by rw [hsh])
        subst ea
        rw [hP.2.2.2] at hz
        have kk' := (kk H locs la hP hl)
        simp only [List.map_cons, ax_cv, hP.2.2.2] at kk'
        exact va_sld hx hb hE.1 hE.2.1 hE.2.2.1 hP.2.2.1 (ax_in_iff hz) hd kk'
      · cases hs
    · cases hs
  | baload =>
    have e1 : len = 1 := by simpa [ax_okI] using hok
    subst e1
    simp only [ax_stp] at hs
    split at hs
    · next i a r =>
      split at hs
      · next n fl hsh =>
        simp only [Option.some.injEq, Prod.mk.injEq] at hs
        obtain ⟨hz, rfl, rfl, rfl⟩ := hs
        obtain ⟨ea, en⟩ := ax_shp_5 a (ax_shp_69 (by rw [hsh]; exact (by decide : (5 : Nat) ≤ 5))) (by rw [hsh])
        subst ea
        have en' : n = 6 := by rw [hsh] at en; exact en
        subst en'
        obtain ⟨-, -, -, hT⟩ := hE.2.2.2.2.1.1 0 (by decide)
        exact va_tb hx hb hT hP.2.2.1 (ax_in_iff hz) rfl hd (kk H locs la hP hl)
      · cases hs
    · cases hs
  | iastore =>
    have e1 : len = 1 := by simpa [ax_okI] using hok
    subst e1
    simp only [ax_stp] at hs
    split at hs
    · next x i a r =>
      split at hs
      · next n fl hsh =>
        simp only [Option.some.injEq, Prod.mk.injEq] at hs
        obtain ⟨hz, rfl, rfl, rfl⟩ := hs
        obtain ⟨hP1, hP2, hP3, hP4⟩ := hP
        have ew := ax_wd_set (ad := ad) (cI := cI) (cL := cL) (h := h) (h' := sA h a (upd (h.1 a) i.toNatClampNeg x)) (k := a) (e := .inl (cI, n, .inl (upd (h.1 a) i.toNatClampNeg x))) (by simp only [ax_cell, hsh, sA, if_true]) (fun j hj => ax_cell_sA hj)
        refine va_iast hx hb hK hP1 hP2 hP3 a 0 (ax_cellI hsh) rfl (ax_in_iff hz) hd (fun H1 locs1 g1 g2 g3 => ?_)
        rw [ew] at g1 g2
        exact kk H1 locs1 la ⟨g1, g2, g3, hP4⟩ hl
      · cases hs
    · cases hs
  | laload =>
    have e1 : len = 1 := by simpa [ax_okI] using hok
    subst e1
    simp only [ax_stp] at hs
    split at hs
    · next i a r =>
      split at hs
      · next n fl hsh =>
        simp only [Option.some.injEq, Prod.mk.injEq] at hs
        obtain ⟨hz, rfl, rfl, rfl⟩ := hs
        exact va_lald hx hb hK hP.1 a 1 (ax_cellL hsh) rfl (ax_in_iff hz) hd (kk H locs la hP hl)
      · cases hs
    · cases hs
  | lastore =>
    have e1 : len = 1 := by simpa [ax_okI] using hok
    subst e1
    simp only [ax_stp] at hs
    split at hs
    · next x i a r =>
      split at hs
      · next n fl hsh =>
        simp only [Option.some.injEq, Prod.mk.injEq] at hs
        obtain ⟨hz, rfl, rfl, rfl⟩ := hs
        obtain ⟨hP1, hP2, hP3, hP4⟩ := hP
        have ew := ax_wd_set (ad := ad) (cI := cI) (cL := cL) (h := h) (h' := sL h a (vp_updL (h.2.1 a) i.toNatClampNeg x)) (k := a) (e := .inl (cL, n, .inr (.inl (vp_updL (h.2.1 a) i.toNatClampNeg x)))) (by simp only [ax_cell, hsh, sL, if_true]) (fun j hj => ax_cell_sL hj)
        refine va_last hx hb hK hP1 hP2 hP3 a 1 (ax_cellL hsh) rfl (ax_in_iff hz) hd (fun H1 locs1 g1 g2 g3 => ?_)
        rw [ew] at g1 g2
        exact kk H1 locs1 la ⟨g1, g2, g3, hP4⟩ hl
      · cases hs
    · cases hs
  | arraylength =>
    have e1 : len = 1 := by simpa [ax_okI] using hok
    subst e1
    simp only [ax_stp] at hs
    split at hs
    · next a r =>
      split at hs
      · next n fl hsh =>
        cases hs
        exact va_alen hx hb hK hP.1 a 0 (ax_cellI hsh) rfl rfl hd (kk H locs la hP hl)
      · next n fl hsh =>
        cases hs
        have ea : a = 66 := ax_shp_3 a (ax_shp_69 (by rw [hsh]; exact (by decide : (3 : Nat) ≤ 5))) (by rw [hsh])
        subst ea
        have kk' := (kk H locs la hP hl)
        simp only [List.map_cons, ax_cv, hP.2.2.2] at kk'
        exact va_slen hx hb hE.1 hE.2.1 hE.2.2.1 hP.2.2.1 hd kk'
      · next n fl hsh =>
        cases hs
        obtain ⟨ea, en⟩ := ax_shp_5 a (ax_shp_69 (by rw [hsh]; exact (by decide : (5 : Nat) ≤ 5))) (by rw [hsh])
        subst ea
        have en' : n = 6 := by rw [hsh] at en; exact en
        subst en'
        obtain ⟨-, -, -, hT⟩ := hE.2.2.2.2.1.1 0 (by decide)
        exact va_tlen hx hb hT hP.2.2.1 rfl hd (kk H locs la hP hl)
      · cases hs
    · cases hs
  | _ => simp only [ax_stp] at hs; cases hs
set_option maxHeartbeats 4000000 in
theorem ax_stp_cons {p : Program} {l : Launch} {e : Env} {R : Room} {s : State} {m : MethodId} {args : Array Value} {below : List Frame} {meth : Method} {c : Code} {cells slots : Nat} {Q : State → Prop} {cc : ByteArray} {nL own fr lo pc len : Nat} {ad : Nat → Nat} {cI cL : ClassId} {dC : Nat → ClassId} {dI : Nat → Nat → Nat} {A : Nat → Prop} {h0 : ax_Hp} {ins : Instr} {v : Value} {i : Nat} {a : List Nat} {q : ax_If} {ls ls' : ax_Lc} {st st' : List Value} {h h' : ax_Hp}
    (hG : ax_G p s m args c R cells slots own nL fr lo cc ad cI cL dC dI A h0) (hd : decode cc pc = .ok (ins, len)) (hna : a.length ≠ 5) (hok : ax_okI own nL fr lo pc ins len ((v, i, a) :: q) = true) (hs : ax_stp ins ((v, i, a) :: q) ls st h = some (true, ls', st', h'))
    (kk : ax_Go p l e R s m args below meth c cells slots Q nL ad cI cL dC dI A h0 (pc + len) ls' st' h') : ax_Go p l e R s m args below meth c cells slots Q nL ad cI cL dC dI A h0 pc ls st h := by
  intro H locs la hP hl
  obtain ⟨hx, hb, hml, hown, hts, hK, hA, hE, hfr, hlo, hcc, hss⟩ := hG
  cases ins with
  | iconst n =>
    cases hs
    cases v with
    | int x =>
      simp only [ax_okI, Bool.and_eq_true, decide_eq_true_eq] at hok
      obtain ⟨e1, e2⟩ := hok
      have e1 : len = 1 := beq_iff_eq.mp e1
      subst e1
      exact lv_iconst hx hb hd e2 (kk H locs la hP hl)
    | _ => simp [ax_okI] at hok
  | bipush n =>
    cases hs
    cases v with
    | int x =>
      simp only [ax_okI, Bool.and_eq_true, decide_eq_true_eq] at hok
      obtain ⟨e1, e2⟩ := hok
      have e1 : len = 2 := beq_iff_eq.mp e1
      subst e1
      exact lv_bipush hx hb hd e2 (kk H locs la hP hl)
    | _ => simp [ax_okI] at hok
  | sipush n =>
    cases hs
    cases v with
    | int x =>
      simp only [ax_okI, Bool.and_eq_true, decide_eq_true_eq] at hok
      obtain ⟨e1, e2⟩ := hok
      have e1 : len = 3 := beq_iff_eq.mp e1
      subst e1
      exact lv_sipush hx hb hd e2 (kk H locs la hP hl)
    | _ => simp [ax_okI] at hok
  | lconst n =>
    cases hs
    cases v with
    | long x =>
      simp only [ax_okI, Bool.and_eq_true, decide_eq_true_eq] at hok
      obtain ⟨e1, e2⟩ := hok
      have e1 : len = 1 := beq_iff_eq.mp e1
      subst e1
      exact lv_lconst hx hb hd e2 (kk H locs la hP hl)
    | _ => simp [ax_okI] at hok
  | ldc k =>
    cases hs
    cases v with
    | int x =>
      obtain ⟨pl, rfl⟩ : ∃ pl, a = [pl] := by
        cases a with
        | nil => simp [ax_okI] at hok
        | cons pl t => cases t with
          | nil => exact ⟨pl, rfl⟩
          | cons _ _ => simp [ax_okI] at hok
      simp only [ax_okI, Bool.and_eq_true] at hok
      obtain ⟨e1, e2⟩ := hok
      have e1 : len = 2 := beq_iff_eq.mp e1
      subst e1
      exact lv_ldc hx hb hown (ax_okv_at e2 hts) hd (kk H locs la hP hl)
    | ref k9 =>
      by_cases hk : k9 = 67
      · subst hk
        cases a with
        | nil =>
          simp only [ax_okI, Bool.and_eq_true, decide_eq_true_eq] at hok
          obtain ⟨e1, rfl, rfl⟩ := hok
          have e1 : len = 2 := beq_iff_eq.mp e1
          subst e1
          exact va_ldcS hx hb hown hE.2.2.2.1 hd (kk H locs la hP hl)
        | cons _ _ => simp [ax_okI] at hok
      · simp [ax_okI, hk] at hok
    | _ => simp [ax_okI] at hok
  | ldc_w k =>
    cases hs
    cases v with
    | int x =>
      obtain ⟨pl, rfl⟩ : ∃ pl, a = [pl] := by
        cases a with
        | nil => simp [ax_okI] at hok
        | cons pl t => cases t with
          | nil => exact ⟨pl, rfl⟩
          | cons _ _ => simp [ax_okI] at hok
      simp only [ax_okI, Bool.and_eq_true] at hok
      obtain ⟨e1, e2⟩ := hok
      have e1 : len = 3 := beq_iff_eq.mp e1
      subst e1
      exact lv_ldcw hx hb hown (ax_okv_at e2 hts) hd (kk H locs la hP hl)
    | _ => simp [ax_okI] at hok
  | ldc2_w k =>
    cases hs
    cases v with
    | long x =>
      obtain ⟨pl, rfl⟩ : ∃ pl, a = [pl] := by
        cases a with
        | nil => simp [ax_okI] at hok
        | cons pl t => cases t with
          | nil => exact ⟨pl, rfl⟩
          | cons _ _ => simp [ax_okI] at hok
      simp only [ax_okI, Bool.and_eq_true] at hok
      obtain ⟨e1, e2⟩ := hok
      have e1 : len = 3 := beq_iff_eq.mp e1
      subst e1
      exact lv_ldc2 hx hb hown (ax_okw_at e2 hts) hd (kk H locs la hP hl)
    | _ => simp [ax_okI] at hok
  | getstatic k =>
    cases hs
    cases v with
    | int x =>
      obtain ⟨pl, rfl⟩ : ∃ pl, a = [pl] := by
        cases a with
        | nil => simp [ax_okI] at hok
        | cons pl t => cases t with
          | nil => exact ⟨pl, rfl⟩
          | cons _ _ => simp [ax_okI] at hok
      simp only [ax_okI, Bool.and_eq_true, decide_eq_true_eq] at hok
      obtain ⟨e1, rfl, e2⟩ := hok
      have e1 : len = 3 := beq_iff_eq.mp e1
      subst e1
      exact va_gets hx hb hE.2.2.2.2.2.1 hP.2.2.1 hown (hts _ (ax_word e2)) (fun _ h9 => h9) hd (kk H locs la hP hl)
    | _ => simp [ax_okI] at hok
  | iload j =>
    simp only [ax_okI, Bool.and_eq_true, decide_eq_true_eq] at hok
    obtain ⟨e1, e2⟩ := hok
    have e1 : len = 2 := beq_iff_eq.mp e1
    subst e1
    simp only [ax_stp] at hs
    split at hs
    · next x hg =>
      cases hs
      exact lv_iload hx hb hd (by rw [e2]; exact ax_get_at hl hg) (kk H locs la hP hl)
    · cases hs
  | iload_n j =>
    simp only [ax_okI, Bool.and_eq_true, decide_eq_true_eq] at hok
    obtain ⟨e1, e2⟩ := hok
    have e1 : len = 1 := beq_iff_eq.mp e1
    subst e1
    simp only [ax_stp] at hs
    split at hs
    · next x hg =>
      cases hs
      exact lv_iload_n hx hb hd e2 (ax_get_at hl hg) (kk H locs la hP hl)
    · cases hs
  | lload j =>
    simp only [ax_okI, Bool.and_eq_true, decide_eq_true_eq] at hok
    obtain ⟨e1, e2⟩ := hok
    have e1 : len = 2 := beq_iff_eq.mp e1
    subst e1
    simp only [ax_stp] at hs
    split at hs
    · next x hg =>
      cases hs
      exact lv_lload hx hb hd (by rw [e2]; exact ax_get_at hl hg) (kk H locs la hP hl)
    · cases hs
  | lload_n j =>
    simp only [ax_okI, Bool.and_eq_true, decide_eq_true_eq] at hok
    obtain ⟨e1, e2⟩ := hok
    have e1 : len = 1 := beq_iff_eq.mp e1
    subst e1
    simp only [ax_stp] at hs
    split at hs
    · next x hg =>
      cases hs
      exact lv_lload_n hx hb hd e2 (ax_get_at hl hg) (kk H locs la hP hl)
    · cases hs
  | aload j =>
    simp only [ax_okI, Bool.and_eq_true, decide_eq_true_eq] at hok
    obtain ⟨e1, e2⟩ := hok
    have e1 : len = 2 := beq_iff_eq.mp e1
    subst e1
    simp only [ax_stp] at hs
    split at hs
    · next x hg =>
      cases hs
      exact lv_aload hx hb hd (by rw [e2]; exact ax_get_at hl hg) (kk H locs la hP hl)
    · cases hs
  | aload_n j =>
    simp only [ax_okI, Bool.and_eq_true, decide_eq_true_eq] at hok
    obtain ⟨e1, e2⟩ := hok
    have e1 : len = 1 := beq_iff_eq.mp e1
    subst e1
    simp only [ax_stp] at hs
    split at hs
    · next x hg =>
      cases hs
      exact lv_aload_n hx hb hd e2 (ax_get_at hl hg) (kk H locs la hP hl)
    · cases hs
  | istore j =>
    simp only [ax_okI, Bool.and_eq_true, decide_eq_true_eq] at hok
    obtain ⟨e1, e2, e3⟩ := hok
    have e1 : len = 2 := beq_iff_eq.mp e1
    subst e1
    simp only [ax_stp] at hs
    split at hs
    · cases hs
      exact lv_istore hx hb (by rw [← e2]; exact hd) hl e3 (ax_cls_st1 i (.int _) ls) (fun la2 hl2 => kk H locs la2 hP hl2)
    · cases hs
  | istore_n j =>
    simp only [ax_okI, Bool.and_eq_true, decide_eq_true_eq] at hok
    obtain ⟨e1, e2, e3⟩ := hok
    have e1 : len = 1 := beq_iff_eq.mp e1
    subst e1
    simp only [ax_stp] at hs
    split at hs
    · cases hs
      exact lv_istore_n hx hb hd e2 hl e3 (ax_cls_st1 i (.int _) ls) (fun la2 hl2 => kk H locs la2 hP hl2)
    · cases hs
  | lstore j =>
    simp only [ax_okI, Bool.and_eq_true, decide_eq_true_eq] at hok
    obtain ⟨e1, e2, e3⟩ := hok
    have e1 : len = 2 := beq_iff_eq.mp e1
    subst e1
    simp only [ax_stp] at hs
    split at hs
    · cases hs
      exact lv_lstore hx hb (by rw [← e2]; exact hd) hl e3 (ax_cls_st2 i (.long _) ls) (fun la2 hl2 => kk H locs la2 hP hl2)
    · cases hs
  | lstore_n j =>
    simp only [ax_okI, Bool.and_eq_true, decide_eq_true_eq] at hok
    obtain ⟨e1, e2, e3⟩ := hok
    have e1 : len = 1 := beq_iff_eq.mp e1
    subst e1
    simp only [ax_stp] at hs
    split at hs
    · cases hs
      exact lv_lstore_n hx hb hd e2 hl e3 (ax_cls_st2 i (.long _) ls) (fun la2 hl2 => kk H locs la2 hP hl2)
    · cases hs
  | iinc j n =>
    simp only [ax_stp] at hs
    split at hs
    · next x d hg =>
      cases hs
      simp only [ax_okI, Bool.and_eq_true, decide_eq_true_eq] at hok
      obtain ⟨e1, e2, e3, e4⟩ := hok
      have e1 : len = 3 := beq_iff_eq.mp e1
      subst e1
      obtain ⟨k9, hk9⟩ := List.getElem?_of_mem (ax_get_cls (ad := ad) hg)
      exact lv_iinc (by exact hx) hb (by rw [← e2]; exact hd) hl hk9 (by rw [e4]) e3 (ax_cls_st1 i (.int (x + d)) ls) (fun la2 hl2 => kk H locs la2 hP hl2)
    · cases hs
  | getfield k =>
    simp only [ax_stp] at hs
    split at hs
    · next f t c9 r =>
      obtain ⟨pl, rfl⟩ : ∃ pl, t = [pl] := by
        cases t with
        | nil => simp [ax_okI] at hok
        | cons pl t2 => cases t2 with
          | nil => exact ⟨pl, rfl⟩
          | cons _ _ => simp [ax_okI] at hok
      simp only [ax_okI, Bool.and_eq_true] at hok
      obtain ⟨e1, e2⟩ := hok
      have e1 : len = 3 := beq_iff_eq.mp e1
      subst e1
      split at hs
      · next ci fl hsh =>
        have key : ∀ {b : Bool} {x : Value}, b = Nat.beq ci i → b = true → (ax_fv ad (h.1 c9) fl 0)[f]? = some x → W p l e R s m args below meth c H locs cells slots Q (F0 m (pc + 3) la (x :: r.map (ax_cv ad))) → W p l e R s m args below meth c H locs cells slots Q (F0 m pc la (.ref (ad c9) :: r.map (ax_cv ad))) := by
          intro b x hb1 hb2 hx2 kk2
          have ei : ci = i := Nat.eq_of_beq_eq_true (hb1.symm.trans hb2)
          subst ei
          have hlt : ci ≠ 98 := by
            intro q98
            have h1 := ax_ci_lt c9 (by rw [hsh]) (by rw [hsh]; exact q98)
            exact h1
          rw [if_neg hlt] at e2
          simp only [Bool.and_eq_true, decide_eq_true_eq] at e2
          obtain ⟨e2, e3, e4⟩ := e2
          exact va_get hx hb hts (ax_lay_in e2) hown hK hP.1 c9 (ax_cellO hsh) (ax_cl_get e2) f e3 (hts _ (ax_word e4)) (fun _ h9 => h9) hx2 hd kk2
        split at hs
        · next j hj =>
          simp only [Option.some.injEq, Prod.mk.injEq] at hs
          obtain ⟨hz, rfl, rfl, rfl⟩ := hs
          exact key rfl hz (by rw [ax_fv_get, hj]; rfl) (kk H locs la hP hl)
        · next hj =>
          simp only [Option.some.injEq, Prod.mk.injEq] at hs
          obtain ⟨hz, rfl, rfl, rfl⟩ := hs
          exact key rfl hz (by rw [ax_fv_get, hj, Option.map_some, Nat.zero_add]; rfl) (kk H locs la hP hl)
        · cases hs
      · next ci fl hsh =>
        simp only [Option.some.injEq, Prod.mk.injEq] at hs
        obtain ⟨hz, rfl, rfl, rfl⟩ := hs
        have ei : i = 98 := Nat.eq_of_beq_eq_true hz
        subst ei
        rw [if_pos rfl] at e2
        have ea : c9 = 67 := ax_shp_4 c9 (ax_shp_69 (by rw [hsh]; exact (by decide : (4 : Nat) ≤ 5))) (by rw [hsh])
        subst ea
        obtain ⟨-, hC, hV, -⟩ := hE.2.2.2.2.1.1 0 (by decide)
        split at e2
        · simp only [decide_eq_true_eq] at e2
          exact vk_getf hx hb hV hP.2.2.1 hown (hts _ (ax_word e2)) (fun _ h9 => h9) hd (kk H locs la hP hl)
        · simp only [Bool.and_eq_true, decide_eq_true_eq] at e2
          obtain ⟨rfl, e3⟩ := e2
          exact vk_getf hx hb hC hP.2.2.1 hown (hts _ (ax_word e3)) (fun _ h9 => h9) hd (kk H locs la hP hl)
        · cases e2
      · cases hs
    · cases hs
  | putfield k =>
    simp only [ax_stp] at hs
    split at hs
    · next f t x c9 r =>
      obtain ⟨pl, rfl⟩ : ∃ pl, t = [pl] := by
        cases t with
        | nil => simp [ax_okI] at hok
        | cons pl t2 => cases t2 with
          | nil => exact ⟨pl, rfl⟩
          | cons _ _ => simp [ax_okI] at hok
      simp only [ax_okI, Bool.and_eq_true, decide_eq_true_eq] at hok
      obtain ⟨e1, e2, e3, e4, e5, e6⟩ := hok
      have e1 : len = 3 := beq_iff_eq.mp e1
      subst e1
      split at hs
      · next ci fl hsh =>
        split at hs
        · next hj =>
          obtain ⟨hP1, hP2, hP3, hP4⟩ := hP
          have ew := ax_wd_set (ad := ad) (cI := cI) (cL := cL) (h := h) (h' := sA h c9 (upd (h.1 c9) f x)) (k := c9) (e := .inr (ci, (ax_fv ad (h.1 c9) fl 0).set f (.int x))) (by simp only [ax_cell, hsh, sA, if_true]; rw [ax_fv_set ad _ x fl f hj]) (fun j hj => ax_cell_sA hj)
          obtain ⟨ty0, hty⟩ := ax_types i e2
          have hfl : f < (ax_fv ad (h.1 c9) fl 0).length := by rw [ax_fv_len]; exact (List.getElem?_eq_some_iff.mp hj).1
          have key : ∀ (ty : FieldType), parseFieldDescriptor ((ax_cd i).2.1 f).2.2.1 = some ty → narrow ty (.int x) = .int x → fits ty (.int x) = true → ci = i → ax_Go p l e R s m args below meth c cells slots Q nL ad cI cL dC dI A h0 (pc + 3) ls r (sA h c9 (upd (h.1 c9) f x)) → W p l e R s m args below meth c H locs cells slots Q (F0 m pc la (.int x :: .ref (ad c9) :: r.map (ax_cv ad))) := by
            intro ty g1 g2 g3 g4 kk2
            subst g4
            refine va_put hx hb hts (ax_lay_in e2) ty0 hty (ax_names ci e2) hown hK hP1 hP2 hP3 c9 (ax_cellO hsh) (ax_cl_get e2) f e3 (hts _ (ax_word e4)) (fun _ h9 => h9) e5 g1 g2 g3 hfl hd (fun H1 locs1 k1 k2 k3 => ?_)
            rw [ew] at k1 k2
            exact kk2 H1 locs1 la ⟨k1, k2, k3, hP4⟩ hl
          split at hs
          · simp only [Option.some.injEq, Prod.mk.injEq, Bool.and_eq_true, Bool.or_eq_true, decide_eq_true_eq] at hs
            obtain ⟨⟨hz, hy⟩, rfl, rfl, rfl⟩ := hs
            exact key .boolean e6 (by rcases hy with rfl | rfl <;> rfl) (by rcases hy with rfl | rfl <;> rfl) (Nat.eq_of_beq_eq_true hz) kk
          · next hv =>
            simp only [Option.some.injEq, Prod.mk.injEq] at hs
            obtain ⟨hz, rfl, rfl, rfl⟩ := hs
            have e7 : parseFieldDescriptor ((ax_cd i).2.1 f).2.2.1 = some .int := by
              rw [e6]
              cases v with
              | int x9 => exact absurd rfl (hv x9)
              | _ => rfl
            exact key .int e7 rfl rfl (Nat.eq_of_beq_eq_true hz) kk
        · cases hs
      · cases hs
    · cases hs
  | invokevirtual k =>
    have h5 : ¬ ∃ n r ci w pl, a = [n, r, ci, w, pl] := by
      rintro ⟨n, r, ci, w, pl, rfl⟩
      exact hna rfl
    simp only [ax_okI, Bool.and_eq_true] at hok
    obtain ⟨-, e2⟩ := hok
    split at e2
    · exact absurd ⟨_, _, _, _, _, rfl⟩ h5
    · cases e2
  | invokestatic k =>
    have h5 : ¬ ∃ n r ci w pl, a = [n, r, ci, w, pl] := by
      rintro ⟨n, r, ci, w, pl, rfl⟩
      exact hna rfl
    simp only [ax_okI, Bool.and_eq_true] at hok
    obtain ⟨e1, e2⟩ := hok
    have e1 : len = 3 := beq_iff_eq.mp e1
    subst e1
    split at e2
    · exact absurd ⟨_, _, _, _, _, rfl⟩ h5
    · next pl =>
      simp only [ax_okp, Bool.and_eq_true, decide_eq_true_eq] at e2
      obtain ⟨f1, f2, f3, f4, f5⟩ := e2
      have hml2 : c.maxLocals = la.size := hml.trans hl.1.symm
      have hR1 : 1 ≤ R.frames := Nat.le_trans f1 hfr
      have hlink : (Cond.methodLink (ax_nmC own) k (ax_pn i)).before args s = true := hts _ (ax_word f5)
      have hini : (Cond.initialized "java/lang/Math").before args s = true := hts _ (ax_pw_ini)
      simp only [ax_stp] at hs
      match i, hs, f3, f4, hlink with
      | 1, hs, _, _, hlink =>
        simp only [ax_prim] at hs
        split at hs
        · simp only [Option.some.injEq, Prod.mk.injEq, decide_eq_true_eq] at hs
          obtain ⟨hz, rfl, rfl, rfl⟩ := hs
          exact va_mmax hx hb hml2 hown hlink (hts _ ax_pw_s1) hini (hts _ ax_pw_c1) hR1 (by rw [ax_sum_map]; omega) hcc hss hd (kk H locs la hP hl)
        · cases hs
      | 2, hs, _, _, hlink =>
        simp only [ax_prim] at hs
        split at hs
        · simp only [Option.some.injEq, Prod.mk.injEq, decide_eq_true_eq] at hs
          obtain ⟨hz, rfl, rfl, rfl⟩ := hs
          exact va_mmin hx hb hml2 hown hlink (hts _ ax_pw_s2) hini (hts _ ax_pw_c2) hR1 (by rw [ax_sum_map]; omega) hcc hss hd (kk H locs la hP hl)
        · cases hs
      | 3, hs, _, _, hlink =>
        simp only [ax_prim] at hs
        split at hs
        · simp only [Option.some.injEq, Prod.mk.injEq, decide_eq_true_eq] at hs
          obtain ⟨hz, rfl, rfl, rfl⟩ := hs
          exact va_mabs hx hb hml2 hown hlink (hts _ ax_pw_s3) hini (hts _ ax_pw_c3) hR1 (by rw [ax_sum_map]; omega) hcc hss hd (kk H locs la hP hl)
        · cases hs
      | 4, hs, _, _, hlink =>
        simp only [ax_prim] at hs
        split at hs
        · next n dp d9 sp s9 r hz9 =>
          split at hs
          · next m1 fl1 m2 fl2 hs1 hs2 =>
            simp only [Option.some.injEq, Prod.mk.injEq, decide_eq_true_eq, Bool.and_eq_true] at hs
            obtain ⟨⟨hz, hn, hmm, rfl, rfl⟩, rfl, rfl, rfl⟩ := hs
            subst hmm
            obtain ⟨hP1, hP2, hP3, hP4⟩ := hP
            have hm31 : m1 < 2 ^ 31 := ax_len_31 hs1
            have en : n.toNatClampNeg = m1 := by rw [hn]; exact nI_clamp hm31
            have hnf : nativeFrameWords "java/lang/System" "arraycopy" 5 = 7 := by decide +kernel
            refine va_copyi hx hb hml2 hown hlink (hts _ ax_pw_n4) (hts _ ax_pw_s4) (hts _ ax_pw_i4) hK hP1 hP2 hP3 s9 d9 0 0 (ax_cellI hs1) (ax_cellI hs2) rfl rfl rfl (by decide) (by decide) (by rw [hn]; exact nI_pos hm31) (by rw [en]; exact Nat.le_of_eq (Nat.zero_add _)) (by rw [en]; exact Nat.le_of_eq (Nat.zero_add _)) (fun _ _ => rfl) hR1 (by rw [ax_sum_map, hnf]; omega) hd (fun H1 locs1 g1 g2 g3 => ?_)
            have ec : vp_cell cI (m1, .inl (va_cpy (h.1 s9) (h.1 d9) (0 : Int32).toNatClampNeg (0 : Int32).toNatClampNeg n.toNatClampNeg)) = vp_cell cI (m1, .inl (h.1 s9)) := by
              rw [en]
              exact ax_cpy_cell
            have g1' := ax_set_cell g1 (x' := (m1, .inl (h.1 s9))) ec
            have g2' : va_D A ((ax_wd ad cI cL h).set d9 (ad d9, .inl (cI, m1, .inl (h.1 s9)))) := ax_set_D g2
            rw [ax_wd_set (h' := sA h d9 (h.1 s9)) (by simp only [ax_cell, hs2, sA, if_true]) (fun j hj => ax_cell_sA hj)] at g1' g2'
            exact kk H1 locs1 la ⟨g1', g2', g3, hP4⟩ hl
          · cases hs
        · cases hs
      | 0, _, f3, _, _ => exact absurd f3 (by decide)
      | n + 5, _, _, f4, _ => exact absurd f4 (by omega)
    · cases e2
  | _ => simp only [ax_stp] at hs; cases hs
end
section
/-! contracts out of runs; calls; the exec's soundness -/
theorem ax_Ex.shift {ad : Nat → Nat} {h h0 : ax_Hp} {A A1 : Nat → Prop} {s U : State} {H : Heap} {locs : List Loc} (hE : ax_Ex ad h0 A s s.heap) (hS : va_S A s.heap H locs) (hU : U.heap = H) (hW : s.WarmedH U.vm) (hA : ∀ q, A1 q → A q) (e : h.2.2 = h0.2.2) : ax_Ex ad h A1 U U.heap := by
  obtain ⟨h1, h2, h3, h4, h5, h6, h7⟩ := hE
  rw [hU]
  unfold ax_Ex
  rw [e]
  refine ⟨va_X.moved hW.alike (h1.kept (hS.2.1 _ h2 h3)), Nat.lt_of_lt_of_le h2 hS.1, fun q => h3 (hA _ q), vk_R.warm hW h4, vk_S.moved hW.alike ((h5.kept hS.2.1).narrow hA), va_Z.moved hW.alike ((h6.kept hS.2.1).narrow hA), fun w hw => ?_⟩
  obtain ⟨q, hq, rfl⟩ := List.mem_map.mp hw
  exact va_Nw.warmM hW (h7 _ hw)
theorem ax_Ex.blind {ad : Nat → Nat} {h : ax_Hp} {A : Nat → Prop} {U V : State} (hv : V.vm = U.vm) (hh : V.heap = U.heap) (hE : ax_Ex ad h A U U.heap) : ax_Ex ad h A V V.heap := by
  obtain ⟨h1, h2, h3, h4, h5, h6, h7⟩ := hE
  have al : U.vm.Alike V.vm := by rw [hv]; exact Vm.Alike.refl U.vm
  rw [hh]
  refine ⟨va_X.moved al h1, h2, h3, vk_R.same hv h4, vk_S.moved al h5, va_Z.moved al h6, fun w hw => ?_⟩
  have h8 := h7 w hw
  obtain ⟨q, hq, rfl⟩ := List.mem_map.mp hw
  exact va_Nw.same rfl hv.symm h8
/-- the contract of method z at these arguments in this heap -/
def ax_Pz (ad : Nat → Nat) (cI cL : ClassId) (dC : Nat → ClassId) (dI : Nat → Nat → Nat) (sz : Nat) (h : ax_Hp) (U : State) : Prop :=
  U.heap.size = sz ∧ va_P (dC, dI) ax_cl (ax_wd ad cI cL h) U.heap ∧ va_K (dC, dI) ax_cl (ax_tys cI cL) U ∧ va_D (fun _ => True) (ax_wd ad cI cL h) ∧ ax_Ex ad h (va_A (ax_wd ad cI cL h) sz) U U.heap
def ax_Qc (ad : Nat → Nat) (cI cL : ClassId) (dC : Nat → ClassId) (dI : Nat → Nat → Nat) (sz : Nat) (h : ax_Hp) (r : ax_Rs) : Array Value → State → Outcome → State → Prop := fun _ st oc t =>
  (oc = .returned (r.1.map (ax_cv ad)) ∧ va_P (dC, dI) ax_cl (ax_wd ad cI cL r.2) t.heap ∧ r.2.2.2 = h.2.2) ∧ va_F (va_A (ax_wd ad cI cL h) sz) st t
abbrev ax_wz (z : Nat) : List Cond := .code (ax_y z) (ax_c z) (ax_nL z) (ax_rT z) :: ax_tb
abbrev ax_rz (z : Nat) : Room := { frames := ax_fr z, cells := 0, slots := 0, locals := ax_lo z }
def ax_Ct (l : Launch) (z : Nat) (as : List Value) (h : ax_Hp) (r : ax_Rs) : Prop := ax_sum as ≤ ax_nL z → ∀ (ad : Nat → Nat) (cI cL : ClassId) (dC : Nat → ClassId) (dI : Nat → Nat → Nat) (sz : Nat),
  Met l (ax_y z) (ax_wz z) (ax_rz z) (va_Pc (as.map (ax_cv ad)) (ax_Pz ad cI cL dC dI sz h)) (ax_Qc ad cI cL dC dI sz h r) 0 0 (va_A (ax_wd ad cI cL h) sz)
theorem ax_A_eq {ad : Nat → Nat} {cI cL : ClassId} {h h' : ax_Hp} {sz : Nat} {q : Nat} (hq : va_A (ax_wd ad cI cL h) sz q) : va_A (ax_wd ad cI cL h') sz q := by
  rcases hq with ⟨k, x, hk⟩ | hq
  · have hl : k < 66 := by
      have := (List.getElem?_eq_some_iff.mp hk).1
      simpa [ax_wd] using this
    rw [ax_wd_get hl] at hk
    cases hk
    exact Or.inl ⟨k, _, ax_wd_get hl⟩
  · exact Or.inr hq
theorem ax_D_eq {ad : Nat → Nat} {cI cL : ClassId} {A : Nat → Prop} {h h' : ax_Hp} (hD : va_D A (ax_wd ad cI cL h)) : va_D A (ax_wd ad cI cL h') := by
  have key : ∀ {k : Nat} {q : Nat × va_E}, (ax_wd ad cI cL h')[k]? = some q → (ax_wd ad cI cL h)[k]? = some (q.1, ax_cell ad cI cL h k) := by
    intro k q hk
    have hl : k < 66 := by
      have := (List.getElem?_eq_some_iff.mp hk).1
      simpa [ax_wd] using this
    rw [ax_wd_get hl] at hk ⊢
    cases hk
    rfl
  exact ⟨fun i j p q hp hq he => hD.1 i j _ _ (key hp) (key hq) he, fun k q hk => hD.2 k (q.1, ax_cell ad cI cL h k) (key hk)⟩
section
variable {p : Program} {l : Launch} {e : Env} {R : Room} {s : State} {m : MethodId} {args : Array Value} {below : List Frame} {meth : Method} {c : Code} {cells slots : Nat} {Q : State → Prop}
variable {cc : ByteArray} {nL own fr lo : Nat} {ad : Nat → Nat} {cI cL : ClassId} {dC : Nat → ClassId} {dI : Nat → Nat → Nat} {A : Nat → Prop} {h0 : ax_Hp}
theorem ax_callX {H : Heap} {locs : List Loc} {pc : Nat} {la : Array Slot} {st0 rest : List Value} {Qa : State → Outcome → State → Prop} {free : Nat → Prop} {v0 : Option Value} {B : State → Prop} {A1 : Nat → Prop}
    (hr : va_Run p l e R s m args below meth c H locs cells slots 0 0 (F0 m pc la st0) rest Qa free) (hQ : ∀ st oc t, Qa st oc t → (oc = .returned v0 ∧ B t) ∧ va_F A1 st t) (hS : va_S A s.heap H locs) (hA : ∀ q : Nat, A1 q → A q) (hf : ∀ q, free q → A q)
    (kk : ∀ (t : State) (H1 : Heap) (locs1 : List Loc), t.heap = H1 → B t → va_S A s.heap H1 locs1 → W p l e R s m args below meth c H1 locs1 cells slots Q (F0 m (pc + 3) la (v0.toList ++ rest))) : W p l e R s m args below meth c H locs cells slots Q (F0 m pc la st0) := by
  intro T hT X
  obtain ⟨v, st₀, t, T', L, g0, X', hL, e1, e2, hq, st⟩ := hr T hT X
  obtain ⟨⟨hv, hB⟩, hz, hk⟩ := hQ _ _ _ hq
  cases hv
  rw [g0] at hz hk
  obtain ⟨t2, a1, b1⟩ := kk t T'.heap (locs ++ L) e1.symm hB
    ⟨Nat.le_trans hS.1 (by rw [e1]; exact hz), fun q h1 h2 => by rw [e1, hk q (Nat.lt_of_lt_of_le h1 hS.1) (fun z => h2 (hA q z))]; exact hS.2.1 q h1 h2, fun q hq => by
      rcases List.mem_append.mp hq with h | h
      · exact hS.2.2 q h
      · exact hf _ (hL q h)⟩ T' rfl X'
  exact ⟨t2, st t2 a1, b1⟩
theorem ax_okM_W {z : Nat} (h : ax_okW z = true) : plainName (ax_y z).cls = true ∧ ((ax_y z).cls ≠ "java/lang/invoke/MethodHandle" ∧ (ax_y z).cls ≠ "java/lang/invoke/VarHandle" ∧ (parseMethodDescriptor (ax_y z).desc).map (fun d => d.parameters.length) = some (ax_np z)) ∧ (ax_y z).cls = ax_nmC (ax_ow z) ∧
    Cond.code (ax_y z) (ax_c z) (ax_nL z) (ax_rT z) ∈ ax_tb ∧ Cond.initialized (ax_y z).cls ∈ ax_tb ∧ (ax_sc z = true → Cond.static (ax_y z) ∈ ax_tb) ∧ (ax_sc z = false → Cond.instanceMethod (ax_y z) ∈ ax_tb ∧ Cond.selects (ax_y z).cls (ax_y z) (ax_y z) ∈ ax_tb) := by
  simp only [ax_okW, Bool.and_eq_true, decide_eq_true_eq] at h
  obtain ⟨h1, h2, h3, h4, h5, h6⟩ := h
  refine ⟨h1, ⟨h2, h3, h4⟩, h5, ?_⟩
  split at h6
  · next p0 p1 p2 es ep =>
    simp only [Bool.and_eq_true, decide_eq_true_eq] at h6
    obtain ⟨g1, g2, g3⟩ := h6
    refine ⟨ax_word g1, ?_, fun _ => ax_word g3, fun q => ?_⟩
    · rw [h5]; exact ax_word g2
    · rw [es] at q; cases q
  · next p0 p1 p2 p3 es ep =>
    simp only [Bool.and_eq_true, decide_eq_true_eq] at h6
    obtain ⟨g1, g2, g3, g4⟩ := h6
    refine ⟨ax_word g1, ?_, fun q => ?_, fun _ => ⟨ax_word g3, ax_word g4⟩⟩
    · rw [h5]; exact ax_word g2
    · rw [es] at q; cases q
  · cases h6
theorem ax_goodz {z : Nat} (h : ax_okW z = true) : GoodIn ax_tb (ax_wz z) := by
  intro w hw
  rcases List.mem_cons.mp hw with rfl | hw
  · exact ax_tb_good _ (ax_okM_W h).2.2.2.1
  · exact ax_tb_good w hw
theorem ax_goodcons {ws ws' : List Cond} (h : ∀ w ∈ ws, w ∈ ax_tb) (h2 : GoodIn ax_tb ws') : GoodIn ax_tb (ws ++ ws') := goodIn_app (fun w hw => ax_tb_good w (h w hw)) h2
theorem ax_Pz_blind {as : List Value} {sz : Nat} {h : ax_Hp} : FrameBlind (va_Pc as (ax_Pz ad cI cL dC dI sz h)) := by
  intro a U g mk q
  obtain ⟨q0, q1, q2, q3, q4, q5⟩ := q
  exact ⟨q0, q1, q2, va_K.moved (u := U) (U := U.calling g mk a) (Vm.Alike.refl U.vm) q3, q4, ax_Ex.blind (U := U) (V := U.calling g mk a) rfl rfl q5⟩
theorem ax_sum_app : ∀ (a b : List Value), ax_sum (a ++ b) = ax_sum a + ax_sum b
  | [], b => by simp [ax_sum]
  | v :: a, b => by simp only [List.cons_append, ax_sum, ax_sum_app a b, Nat.add_assoc]
theorem ax_sum_rev : ∀ (a : List Value), ax_sum a.reverse = ax_sum a
  | [] => rfl
  | v :: a => by
    rw [List.reverse_cons, ax_sum_app, ax_sum_rev a]
    simp only [ax_sum]
    omega
theorem ax_c2o_nm : ∀ ci, ci < 8 → ax_nmC (ax_c2o ci) = (ax_cd ci).1
  | 0, _ => rfl
  | 1, _ => rfl
  | 2, _ => rfl
  | 3, _ => rfl
  | 4, _ => rfl
  | 5, _ => rfl
  | 6, _ => rfl
  | 7, _ => rfl
  | n + 8, h => absurd h (by omega)
/-- a call, by the callee's contract -/
theorem ax_call_ok {z n k ci w pl idx pc : Nat} {sc : Bool} {ls : ax_Lc} {st : List Value} {h : ax_Hp} {r : ax_Rs} (hzW : ax_okW z = true)
    (hG : ax_G p s m args c R cells slots own nL fr lo cc ad cI cL dC dI A h0) (hok : ax_okc own fr lo idx sc z n k ci w pl = true)
    (hd : decode cc pc = .ok (if sc then .invokestatic idx else .invokevirtual idx, 3)) (hmay : ax_may st n ci w = true) (hct : ax_Ct l z (st.take n).reverse h r)
    (kk : ax_Go p l e R s m args below meth c cells slots Q nL ad cI cL dC dI A h0 (pc + 3) ls (r.1.toList ++ st.drop n) r.2) : ax_Go p l e R s m args below meth c cells slots Q nL ad cI cL dC dI A h0 pc ls st h := by
  intro H locs la hP hl
  obtain ⟨hx, hb, hml, hown, hts, hK, hA, hE, hfr, hlo, hcc, hss⟩ := hG
  obtain ⟨hP1, hP2, hP3, hP4⟩ := hP
  simp only [ax_okc, Bool.and_eq_true, decide_eq_true_eq] at hok
  obtain ⟨o1, o2, o3, o4, o5, o6, o7, o8, o9⟩ := hok
  simp only [ax_may, Bool.and_eq_true, Bool.or_eq_true, decide_eq_true_eq] at hmay
  obtain ⟨m1, m2, m3, m4⟩ := hmay
  obtain ⟨w1, w2, w3, w4, w5, w6, w7⟩ := ax_okM_W hzW
  have hsum : ax_sum (st.take n).reverse ≤ ax_nL z := by
    rw [ax_sum_rev]; omega
  have hM := hct hsum ad cI cL dC dI H.size
  have hA1 : ∀ q : Nat, va_A (ax_wd ad cI cL h) H.size q → A q := by
    intro q hq
    rcases hq with ⟨k9, x, hk9⟩ | hq
    · exact hP2.2 k9 _ hk9
    · exact hA q (Nat.le_trans hP3.1 hq)
  have hpre : ∀ U : State, U.heap = H → s.WarmedH U.vm → ax_Pz ad cI cL dC dI H.size h U := fun U hU hW =>
    ⟨by rw [hU], by rw [hU]; exact hP1, va_K.moved hW.alike hK, hP2.weaken (fun _ _ _ _ => trivial), hE.shift hP3 hU hW hA1 hP4⟩
  have hroom : 2 * (F0 m pc la (st.map (ax_cv ad))).monitorRoom + (((st.drop n).map (ax_cv ad)).map fun v => v.category).sum ≤ 8 := lv_room (by rw [ax_sum_map]; exact m2)
  have hsplit : st.map (ax_cv ad) = (((st.take n).reverse.map (ax_cv ad)).reverse) ++ (st.drop n).map (ax_cv ad) := by
    rw [← List.map_reverse, List.reverse_reverse, ← List.map_append, List.take_append_drop]
  have hlen : (st.take n).reverse.length = n := by simp [m1]
  have hlk2 : (ax_rz z).frames + 1 ≤ R.frames ∧ 8 + (ax_nL z + 11) + (ax_rz z).locals ≤ R.locals := ⟨Nat.le_trans o4 hfr, Nat.le_trans o5 hlo⟩
  have fin : ∀ (t : State) (H1 : Heap) (locs1 : List Loc), t.heap = H1 → (va_P (dC, dI) ax_cl (ax_wd ad cI cL r.2) t.heap ∧ r.2.2.2 = h.2.2) → va_S A s.heap H1 locs1 → W p l e R s m args below meth c H1 locs1 cells slots Q (F0 m (pc + 3) la ((r.1.map (ax_cv ad)).toList ++ (st.drop n).map (ax_cv ad))) := by
    intro t H1 locs1 ht hB hS1
    have k1 := kk H1 locs1 la ⟨by rw [← ht]; exact hB.1, ax_D_eq hP2, hS1, hB.2.trans hP4⟩ hl
    have e9 : (r.1.toList ++ st.drop n).map (ax_cv ad) = (r.1.map (ax_cv ad)).toList ++ (st.drop n).map (ax_cv ad) := by
      cases r.1 <;> simp
    rw [e9] at k1
    exact k1
  have hcon : ∀ st9 oc t, ax_Qc ad cI cL dC dI H.size h r ((st.take n).reverse.map (ax_cv ad)).toArray st9 oc t → (oc = .returned (r.1.map (ax_cv ad)) ∧ (va_P (dC, dI) ax_cl (ax_wd ad cI cL r.2) t.heap ∧ r.2.2.2 = h.2.2)) ∧ va_F (va_A (ax_wd ad cI cL h) H.size) st9 t := fun _ _ _ q => ⟨⟨q.1.1, q.1.2⟩, q.2⟩
  cases sc with
  | true =>
    have hn : ((st.take n).reverse.map (ax_cv ad)).length = ax_np z := by rw [List.length_map, hlen, o3]; simp
    by_cases hpl : pl < 5000
    · rw [if_pos hpl] at o8
      simp only [decide_eq_true_eq] at o8
      have hT : GoodIn ax_tb (va_wsS (ax_nmC own) idx (ax_y z) (ax_wz z)) := ax_goodcons (by
        intro w9 hw9
        simp only [List.mem_cons, List.not_mem_nil, or_false] at hw9
        rcases hw9 with rfl | rfl | rfl
        · exact ax_word o8
        · exact w6 o2
        · exact w5) (ax_goodz hzW)
      exact ax_callX (va_runS (As := (st.take n).reverse.map (ax_cv ad)) (rest := (st.drop n).map (ax_cv ad)) ⟨hx, hb, hml, hown, hts⟩ hM (va_cwS (ax_np z) hts hT rfl rfl rfl w2 hlk2) ⟨ax_Pz_blind, fun U hU hW => ⟨rfl, hpre U hU hW⟩⟩ rfl hn hl.1 hsplit hroom hd ⟨hcc, hss⟩) hcon hP3 hA1 (fun q hq => hA1 q hq) fin
    · rw [if_neg hpl] at o8
      simp only [Bool.and_eq_true, decide_eq_true_eq] at o8
      have hnw : va_Nw (.methodLinkNest (ax_nmC own) idx (ax_y z) RX7) s := hE.2.2.2.2.2.2 _ (List.mem_map.mpr ⟨_, List.mem_of_getElem? o8.2, rfl⟩)
      have hini : (Cond.initialized (ax_y z).cls).before args s = true := hts _ w5
      exact ax_callX (va_runSN (As := (st.take n).reverse.map (ax_cv ad)) (rest := (st.drop n).map (ax_cv ad)) ⟨hx, hb, hml, hown, hts⟩ hM ⟨va_cnB (ax_np z) hts (ax_goodz hzW) rfl rfl rfl hnw hini w2 hlk2, hts _ (w6 o2), trivial⟩ ⟨ax_Pz_blind, fun U hU hW => ⟨rfl, hpre U hU hW⟩⟩ rfl hn hl.1 hsplit hroom hd ⟨hcc, hss⟩) hcon hP3 hA1 (fun q hq => hA1 q hq) fin
  | false =>
    simp only [Bool.false_eq_true, if_false, Bool.and_eq_true, decide_eq_true_eq] at o9
    have hpl : pl < 5000 := by
      by_cases hpl : pl < 5000
      · exact hpl
      · rw [if_neg hpl] at o8
        simp at o8
    rw [if_pos hpl] at o8
    simp only [decide_eq_true_eq] at o8
    have m5 := m4.resolve_left (fun q => o9.1 (Nat.eq_of_beq_eq_true q))
    cases hrev : (st.take n).reverse with
    | nil => rw [hrev] at m5; cases m5
    | cons v9 As =>
      rw [hrev] at m5 hsplit hlen hM hcon
      cases v9 with
      | ref c9 =>
        simp only at m5
        have hn : (As.map (ax_cv ad)).length = ax_np z := by
          rw [List.length_map]
          simp only [List.length_cons] at hlen
          simp only [Bool.false_eq_true, if_false] at o3
          omega
        have hrecv : ∃ cellB : Cell, H[ad c9]? = some cellB ∧ cellB.vm.isStatics = false ∧ s.vm.findClass (ax_y z).cls = some cellB.cls := by
          split at m5
          · next cj fl hsh =>
            have ej : cj = ci := Nat.eq_of_beq_eq_true m5
            subst ej
            have hj8 : cj < 8 := by
              have h8 := ax_ci_lt0 c9 (ax_shp_69 (by rw [hsh]; exact Nat.zero_le 5)) (by rw [hsh])
              rw [hsh] at h8
              exact h8
            obtain ⟨cell, r1, r2, r3⟩ := va_recv hK hP1 (ax_cl_get hj8) (ax_cellO hsh)
            refine ⟨cell, r1, r2, ?_⟩
            rw [w3, ← o9.2, ax_c2o_nm cj hj8]
            exact r3
          · next cj fl hsh =>
            have ej : 98 = ci := Nat.eq_of_beq_eq_true m5
            subst ej
            have ea : c9 = 67 := ax_shp_4 c9 (ax_shp_69 (by rw [hsh]; exact (by decide : (4 : Nat) ≤ 5))) (by rw [hsh])
            subst ea
            obtain ⟨cell, r1, r2, r3⟩ := vk_recv hE.2.2.2.2.1 (i := 0) (by decide) hP3
            refine ⟨cell, r1, r2, ?_⟩
            rw [w3, ← o9.2]
            exact r3
          · cases m5
        have hT : GoodIn ax_tb (wsV (ax_nmC own) idx (ax_y z).cls (ax_y z) (ax_wz z)) := ax_goodcons (by
          intro w9 hw9
          simp only [List.mem_cons, List.not_mem_nil, or_false] at hw9
          rcases hw9 with rfl | rfl | rfl | rfl
          · exact ax_word o8
          · exact (w7 o2).1
          · exact (w7 o2).2
          · exact w5) (ax_goodz hzW)
        have hsp2 : st.map (ax_cv ad) = (As.map (ax_cv ad)).reverse ++ .ref (ad c9) :: (st.drop n).map (ax_cv ad) := by
          rw [hsplit]
          simp [ax_cv]
        exact ax_callX (va_runV (As := As.map (ax_cv ad)) (rest := (st.drop n).map (ax_cv ad)) ⟨hx, hb, hml, hown, hts⟩ hM (cwV (ax_np z) hts hT rfl rfl rfl ⟨rfl, w2⟩ hlk2) ⟨ax_Pz_blind, hrecv, fun U hU hW => ⟨rfl, hpre U hU hW⟩⟩ rfl hn hl.1 hsp2 hroom hd ⟨hcc, hss⟩) hcon hP3 hA1 (fun q hq => hA1 q hq) fin
      | _ => cases m5
end
end
section
/-! the exec's soundness, the run's -/
def ax_rd (cc : ByteArray) (rt pc : Nat) : Option Value → Prop
  | none => rt = 0 ∧ decode cc pc = .ok (.return_, 1)
  | some (.int x) => (rt = 1 ∨ (rt = 4 ∧ (x = 0 ∨ x = 1))) ∧ decode cc pc = .ok (.ireturn, 1)
  | some (.long _) => rt = 2 ∧ decode cc pc = .ok (.lreturn, 1)
  | some (.ref _) => rt = 3 ∧ decode cc pc = .ok (.areturn, 1)
  | _ => False
def ax_Rt (p : Program) (l : Launch) (e : Env) (R : Room) (s : State) (m : MethodId) (args : Array Value) (below : List Frame) (meth : Method) (c : Code) (cells slots : Nat) (Q : State → Prop) (cc : ByteArray) (ad : Nat → Nat) (cI cL : ClassId) (dC : Nat → ClassId) (dI : Nat → Nat → Nat) (A : Nat → Prop) (h0 : ax_Hp) (rt : Nat) (r : ax_Rs) : Prop :=
  ∀ (pc : Nat) (H : Heap) (locs : List Loc) (la : Array Slot), ax_P s ad cI cL dC dI A h0 r.2 H locs → ax_rd cc rt pc r.1 → W p l e R s m args below meth c H locs cells slots Q (F0 m pc la ((r.1.map (ax_cv ad)).toList))
theorem ax_nrm_sub : ∀ {is : List Nat} {ls l2 : ax_Lc}, ax_nrm is ls = some l2 → ∀ q ∈ l2, q ∈ ls
  | [], ls, l2, h, q, hq => by cases h; cases hq
  | i :: is, ls, l2, h, q, hq => by
    unfold ax_nrm at h
    split at h
    · cases h
    · next v hv =>
      split at h
      · cases h
      · next r hr =>
        cases h
        rcases List.mem_cons.mp hq with rfl | hq
        · exact ax_get_mem hv
        · exact ax_nrm_sub hr q hq
theorem ax_end_no {ins : Instr} (g1 : ∀ o, ins = .goto o → False) (g2 : ∀ a b c d, ins = .tableswitch a b c d → False) (g3 : ∀ a b, ins = .lookupswitch a b → False) (g4 : ins = .ireturn → False) (g5 : ins = .lreturn → False) (g6 : ins = .areturn → False) (g7 : ins = .return_ → False) : ax_end ins = false := by
  unfold ax_end
  split
  · exact (g1 _ rfl).elim
  · exact (g2 _ _ _ _ rfl).elim
  · exact (g3 _ _ rfl).elim
  · exact (g4 rfl).elim
  · exact (g5 rfl).elim
  · exact (g6 rfl).elim
  · exact (g7 rfl).elim
  · rfl
section
variable {p : Program} {l : Launch} {e : Env} {R : Room} {s : State} {m : MethodId} {args : Array Value} {below : List Frame} {meth : Method} {c : Code} {cells slots : Nat} {Q : State → Prop}
variable {cc : ByteArray} {nL own fr lo : Nat} {ad : Nat → Nat} {cI cL : ClassId} {dC : Nat → ClassId} {dI : Nat → Nat → Nat} {A : Nat → Prop} {h0 : ax_Hp} {R' : ax_Rn} {z rt : Nat} {r : ax_Rs}
theorem ax_jmp_ok {t : Nat × List Nat} {ls : ax_Lc} {st : List Value} {h : ax_Hp} (hj : ∀ pc ls st h, R' z pc ls st h = some r → ax_Go p l e R s m args below meth c cells slots Q nL ad cI cL dC dI A h0 pc ls st h) (he : ax_jmp R' z t ls st h = some r) : ax_Go p l e R s m args below meth c cells slots Q nL ad cI cL dC dI A h0 t.1 ls st h := by
  unfold ax_jmp at he
  split at he
  · next l2 hn =>
    intro H locs la hP hl
    refine hj _ _ _ _ he H locs la hP ⟨hl.1, hl.2.1, fun q hq => ?_⟩
    obtain ⟨q2, h2, rfl⟩ := List.mem_map.mp hq
    exact hl.2.2 _ (List.mem_map.mpr ⟨q2, ax_nrm_sub hn q2 h2, rfl⟩)
  · cases he
theorem ax_swT_ok {pc len : Nat} {d lo9 hi9 : Int} {offs : Array Int} {x : Int32} {ls : ax_Lc} {st : List Value} {h : ax_Hp} (hG : ax_G p s m args c R cells slots own nL fr lo cc ad cI cL dC dI A h0) (hd : decode cc pc = .ok (.tableswitch d lo9 hi9 offs, len)) (hj : ∀ pc ls st h, R' z pc ls st h = some r → ax_Go p l e R s m args below meth c cells slots Q nL ad cI cL dC dI A h0 pc ls st h) (hsz : offs.size = (hi9 - lo9 + 1).toNat) :
    ∀ (os : List Int) (inf : ax_If) (i : Nat), os = offs.toList.drop i → i ≤ offs.size → ¬ (lo9 ≤ x.toInt ∧ x.toInt < lo9 + i) → ax_okT pc d (lo9 + i) os inf = true → ax_sw R' z x ls st h inf = some r → ax_Go p l e R s m args below meth c cells slots Q nL ad cI cL dC dI A h0 pc ls (.int x :: st) h := by
  obtain ⟨hx, hb, hml, hown, hts, hK, hA, hE, hfr, hlo, hcc, hss⟩ := hG
  intro os
  induction os with
  | nil =>
    intro inf i hi hi2 hnot hok he
    have hlen : offs.size ≤ i := by
      have h1 : (offs.toList.drop i).length = 0 := by rw [← hi]; rfl
      rw [List.length_drop, Array.length_toList] at h1
      omega
    match inf, hok, he with
    | [(v, t, k9)], hok, he =>
      simp only [ax_okT, decide_eq_true_eq] at hok
      intro H locs la hP hl
      exact lv_tableOut hx hb hd (by omega) hok (ax_jmp_ok hj he H locs la hP hl)
    | [], hok, _ => cases hok
    | (v, t, k9) :: q :: qs, hok, _ => cases v <;> cases hok
  | cons o os ih =>
    intro inf i hi hi2 hnot hok he
    have hio : offs.toList[i]? = some o := by
      have h1 : (offs.toList.drop i)[0]? = some o := by rw [← hi]; rfl
      rwa [List.getElem?_drop, Nat.add_zero] at h1
    have hil : i < offs.size := by
      have := (List.getElem?_eq_some_iff.mp hio).1
      rwa [Array.length_toList] at this
    match inf, hok, he with
    | (.int w, t, k9) :: q :: qs, hok, he =>
      simp only [ax_okT, Bool.and_eq_true, decide_eq_true_eq] at hok
      obtain ⟨k1, k2, k3⟩ := hok
      have e0 : ax_sw R' z x ls st h ((.int w, t, k9) :: q :: qs) = if x = w then ax_jmp R' z (t, k9) ls st h else ax_sw R' z x ls st h (q :: qs) := rfl
      rw [e0] at he
      by_cases hxw : x = w
      · rw [if_pos hxw] at he
        intro H locs la hP hl
        have hxi : x.toInt = lo9 + i := by rw [hxw]; exact k1
        exact lv_tableIn hx hb hd (by omega) (by omega) (by rw [show (x.toInt - lo9).toNat = i by omega, ← Array.getElem?_toList]; exact hio) k2 (ax_jmp_ok hj he H locs la hP hl)
      · rw [if_neg hxw] at he
        refine ih (q :: qs) (i + 1) ?_ hil ?_ ?_ he
        · have h1 := congrArg (List.drop 1) hi
          rw [List.drop_drop] at h1
          simpa using h1
        · intro hn
          have hne : x.toInt ≠ w.toInt := fun q9 => hxw (Int32.toInt_inj.mp q9)
          rw [k1] at hne
          have h2 := hn.2
          push_cast at h2
          exact hnot ⟨hn.1, by omega⟩
        · have e3 : lo9 + ((i + 1 : Nat) : Int) = lo9 + (i : Int) + 1 := by push_cast; omega
          rw [e3]
          exact k3
    | [], hok, _ => cases hok
    | [(v, t, k9)], hok, _ => cases v <;> cases hok
    | (.long _, t, k9) :: q :: qs, hok, _ => cases hok
    | (.float _, t, k9) :: q :: qs, hok, _ => cases hok
    | (.double _, t, k9) :: q :: qs, hok, _ => cases hok
    | (.null, t, k9) :: q :: qs, hok, _ => cases hok
    | (.ref _, t, k9) :: q :: qs, hok, _ => cases hok
    | (.retAddr _, t, k9) :: q :: qs, hok, _ => cases hok
theorem ax_swL_ok {pc len : Nat} {d : Int} {ps : Array (Int × Int)} {x : Int32} {ls : ax_Lc} {st : List Value} {h : ax_Hp} (hG : ax_G p s m args c R cells slots own nL fr lo cc ad cI cL dC dI A h0) (hd : decode cc pc = .ok (.lookupswitch d ps, len)) (hp : (ps.toList.zip (ps.toList.drop 1)).all (fun (a, next) => a.1 < next.1) = true) (hj : ∀ pc ls st h, R' z pc ls st h = some r → ax_Go p l e R s m args below meth c cells slots Q nL ad cI cL dC dI A h0 pc ls st h) :
    ∀ (os : List (Int × Int)) (inf : ax_If), Op.lookupswitch.offset ps.toList d x.toInt = Op.lookupswitch.offset os d x.toInt → ax_okL pc d os inf = true → ax_sw R' z x ls st h inf = some r → ax_Go p l e R s m args below meth c cells slots Q nL ad cI cL dC dI A h0 pc ls (.int x :: st) h := by
  obtain ⟨hx, hb, hml, hown, hts, hK, hA, hE, hfr, hlo, hcc, hss⟩ := hG
  intro os
  induction os with
  | nil =>
    intro inf heq hok he
    match inf, hok, he with
    | [(v, t, k9)], hok, he =>
      simp only [ax_okL, decide_eq_true_eq] at hok
      intro H locs la hP hl
      exact lv_lookup hx hb hd hp (heq.trans (by rw [Op.lookupswitch.offset_nil])) hok (ax_jmp_ok hj he H locs la hP hl)
    | [], hok, _ => cases hok
    | (v, t, k9) :: q :: qs, hok, _ => cases v <;> cases hok
  | cons o os ih =>
    obtain ⟨a9, o9⟩ := o
    intro inf heq hok he
    match inf, hok, he with
    | (.int w, t, k9) :: q :: qs, hok, he =>
      simp only [ax_okL, Bool.and_eq_true, decide_eq_true_eq] at hok
      obtain ⟨k1, k2, k3⟩ := hok
      have e0 : ax_sw R' z x ls st h ((.int w, t, k9) :: q :: qs) = if x = w then ax_jmp R' z (t, k9) ls st h else ax_sw R' z x ls st h (q :: qs) := rfl
      rw [e0] at he
      by_cases hxw : x = w
      · rw [if_pos hxw] at he
        intro H locs la hP hl
        exact lv_lookup hx hb hd hp (heq.trans (by rw [Op.lookupswitch.offset_cons, hxw, k1, if_pos rfl])) k2 (ax_jmp_ok hj he H locs la hP hl)
      · rw [if_neg hxw] at he
        exact ih (q :: qs) (heq.trans (lv_osw hxw k1)) k3 he
    | [], hok, _ => cases hok
    | [(v, t, k9)], hok, _ => cases v <;> cases hok
    | (.long _, t, k9) :: q :: qs, hok, _ => cases hok
    | (.float _, t, k9) :: q :: qs, hok, _ => cases hok
    | (.double _, t, k9) :: q :: qs, hok, _ => cases hok
    | (.null, t, k9) :: q :: qs, hok, _ => cases hok
    | (.ref _, t, k9) :: q :: qs, hok, _ => cases hok
    | (.retAddr _, t, k9) :: q :: qs, hok, _ => cases hok
theorem ax_if_ok {c9 : ClassFile.Cond} {x y : Int32} {a b : Option ax_Rs} {Wt Wf : Prop} (e : ax_if c9 x y a b = some r) (ha : a = some r → Wt) (hb : b = some r → Wf) {G : Prop}
    (k : match c9 with
      | .eq => (x = y → Wt) → (¬ x = y → Wf) → G
      | .ne => (¬ x = y → Wt) → (x = y → Wf) → G
      | .lt => (x < y → Wt) → (¬ x < y → Wf) → G
      | .ge => (y ≤ x → Wt) → (¬ y ≤ x → Wf) → G
      | .gt => (y < x → Wt) → (¬ y < x → Wf) → G
      | .le => (x ≤ y → Wt) → (¬ x ≤ y → Wf) → G) : G := by
  cases c9 <;> simp only [ax_if] at e k <;> refine k (fun hc => ?_) (fun hc => ?_) <;> simp only [hc, if_true, if_false] at e <;> first | exact ha e | exact hb e
end
end
section
/-! the exec, the fuel, the run: sound -/
section
variable {p : Program} {l : Launch} {e : Env} {R : Room} {s : State} {m : MethodId} {args : Array Value} {below : List Frame} {meth : Method} {c : Code} {cells slots : Nat} {Q : State → Prop}
variable {cc : ByteArray} {nL own fr lo : Nat} {ad : Nat → Nat} {cI cL : ClassId} {dC : Nat → ClassId} {dI : Nat → Nat → Nat} {A : Nat → Prop} {h0 : ax_Hp} {R' : ax_Rn} {z rt : Nat} {r : ax_Rs}
theorem ax_ret_ok {pc : Nat} {ins : Instr} {ls : ax_Lc} {st : List Value} {h : ax_Hp} (hd : decode cc pc = .ok (ins, 1)) (hk : (ins = .ireturn ∧ ∃ x, st = [.int x]) ∨ (ins = .lreturn ∧ ∃ x, st = [.long x]) ∨ (ins = .areturn ∧ ∃ x, st = [.ref x]) ∨ (ins = .return_ ∧ st = [])) (hR : ax_Rt p l e R s m args below meth c cells slots Q cc ad cI cL dC dI A h0 rt r) (he : ax_ret rt st h = some r) : ax_Go p l e R s m args below meth c cells slots Q nL ad cI cL dC dI A h0 pc ls st h := by
  intro H locs la hP hl
  rcases hk with ⟨rfl, x, rfl⟩ | ⟨rfl, x, rfl⟩ | ⟨rfl, x, rfl⟩ | ⟨rfl, rfl⟩
  · simp only [ax_ret] at he
    split at he
    · next h1 => cases he; exact hR pc H locs la hP ⟨Or.inl h1, hd⟩
    · split at he
      · next h1 =>
        split at he
        · next h2 => cases he; exact hR pc H locs la hP ⟨Or.inr ⟨h1, h2⟩, hd⟩
        · cases he
      · cases he
  · simp only [ax_ret] at he
    split at he
    · next h1 => cases he; exact hR pc H locs la hP ⟨h1, hd⟩
    · cases he
  · simp only [ax_ret] at he
    split at he
    · next h1 => cases he; exact hR pc H locs la hP ⟨h1, hd⟩
    · cases he
  · simp only [ax_ret] at he
    split at he
    · next h1 => cases he; exact hR pc H locs la hP ⟨h1, hd⟩
    · cases he
theorem ax_ret_shape {rt : Nat} {ins : Instr} {st : List Value} {h : ax_Hp} (hi : ax_retI rt ins = true) (he : ax_ret rt st h = some r) (hk : ins = .ireturn ∨ ins = .lreturn ∨ ins = .areturn ∨ ins = .return_) : (ins = .ireturn ∧ ∃ x, st = [.int x]) ∨ (ins = .lreturn ∧ ∃ x, st = [.long x]) ∨ (ins = .areturn ∧ ∃ x, st = [.ref x]) ∨ (ins = .return_ ∧ st = []) := by
  unfold ax_ret at he
  rcases hk with rfl | rfl | rfl | rfl <;> simp only [ax_retI, Bool.or_eq_true, beq_iff_eq] at hi
  · left
    refine ⟨rfl, ?_⟩
    split at he
    · rcases hi with rfl | rfl <;> simp at he
    · exact ⟨_, rfl⟩
    · rcases hi with rfl | rfl <;> simp at he
    · rcases hi with rfl | rfl <;> simp at he
    · cases he
  · right; left
    refine ⟨rfl, ?_⟩
    subst hi
    split at he
    · simp at he
    · simp at he
    · exact ⟨_, rfl⟩
    · simp at he
    · cases he
  · right; right; left
    refine ⟨rfl, ?_⟩
    subst hi
    split at he
    · simp at he
    · simp at he
    · simp at he
    · exact ⟨_, rfl⟩
    · cases he
  · right; right; right
    refine ⟨rfl, ?_⟩
    subst hi
    split at he
    · rfl
    · simp at he
    · simp at he
    · simp at he
    · cases he
theorem ax_exec_ok {nx : Nat × List Nat} (hG : ax_G p s m args c R cells slots own nL fr lo cc ad cI cL dC dI A h0) (hR : ax_Rt p l e R s m args below meth c cells slots Q cc ad cI cL dC dI A h0 rt r)
    (hj : ∀ pc ls st h, R' z pc ls st h = some r → ax_Go p l e R s m args below meth c cells slots Q nL ad cI cL dC dI A h0 pc ls st h) (hc : ∀ (z' : Nat) as h r', z' < ax_ents.length → R' z' 0 (lv_args 0 as) [] h = some r' → ax_Ct l z' as h r') (hW : ∀ z', z' < ax_ents.length → ax_okW z' = true) :
    ∀ (ops : List ax_Op) (pc : Nat) (ls : ax_Lc) (st : List Value) (h : ax_Hp), ax_okO own cc nL fr lo nx.1 pc ops = true → ax_okR rt ops = true → ax_exec R' z rt nx ops ls st h = some r → ax_Go p l e R s m args below meth c cells slots Q nL ad cI cL dC dI A h0 pc ls st h
  | [], pc, ls, st, h, hok, _, he => by
    simp only [ax_okO, decide_eq_true_eq] at hok
    rw [hok]
    exact ax_jmp_ok hj he
  | (pc', ins, len, inf) :: rest, pc, ls, st, h, hok, hrr, he => by
    simp only [ax_okO, Bool.and_eq_true, Bool.or_eq_true, decide_eq_true_eq] at hok
    obtain ⟨-, hd, hI, h5, hend⟩ := hok
    simp only [ax_okR, List.all_cons, Bool.and_eq_true] at hrr
    obtain ⟨hri, hrr⟩ := hrr
    have ih := fun pc ls st h hok he => ax_exec_ok (nx := nx) hG hR hj hc hW rest pc ls st h hok hrr he
    obtain ⟨hx, hb, hml, hown, hts, hK, hA, hE, hfr, hlo, hcc, hss⟩ := id hG
    unfold ax_exec at he
    dsimp only at he hend hI h5 hd
    split at he
    · -- goto
      next o =>
      split at he
      · next v t q =>
        obtain ⟨t1, t2⟩ := t
        simp only [ax_okI, Bool.and_eq_true, decide_eq_true_eq] at hI
        obtain ⟨e1, e2⟩ := hI
        have e1 : len = 3 := beq_iff_eq.mp e1
        subst e1
        intro H locs la hP hl
        exact lv_goto hx hb hd e2 (ax_jmp_ok hj he H locs la hP hl)
      · cases he
    · -- if
      next c9 o =>
      split at he
      · next v t q x r9 =>
        obtain ⟨t1, t2⟩ := t
        simp only [ax_okI, Bool.and_eq_true, decide_eq_true_eq] at hI
        obtain ⟨e1, e2⟩ := hI
        have e1 : len = 3 := beq_iff_eq.mp e1
        subst e1
        have hend' := hend.resolve_left (fun q => by cases q)
        intro H locs la hP hl
        refine ax_if_ok he (fun g => ax_jmp_ok hj g H locs la hP hl) (fun g => ih _ _ _ _ hend' g H locs la hP hl) ?_
        cases c9
        · exact lv_if_eq hx hb hd e2
        · exact lv_if_ne hx hb hd e2
        · exact lv_if_lt hx hb hd e2
        · exact lv_if_ge hx hb hd e2
        · exact lv_if_gt hx hb hd e2
        · exact lv_if_le hx hb hd e2
      · cases he
    · -- if_icmp
      next c9 o =>
      split at he
      · next v t q y x r9 =>
        obtain ⟨t1, t2⟩ := t
        simp only [ax_okI, Bool.and_eq_true, decide_eq_true_eq] at hI
        obtain ⟨e1, e2⟩ := hI
        have e1 : len = 3 := beq_iff_eq.mp e1
        subst e1
        have hend' := hend.resolve_left (fun q => by cases q)
        intro H locs la hP hl
        refine ax_if_ok he (fun g => ax_jmp_ok hj g H locs la hP hl) (fun g => ih _ _ _ _ hend' g H locs la hP hl) ?_
        cases c9
        · exact lv_icmp_eq hx hb hd e2
        · exact lv_icmp_ne hx hb hd e2
        · exact lv_icmp_lt hx hb hd e2
        · exact lv_icmp_ge hx hb hd e2
        · exact lv_icmp_gt hx hb hd e2
        · exact lv_icmp_le hx hb hd e2
      · cases he
    · next d9 lo9 hi9 os9 =>
      split at he
      · next x r9 =>
        cases inf with
        | nil => cases hI
        | cons q inf =>
          obtain ⟨v, i, a⟩ := q
          simp only [ax_okI, Bool.and_eq_true, decide_eq_true_eq] at hI
          obtain ⟨e1, e2⟩ := hI
          refine ax_swT_ok hG hd hj e1 os9.toList _ 0 (by simp) (Nat.zero_le _) (by omega) ?_ he
          simpa using e2
      · cases he
    · next d9 ps9 =>
      split at he
      · next x r9 =>
        cases inf with
        | nil => cases hI
        | cons q inf =>
          obtain ⟨v, i, a⟩ := q
          simp only [ax_okI, Bool.and_eq_true] at hI
          exact ax_swL_ok hG hd hI.1 hj ps9.toList _ rfl hI.2 he
      · cases he
    · have e1 : len = 1 := by
        cases inf with
        | nil => simpa [ax_okI] using hI
        | cons q inf => obtain ⟨v, i, a⟩ := q; cases hI
      subst e1
      exact ax_ret_ok hd (ax_ret_shape hri he (Or.inl rfl)) hR he
    · have e1 : len = 1 := by
        cases inf with
        | nil => simpa [ax_okI] using hI
        | cons q inf => obtain ⟨v, i, a⟩ := q; cases hI
      subst e1
      exact ax_ret_ok hd (ax_ret_shape hri he (Or.inr (Or.inl rfl))) hR he
    · have e1 : len = 1 := by
        cases inf with
        | nil => simpa [ax_okI] using hI
        | cons q inf => obtain ⟨v, i, a⟩ := q; cases hI
      subst e1
      exact ax_ret_ok hd (ax_ret_shape hri he (Or.inr (Or.inr (Or.inl rfl)))) hR he
    · have e1 : len = 1 := by
        cases inf with
        | nil => simpa [ax_okI] using hI
        | cons q inf => obtain ⟨v, i, a⟩ := q; cases hI
      subst e1
      exact ax_ret_ok hd (ax_ret_shape hri he (Or.inr (Or.inr (Or.inr rfl)))) hR he
    · next g1 g2 g3 g4 g5 g6 g7 g8 g9 =>
      have hend' := hend.resolve_left (by rw [ax_end_no g1 g4 g5 g6 g7 g8 g9]; exact Bool.false_ne_true)
      split at he
      · next v z' n k ci w pl q =>
        split at he
        · next hm =>
          have hcall : ∀ (sc : Bool) (idx : Nat), ax_okc own fr lo idx sc z' n k ci w pl = true → decode cc pc = .ok (if sc then .invokestatic idx else .invokevirtual idx, 3) → len = 3 → ax_Go p l e R s m args below meth c cells slots Q nL ad cI cL dC dI A h0 pc ls st h := by
            intro sc idx hokc hd3 hl3
            subst hl3
            have hz : z' < ax_ents.length := by
              simp only [ax_okc, Bool.and_eq_true, decide_eq_true_eq] at hokc
              exact hokc.1
            unfold ax_call at he
            have fin : ∀ (r9 : ax_Rs), R' z' 0 (lv_args 0 (st.take n).reverse) [] h = some r9 → ax_exec R' z rt nx rest ls (r9.1.toList ++ st.drop n) r9.2 = some r → ax_Go p l e R s m args below meth c cells slots Q nL ad cI cL dC dI A h0 pc ls st h :=
              fun r9 q1 q2 => ax_call_ok (hW z' hz) hG hokc hd3 hm (hc z' _ h r9 hz q1) (ih _ _ _ _ hend' q2)
            split at he
            · obtain ⟨q1, q2, q3⟩ := ax_bind_some he
              unfold ax_rV at q2
              split at q2
              · next h9 q4 => cases q2; exact fin _ q4 q3
              · cases q2
            · obtain ⟨q1, q2, q3⟩ := ax_bind_some he
              unfold ax_rI at q2
              split at q2
              · next h9 q4 => cases q2; exact fin _ q4 q3
              · cases q2
            · obtain ⟨q1, q2, q3⟩ := ax_bind_some he
              unfold ax_rL at q2
              split at q2
              · next h9 q4 => cases q2; exact fin _ q4 q3
              · cases q2
            · obtain ⟨q1, q2, q3⟩ := ax_bind_some he
              unfold ax_rA at q2
              split at q2
              · next h9 q4 => cases q2; exact fin _ q4 q3
              · cases q2
          have h5' : ax_five ins ((v, z', [n, k, ci, w, pl]) :: q) = true := h5
          unfold ax_five at h5'
          split at h5'
          · next v8 z8 n8 k8 c8 w8 p8 q8 hq8 =>
            split at h5'
            · next idx =>
              simp only [ax_okI, Bool.and_eq_true] at hI
              exact hcall true idx hI.2 (by rw [← beq_iff_eq.mp hI.1]; exact hd) (beq_iff_eq.mp hI.1)
            · next idx =>
              simp only [ax_okI, Bool.and_eq_true] at hI
              exact hcall false idx hI.2 (by rw [← beq_iff_eq.mp hI.1]; exact hd) (beq_iff_eq.mp hI.1)
            · exact (g1 _ rfl).elim
            · exact (g2 _ _ rfl).elim
            · exact (g3 _ _ rfl).elim
            · exact (g4 _ _ _ _ rfl).elim
            · exact (g5 _ _ rfl).elim
            · cases h5'
          · next hno => exact (hno _ _ _ _ _ _ _ _ rfl).elim
        · cases he
      · next hno =>
        split at he
        · cases he
        · next b ls' st' h' hs =>
          cases b with
          | false => cases he
          | true =>
            cases inf with
            | nil => exact ax_stp_nil hG hd hI hs (ih _ _ _ _ hend' he)
            | cons q inf =>
              obtain ⟨v, i, a⟩ := q
              refine ax_stp_cons hG hd ?_ hI hs (ih _ _ _ _ hend' he)
              intro ha
              match a, ha with
              | [n, k, ci, w, pl], _ => exact hno _ _ _ _ _ _ _ _ rfl
end
end
section
/-! the run is sound: contracts for every method, and the law's own body -/
/-- what the check says of method z, unfolded -/
theorem ax_okM_of {z : Nat} (h : ax_okM z = true) : ax_okW z = true ∧ ∃ e, ax_code[z]? = some e ∧ ax_rOk e.1 (ax_rT z) = true ∧ ax_okB (ax_ow z) (ax_c z) (ax_nL z) (ax_fr z) (ax_lo z) e.2 = true ∧ e.2.all (fun b => ax_okR e.1 b.2.2) = true := by
  simp only [ax_okM, Bool.and_eq_true] at h
  obtain ⟨h1, h2⟩ := h
  split at h2
  · next e he =>
    simp only [Bool.and_eq_true] at h2
    exact ⟨h1, e, he, h2.1, h2.2.1, h2.2.2⟩
  · cases h2
theorem ax_find_of {z pc rt : Nat} {b : ax_Bl} (h : ax_find z pc = some (rt, b)) : ∃ e, ax_code[z]? = some e ∧ rt = e.1 ∧ (pc, b) ∈ e.2 := by
  unfold ax_find at h
  split at h
  · cases h
  · next e he =>
    split at h
    · cases h
    · next b' hb =>
      cases h
      exact ⟨e, he, rfl, ax_lk_mem hb⟩
/-- the contracts of all methods, at one fuel -/
def ax_Cn (l : Launch) (n : Nat) : Prop := ∀ (z : Nat) as h r, z < ax_ents.length → ax_fuel n z 0 (lv_args 0 as) [] h = some r → ax_Ct l z as h r
section
variable {p : Program} {l : Launch} {e : Env} {R : Room} {s : State} {m : MethodId} {args : Array Value} {below : List Frame} {meth : Method} {c : Code} {cells slots : Nat} {Q : State → Prop}
variable {cc : ByteArray} {nL own fr lo : Nat} {ad : Nat → Nat} {cI cL : ClassId} {dC : Nat → ClassId} {dI : Nat → Nat → Nat} {A : Nat → Prop} {h0 : ax_Hp} {z rt : Nat} {r : ax_Rs}
/-- a body whose blocks are checked: what the run answers, the machine does -/
theorem ax_body_ok {bl : List (Nat × ax_Bl)} (hz : ax_code[z]? = some (rt, bl)) (hB : ax_okB own cc nL fr lo bl = true) (hRt : bl.all (fun b => ax_okR rt b.2.2) = true) (hW : ∀ z', z' < ax_ents.length → ax_okW z' = true)
    (hG : ax_G p s m args c R cells slots own nL fr lo cc ad cI cL dC dI A h0) (hR : ax_Rt p l e R s m args below meth c cells slots Q cc ad cI cL dC dI A h0 rt r) :
    ∀ n : Nat, (∀ k, k < n → ax_Cn l k) → ∀ (pc : Nat) (ls : ax_Lc) (st : List Value) (h : ax_Hp), ax_fuel n z pc ls st h = some r → ax_Go p l e R s m args below meth c cells slots Q nL ad cI cL dC dI A h0 pc ls st h := by
  intro n
  induction n with
  | zero =>
    intro _ _ _ _ _ he
    cases he
  | succ n ih =>
    intro hC pc ls st h he
    have he' : ax_step (ax_fuel n) z pc ls st h = some r := he
    unfold ax_step at he'
    split at he'
    · cases he'
    · next rt' b hf =>
      obtain ⟨e9, h1, h2, h3⟩ := ax_find_of hf
      rw [hz] at h1
      cases h1
      subst h2
      have hb := List.all_eq_true.mp hB _ h3
      have hr := List.all_eq_true.mp hRt _ h3
      exact ax_exec_ok (R' := ax_fuel n) hG hR (fun pc ls st h q => ih (fun k hk => hC k (Nat.lt_succ_of_lt hk)) pc ls st h q) (hC n (Nat.lt_succ_self n)) hW b.2 pc ls st h hb hr he'
end
theorem ax_args_cv (ad : Nat → Nat) : ∀ (i : Nat) (as : List Value), lv_args i (as.map (ax_cv ad)) = ax_cls ad (lv_args i as)
  | _, [] => rfl
  | i, v :: as => by
    simp only [List.map_cons, lv_args, ax_cv_cat]
    rw [ax_args_cv ad _ as]
    rfl
theorem ax_sl_len : ∀ (vs : List Value), (lg_sl vs).length = ax_sum vs
  | [] => rfl
  | v :: vs => by
    have ih := ax_sl_len vs
    unfold lg_sl at ih ⊢
    rw [List.flatMap_cons, List.length_append, ih]
    rcases lv_cat v with h | h
    · simp [ax_sum, h]
    · simp [ax_sum, h]
theorem ax_sum_cv (ad : Nat → Nat) : ∀ (vs : List Value), ax_sum (vs.map (ax_cv ad)) = ax_sum vs
  | [] => rfl
  | v :: vs => by simp only [List.map_cons, ax_sum, ax_cv_cat, ax_sum_cv ad vs]
theorem ax_okM_all (hM : ∀ z, z < ax_ents.length → ax_okM z = true) (l : Launch) : ∀ n, ax_Cn l n := by
  intro n
  induction n using Nat.strongRecOn with
  | ind n ih =>
    intro z as h r hz he hsum ad cI cL dC dI sz
    obtain ⟨hW, e9, hcode, hrok, hB, hRt⟩ := ax_okM_of (hM z hz)
    obtain ⟨w1, w2, w3, w4, w5, w6, w7⟩ := ax_okM_W hW
    obtain ⟨rt, bl⟩ := e9
    refine Met.ofW (cc := ax_c z) (maxL := ax_nL z) (ret := ax_rT z) w1 rfl ?_
    intro p e s m args below meth c s₁ B hml hv
    obtain ⟨rfl, hsz, hP, hK, hD0, hE⟩ := hv
    have hx := B.exec
    have hb := B.bytes
    have hr := B.returns
    have hts0 := atoms_spec (ws := ax_wz z) B.pre
    have hts : ∀ w ∈ ax_tb, w.before ((as.map (ax_cv ad)).toArray) s = true := fun w hw => hts0 w (List.mem_cons_of_mem _ hw)
    have hown : s.vm.findClass (ax_y z).cls = some m.cls := findClass_of_methodNamed B.named
    have hlocks := B.notSynchronized
    subst hsz
    have hD := hD0.self (sz := s.heap.size)
    have hl := lv_entry (as.map (ax_cv ad)) (n := ax_nL z) (by rw [ax_sl_len, ax_sum_cv]; exact hsum)
    rw [lg_entry_eq]
    generalize (lg_sl (as.map (ax_cv ad)) ++ List.replicate (ax_nL z - (lg_sl (as.map (ax_cv ad))).length) Slot.unset).toArray = la at hl ⊢
    rw [ax_args_cv] at hl
    have hG : ax_G p s m ((as.map (ax_cv ad)).toArray) c (ax_rz z) 0 0 (ax_ow z) (ax_nL z) (ax_fr z) (ax_lo z) (ax_c z) ad cI cL dC dI (va_A (ax_wd ad cI cL h) s.heap.size) h :=
      ⟨hx, hb, hml, by rw [← w3]; exact hown, hts, hK, fun q hq => Or.inr hq, hE, Nat.le_refl _, Nat.le_refl _, Nat.le_refl _, Nat.le_refl _⟩
    have hR : ax_Rt p l e (ax_rz z) s m ((as.map (ax_cv ad)).toArray) below meth c 0 0 (MQ below (ax_Qc ad cI cL dC dI s.heap.size h r) ((as.map (ax_cv ad)).toArray) s 0 0 (va_A (ax_wd ad cI cL h) s.heap.size)) (ax_c z) ad cI cL dC dI (va_A (ax_wd ad cI cL h) s.heap.size) h rt r := by
      intro pc H locs la2 hPP hrd
      obtain ⟨hP1, hP2, hP3, hP4⟩ := hPP
      have hq : ∀ t : State, t.heap = H → s.WarmedH t.vm → ax_Qc ad cI cL dC dI s.heap.size h r ((as.map (ax_cv ad)).toArray) s (.returned (r.1.map (ax_cv ad))) t := fun t ht _ =>
        ⟨⟨rfl, by rw [ht]; exact hP1, hP4⟩, hP3.F ht⟩
      obtain ⟨r1, r2⟩ := r
      match r1, hrd, hq with
      | none, hrd, hq =>
        obtain ⟨g1, g2⟩ := hrd
        have hret : ax_rT z = none := by
          subst g1
          revert hrok
          unfold ax_rOk
          split <;> intro h9 <;> first | assumption | (simp at h9; done)
        exact W.vret hx hb (hr.trans hret) hq hP3.2.2 g2 hlocks
      | some (.int x), hrd, hq =>
        obtain ⟨g1, g2⟩ := hrd
        rcases g1 with g1 | ⟨g1, gx⟩
        · have hret : ax_rT z = some .int := by
            subst g1
            revert hrok
            unfold ax_rOk
            split <;> intro h9 <;> first | assumption | (simp at h9; done)
          exact W.iret hx hb (hr.trans hret) hq hP3.2.2 g2 hlocks
        · have hret : ax_rT z = some .boolean ∨ ax_rT z = some .byte := by
            subst g1
            revert hrok
            unfold ax_rOk
            split <;> intro h9 <;> first | (left; assumption) | (right; assumption) | (simp at h9; done)
          rcases hret with hret | hret
          · exact W.zret hx hb (hr.trans hret) (by rcases gx with rfl | rfl <;> rfl) hq hP3.2.2 g2 hlocks
          · exact W.zret hx hb (hr.trans hret) (by rcases gx with rfl | rfl <;> rfl) hq hP3.2.2 g2 hlocks
      | some (.long x), hrd, hq =>
        obtain ⟨g1, g2⟩ := hrd
        have hret : ax_rT z = some .long := by
          subst g1
          revert hrok
          unfold ax_rOk
          split <;> intro h9 <;> first | assumption | (simp at h9; done)
        exact W.lret hx hb (hr.trans hret) hq hP3.2.2 g2 hlocks
      | some (.ref x), hrd, hq =>
        obtain ⟨g1, g2⟩ := hrd
        have hret : ∃ C, ax_rT z = some (.object C) := by
          subst g1
          revert hrok
          unfold ax_rOk
          split <;> intro h9 <;> first | exact ⟨_, by assumption⟩ | (simp at h9; done)
        obtain ⟨C, hret⟩ := hret
        exact W.aret hx hb (hr.trans hret) (Or.inl ⟨C, rfl⟩) (Or.inr ⟨_, rfl⟩) hq hP3.2.2 g2 hlocks
      | some (.float _), hrd, _ => exact hrd.elim
      | some (.double _), hrd, _ => exact hrd.elim
      | some .null, hrd, _ => exact hrd.elim
      | some (.retAddr _), hrd, _ => exact hrd.elim
    have key := ax_body_ok (l := l) (e := e) (below := below) (meth := meth) hcode hB hRt (fun z' hz' => (ax_okM_of (hM z' hz')).1) hG hR n ih 0 (lv_args 0 as) [] h he
    exact key s.heap [] la ⟨hP, hD, va_S.rf, rfl⟩ hl
end
section
/-! the numbers of the methods; calls by them; writes -/
abbrev m_X0_closeIn : Nat := 0
abbrev m_X0_stepsTo : Nat := 1
abbrev m_X0_coverOfAll : Nat := 2
abbrev m_X0_closeBoth : Nat := 3
abbrev m_X0_chosen : Nat := 4
abbrev m_X0_isClosed : Nat := 5
abbrev m_X0_spareBits : Nat := 6
abbrev m_X0_gift : Nat := 7
abbrev m_X0_mostGiving : Nat := 8
abbrev m_X0_fairShares : Nat := 9
abbrev m_X0_worthOf : Nat := 10
abbrev m_X0_screen : Nat := 11
abbrev m_X0_waysTo : Nat := 12
abbrev m_X0_goOn : Nat := 13
abbrev m_X1_write : Nat := 14
abbrev m_X1_had : Nat := 15
abbrev m_X1_hoursOf : Nat := 16
abbrev m_X1_hoursOfBoth : Nat := 17
abbrev m_X1_longestOf : Nat := 18
abbrev m_X2_coverOf : Nat := 19
abbrev m_X2_strides : Nat := 20
abbrev m_X2_panesOf : Nat := 21
abbrev m_X3_add : Nat := 22
abbrev m_X3_signAt : Nat := 23
abbrev m_X3_digitAt : Nat := 24
abbrev m_X3_kindAt : Nat := 25
abbrev m_X3_sizeOf : Nat := 26
abbrev m_X3_fault : Nat := 27
abbrev m_X3_misformedAt : Nat := 28
abbrev m_X3_fits : Nat := 29
abbrev m_X3_senselessAt : Nat := 30
abbrev m_X3_hasSense : Nat := 31
abbrev m_X3_hoursAt : Nat := 32
abbrev m_X4_add : Nat := 33
abbrev m_X4_numberAt : Nat := 34
abbrev m_X5_copyFrom : Nat := 35
abbrev m_X5_addWall : Nat := 36
abbrev m_X5_takeTo : Nat := 37
abbrev m_X5_sellTo : Nat := 38
abbrev m_X5_turnInto : Nat := 39
abbrev m_X5_setNeed : Nat := 40
abbrev m_X5_turnBar : Nat := 41
abbrev m_X5_passHour : Nat := 42
abbrev m_X5_nextHouse : Nat := 43
abbrev m_X5_canGo : Nat := 44
abbrev m_X5_weigh : Nat := 45
abbrev m_X5_isWall : Nat := 46
abbrev m_X5_isLent : Nat := 47
abbrev m_X5_needAt : Nat := 48
abbrev m_X5_needOf : Nat := 49
abbrev m_X5_lackOf : Nat := 50
abbrev m_X5_lackWithout : Nat := 51
abbrev m_X5_allLacking : Nat := 52
abbrev m_X5_seenBits : Nat := 53
abbrev m_X5_lentBits : Nat := 54
abbrev m_X5_wallsAt : Nat := 55
abbrev m_X5_wallsOwnedBy : Nat := 56
abbrev m_X5_allHoles : Nat := 57
abbrev m_X5_needsAt : Nat := 58
abbrev m_X5_coldestPart : Nat := 59
abbrev m_X5_bestWall : Nat := 60
abbrev m_X5_warmerBits : Nat := 61
abbrev m_X5_looksAt : Nat := 62
abbrev m_X6_begin : Nat := 63
abbrev m_X6_goOn : Nat := 64
abbrev m_X6_after : Nat := 65
abbrev m_X6_hoursToHome : Nat := 66
abbrev m_X6_hoursToGone : Nat := 67
abbrev m_X6_hoursToSeen : Nat := 68
abbrev m_X6_hoursToAllLent : Nat := 69
abbrev m_X6_goingsBetween : Nat := 70
abbrev m_X6_bestLoan : Nat := 71
abbrev m_X6_settledPair : Nat := 72
abbrev m_X6_seenWeight : Nat := 73
abbrev m_X6_fittingKinds : Nat := 74
abbrev m_X6_fittingFigures : Nat := 75
abbrev m_X6_isWhereTold : Nat := 76
abbrev m_X6_firstNotSo : Nat := 77
abbrev m_X6_overLots : Nat := 78
abbrev m_X7_letter : Nat := 79
abbrev m_X7_street : Nat := 80
abbrev m_X7_tell : Nat := 81
abbrev m_X7_pass : Nat := 82
abbrev m_X7_wall : Nat := 83
abbrev m_X7_house : Nat := 84
abbrev m_X7_takes : Nat := 85
abbrev m_X7_sells : Nat := 86
abbrev m_X7_needs : Nat := 87
abbrev m_X7_bars : Nat := 88
abbrev m_X7_turn : Nat := 89
abbrev m_X7_hours : Nat := 90
abbrev m_X7_atThen : Nat := 91
abbrev m_X7_lacksThen : Nat := 92
abbrev m_X7_allLack : Nat := 93
abbrev m_X7_goes : Nat := 94
abbrev m_X7_shown : Nat := 95
abbrev m_X7_asked : Nat := 96
abbrev m_X7_coughs : Nat := 97
abbrev m_X7_lend : Nat := 98
abbrev m_X7_close : Nat := 99
abbrev m_X7_split : Nat := 100
abbrev m_X7_spare : Nat := 101
abbrev m_X7_price : Nat := 102
abbrev m_X7_shares : Nat := 103
abbrev m_X7_coldest : Nat := 104
abbrev m_X7_best : Nat := 105
abbrev m_X7_each : Nat := 106
abbrev m_X7_panes : Nat := 107
abbrev m_X7_sees : Nat := 108
abbrev m_X7_hide : Nat := 109
abbrev m_X7_two : Nat := 110
abbrev m_X7_ways : Nat := 111
abbrev m_X7_rain : Nat := 112
abbrev m_X7_mean : Nat := 113
abbrev m_X7_wasSeen : Nat := 114
abbrev m_X7_longest : Nat := 115
abbrev m_X7_together : Nat := 116
abbrev m_X7_whatIs : Nat := 117
abbrev m_X7_row : Nat := 118
abbrev m_X7_judge : Nat := 119
abbrev m_X7_clear : Nat := 120
abbrev m_X7_lots : Nat := 121
abbrev m_X7_image : Nat := 122
abbrev m_X7_on : Nat := 123
abbrev m_X7_count : Nat := 124
abbrev m_X7_refuse : Nat := 125
abbrev m_X7_refuseLong : Nat := 126
abbrev m_X7_isHouse : Nat := 127
abbrev m_X7_areTwoHouses : Nat := 128
abbrev m_X7_outside : Nat := 129
abbrev m_X7_stepsBetween : Nat := 130
abbrev m_X7_hasBit : Nat := 131
abbrev m_X7_bitsIn : Nat := 132
abbrev m_X7_power : Nat := 133
abbrev m_X7_inLeastTerms : Nat := 134
abbrev m_X7_commonDivisor : Nat := 135
abbrev m_X8_no : Nat := 136
abbrev m_X8_lowestOf : Nat := 137
abbrev m_X8_isIn : Nat := 138
abbrev m_X8_bound : Nat := 139
abbrev m_X8_has : Nat := 140
abbrev m_X8_bits : Nat := 141
abbrev m_X8_apart : Nat := 142
abbrev m_X8_isWall : Nat := 143
abbrev m_X8_isHouse : Nat := 144
abbrev m_X8_areTwo : Nat := 145
abbrev m_X8_letter : Nat := 146
abbrev m_X8_letterNow : Nat := 147
abbrev m_X8_readsDigits : Nat := 148
abbrev m_X8_kindTold : Nat := 149
abbrev m_X8_readsKind : Nat := 150
abbrev m_X8_readsMany : Nat := 151
abbrev m_X8_readsAll : Nat := 152
abbrev m_X8_statement : Nat := 153
abbrev m_X8_comesWall : Nat := 154
abbrev m_X8_comesPlace : Nat := 155
abbrev m_X8_comesNeeds : Nat := 156
abbrev m_X8_comesBar : Nat := 157
abbrev m_X8_comesHours : Nat := 158
abbrev m_X8_comesTold : Nat := 159
abbrev m_X8_street : Nat := 160
abbrev m_X8_passes : Nat := 161
abbrev m_X8_passOne : Nat := 162
abbrev m_X8_passesAll : Nat := 163
abbrev m_X8_minds : Nat := 164
abbrev m_X8_forgets : Nat := 165
abbrev m_X8_image : Nat := 166
abbrev m_X8_on : Nat := 167
abbrev m_X8_coversAt : Nat := 168
abbrev m_X8_covers : Nat := 169
abbrev m_X8_goesSteps : Nat := 170
abbrev m_X8_canGo : Nat := 171
abbrev m_X8_hasAt : Nat := 172
abbrev m_X8_lacksWith : Nat := 173
abbrev m_X8_lacks : Nat := 174
abbrev m_X8_lacksWithout : Nat := 175
abbrev m_X8_all : Nat := 176
abbrev m_X8_seenNow : Nat := 177
abbrev m_X8_isLent : Nat := 178
abbrev m_X8_lentNow : Nat := 179
abbrev m_X8_wallsOf : Nat := 180
abbrev m_X8_whereTo : Nat := 181
abbrev m_X8_goesWall : Nat := 182
abbrev m_X8_goesHour : Nat := 183
abbrev m_X8_goes_ : Nat := 184
abbrev m_X8_wall : Nat := 185
abbrev m_X8_house : Nat := 186
abbrev m_X8_takes : Nat := 187
abbrev m_X8_sells : Nat := 188
abbrev m_X8_needs : Nat := 189
abbrev m_X8_bars : Nat := 190
abbrev m_X8_turn : Nat := 191
abbrev m_X8_hours : Nat := 192
abbrev m_X8_notHours : Nat := 193
abbrev m_X8_atThen : Nat := 194
abbrev m_X8_lacksIn : Nat := 195
abbrev m_X8_lacksThen : Nat := 196
abbrev m_X8_allIn : Nat := 197
abbrev m_X8_allLack : Nat := 198
abbrev m_X8_homeWhen : Nat := 199
abbrev m_X8_goneWhen : Nat := 200
abbrev m_X8_goes : Nat := 201
abbrev m_X8_shown : Nat := 202
abbrev m_X8_asked : Nat := 203
abbrev m_X8_coughs : Nat := 204
abbrev m_X8_lend : Nat := 205
abbrev m_X8_coversAll : Nat := 206
abbrev m_X8_stepsTo : Nat := 207
abbrev m_X8_close : Nat := 208
abbrev m_X8_isSplit : Nat := 209
abbrev m_X8_threes : Nat := 210
abbrev m_X8_split : Nat := 211
abbrev m_X8_spare : Nat := 212
abbrev m_X8_gives : Nat := 213
abbrev m_X8_buyerBut : Nat := 214
abbrev m_X8_price : Nat := 215
abbrev m_X8_worth : Nat := 216
abbrev m_X8_shares : Nat := 217
abbrev m_X8_needAt : Nat := 218
abbrev m_X8_coldest : Nat := 219
abbrev m_X8_bestWall : Nat := 220
abbrev m_X8_warmer : Nat := 221
abbrev m_X8_best : Nat := 222
abbrev m_X8_each : Nat := 223
abbrev m_X8_panes : Nat := 224
abbrev m_X8_isBetween : Nat := 225
abbrev m_X8_sees_ : Nat := 226
abbrev m_X8_sees : Nat := 227
abbrev m_X8_hide : Nat := 228
abbrev m_X8_findEnds : Nat := 229
abbrev m_X8_two : Nat := 230
abbrev m_X8_waysOn : Nat := 231
abbrev m_X8_ways : Nat := 232
abbrev m_X8_divisor : Nat := 233
abbrev m_X8_partOf : Nat := 234
abbrev m_X8_rain : Nat := 235
abbrev m_X8_mean : Nat := 236
abbrev m_X8_wasSeenAt : Nat := 237
abbrev m_X8_wasSeen : Nat := 238
abbrev m_X8_longest : Nat := 239
abbrev m_X8_together : Nat := 240
abbrev m_X8_isSo : Nat := 241
abbrev m_X8_bitsFor : Nat := 242
abbrev m_X8_whatIs : Nat := 243
abbrev m_X8_row : Nat := 244
abbrev m_X8_judge : Nat := 245
abbrev m_X8_clear : Nat := 246
abbrev m_X8_draw : Nat := 247
abbrev m_X8_lots : Nat := 248
abbrev m_X8_allHoles : Nat := 249
abbrev m_X8_count : Nat := 250
abbrev m_J6_bitCount_0f7a4 : Nat := 251
abbrev m_J0_indexOf_0f7a4 : Nat := 252
abbrev m_J0_indexOf_7cf53 : Nat := 253
abbrev m_J0_isLatin1_aae02 : Nat := 254
abbrev m_J0_length_8abf5 : Nat := 255
abbrev m_J0_coder_7d493 : Nat := 256
abbrev m_J1_indexOf_4cfef : Nat := 257
abbrev m_J1_canEncode_9a6ad : Nat := 258
abbrev m_J1_indexOfChar_4cfef : Nat := 259
abbrev m_L_law : Nat := 260
noncomputable def rV (z : Nat) (as : List Value) (h : ax_Hp) : Option ax_Hp := ax_rV ax_run z as h
noncomputable def rI (z : Nat) (as : List Value) (h : ax_Hp) : Option (Int32 × ax_Hp) := ax_rI ax_run z as h
noncomputable def rL (z : Nat) (as : List Value) (h : ax_Hp) : Option (Int64 × ax_Hp) := ax_rL ax_run z as h
noncomputable def rA (z : Nat) (as : List Value) (h : ax_Hp) : Option (Nat × ax_Hp) := ax_rA ax_run z as h
def wI (h : ax_Hp) (k i : Nat) (x : Int32) : ax_Hp := sA h k (upd (h.1 k) i x)
def wL (h : ax_Hp) (k i : Nat) (x : Int64) : ax_Hp := sL h k (vp_updL (h.2.1 k) i x)
def cpA (h : ax_Hp) (d s : Nat) : ax_Hp := sA h d (h.1 s)
/-- a street that goes through hours: the one of now, the one in mind -/
def isS (c : Nat) : Prop := c = 1 ∨ c = 23
end
section
/-! the equations of the blocks: by wip/whole/gen8.py -/
set_option maxRecDepth 100000 in
theorem q_X5_sellTo_0 {c : Nat} (hc : isS c) (x1 : Int32) (x2 : Int32) (h : ax_Hp) : ax_run m_X5_sellTo 0 [(0, .ref c), (1, .int x1), (2, .int x2)] [] h = (rI m_X5_isWall [.ref c, .int x1] h).bind (fun q1 => if q1.1 = 0 then ax_run m_X5_sellTo 22 [] [] q1.2 else (rI m_X7_isHouse [.int x2] q1.2).bind (fun q2 => if q2.1 = 0 then ax_run m_X5_sellTo 22 [] [] q2.2 else ax_g (ax_in x1 7) (ax_run m_X5_sellTo 22 [] [] (wI q2.2 (c + 3) x1.toNatClampNeg x2)))) := by
  rcases hc with rfl | rfl
  · exact (ax_run_eq _ _ _ _ _).trans rfl
  · exact (ax_run_eq _ _ _ _ _).trans rfl
set_option maxRecDepth 100000 in
theorem q_X5_sellTo_22 {c : Nat} (hc : isS c)  (h : ax_Hp) : ax_run m_X5_sellTo 22 [] [] h = some (none, h) := by
  rcases hc with rfl | rfl
  · exact (ax_run_eq _ _ _ _ _).trans rfl
  · exact (ax_run_eq _ _ _ _ _).trans rfl
set_option maxRecDepth 100000 in
theorem q_X5_needOf_0 {c : Nat} (hc : isS c) (x1 : Int32) (h : ax_Hp) : ax_run m_X5_needOf 0 [(0, .ref c), (1, .int x1)] [] h = ax_g (ax_in ((x1 * 6) + ((h.1 c 1) - (h.1 c 1) / 6 * 6)) 48) (some (some (.int ((h.1 (c + 7) ((x1 * 6) + ((h.1 c 1) - (h.1 c 1) / 6 * 6)).toNatClampNeg) + (h.1 c 2))), h)) := by
  rcases hc with rfl | rfl
  · exact (ax_run_eq _ _ _ _ _).trans rfl
  · exact (ax_run_eq _ _ _ _ _).trans rfl
set_option maxRecDepth 100000 in
theorem q_X5_seenBits_0 {c : Nat} (hc : isS c)  (h : ax_Hp) : ax_run m_X5_seenBits 0 [(0, .ref c)] [] h = ax_run m_X5_seenBits 4 [(0, .ref c), (1, .int 0), (2, .int 0)] [] h := by
  rcases hc with rfl | rfl
  · exact (ax_run_eq _ _ _ _ _).trans rfl
  · exact (ax_run_eq _ _ _ _ _).trans rfl
set_option maxRecDepth 100000 in
theorem q_X5_seenBits_4 {c : Nat} (hc : isS c) (x1 : Int32) (x2 : Int32) (h : ax_Hp) : ax_run m_X5_seenBits 4 [(0, .ref c), (1, .int x1), (2, .int x2)] [] h = if 8 ≤ x2 then ax_run m_X5_seenBits 30 [(1, .int x1)] [] h else (rI m_X5_lackOf [.ref c, .int x2] h).bind (fun q1 => if q1.1 ≤ 0 then ax_run m_X5_seenBits 24 [(0, .ref c), (1, .int x1), (2, .int x2)] [] q1.2 else ax_run m_X5_seenBits 24 [(0, .ref c), (1, .int (x1 ||| (1 <<< (x2 &&& 31)))), (2, .int x2)] [] q1.2) := by
  rcases hc with rfl | rfl
  · exact (ax_run_eq _ _ _ _ _).trans rfl
  · exact (ax_run_eq _ _ _ _ _).trans rfl
set_option maxRecDepth 100000 in
theorem q_X5_seenBits_24 {c : Nat} (hc : isS c) (x1 : Int32) (x2 : Int32) (h : ax_Hp) : ax_run m_X5_seenBits 24 [(0, .ref c), (1, .int x1), (2, .int x2)] [] h = ax_run m_X5_seenBits 4 [(0, .ref c), (1, .int x1), (2, .int (x2 + 1))] [] h := by
  rcases hc with rfl | rfl
  · exact (ax_run_eq _ _ _ _ _).trans rfl
  · exact (ax_run_eq _ _ _ _ _).trans rfl
set_option maxRecDepth 100000 in
theorem q_X5_seenBits_30 {c : Nat} (hc : isS c) (x1 : Int32) (h : ax_Hp) : ax_run m_X5_seenBits 30 [(1, .int x1)] [] h = some (some (.int x1), h) := by
  rcases hc with rfl | rfl
  · exact (ax_run_eq _ _ _ _ _).trans rfl
  · exact (ax_run_eq _ _ _ _ _).trans rfl
set_option maxRecDepth 100000 in
theorem q_X5_wallsOwnedBy_0 {c : Nat} (hc : isS c) (x1 : Int32) (h : ax_Hp) : ax_run m_X5_wallsOwnedBy 0 [(0, .ref c), (1, .int x1)] [] h = ax_run m_X5_wallsOwnedBy 4 [(0, .ref c), (1, .int x1), (2, .int 0), (3, .int 0)] [] h := by
  rcases hc with rfl | rfl
  · exact (ax_run_eq _ _ _ _ _).trans rfl
  · exact (ax_run_eq _ _ _ _ _).trans rfl
set_option maxRecDepth 100000 in
theorem q_X5_wallsOwnedBy_4 {c : Nat} (hc : isS c) (x1 : Int32) (x2 : Int32) (x3 : Int32) (h : ax_Hp) : ax_run m_X5_wallsOwnedBy 4 [(0, .ref c), (1, .int x1), (2, .int x2), (3, .int x3)] [] h = if h.1 c 0 ≤ x3 then ax_run m_X5_wallsOwnedBy 34 [(2, .int x2)] [] h else ax_g (ax_in x3 7) (if h.1 (c + 3) x3.toNatClampNeg = x1 then ax_run m_X5_wallsOwnedBy 28 [(0, .ref c), (1, .int x1), (2, .int (x2 ||| (1 <<< (x3 &&& 31)))), (3, .int x3)] [] h else ax_run m_X5_wallsOwnedBy 28 [(0, .ref c), (1, .int x1), (2, .int x2), (3, .int x3)] [] h) := by
  rcases hc with rfl | rfl
  · exact (ax_run_eq _ _ _ _ _).trans rfl
  · exact (ax_run_eq _ _ _ _ _).trans rfl
set_option maxRecDepth 100000 in
theorem q_X5_wallsOwnedBy_28 {c : Nat} (hc : isS c) (x1 : Int32) (x2 : Int32) (x3 : Int32) (h : ax_Hp) : ax_run m_X5_wallsOwnedBy 28 [(0, .ref c), (1, .int x1), (2, .int x2), (3, .int x3)] [] h = ax_run m_X5_wallsOwnedBy 4 [(0, .ref c), (1, .int x1), (2, .int x2), (3, .int (x3 + 1))] [] h := by
  rcases hc with rfl | rfl
  · exact (ax_run_eq _ _ _ _ _).trans rfl
  · exact (ax_run_eq _ _ _ _ _).trans rfl
set_option maxRecDepth 100000 in
theorem q_X5_wallsOwnedBy_34 {c : Nat} (hc : isS c) (x2 : Int32) (h : ax_Hp) : ax_run m_X5_wallsOwnedBy 34 [(2, .int x2)] [] h = some (some (.int x2), h) := by
  rcases hc with rfl | rfl
  · exact (ax_run_eq _ _ _ _ _).trans rfl
  · exact (ax_run_eq _ _ _ _ _).trans rfl
set_option maxRecDepth 100000 in
theorem q_X5_allLacking_0 {c : Nat} (hc : isS c)  (h : ax_Hp) : ax_run m_X5_allLacking 0 [(0, .ref c)] [] h = ax_run m_X5_allLacking 4 [(0, .ref c), (1, .int 0), (2, .int 0)] [] h := by
  rcases hc with rfl | rfl
  · exact (ax_run_eq _ _ _ _ _).trans rfl
  · exact (ax_run_eq _ _ _ _ _).trans rfl
set_option maxRecDepth 100000 in
theorem q_X5_allLacking_4 {c : Nat} (hc : isS c) (x1 : Int32) (x2 : Int32) (h : ax_Hp) : ax_run m_X5_allLacking 4 [(0, .ref c), (1, .int x1), (2, .int x2)] [] h = if 8 ≤ x2 then ax_run m_X5_allLacking 24 [(1, .int x1)] [] h else (rI m_X5_lackOf [.ref c, .int x2] h).bind (fun q1 => ax_run m_X5_allLacking 4 [(0, .ref c), (1, .int (x1 + q1.1)), (2, .int (x2 + 1))] [] q1.2) := by
  rcases hc with rfl | rfl
  · exact (ax_run_eq _ _ _ _ _).trans rfl
  · exact (ax_run_eq _ _ _ _ _).trans rfl
set_option maxRecDepth 100000 in
theorem q_X5_allLacking_24 {c : Nat} (hc : isS c) (x1 : Int32) (h : ax_Hp) : ax_run m_X5_allLacking 24 [(1, .int x1)] [] h = some (some (.int x1), h) := by
  rcases hc with rfl | rfl
  · exact (ax_run_eq _ _ _ _ _).trans rfl
  · exact (ax_run_eq _ _ _ _ _).trans rfl
set_option maxRecDepth 100000 in
theorem q_X5_bestWall_0 {c : Nat} (hc : isS c)  (h : ax_Hp) : ax_run m_X5_bestWall 0 [(0, .ref c)] [] h = ax_run m_X5_bestWall 7 [(0, .ref c), (1, .int ((-9))), (2, .int ((-1))), (3, .int 0)] [] h := by
  rcases hc with rfl | rfl
  · exact (ax_run_eq _ _ _ _ _).trans rfl
  · exact (ax_run_eq _ _ _ _ _).trans rfl
set_option maxRecDepth 100000 in
theorem q_X5_bestWall_7 {c : Nat} (hc : isS c) (x1 : Int32) (x2 : Int32) (x3 : Int32) (h : ax_Hp) : ax_run m_X5_bestWall 7 [(0, .ref c), (1, .int x1), (2, .int x2), (3, .int x3)] [] h = if h.1 c 0 ≤ x3 then ax_run m_X5_bestWall 40 [(1, .int x1)] [] h else ax_g (ax_in x3 7) (if h.1 (c + 9) x3.toNatClampNeg ≤ x2 then ax_run m_X5_bestWall 34 [(0, .ref c), (1, .int x1), (2, .int x2), (3, .int x3)] [] h else ax_g (ax_in x3 7) (ax_run m_X5_bestWall 34 [(0, .ref c), (1, .int x3), (2, .int (h.1 (c + 9) x3.toNatClampNeg)), (3, .int x3)] [] h)) := by
  rcases hc with rfl | rfl
  · exact (ax_run_eq _ _ _ _ _).trans rfl
  · exact (ax_run_eq _ _ _ _ _).trans rfl
set_option maxRecDepth 100000 in
theorem q_X5_bestWall_34 {c : Nat} (hc : isS c) (x1 : Int32) (x2 : Int32) (x3 : Int32) (h : ax_Hp) : ax_run m_X5_bestWall 34 [(0, .ref c), (1, .int x1), (2, .int x2), (3, .int x3)] [] h = ax_run m_X5_bestWall 7 [(0, .ref c), (1, .int x1), (2, .int x2), (3, .int (x3 + 1))] [] h := by
  rcases hc with rfl | rfl
  · exact (ax_run_eq _ _ _ _ _).trans rfl
  · exact (ax_run_eq _ _ _ _ _).trans rfl
set_option maxRecDepth 100000 in
theorem q_X5_bestWall_40 {c : Nat} (hc : isS c) (x1 : Int32) (h : ax_Hp) : ax_run m_X5_bestWall 40 [(1, .int x1)] [] h = some (some (.int x1), h) := by
  rcases hc with rfl | rfl
  · exact (ax_run_eq _ _ _ _ _).trans rfl
  · exact (ax_run_eq _ _ _ _ _).trans rfl
set_option maxRecDepth 100000 in
theorem q_X5_looksAt_0 {c : Nat} (hc : isS c) (x1 : Int32) (x2 : Int32) (h : ax_Hp) : ax_run m_X5_looksAt 0 [(0, .ref c), (1, .int x1), (2, .int x2)] [] h = if x1 = x2 then ax_run m_X5_looksAt 13 [] [] h else (rI m_X5_lackOf [.ref c, .int x2] h).bind (fun q1 => if q1.1 = 0 then ax_run m_X5_looksAt 13 [] [] q1.2 else ax_run m_X5_looksAt 15 [(0, .ref c), (1, .int x1), (2, .int x2)] [] q1.2) := by
  rcases hc with rfl | rfl
  · exact (ax_run_eq _ _ _ _ _).trans rfl
  · exact (ax_run_eq _ _ _ _ _).trans rfl
set_option maxRecDepth 100000 in
theorem q_X5_looksAt_13 {c : Nat} (hc : isS c)  (h : ax_Hp) : ax_run m_X5_looksAt 13 [] [] h = some (some (.int 0), h) := by
  rcases hc with rfl | rfl
  · exact (ax_run_eq _ _ _ _ _).trans rfl
  · exact (ax_run_eq _ _ _ _ _).trans rfl
set_option maxRecDepth 100000 in
theorem q_X5_looksAt_15 {c : Nat} (hc : isS c) (x1 : Int32) (x2 : Int32) (h : ax_Hp) : ax_run m_X5_looksAt 15 [(0, .ref c), (1, .int x1), (2, .int x2)] [] h = ax_run m_X5_looksAt 23 [(0, .ref c), (1, .int x1), (2, .int x2), (3, .int ((if x2 < x1 then x2 else x1) + 1))] [] h := by
  rcases hc with rfl | rfl
  · exact (ax_run_eq _ _ _ _ _).trans rfl
  · exact (ax_run_eq _ _ _ _ _).trans rfl
set_option maxRecDepth 100000 in
theorem q_X5_looksAt_23 {c : Nat} (hc : isS c) (x1 : Int32) (x2 : Int32) (x3 : Int32) (h : ax_Hp) : ax_run m_X5_looksAt 23 [(0, .ref c), (1, .int x1), (2, .int x2), (3, .int x3)] [] h = if (if x1 < x2 then x2 else x1) ≤ x3 then ax_run m_X5_looksAt 48 [] [] h else (rI m_X5_wallsAt [.ref c, .int x3] h).bind (fun q1 => if q1.1 = 0 then ax_run m_X5_looksAt 42 [(0, .ref c), (1, .int x1), (2, .int x2), (3, .int x3)] [] q1.2 else some (some (.int 0), q1.2)) := by
  rcases hc with rfl | rfl
  · exact (ax_run_eq _ _ _ _ _).trans rfl
  · exact (ax_run_eq _ _ _ _ _).trans rfl
set_option maxRecDepth 100000 in
theorem q_X5_looksAt_42 {c : Nat} (hc : isS c) (x1 : Int32) (x2 : Int32) (x3 : Int32) (h : ax_Hp) : ax_run m_X5_looksAt 42 [(0, .ref c), (1, .int x1), (2, .int x2), (3, .int x3)] [] h = ax_run m_X5_looksAt 23 [(0, .ref c), (1, .int x1), (2, .int x2), (3, .int (x3 + 1))] [] h := by
  rcases hc with rfl | rfl
  · exact (ax_run_eq _ _ _ _ _).trans rfl
  · exact (ax_run_eq _ _ _ _ _).trans rfl
set_option maxRecDepth 100000 in
theorem q_X5_looksAt_48 {c : Nat} (hc : isS c)  (h : ax_Hp) : ax_run m_X5_looksAt 48 [] [] h = some (some (.int 1), h) := by
  rcases hc with rfl | rfl
  · exact (ax_run_eq _ _ _ _ _).trans rfl
  · exact (ax_run_eq _ _ _ _ _).trans rfl
set_option maxRecDepth 100000 in
theorem q_X5_copyFrom_0_k1_12  (h : ax_Hp) : ax_run m_X5_copyFrom 0 [(0, .ref 1), (1, .ref 12)] [] h = some (none, cpA (cpA (cpA (cpA (cpA (cpA (cpA (cpA (cpA (cpA (wI (wI (wI h 1 0 (h.1 12 0)) 1 1 ((wI h 1 0 (h.1 12 0)).1 12 1)) 1 2 ((wI (wI h 1 0 (h.1 12 0)) 1 1 ((wI h 1 0 (h.1 12 0)).1 12 1)).1 12 2)) 2 13) 3 14) 4 15) 5 16) 6 17) 7 18) 8 19) 9 20) 10 21) 11 22) := (ax_run_eq _ _ _ _ _).trans rfl
set_option maxRecDepth 100000 in
theorem q_X5_turnInto_0 {c : Nat} (hc : isS c) (x1 : Int32) (x2 : Int32) (x3 : Int32) (h : ax_Hp) : ax_run m_X5_turnInto 0 [(0, .ref c), (1, .int x1), (2, .int x2), (3, .int x3)] [] h = (rI m_X5_isWall [.ref c, .int x1] h).bind (fun q1 => if q1.1 = 0 then ax_run m_X5_turnInto 26 [] [] q1.2 else ax_g (ax_in x1 7) (ax_g (ax_in x1 7) ((rV m_X5_weigh [.ref c] (wI (wI q1.2 (c + 1) x1.toNatClampNeg x2) (c + 2) x1.toNatClampNeg x3)).bind (fun q2 => ax_run m_X5_turnInto 26 [] [] q2)))) := by
  rcases hc with rfl | rfl
  · exact (ax_run_eq _ _ _ _ _).trans rfl
  · exact (ax_run_eq _ _ _ _ _).trans rfl
set_option maxRecDepth 100000 in
theorem q_X5_turnInto_26 {c : Nat} (hc : isS c)  (h : ax_Hp) : ax_run m_X5_turnInto 26 [] [] h = some (none, h) := by
  rcases hc with rfl | rfl
  · exact (ax_run_eq _ _ _ _ _).trans rfl
  · exact (ax_run_eq _ _ _ _ _).trans rfl
set_option maxRecDepth 100000 in
theorem q_X5_takeTo_0 {c : Nat} (hc : isS c) (x1 : Int32) (x2 : Int32) (h : ax_Hp) : ax_run m_X5_takeTo 0 [(0, .ref c), (1, .int x1), (2, .int x2)] [] h = (rI m_X5_isWall [.ref c, .int x1] h).bind (fun q1 => if q1.1 = 0 then ax_run m_X5_takeTo 26 [] [] q1.2 else (rI m_X7_isHouse [.int x2] q1.2).bind (fun q2 => if q2.1 = 0 then ax_run m_X5_takeTo 26 [] [] q2.2 else ax_g (ax_in x1 7) ((rV m_X5_weigh [.ref c] (wI q2.2 (c + 4) x1.toNatClampNeg x2)).bind (fun q3 => ax_run m_X5_takeTo 26 [] [] q3)))) := by
  rcases hc with rfl | rfl
  · exact (ax_run_eq _ _ _ _ _).trans rfl
  · exact (ax_run_eq _ _ _ _ _).trans rfl
set_option maxRecDepth 100000 in
theorem q_X5_takeTo_26 {c : Nat} (hc : isS c)  (h : ax_Hp) : ax_run m_X5_takeTo 26 [] [] h = some (none, h) := by
  rcases hc with rfl | rfl
  · exact (ax_run_eq _ _ _ _ _).trans rfl
  · exact (ax_run_eq _ _ _ _ _).trans rfl
set_option maxRecDepth 100000 in
theorem q_X5_turnBar_0 {c : Nat} (hc : isS c) (x1 : Int32) (x2 : Int32) (h : ax_Hp) : ax_run m_X5_turnBar 0 [(0, .ref c), (1, .int x1), (2, .int x2)] [] h = (rI m_X7_areTwoHouses [.int x1, .int x2] h).bind (fun q1 => if q1.1 = 0 then some (some (.int 0), q1.2) else ax_run m_X5_turnBar 10 [(0, .ref c), (1, .int x1), (2, .int x2)] [] q1.2) := by
  rcases hc with rfl | rfl
  · exact (ax_run_eq _ _ _ _ _).trans rfl
  · exact (ax_run_eq _ _ _ _ _).trans rfl
set_option maxRecDepth 100000 in
theorem q_X5_turnBar_10 {c : Nat} (hc : isS c) (x1 : Int32) (x2 : Int32) (h : ax_Hp) : ax_run m_X5_turnBar 10 [(0, .ref c), (1, .int x1), (2, .int x2)] [] h = ax_g (ax_in x1 8) (ax_g (ax_in x1 8) (ax_g (ax_in x1 8) ((rI m_X7_hasBit [.int ((wI h (c + 8) x1.toNatClampNeg ((h.1 (c + 8) x1.toNatClampNeg) ^^^ (1 <<< (x2 &&& 31)))).1 (c + 8) x1.toNatClampNeg), .int x2] (wI h (c + 8) x1.toNatClampNeg ((h.1 (c + 8) x1.toNatClampNeg) ^^^ (1 <<< (x2 &&& 31))))).bind (fun q1 => if q1.1 = 0 then ax_run m_X5_turnBar 39 [] [] q1.2 else ax_run m_X5_turnBar 40 [] [.int 1] q1.2)))) := by
  rcases hc with rfl | rfl
  · exact (ax_run_eq _ _ _ _ _).trans rfl
  · exact (ax_run_eq _ _ _ _ _).trans rfl
set_option maxRecDepth 100000 in
theorem q_X5_turnBar_39 {c : Nat} (hc : isS c)  (h : ax_Hp) : ax_run m_X5_turnBar 39 [] [] h = ax_run m_X5_turnBar 40 [] [.int 0] h := by
  rcases hc with rfl | rfl
  · exact (ax_run_eq _ _ _ _ _).trans rfl
  · exact (ax_run_eq _ _ _ _ _).trans rfl
set_option maxRecDepth 100000 in
theorem q_X5_turnBar_40 {c : Nat} (hc : isS c) (s0 : Int32) (h : ax_Hp) : ax_run m_X5_turnBar 40 [] [.int s0] h = some (some (.int s0), h) := by
  rcases hc with rfl | rfl
  · exact (ax_run_eq _ _ _ _ _).trans rfl
  · exact (ax_run_eq _ _ _ _ _).trans rfl
set_option maxRecDepth 100000 in
theorem q_X5_lentBits_0 {c : Nat} (hc : isS c)  (h : ax_Hp) : ax_run m_X5_lentBits 0 [(0, .ref c)] [] h = ax_run m_X5_lentBits 4 [(0, .ref c), (1, .int 0), (2, .int 0)] [] h := by
  rcases hc with rfl | rfl
  · exact (ax_run_eq _ _ _ _ _).trans rfl
  · exact (ax_run_eq _ _ _ _ _).trans rfl
set_option maxRecDepth 100000 in
theorem q_X5_lentBits_4 {c : Nat} (hc : isS c) (x1 : Int32) (x2 : Int32) (h : ax_Hp) : ax_run m_X5_lentBits 4 [(0, .ref c), (1, .int x1), (2, .int x2)] [] h = if h.1 c 0 ≤ x2 then ax_run m_X5_lentBits 32 [(1, .int x1)] [] h else (rI m_X5_isLent [.ref c, .int x2] h).bind (fun q1 => if q1.1 = 0 then ax_run m_X5_lentBits 26 [(0, .ref c), (1, .int x1), (2, .int x2)] [] q1.2 else ax_run m_X5_lentBits 26 [(0, .ref c), (1, .int (x1 ||| (1 <<< (x2 &&& 31)))), (2, .int x2)] [] q1.2) := by
  rcases hc with rfl | rfl
  · exact (ax_run_eq _ _ _ _ _).trans rfl
  · exact (ax_run_eq _ _ _ _ _).trans rfl
set_option maxRecDepth 100000 in
theorem q_X5_lentBits_26 {c : Nat} (hc : isS c) (x1 : Int32) (x2 : Int32) (h : ax_Hp) : ax_run m_X5_lentBits 26 [(0, .ref c), (1, .int x1), (2, .int x2)] [] h = ax_run m_X5_lentBits 4 [(0, .ref c), (1, .int x1), (2, .int (x2 + 1))] [] h := by
  rcases hc with rfl | rfl
  · exact (ax_run_eq _ _ _ _ _).trans rfl
  · exact (ax_run_eq _ _ _ _ _).trans rfl
set_option maxRecDepth 100000 in
theorem q_X5_lentBits_32 {c : Nat} (hc : isS c) (x1 : Int32) (h : ax_Hp) : ax_run m_X5_lentBits 32 [(1, .int x1)] [] h = some (some (.int x1), h) := by
  rcases hc with rfl | rfl
  · exact (ax_run_eq _ _ _ _ _).trans rfl
  · exact (ax_run_eq _ _ _ _ _).trans rfl
set_option maxRecDepth 100000 in
theorem q_X5_lackOf_0 {c : Nat} (hc : isS c) (x1 : Int32) (h : ax_Hp) : ax_run m_X5_lackOf 0 [(0, .ref c), (1, .int x1)] [] h = (rI m_X5_needOf [.ref c, .int x1] h).bind (fun q1 => ax_g (ax_in x1 8) (some (some (.int (if 0 < q1.1 - (q1.2.1 (c + 10) x1.toNatClampNeg) then q1.1 - (q1.2.1 (c + 10) x1.toNatClampNeg) else 0)), q1.2))) := by
  rcases hc with rfl | rfl
  · exact (ax_run_eq _ _ _ _ _).trans rfl
  · exact (ax_run_eq _ _ _ _ _).trans rfl
set_option maxRecDepth 100000 in
theorem q_X5_needsAt_0 {c : Nat} (hc : isS c) (x1 : Int32) (h : ax_Hp) : ax_run m_X5_needsAt 0 [(0, .ref c), (1, .int x1)] [] h = ax_run m_X5_needsAt 4 [(0, .ref c), (1, .int x1), (2, .int 0), (3, .int 0)] [] h := by
  rcases hc with rfl | rfl
  · exact (ax_run_eq _ _ _ _ _).trans rfl
  · exact (ax_run_eq _ _ _ _ _).trans rfl
set_option maxRecDepth 100000 in
theorem q_X5_needsAt_4 {c : Nat} (hc : isS c) (x1 : Int32) (x2 : Int32) (x3 : Int32) (h : ax_Hp) : ax_run m_X5_needsAt 4 [(0, .ref c), (1, .int x1), (2, .int x2), (3, .int x3)] [] h = if 8 ≤ x3 then ax_run m_X5_needsAt 25 [(2, .int x2)] [] h else (rI m_X5_needAt [.ref c, .int x3, .int x1] h).bind (fun q1 => ax_run m_X5_needsAt 4 [(0, .ref c), (1, .int x1), (2, .int (x2 + q1.1)), (3, .int (x3 + 1))] [] q1.2) := by
  rcases hc with rfl | rfl
  · exact (ax_run_eq _ _ _ _ _).trans rfl
  · exact (ax_run_eq _ _ _ _ _).trans rfl
set_option maxRecDepth 100000 in
theorem q_X5_needsAt_25 {c : Nat} (hc : isS c) (x2 : Int32) (h : ax_Hp) : ax_run m_X5_needsAt 25 [(2, .int x2)] [] h = some (some (.int x2), h) := by
  rcases hc with rfl | rfl
  · exact (ax_run_eq _ _ _ _ _).trans rfl
  · exact (ax_run_eq _ _ _ _ _).trans rfl
set_option maxRecDepth 100000 in
theorem q_X5_needAt_0 {c : Nat} (hc : isS c) (x1 : Int32) (x2 : Int32) (h : ax_Hp) : ax_run m_X5_needAt 0 [(0, .ref c), (1, .int x1), (2, .int x2)] [] h = ax_g (ax_in ((x1 * 6) + x2) 48) (some (some (.int (h.1 (c + 7) ((x1 * 6) + x2).toNatClampNeg)), h)) := by
  rcases hc with rfl | rfl
  · exact (ax_run_eq _ _ _ _ _).trans rfl
  · exact (ax_run_eq _ _ _ _ _).trans rfl
set_option maxRecDepth 100000 in
theorem q_X5_warmerBits_0 {c : Nat} (hc : isS c)  (h : ax_Hp) : ax_run m_X5_warmerBits 0 [(0, .ref c)] [] h = ax_run m_X5_warmerBits 4 [(0, .ref c), (1, .int 0), (2, .int 0)] [] h := by
  rcases hc with rfl | rfl
  · exact (ax_run_eq _ _ _ _ _).trans rfl
  · exact (ax_run_eq _ _ _ _ _).trans rfl
set_option maxRecDepth 100000 in
theorem q_X5_warmerBits_4 {c : Nat} (hc : isS c) (x1 : Int32) (x2 : Int32) (h : ax_Hp) : ax_run m_X5_warmerBits 4 [(0, .ref c), (1, .int x1), (2, .int x2)] [] h = if h.1 c 0 ≤ x2 then ax_run m_X5_warmerBits 57 [(1, .int x1)] [] h else ax_g (ax_in x2 7) (ax_g (ax_in x2 7) ((rI m_X2_coverOf [.int (h.1 (c + 1) x2.toNatClampNeg), .int (h.1 (c + 2) x2.toNatClampNeg), .int (((h.1 c 1) + 1) - ((h.1 c 1) + 1) / 6 * 6)] h).bind (fun q1 => ax_g (ax_in x2 7) (if q1.1 ≤ q1.2.1 (c + 9) x2.toNatClampNeg then ax_run m_X5_warmerBits 51 [(0, .ref c), (1, .int x1), (2, .int x2)] [] q1.2 else ax_run m_X5_warmerBits 51 [(0, .ref c), (1, .int (x1 ||| (1 <<< (x2 &&& 31)))), (2, .int x2)] [] q1.2)))) := by
  rcases hc with rfl | rfl
  · exact (ax_run_eq _ _ _ _ _).trans rfl
  · exact (ax_run_eq _ _ _ _ _).trans rfl
set_option maxRecDepth 100000 in
theorem q_X5_warmerBits_51 {c : Nat} (hc : isS c) (x1 : Int32) (x2 : Int32) (h : ax_Hp) : ax_run m_X5_warmerBits 51 [(0, .ref c), (1, .int x1), (2, .int x2)] [] h = ax_run m_X5_warmerBits 4 [(0, .ref c), (1, .int x1), (2, .int (x2 + 1))] [] h := by
  rcases hc with rfl | rfl
  · exact (ax_run_eq _ _ _ _ _).trans rfl
  · exact (ax_run_eq _ _ _ _ _).trans rfl
set_option maxRecDepth 100000 in
theorem q_X5_warmerBits_57 {c : Nat} (hc : isS c) (x1 : Int32) (h : ax_Hp) : ax_run m_X5_warmerBits 57 [(1, .int x1)] [] h = some (some (.int x1), h) := by
  rcases hc with rfl | rfl
  · exact (ax_run_eq _ _ _ _ _).trans rfl
  · exact (ax_run_eq _ _ _ _ _).trans rfl
set_option maxRecDepth 100000 in
theorem q_X5_setNeed_0 {c : Nat} (hc : isS c) (x1 : Int32) (x2 : Int32) (x3 : Int32) (h : ax_Hp) : ax_run m_X5_setNeed 0 [(0, .ref c), (1, .int x1), (2, .int x2), (3, .int x3)] [] h = (rI m_X7_isHouse [.int x1] h).bind (fun q1 => if q1.1 = 0 then ax_run m_X5_setNeed 29 [] [] q1.2 else if x2 < 0 then ax_run m_X5_setNeed 29 [] [] q1.2 else if 6 ≤ x2 then ax_run m_X5_setNeed 29 [] [] q1.2 else ax_g (ax_in ((x1 * 6) + x2) 48) (ax_run m_X5_setNeed 29 [] [] (wI q1.2 (c + 7) ((x1 * 6) + x2).toNatClampNeg x3))) := by
  rcases hc with rfl | rfl
  · exact (ax_run_eq _ _ _ _ _).trans rfl
  · exact (ax_run_eq _ _ _ _ _).trans rfl
set_option maxRecDepth 100000 in
theorem q_X5_setNeed_29 {c : Nat} (hc : isS c)  (h : ax_Hp) : ax_run m_X5_setNeed 29 [] [] h = some (none, h) := by
  rcases hc with rfl | rfl
  · exact (ax_run_eq _ _ _ _ _).trans rfl
  · exact (ax_run_eq _ _ _ _ _).trans rfl
set_option maxRecDepth 100000 in
theorem q_X2_panesOf_0 (x0 : Int32) (x1 : Int32) (h : ax_Hp) : ax_run m_X2_panesOf 0 [(0, .int x0), (1, .int x1)] [] h = if x0 = 3 then some (some (.int (1 + (x1 / 2))), h) else ax_run m_X2_panesOf 13 [(0, .int x0), (2, .int (1 + (x1 / 2)))] [] h := (ax_run_eq _ _ _ _ _).trans rfl
set_option maxRecDepth 100000 in
theorem q_X2_panesOf_13 (x0 : Int32) (x2 : Int32) (h : ax_Hp) : ax_run m_X2_panesOf 13 [(0, .int x0), (2, .int x2)] [] h = if x0 = 5 then ax_run m_X2_panesOf 25 [] [.int (x2 + 3)] h else ax_run m_X2_panesOf 24 [] [] h := (ax_run_eq _ _ _ _ _).trans rfl
set_option maxRecDepth 100000 in
theorem q_X2_panesOf_24  (h : ax_Hp) : ax_run m_X2_panesOf 24 [] [] h = ax_run m_X2_panesOf 25 [] [.int 0] h := (ax_run_eq _ _ _ _ _).trans rfl
set_option maxRecDepth 100000 in
theorem q_X2_panesOf_25 (s0 : Int32) (h : ax_Hp) : ax_run m_X2_panesOf 25 [] [.int s0] h = some (some (.int s0), h) := (ax_run_eq _ _ _ _ _).trans rfl
set_option maxRecDepth 100000 in
theorem q_X5_wallsAt_0 {c : Nat} (hc : isS c) (x1 : Int32) (h : ax_Hp) : ax_run m_X5_wallsAt 0 [(0, .ref c), (1, .int x1)] [] h = ax_run m_X5_wallsAt 4 [(0, .ref c), (1, .int x1), (2, .int 0), (3, .int 0)] [] h := by
  rcases hc with rfl | rfl
  · exact (ax_run_eq _ _ _ _ _).trans rfl
  · exact (ax_run_eq _ _ _ _ _).trans rfl
set_option maxRecDepth 100000 in
theorem q_X5_wallsAt_4 {c : Nat} (hc : isS c) (x1 : Int32) (x2 : Int32) (x3 : Int32) (h : ax_Hp) : ax_run m_X5_wallsAt 4 [(0, .ref c), (1, .int x1), (2, .int x2), (3, .int x3)] [] h = if h.1 c 0 ≤ x3 then ax_run m_X5_wallsAt 34 [(2, .int x2)] [] h else ax_g (ax_in x3 7) (if h.1 (c + 4) x3.toNatClampNeg = x1 then ax_run m_X5_wallsAt 28 [(0, .ref c), (1, .int x1), (2, .int (x2 ||| (1 <<< (x3 &&& 31)))), (3, .int x3)] [] h else ax_run m_X5_wallsAt 28 [(0, .ref c), (1, .int x1), (2, .int x2), (3, .int x3)] [] h) := by
  rcases hc with rfl | rfl
  · exact (ax_run_eq _ _ _ _ _).trans rfl
  · exact (ax_run_eq _ _ _ _ _).trans rfl
set_option maxRecDepth 100000 in
theorem q_X5_wallsAt_28 {c : Nat} (hc : isS c) (x1 : Int32) (x2 : Int32) (x3 : Int32) (h : ax_Hp) : ax_run m_X5_wallsAt 28 [(0, .ref c), (1, .int x1), (2, .int x2), (3, .int x3)] [] h = ax_run m_X5_wallsAt 4 [(0, .ref c), (1, .int x1), (2, .int x2), (3, .int (x3 + 1))] [] h := by
  rcases hc with rfl | rfl
  · exact (ax_run_eq _ _ _ _ _).trans rfl
  · exact (ax_run_eq _ _ _ _ _).trans rfl
set_option maxRecDepth 100000 in
theorem q_X5_wallsAt_34 {c : Nat} (hc : isS c) (x2 : Int32) (h : ax_Hp) : ax_run m_X5_wallsAt 34 [(2, .int x2)] [] h = some (some (.int x2), h) := by
  rcases hc with rfl | rfl
  · exact (ax_run_eq _ _ _ _ _).trans rfl
  · exact (ax_run_eq _ _ _ _ _).trans rfl
set_option maxRecDepth 100000 in
theorem q_X5_isWall_0 {c : Nat} (hc : isS c) (x1 : Int32) (h : ax_Hp) : ax_run m_X5_isWall 0 [(0, .ref c), (1, .int x1)] [] h = if x1 < 0 then ax_run m_X5_isWall 16 [] [] h else if h.1 c 0 ≤ x1 then ax_run m_X5_isWall 16 [] [] h else ax_run m_X5_isWall 17 [] [.int 1] h := by
  rcases hc with rfl | rfl
  · exact (ax_run_eq _ _ _ _ _).trans rfl
  · exact (ax_run_eq _ _ _ _ _).trans rfl
set_option maxRecDepth 100000 in
theorem q_X5_isWall_16 {c : Nat} (hc : isS c)  (h : ax_Hp) : ax_run m_X5_isWall 16 [] [] h = ax_run m_X5_isWall 17 [] [.int 0] h := by
  rcases hc with rfl | rfl
  · exact (ax_run_eq _ _ _ _ _).trans rfl
  · exact (ax_run_eq _ _ _ _ _).trans rfl
set_option maxRecDepth 100000 in
theorem q_X5_isWall_17 {c : Nat} (hc : isS c) (s0 : Int32) (h : ax_Hp) : ax_run m_X5_isWall 17 [] [.int s0] h = if s0 = 0 ∨ s0 = 1 then some (some (.int s0), h) else none := by
  rcases hc with rfl | rfl
  · exact (ax_run_eq _ _ _ _ _).trans rfl
  · exact (ax_run_eq _ _ _ _ _).trans rfl
set_option maxRecDepth 100000 in
theorem q_X5_allHoles_0 {c : Nat} (hc : isS c)  (h : ax_Hp) : ax_run m_X5_allHoles 0 [(0, .ref c)] [] h = ax_run m_X5_allHoles 4 [(0, .ref c), (1, .int 0), (2, .int 0)] [] h := by
  rcases hc with rfl | rfl
  · exact (ax_run_eq _ _ _ _ _).trans rfl
  · exact (ax_run_eq _ _ _ _ _).trans rfl
set_option maxRecDepth 100000 in
theorem q_X5_allHoles_4 {c : Nat} (hc : isS c) (x1 : Int32) (x2 : Int32) (h : ax_Hp) : ax_run m_X5_allHoles 4 [(0, .ref c), (1, .int x1), (2, .int x2)] [] h = if h.1 c 0 ≤ x2 then ax_run m_X5_allHoles 27 [(1, .int x1)] [] h else ax_g (ax_in x2 7) (ax_run m_X5_allHoles 4 [(0, .ref c), (1, .int (x1 + (h.1 (c + 5) x2.toNatClampNeg))), (2, .int (x2 + 1))] [] h) := by
  rcases hc with rfl | rfl
  · exact (ax_run_eq _ _ _ _ _).trans rfl
  · exact (ax_run_eq _ _ _ _ _).trans rfl
set_option maxRecDepth 100000 in
theorem q_X5_allHoles_27 {c : Nat} (hc : isS c) (x1 : Int32) (h : ax_Hp) : ax_run m_X5_allHoles 27 [(1, .int x1)] [] h = some (some (.int x1), h) := by
  rcases hc with rfl | rfl
  · exact (ax_run_eq _ _ _ _ _).trans rfl
  · exact (ax_run_eq _ _ _ _ _).trans rfl
set_option maxRecDepth 100000 in
theorem q_X5_coldestPart_0 {c : Nat} (hc : isS c)  (h : ax_Hp) : ax_run m_X5_coldestPart 0 [(0, .ref c)] [] h = ax_run m_X5_coldestPart 4 [(0, .ref c), (1, .int 0), (2, .int 1)] [] h := by
  rcases hc with rfl | rfl
  · exact (ax_run_eq _ _ _ _ _).trans rfl
  · exact (ax_run_eq _ _ _ _ _).trans rfl
set_option maxRecDepth 100000 in
theorem q_X5_coldestPart_4 {c : Nat} (hc : isS c) (x1 : Int32) (x2 : Int32) (h : ax_Hp) : ax_run m_X5_coldestPart 4 [(0, .ref c), (1, .int x1), (2, .int x2)] [] h = if 6 ≤ x2 then ax_run m_X5_coldestPart 31 [(1, .int x1)] [] h else (rI m_X5_needsAt [.ref c, .int x2] h).bind (fun q1 => (rI m_X5_needsAt [.ref c, .int x1] q1.2).bind (fun q2 => if q1.1 ≤ q2.1 then ax_run m_X5_coldestPart 25 [(0, .ref c), (1, .int x1), (2, .int x2)] [] q2.2 else ax_run m_X5_coldestPart 25 [(0, .ref c), (1, .int x2), (2, .int x2)] [] q2.2)) := by
  rcases hc with rfl | rfl
  · exact (ax_run_eq _ _ _ _ _).trans rfl
  · exact (ax_run_eq _ _ _ _ _).trans rfl
set_option maxRecDepth 100000 in
theorem q_X5_coldestPart_25 {c : Nat} (hc : isS c) (x1 : Int32) (x2 : Int32) (h : ax_Hp) : ax_run m_X5_coldestPart 25 [(0, .ref c), (1, .int x1), (2, .int x2)] [] h = ax_run m_X5_coldestPart 4 [(0, .ref c), (1, .int x1), (2, .int (x2 + 1))] [] h := by
  rcases hc with rfl | rfl
  · exact (ax_run_eq _ _ _ _ _).trans rfl
  · exact (ax_run_eq _ _ _ _ _).trans rfl
set_option maxRecDepth 100000 in
theorem q_X5_coldestPart_31 {c : Nat} (hc : isS c) (x1 : Int32) (h : ax_Hp) : ax_run m_X5_coldestPart 31 [(1, .int x1)] [] h = some (some (.int x1), h) := by
  rcases hc with rfl | rfl
  · exact (ax_run_eq _ _ _ _ _).trans rfl
  · exact (ax_run_eq _ _ _ _ _).trans rfl
set_option maxRecDepth 100000 in
theorem q_X5_copyFrom_0_k12_1  (h : ax_Hp) : ax_run m_X5_copyFrom 0 [(0, .ref 12), (1, .ref 1)] [] h = some (none, cpA (cpA (cpA (cpA (cpA (cpA (cpA (cpA (cpA (cpA (wI (wI (wI h 12 0 (h.1 1 0)) 12 1 ((wI h 12 0 (h.1 1 0)).1 1 1)) 12 2 ((wI (wI h 12 0 (h.1 1 0)) 12 1 ((wI h 12 0 (h.1 1 0)).1 1 1)).1 1 2)) 13 2) 14 3) 15 4) 16 5) 17 6) 18 7) 19 8) 20 9) 21 10) 22 11) := (ax_run_eq _ _ _ _ _).trans rfl
set_option maxRecDepth 100000 in
theorem q_X5_addWall_0 {c : Nat} (hc : isS c) (x1 : Int32) (x2 : Int32) (x3 : Int32) (h : ax_Hp) : ax_run m_X5_addWall 0 [(0, .ref c), (1, .int x1), (2, .int x2), (3, .int x3)] [] h = if 7 ≤ h.1 c 0 then ax_run m_X5_addWall 16 [] [] h else (rI m_X7_isHouse [.int x3] h).bind (fun q1 => if q1.1 = 0 then ax_run m_X5_addWall 16 [] [] q1.2 else ax_run m_X5_addWall 17 [(0, .ref c), (1, .int x1), (2, .int x2), (3, .int x3)] [] q1.2) := by
  rcases hc with rfl | rfl
  · exact (ax_run_eq _ _ _ _ _).trans rfl
  · exact (ax_run_eq _ _ _ _ _).trans rfl
set_option maxRecDepth 100000 in
theorem q_X5_addWall_16 {c : Nat} (hc : isS c)  (h : ax_Hp) : ax_run m_X5_addWall 16 [] [] h = some (none, h) := by
  rcases hc with rfl | rfl
  · exact (ax_run_eq _ _ _ _ _).trans rfl
  · exact (ax_run_eq _ _ _ _ _).trans rfl
set_option maxRecDepth 100000 in
theorem q_X5_addWall_17 {c : Nat} (hc : isS c) (x1 : Int32) (x2 : Int32) (x3 : Int32) (h : ax_Hp) : ax_run m_X5_addWall 17 [(0, .ref c), (1, .int x1), (2, .int x2), (3, .int x3)] [] h = ax_g (ax_in (h.1 c 0) 7) (ax_g (ax_in (h.1 c 0) 7) (ax_g (ax_in (h.1 c 0) 7) (ax_g (ax_in (h.1 c 0) 7) (ax_g (ax_in (h.1 c 0) 7) ((rV m_X5_weigh [.ref c] (wI (wI (wI (wI (wI (wI h c 0 ((h.1 c 0) + 1)) (c + 1) (h.1 c 0).toNatClampNeg x1) (c + 2) (h.1 c 0).toNatClampNeg x2) (c + 3) (h.1 c 0).toNatClampNeg x3) (c + 4) (h.1 c 0).toNatClampNeg x3) (c + 5) (h.1 c 0).toNatClampNeg 0)).bind (fun q1 => some (none, q1))))))) := by
  rcases hc with rfl | rfl
  · exact (ax_run_eq _ _ _ _ _).trans rfl
  · exact (ax_run_eq _ _ _ _ _).trans rfl
set_option maxRecDepth 100000 in
theorem q_X5_lackWithout_0 {c : Nat} (hc : isS c) (x1 : Int32) (h : ax_Hp) : ax_run m_X5_lackWithout 0 [(0, .ref c), (1, .int x1)] [] h = ax_g (ax_in x1 7) ((rI m_X5_needOf [.ref c, .int (h.1 (c + 4) x1.toNatClampNeg)] h).bind (fun q1 => ax_g (ax_in (h.1 (c + 4) x1.toNatClampNeg) 8) (ax_g (ax_in x1 7) (some (some (.int (if 0 < (q1.1 - (q1.2.1 (c + 10) (h.1 (c + 4) x1.toNatClampNeg).toNatClampNeg)) + (q1.2.1 (c + 9) x1.toNatClampNeg) then (q1.1 - (q1.2.1 (c + 10) (h.1 (c + 4) x1.toNatClampNeg).toNatClampNeg)) + (q1.2.1 (c + 9) x1.toNatClampNeg) else 0)), q1.2))))) := by
  rcases hc with rfl | rfl
  · exact (ax_run_eq _ _ _ _ _).trans rfl
  · exact (ax_run_eq _ _ _ _ _).trans rfl
set_option maxRecDepth 100000 in
theorem q_X5_isLent_0 {c : Nat} (hc : isS c) (x1 : Int32) (h : ax_Hp) : ax_run m_X5_isLent 0 [(0, .ref c), (1, .int x1)] [] h = ax_g (ax_in x1 7) (ax_g (ax_in x1 7) (if h.1 (c + 4) x1.toNatClampNeg = h.1 (c + 3) x1.toNatClampNeg then ax_run m_X5_isLent 19 [] [] h else ax_run m_X5_isLent 20 [] [.int 1] h)) := by
  rcases hc with rfl | rfl
  · exact (ax_run_eq _ _ _ _ _).trans rfl
  · exact (ax_run_eq _ _ _ _ _).trans rfl
set_option maxRecDepth 100000 in
theorem q_X5_isLent_19 {c : Nat} (hc : isS c)  (h : ax_Hp) : ax_run m_X5_isLent 19 [] [] h = ax_run m_X5_isLent 20 [] [.int 0] h := by
  rcases hc with rfl | rfl
  · exact (ax_run_eq _ _ _ _ _).trans rfl
  · exact (ax_run_eq _ _ _ _ _).trans rfl
set_option maxRecDepth 100000 in
theorem q_X5_isLent_20 {c : Nat} (hc : isS c) (s0 : Int32) (h : ax_Hp) : ax_run m_X5_isLent 20 [] [.int s0] h = if s0 = 0 ∨ s0 = 1 then some (some (.int s0), h) else none := by
  rcases hc with rfl | rfl
  · exact (ax_run_eq _ _ _ _ _).trans rfl
  · exact (ax_run_eq _ _ _ _ _).trans rfl
set_option maxRecDepth 100000 in
theorem q_X5_weigh_0 {c : Nat} (hc : isS c)  (h : ax_Hp) : ax_run m_X5_weigh 0 [(0, .ref c)] [] h = ax_run m_X5_weigh 2 [(0, .ref c), (1, .int 0)] [] h := by
  rcases hc with rfl | rfl
  · exact (ax_run_eq _ _ _ _ _).trans rfl
  · exact (ax_run_eq _ _ _ _ _).trans rfl
set_option maxRecDepth 100000 in
theorem q_X5_weigh_2 {c : Nat} (hc : isS c) (x1 : Int32) (h : ax_Hp) : ax_run m_X5_weigh 2 [(0, .ref c), (1, .int x1)] [] h = if 8 ≤ x1 then ax_run m_X5_weigh 21 [(0, .ref c)] [] h else ax_g (ax_in x1 8) (ax_run m_X5_weigh 2 [(0, .ref c), (1, .int (x1 + 1))] [] (wI h (c + 10) x1.toNatClampNeg 0)) := by
  rcases hc with rfl | rfl
  · exact (ax_run_eq _ _ _ _ _).trans rfl
  · exact (ax_run_eq _ _ _ _ _).trans rfl
set_option maxRecDepth 100000 in
theorem q_X5_weigh_21 {c : Nat} (hc : isS c)  (h : ax_Hp) : ax_run m_X5_weigh 21 [(0, .ref c)] [] h = ax_run m_X5_weigh 23 [(0, .ref c), (1, .int 0)] [] h := by
  rcases hc with rfl | rfl
  · exact (ax_run_eq _ _ _ _ _).trans rfl
  · exact (ax_run_eq _ _ _ _ _).trans rfl
set_option maxRecDepth 100000 in
theorem q_X5_weigh_23 {c : Nat} (hc : isS c) (x1 : Int32) (h : ax_Hp) : ax_run m_X5_weigh 23 [(0, .ref c), (1, .int x1)] [] h = if h.1 c 0 ≤ x1 then ax_run m_X5_weigh 85 [] [] h else ax_g (ax_in x1 7) (ax_g (ax_in x1 7) ((rI m_X2_coverOf [.int (h.1 (c + 1) x1.toNatClampNeg), .int (h.1 (c + 2) x1.toNatClampNeg), .int ((h.1 c 1) - (h.1 c 1) / 6 * 6)] h).bind (fun q1 => ax_g (ax_in x1 7) (ax_g (ax_in x1 7) (ax_g (ax_in ((wI q1.2 (c + 9) x1.toNatClampNeg q1.1).1 (c + 4) x1.toNatClampNeg) 8) (ax_g (ax_in x1 7) (ax_g (ax_in ((wI q1.2 (c + 9) x1.toNatClampNeg q1.1).1 (c + 4) x1.toNatClampNeg) 8) (ax_run m_X5_weigh 23 [(0, .ref c), (1, .int (x1 + 1))] [] (wI (wI q1.2 (c + 9) x1.toNatClampNeg q1.1) (c + 10) ((wI q1.2 (c + 9) x1.toNatClampNeg q1.1).1 (c + 4) x1.toNatClampNeg).toNatClampNeg (((wI q1.2 (c + 9) x1.toNatClampNeg q1.1).1 (c + 10) ((wI q1.2 (c + 9) x1.toNatClampNeg q1.1).1 (c + 4) x1.toNatClampNeg).toNatClampNeg) + ((wI q1.2 (c + 9) x1.toNatClampNeg q1.1).1 (c + 9) x1.toNatClampNeg))))))))))) := by
  rcases hc with rfl | rfl
  · exact (ax_run_eq _ _ _ _ _).trans rfl
  · exact (ax_run_eq _ _ _ _ _).trans rfl
set_option maxRecDepth 100000 in
theorem q_X5_weigh_85 {c : Nat} (hc : isS c)  (h : ax_Hp) : ax_run m_X5_weigh 85 [] [] h = some (none, h) := by
  rcases hc with rfl | rfl
  · exact (ax_run_eq _ _ _ _ _).trans rfl
  · exact (ax_run_eq _ _ _ _ _).trans rfl
set_option maxRecDepth 100000 in
theorem q_X5_passHour_0 {c : Nat} (hc : isS c)  (h : ax_Hp) : ax_run m_X5_passHour 0 [(0, .ref c)] [] h = (rV m_X5_weigh [.ref c] (wI h c 1 ((h.1 c 1) + 1))).bind (fun q1 => ax_run m_X5_passHour 16 [(0, .ref c), (1, .int 0)] [] q1) := by
  rcases hc with rfl | rfl
  · exact (ax_run_eq _ _ _ _ _).trans rfl
  · exact (ax_run_eq _ _ _ _ _).trans rfl
set_option maxRecDepth 100000 in
theorem q_X5_passHour_16 {c : Nat} (hc : isS c) (x1 : Int32) (h : ax_Hp) : ax_run m_X5_passHour 16 [(0, .ref c), (1, .int x1)] [] h = if h.1 c 0 ≤ x1 then ax_run m_X5_passHour 102 [] [] h else ax_g (ax_in x1 7) ((rI m_X5_nextHouse [.ref c, .int x1] h).bind (fun q1 => ax_g (ax_in x1 7) (if q1.1 = h.1 (c + 4) x1.toNatClampNeg then ax_run m_X5_passHour 96 [(0, .ref c), (1, .int x1)] [] (wI q1.2 (c + 6) x1.toNatClampNeg (h.1 (c + 4) x1.toNatClampNeg)) else ax_g (ax_in (h.1 (c + 4) x1.toNatClampNeg) 8) (ax_g (ax_in x1 7) (ax_g (ax_in (h.1 (c + 4) x1.toNatClampNeg) 8) (ax_g (ax_in q1.1 8) (ax_g (ax_in x1 7) (ax_g (ax_in q1.1 8) (ax_g (ax_in x1 7) (ax_g (ax_in x1 7) (ax_g (ax_in x1 7) (ax_run m_X5_passHour 96 [(0, .ref c), (1, .int x1)] [] (wI (wI (wI (wI (wI q1.2 (c + 6) x1.toNatClampNeg (h.1 (c + 4) x1.toNatClampNeg)) (c + 10) (h.1 (c + 4) x1.toNatClampNeg).toNatClampNeg (((wI q1.2 (c + 6) x1.toNatClampNeg (h.1 (c + 4) x1.toNatClampNeg)).1 (c + 10) (h.1 (c + 4) x1.toNatClampNeg).toNatClampNeg) - ((wI q1.2 (c + 6) x1.toNatClampNeg (h.1 (c + 4) x1.toNatClampNeg)).1 (c + 9) x1.toNatClampNeg))) (c + 10) q1.1.toNatClampNeg (((wI (wI q1.2 (c + 6) x1.toNatClampNeg (h.1 (c + 4) x1.toNatClampNeg)) (c + 10) (h.1 (c + 4) x1.toNatClampNeg).toNatClampNeg (((wI q1.2 (c + 6) x1.toNatClampNeg (h.1 (c + 4) x1.toNatClampNeg)).1 (c + 10) (h.1 (c + 4) x1.toNatClampNeg).toNatClampNeg) - ((wI q1.2 (c + 6) x1.toNatClampNeg (h.1 (c + 4) x1.toNatClampNeg)).1 (c + 9) x1.toNatClampNeg))).1 (c + 10) q1.1.toNatClampNeg) + ((wI (wI q1.2 (c + 6) x1.toNatClampNeg (h.1 (c + 4) x1.toNatClampNeg)) (c + 10) (h.1 (c + 4) x1.toNatClampNeg).toNatClampNeg (((wI q1.2 (c + 6) x1.toNatClampNeg (h.1 (c + 4) x1.toNatClampNeg)).1 (c + 10) (h.1 (c + 4) x1.toNatClampNeg).toNatClampNeg) - ((wI q1.2 (c + 6) x1.toNatClampNeg (h.1 (c + 4) x1.toNatClampNeg)).1 (c + 9) x1.toNatClampNeg))).1 (c + 9) x1.toNatClampNeg))) (c + 4) x1.toNatClampNeg q1.1) (c + 5) x1.toNatClampNeg (((wI (wI (wI (wI q1.2 (c + 6) x1.toNatClampNeg (h.1 (c + 4) x1.toNatClampNeg)) (c + 10) (h.1 (c + 4) x1.toNatClampNeg).toNatClampNeg (((wI q1.2 (c + 6) x1.toNatClampNeg (h.1 (c + 4) x1.toNatClampNeg)).1 (c + 10) (h.1 (c + 4) x1.toNatClampNeg).toNatClampNeg) - ((wI q1.2 (c + 6) x1.toNatClampNeg (h.1 (c + 4) x1.toNatClampNeg)).1 (c + 9) x1.toNatClampNeg))) (c + 10) q1.1.toNatClampNeg (((wI (wI q1.2 (c + 6) x1.toNatClampNeg (h.1 (c + 4) x1.toNatClampNeg)) (c + 10) (h.1 (c + 4) x1.toNatClampNeg).toNatClampNeg (((wI q1.2 (c + 6) x1.toNatClampNeg (h.1 (c + 4) x1.toNatClampNeg)).1 (c + 10) (h.1 (c + 4) x1.toNatClampNeg).toNatClampNeg) - ((wI q1.2 (c + 6) x1.toNatClampNeg (h.1 (c + 4) x1.toNatClampNeg)).1 (c + 9) x1.toNatClampNeg))).1 (c + 10) q1.1.toNatClampNeg) + ((wI (wI q1.2 (c + 6) x1.toNatClampNeg (h.1 (c + 4) x1.toNatClampNeg)) (c + 10) (h.1 (c + 4) x1.toNatClampNeg).toNatClampNeg (((wI q1.2 (c + 6) x1.toNatClampNeg (h.1 (c + 4) x1.toNatClampNeg)).1 (c + 10) (h.1 (c + 4) x1.toNatClampNeg).toNatClampNeg) - ((wI q1.2 (c + 6) x1.toNatClampNeg (h.1 (c + 4) x1.toNatClampNeg)).1 (c + 9) x1.toNatClampNeg))).1 (c + 9) x1.toNatClampNeg))) (c + 4) x1.toNatClampNeg q1.1).1 (c + 5) x1.toNatClampNeg) + 1)))))))))))))) := by
  rcases hc with rfl | rfl
  · exact (ax_run_eq _ _ _ _ _).trans rfl
  · exact (ax_run_eq _ _ _ _ _).trans rfl
set_option maxRecDepth 100000 in
theorem q_X5_passHour_96 {c : Nat} (hc : isS c) (x1 : Int32) (h : ax_Hp) : ax_run m_X5_passHour 96 [(0, .ref c), (1, .int x1)] [] h = ax_run m_X5_passHour 16 [(0, .ref c), (1, .int (x1 + 1))] [] h := by
  rcases hc with rfl | rfl
  · exact (ax_run_eq _ _ _ _ _).trans rfl
  · exact (ax_run_eq _ _ _ _ _).trans rfl
set_option maxRecDepth 100000 in
theorem q_X5_passHour_102 {c : Nat} (hc : isS c)  (h : ax_Hp) : ax_run m_X5_passHour 102 [] [] h = some (none, h) := by
  rcases hc with rfl | rfl
  · exact (ax_run_eq _ _ _ _ _).trans rfl
  · exact (ax_run_eq _ _ _ _ _).trans rfl
set_option maxRecDepth 100000 in
theorem q_X2_coverOf_0 (x0 : Int32) (x1 : Int32) (x2 : Int32) (h : ax_Hp) : ax_run m_X2_coverOf 0 [(0, .int x0), (1, .int x1), (2, .int x2)] [] h = if x0 = 1 then ax_run m_X2_coverOf 40 [(2, .int x2), (3, .int (x1 + 1))] [] h else if x0 = 2 then ax_run m_X2_coverOf 53 [(3, .int (x1 + 1))] [] h else if x0 = 3 then ax_run m_X2_coverOf 67 [(3, .int (x1 + 1))] [] h else if x0 = 4 then ax_run m_X2_coverOf 57 [(3, .int (x1 + 1))] [] h else if x0 = 5 then ax_run m_X2_coverOf 63 [(3, .int (x1 + 1))] [] h else ax_run m_X2_coverOf 67 [(3, .int (x1 + 1))] [] h := (ax_run_eq _ _ _ _ _).trans rfl
set_option maxRecDepth 100000 in
theorem q_X2_coverOf_40 (x2 : Int32) (x3 : Int32) (h : ax_Hp) : ax_run m_X2_coverOf 40 [(2, .int x2), (3, .int x3)] [] h = if 2 < x2 then ax_run m_X2_coverOf 51 [(3, .int x3)] [] h else ax_run m_X2_coverOf 52 [] [.int (x3 + 3)] h := (ax_run_eq _ _ _ _ _).trans rfl
set_option maxRecDepth 100000 in
theorem q_X2_coverOf_51 (x3 : Int32) (h : ax_Hp) : ax_run m_X2_coverOf 51 [(3, .int x3)] [] h = ax_run m_X2_coverOf 52 [] [.int x3] h := (ax_run_eq _ _ _ _ _).trans rfl
set_option maxRecDepth 100000 in
theorem q_X2_coverOf_52 (s0 : Int32) (h : ax_Hp) : ax_run m_X2_coverOf 52 [] [.int s0] h = some (some (.int s0), h) := (ax_run_eq _ _ _ _ _).trans rfl
set_option maxRecDepth 100000 in
theorem q_X2_coverOf_53 (x3 : Int32) (h : ax_Hp) : ax_run m_X2_coverOf 53 [(3, .int x3)] [] h = some (some (.int (x3 / 2)), h) := (ax_run_eq _ _ _ _ _).trans rfl
set_option maxRecDepth 100000 in
theorem q_X2_coverOf_57 (x3 : Int32) (h : ax_Hp) : ax_run m_X2_coverOf 57 [(3, .int x3)] [] h = some (some (.int ((x3 / 2) + 1)), h) := (ax_run_eq _ _ _ _ _).trans rfl
set_option maxRecDepth 100000 in
theorem q_X2_coverOf_63 (x3 : Int32) (h : ax_Hp) : ax_run m_X2_coverOf 63 [(3, .int x3)] [] h = some (some (.int (2 * x3)), h) := (ax_run_eq _ _ _ _ _).trans rfl
set_option maxRecDepth 100000 in
theorem q_X2_coverOf_67 (x3 : Int32) (h : ax_Hp) : ax_run m_X2_coverOf 67 [(3, .int x3)] [] h = some (some (.int x3), h) := (ax_run_eq _ _ _ _ _).trans rfl
set_option maxRecDepth 100000 in
theorem q_X5_copyFrom_0_k23_1  (h : ax_Hp) : ax_run m_X5_copyFrom 0 [(0, .ref 23), (1, .ref 1)] [] h = some (none, cpA (cpA (cpA (cpA (cpA (cpA (cpA (cpA (cpA (cpA (wI (wI (wI h 23 0 (h.1 1 0)) 23 1 ((wI h 23 0 (h.1 1 0)).1 1 1)) 23 2 ((wI (wI h 23 0 (h.1 1 0)) 23 1 ((wI h 23 0 (h.1 1 0)).1 1 1)).1 1 2)) 24 2) 25 3) 26 4) 27 5) 28 6) 29 7) 30 8) 31 9) 32 10) 33 11) := (ax_run_eq _ _ _ _ _).trans rfl
set_option maxRecDepth 100000 in
theorem q_X5_nextHouse_0 {c : Nat} (hc : isS c) (x1 : Int32) (h : ax_Hp) : ax_run m_X5_nextHouse 0 [(0, .ref c), (1, .int x1)] [] h = ax_g (ax_in x1 7) (ax_g (ax_in x1 7) (if h.1 (c + 3) x1.toNatClampNeg = h.1 (c + 4) x1.toNatClampNeg then ax_run m_X5_nextHouse 39 [(0, .ref c), (1, .int x1), (2, .int (h.1 (c + 4) x1.toNatClampNeg))] [] h else (rI m_X5_lackOf [.ref c, .int (h.1 (c + 3) x1.toNatClampNeg)] h).bind (fun q1 => if q1.1 ≤ 0 then ax_run m_X5_nextHouse 39 [(0, .ref c), (1, .int x1), (2, .int (h.1 (c + 4) x1.toNatClampNeg))] [] q1.2 else (rI m_X5_canGo [.ref c, .int x1, .int (h.1 (c + 4) x1.toNatClampNeg), .int (h.1 (c + 3) x1.toNatClampNeg)] q1.2).bind (fun q2 => if q2.1 = 0 then ax_run m_X5_nextHouse 39 [(0, .ref c), (1, .int x1), (2, .int (h.1 (c + 4) x1.toNatClampNeg))] [] q2.2 else some (some (.int (h.1 (c + 3) x1.toNatClampNeg)), q2.2))))) := by
  rcases hc with rfl | rfl
  · exact (ax_run_eq _ _ _ _ _).trans rfl
  · exact (ax_run_eq _ _ _ _ _).trans rfl
set_option maxRecDepth 100000 in
theorem q_X5_nextHouse_39 {c : Nat} (hc : isS c) (x1 : Int32) (x2 : Int32) (h : ax_Hp) : ax_run m_X5_nextHouse 39 [(0, .ref c), (1, .int x1), (2, .int x2)] [] h = (rI m_X5_lackWithout [.ref c, .int x1] h).bind (fun q1 => ax_run m_X5_nextHouse 52 [(0, .ref c), (1, .int x1), (2, .int x2), (4, .int x2), (5, .int q1.1), (6, .int 0)] [] q1.2) := by
  rcases hc with rfl | rfl
  · exact (ax_run_eq _ _ _ _ _).trans rfl
  · exact (ax_run_eq _ _ _ _ _).trans rfl
set_option maxRecDepth 100000 in
theorem q_X5_nextHouse_52 {c : Nat} (hc : isS c) (x1 : Int32) (x2 : Int32) (x4 : Int32) (x5 : Int32) (x6 : Int32) (h : ax_Hp) : ax_run m_X5_nextHouse 52 [(0, .ref c), (1, .int x1), (2, .int x2), (4, .int x4), (5, .int x5), (6, .int x6)] [] h = if 8 ≤ x6 then ax_run m_X5_nextHouse 99 [(4, .int x4)] [] h else (rI m_X5_lackOf [.ref c, .int x6] h).bind (fun q1 => if q1.1 ≤ x5 then ax_run m_X5_nextHouse 93 [(0, .ref c), (1, .int x1), (2, .int x2), (4, .int x4), (5, .int x5), (6, .int x6)] [] q1.2 else (rI m_X5_canGo [.ref c, .int x1, .int x2, .int x6] q1.2).bind (fun q2 => if q2.1 = 0 then ax_run m_X5_nextHouse 93 [(0, .ref c), (1, .int x1), (2, .int x2), (4, .int x4), (5, .int x5), (6, .int x6)] [] q2.2 else (rI m_X5_lackOf [.ref c, .int x6] q2.2).bind (fun q3 => ax_run m_X5_nextHouse 93 [(0, .ref c), (1, .int x1), (2, .int x2), (4, .int x6), (5, .int q3.1), (6, .int x6)] [] q3.2))) := by
  rcases hc with rfl | rfl
  · exact (ax_run_eq _ _ _ _ _).trans rfl
  · exact (ax_run_eq _ _ _ _ _).trans rfl
set_option maxRecDepth 100000 in
theorem q_X5_nextHouse_93 {c : Nat} (hc : isS c) (x1 : Int32) (x2 : Int32) (x4 : Int32) (x5 : Int32) (x6 : Int32) (h : ax_Hp) : ax_run m_X5_nextHouse 93 [(0, .ref c), (1, .int x1), (2, .int x2), (4, .int x4), (5, .int x5), (6, .int x6)] [] h = ax_run m_X5_nextHouse 52 [(0, .ref c), (1, .int x1), (2, .int x2), (4, .int x4), (5, .int x5), (6, .int (x6 + 1))] [] h := by
  rcases hc with rfl | rfl
  · exact (ax_run_eq _ _ _ _ _).trans rfl
  · exact (ax_run_eq _ _ _ _ _).trans rfl
set_option maxRecDepth 100000 in
theorem q_X5_nextHouse_99 {c : Nat} (hc : isS c) (x4 : Int32) (h : ax_Hp) : ax_run m_X5_nextHouse 99 [(4, .int x4)] [] h = some (some (.int x4), h) := by
  rcases hc with rfl | rfl
  · exact (ax_run_eq _ _ _ _ _).trans rfl
  · exact (ax_run_eq _ _ _ _ _).trans rfl
set_option maxRecDepth 100000 in
theorem q_X5_canGo_0 {c : Nat} (hc : isS c) (x1 : Int32) (x2 : Int32) (x3 : Int32) (h : ax_Hp) : ax_run m_X5_canGo 0 [(0, .ref c), (1, .int x1), (2, .int x2), (3, .int x3)] [] h = if x2 = x3 then ax_run m_X5_canGo 39 [] [] h else ax_g (ax_in x2 8) ((rI m_X7_hasBit [.int (h.1 (c + 8) x2.toNatClampNeg), .int x3] h).bind (fun q1 => if q1.1 = 0 then ax_g (ax_in x1 7) ((rI m_X7_stepsBetween [.int x2, .int x3] q1.2).bind (fun q2 => (rI m_X2_strides [.int (q1.2.1 (c + 1) x1.toNatClampNeg), .int q2.1] q2.2).bind (fun q3 => if q3.1 = 0 then ax_run m_X5_canGo 39 [] [] q3.2 else ax_run m_X5_canGo 40 [] [.int 1] q3.2))) else ax_run m_X5_canGo 39 [] [] q1.2)) := by
  rcases hc with rfl | rfl
  · exact (ax_run_eq _ _ _ _ _).trans rfl
  · exact (ax_run_eq _ _ _ _ _).trans rfl
set_option maxRecDepth 100000 in
theorem q_X5_canGo_39 {c : Nat} (hc : isS c)  (h : ax_Hp) : ax_run m_X5_canGo 39 [] [] h = ax_run m_X5_canGo 40 [] [.int 0] h := by
  rcases hc with rfl | rfl
  · exact (ax_run_eq _ _ _ _ _).trans rfl
  · exact (ax_run_eq _ _ _ _ _).trans rfl
set_option maxRecDepth 100000 in
theorem q_X5_canGo_40 {c : Nat} (hc : isS c) (s0 : Int32) (h : ax_Hp) : ax_run m_X5_canGo 40 [] [.int s0] h = if s0 = 0 ∨ s0 = 1 then some (some (.int s0), h) else none := by
  rcases hc with rfl | rfl
  · exact (ax_run_eq _ _ _ _ _).trans rfl
  · exact (ax_run_eq _ _ _ _ _).trans rfl
set_option maxRecDepth 100000 in
theorem q_X2_strides_0 (x0 : Int32) (x1 : Int32) (h : ax_Hp) : ax_run m_X2_strides 0 [(0, .int x0), (1, .int x1)] [] h = if x1 - x1 / 2 * 2 = 0 then ax_run m_X2_strides 11 [(0, .int x0), (1, .int x1)] [.int 1] h else ax_run m_X2_strides 10 [(0, .int x0), (1, .int x1)] [] h := (ax_run_eq _ _ _ _ _).trans rfl
set_option maxRecDepth 100000 in
theorem q_X2_strides_10 (x0 : Int32) (x1 : Int32) (h : ax_Hp) : ax_run m_X2_strides 10 [(0, .int x0), (1, .int x1)] [] h = ax_run m_X2_strides 11 [(0, .int x0), (1, .int x1)] [.int 0] h := (ax_run_eq _ _ _ _ _).trans rfl
set_option maxRecDepth 100000 in
theorem q_X2_strides_11 (x0 : Int32) (x1 : Int32) (s0 : Int32) (h : ax_Hp) : ax_run m_X2_strides 11 [(0, .int x0), (1, .int x1)] [.int s0] h = if x0 = 2 then ax_run m_X2_strides 44 [] [] h else if x0 = 3 then ax_run m_X2_strides 46 [(2, .int s0)] [] h else if x0 = 4 then ax_run m_X2_strides 48 [(1, .int x1)] [] h else if x0 = 5 then ax_run m_X2_strides 59 [(1, .int x1), (2, .int s0)] [] h else ax_run m_X2_strides 74 [(1, .int x1)] [] h := (ax_run_eq _ _ _ _ _).trans rfl
set_option maxRecDepth 100000 in
theorem q_X2_strides_44  (h : ax_Hp) : ax_run m_X2_strides 44 [] [] h = some (some (.int 1), h) := (ax_run_eq _ _ _ _ _).trans rfl
set_option maxRecDepth 100000 in
theorem q_X2_strides_46 (x2 : Int32) (h : ax_Hp) : ax_run m_X2_strides 46 [(2, .int x2)] [] h = if x2 = 0 ∨ x2 = 1 then some (some (.int x2), h) else none := (ax_run_eq _ _ _ _ _).trans rfl
set_option maxRecDepth 100000 in
theorem q_X2_strides_48 (x1 : Int32) (h : ax_Hp) : ax_run m_X2_strides 48 [(1, .int x1)] [] h = if x1 = 1 then ax_run m_X2_strides 58 [] [.int 1] h else ax_run m_X2_strides 57 [] [] h := (ax_run_eq _ _ _ _ _).trans rfl
set_option maxRecDepth 100000 in
theorem q_X2_strides_57  (h : ax_Hp) : ax_run m_X2_strides 57 [] [] h = ax_run m_X2_strides 58 [] [.int 0] h := (ax_run_eq _ _ _ _ _).trans rfl
set_option maxRecDepth 100000 in
theorem q_X2_strides_58 (s0 : Int32) (h : ax_Hp) : ax_run m_X2_strides 58 [] [.int s0] h = if s0 = 0 ∨ s0 = 1 then some (some (.int s0), h) else none := (ax_run_eq _ _ _ _ _).trans rfl
set_option maxRecDepth 100000 in
theorem q_X2_strides_59 (x1 : Int32) (x2 : Int32) (h : ax_Hp) : ax_run m_X2_strides 59 [(1, .int x1), (2, .int x2)] [] h = if x2 = 0 then if x1 = 1 then ax_run m_X2_strides 68 [] [] h else ax_run m_X2_strides 72 [] [] h else ax_run m_X2_strides 68 [] [] h := (ax_run_eq _ _ _ _ _).trans rfl
set_option maxRecDepth 100000 in
theorem q_X2_strides_68  (h : ax_Hp) : ax_run m_X2_strides 68 [] [] h = ax_run m_X2_strides 73 [] [.int 1] h := (ax_run_eq _ _ _ _ _).trans rfl
set_option maxRecDepth 100000 in
theorem q_X2_strides_72  (h : ax_Hp) : ax_run m_X2_strides 72 [] [] h = ax_run m_X2_strides 73 [] [.int 0] h := (ax_run_eq _ _ _ _ _).trans rfl
set_option maxRecDepth 100000 in
theorem q_X2_strides_73 (s0 : Int32) (h : ax_Hp) : ax_run m_X2_strides 73 [] [.int s0] h = if s0 = 0 ∨ s0 = 1 then some (some (.int s0), h) else none := (ax_run_eq _ _ _ _ _).trans rfl
set_option maxRecDepth 100000 in
theorem q_X2_strides_74 (x1 : Int32) (h : ax_Hp) : ax_run m_X2_strides 74 [(1, .int x1)] [] h = if 3 < x1 then ax_run m_X2_strides 83 [] [] h else ax_run m_X2_strides 84 [] [.int 1] h := (ax_run_eq _ _ _ _ _).trans rfl
set_option maxRecDepth 100000 in
theorem q_X2_strides_83  (h : ax_Hp) : ax_run m_X2_strides 83 [] [] h = ax_run m_X2_strides 84 [] [.int 0] h := (ax_run_eq _ _ _ _ _).trans rfl
set_option maxRecDepth 100000 in
theorem q_X2_strides_84 (s0 : Int32) (h : ax_Hp) : ax_run m_X2_strides 84 [] [.int s0] h = if s0 = 0 ∨ s0 = 1 then some (some (.int s0), h) else none := (ax_run_eq _ _ _ _ _).trans rfl
end
