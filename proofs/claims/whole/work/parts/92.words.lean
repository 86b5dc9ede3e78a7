/-! the makers: words, rows, contracts (by wip/whole/gen92.py) -/
theorem ct_0 : (.instanceMethod objectInit : Cond) ∈ lw_tbl := List.mem_append_right _ (List.mem_append_left _ (List.mem_of_getElem? (i := 24) (rfl : tables_1_1[24]? = some _)))
theorem ct_1 : (.code objectInit ⟨#[0xb1]⟩ 1 none : Cond) ∈ lw_tbl := List.mem_append_right _ (List.mem_append_left _ (List.mem_of_getElem? (i := 25) (rfl : tables_1_1[25]? = some _)))
theorem ct_2 : (.arrayClass .int : Cond) ∈ lw_tbl := List.mem_append_right _ (List.mem_append_left _ (List.mem_of_getElem? (i := 93) (rfl : tables_1_1[93]? = some _)))
theorem ct_3 : (.arrayClass .long : Cond) ∈ lw_tbl := List.mem_append_right _ (List.mem_append_left _ (List.mem_of_getElem? (i := 146) (rfl : tables_1_1[146]? = some _)))
theorem ct_4 : (.methodLink RX1 3 objectInit : Cond) ∈ lw_tbl := List.mem_append_right _ (List.mem_append_left _ (List.mem_of_getElem? (i := 99) (rfl : tables_1_1[99]? = some _)))
theorem ct_5 : (.fieldLink RX1 9 RX1 "seenAt" "[I" : Cond) ∈ lw_tbl := List.mem_append_right _ (List.mem_append_left _ (List.mem_of_getElem? (i := 100) (rfl : tables_1_1[100]? = some _)))
theorem ct_6 : (.methodLink RX3 3 objectInit : Cond) ∈ lw_tbl := List.mem_append_right _ (List.mem_append_left _ (List.mem_of_getElem? (i := 109) (rfl : tables_1_1[109]? = some _)))
theorem ct_7 : (.fieldLink RX3 9 RX3 "text" "[I" : Cond) ∈ lw_tbl := List.mem_append_right _ (List.mem_append_left _ (List.mem_of_getElem? (i := 110) (rfl : tables_1_1[110]? = some _)))
theorem ct_8 : (.fieldLink RX3 15 RX3 "length" "I" : Cond) ∈ lw_tbl := List.mem_append_right _ (List.mem_append_left _ (List.mem_of_getElem? (i := 111) (rfl : tables_1_1[111]? = some _)))
theorem ct_9 : (.methodLink RX4 3 objectInit : Cond) ∈ lw_tbl := List.mem_append_right _ (List.mem_append_left _ (List.mem_of_getElem? (i := 123) (rfl : tables_1_1[123]? = some _)))
theorem ct_10 : (.fieldLink RX4 9 RX4 "numbers" "[I" : Cond) ∈ lw_tbl := List.mem_append_right _ (List.mem_append_left _ (List.mem_of_getElem? (i := 124) (rfl : tables_1_1[124]? = some _)))
theorem ct_11 : (.fieldLink RX4 15 RX4 "length" "I" : Cond) ∈ lw_tbl := List.mem_append_right _ (List.mem_append_left _ (List.mem_of_getElem? (i := 125) (rfl : tables_1_1[125]? = some _)))
theorem ct_12 : (.methodLink RX0 3 objectInit : Cond) ∈ lw_tbl := List.mem_append_right _ (List.mem_append_left _ (List.mem_of_getElem? (i := 138) (rfl : tables_1_1[138]? = some _)))
theorem ct_13 : (.fieldLink RX0 9 RX0 "waysHere" "[J" : Cond) ∈ lw_tbl := List.mem_append_right _ (List.mem_append_left _ (List.mem_of_getElem? (i := 139) (rfl : tables_1_1[139]? = some _)))
theorem ct_14 : (.fieldLink RX0 15 RX0 "waysNext" "[J" : Cond) ∈ lw_tbl := List.mem_append_right _ (List.mem_append_left _ (List.mem_of_getElem? (i := 140) (rfl : tables_1_1[140]? = some _)))
theorem ct_15 : (.methodLink RX5 3 objectInit : Cond) ∈ lw_tbl := List.mem_append_right _ (List.mem_append_left _ (List.mem_of_getElem? (i := 31) (rfl : tables_1_1[31]? = some _)))
theorem ct_16 : (.fieldLink RX5 9 RX5 "walls" "I" : Cond) ∈ lw_tbl := List.mem_append_right _ (List.mem_append_left _ (List.mem_of_getElem? (i := 32) (rfl : tables_1_1[32]? = some _)))
theorem ct_17 : (.fieldLink RX5 15 RX5 "hour" "I" : Cond) ∈ lw_tbl := List.mem_append_right _ (List.mem_append_left _ (List.mem_of_getElem? (i := 36) (rfl : tables_1_1[36]? = some _)))
theorem ct_18 : (.fieldLink RX5 18 RX5 "wet" "I" : Cond) ∈ lw_tbl := List.mem_append_right _ (List.mem_append_left _ (List.mem_of_getElem? (i := 38) (rfl : tables_1_1[38]? = some _)))
theorem ct_19 : (.fieldLink RX5 21 RX5 "kind" "[I" : Cond) ∈ lw_tbl := List.mem_append_right _ (List.mem_append_left _ (List.mem_of_getElem? (i := 40) (rfl : tables_1_1[40]? = some _)))
theorem ct_20 : (.fieldLink RX5 25 RX5 "figure" "[I" : Cond) ∈ lw_tbl := List.mem_append_right _ (List.mem_append_left _ (List.mem_of_getElem? (i := 43) (rfl : tables_1_1[43]? = some _)))
theorem ct_21 : (.fieldLink RX5 28 RX5 "owner" "[I" : Cond) ∈ lw_tbl := List.mem_append_right _ (List.mem_append_left _ (List.mem_of_getElem? (i := 46) (rfl : tables_1_1[46]? = some _)))
theorem ct_22 : (.fieldLink RX5 31 RX5 "at" "[I" : Cond) ∈ lw_tbl := List.mem_append_right _ (List.mem_append_left _ (List.mem_of_getElem? (i := 50) (rfl : tables_1_1[50]? = some _)))
theorem ct_23 : (.fieldLink RX5 34 RX5 "holes" "[I" : Cond) ∈ lw_tbl := List.mem_append_right _ (List.mem_append_left _ (List.mem_of_getElem? (i := 54) (rfl : tables_1_1[54]? = some _)))
theorem ct_24 : (.fieldLink RX5 37 RX5 "cameFrom" "[I" : Cond) ∈ lw_tbl := List.mem_append_right _ (List.mem_append_left _ (List.mem_of_getElem? (i := 56) (rfl : tables_1_1[56]? = some _)))
theorem ct_25 : (.fieldLink RX5 40 RX5 "need" "[I" : Cond) ∈ lw_tbl := List.mem_append_right _ (List.mem_append_left _ (List.mem_of_getElem? (i := 58) (rfl : tables_1_1[58]? = some _)))
theorem ct_26 : (.fieldLink RX5 43 RX5 "barred" "[I" : Cond) ∈ lw_tbl := List.mem_append_right _ (List.mem_append_left _ (List.mem_of_getElem? (i := 59) (rfl : tables_1_1[59]? = some _)))
theorem ct_27 : (.fieldLink RX5 46 RX5 "cover" "[I" : Cond) ∈ lw_tbl := List.mem_append_right _ (List.mem_append_left _ (List.mem_of_getElem? (i := 61) (rfl : tables_1_1[61]? = some _)))
theorem ct_28 : (.fieldLink RX5 49 RX5 "has" "[I" : Cond) ∈ lw_tbl := List.mem_append_right _ (List.mem_append_left _ (List.mem_of_getElem? (i := 64) (rfl : tables_1_1[64]? = some _)))
theorem ct_29 : (.methodLink RX6 3 objectInit : Cond) ∈ lw_tbl := List.mem_append_right _ (List.mem_append_left _ (List.mem_of_getElem? (i := 152) (rfl : tables_1_1[152]? = some _)))
theorem ct_30 : (.classLink RX6 9 RX5 : Cond) ∈ lw_tbl := List.mem_append_right _ (List.mem_append_left _ (List.mem_of_getElem? (i := 153) (rfl : tables_1_1[153]? = some _)))
theorem ct_31 : (.instantiable RX5 13 : Cond) ∈ lw_tbl := List.mem_append_right _ (List.mem_append_left _ (List.mem_of_getElem? (i := 27) (rfl : tables_1_1[27]? = some _)))
theorem ct_32 : (.initialized RX5 : Cond) ∈ lw_tbl := List.mem_append_right _ (List.mem_append_left _ (List.mem_of_getElem? (i := 2) (rfl : tables_1_1[2]? = some _)))
theorem ct_33 : (.instanceMethod yX5_init : Cond) ∈ lw_tbl := List.mem_append_right _ (List.mem_append_left _ (List.mem_of_getElem? (i := 29) (rfl : tables_1_1[29]? = some _)))
theorem ct_34 : (.code yX5_init cX5_init 1 none : Cond) ∈ lw_tbl := List.mem_append_right _ (List.mem_append_left _ (List.mem_of_getElem? (i := 30) (rfl : tables_1_1[30]? = some _)))
theorem ct_35 : (.fieldLink RX6 12 RX6 "mind" "LWallsByTheHour$Street;" : Cond) ∈ lw_tbl := List.mem_append_right _ (List.mem_append_left _ (List.mem_of_getElem? (i := 155) (rfl : tables_1_1[155]? = some _)))
theorem ct_36 : (.fieldLink RX6 18 RX6 "lackOfFirst" "[I" : Cond) ∈ lw_tbl := List.mem_append_right _ (List.mem_append_left _ (List.mem_of_getElem? (i := 156) (rfl : tables_1_1[156]? = some _)))
theorem ct_37 : (.fieldLink RX6 22 RX6 "lackOfSecond" "[I" : Cond) ∈ lw_tbl := List.mem_append_right _ (List.mem_append_left _ (List.mem_of_getElem? (i := 157) (rfl : tables_1_1[157]? = some _)))
theorem ct_38 : (.methodLink RX7 1 objectInit : Cond) ∈ lw_tbl := List.mem_append_right _ (List.mem_append_left _ (List.mem_of_getElem? (i := 23) (rfl : tables_1_1[23]? = some _)))
theorem ct_39 : (.classLink RX7 7 RX5 : Cond) ∈ lw_tbl := List.mem_append_right _ (List.mem_append_left _ (List.mem_of_getElem? (i := 26) (rfl : tables_1_1[26]? = some _)))
theorem ct_40 : (.fieldLink RX7 10 RX7 "now" "LWallsByTheHour$Street;" : Cond) ∈ lw_tbl := List.mem_append_right _ (List.mem_append_left _ (List.mem_of_getElem? (i := 165) (rfl : tables_1_1[165]? = some _)))
theorem ct_41 : (.fieldLink RX7 16 RX7 "keptStreet" "LWallsByTheHour$Street;" : Cond) ∈ lw_tbl := List.mem_append_right _ (List.mem_append_left _ (List.mem_of_getElem? (i := 166) (rfl : tables_1_1[166]? = some _)))
theorem ct_42 : (.classLink RX7 19 RX1 : Cond) ∈ lw_tbl := List.mem_append_right _ (List.mem_append_left _ (List.mem_of_getElem? (i := 94) (rfl : tables_1_1[94]? = some _)))
theorem ct_43 : (.instantiable RX1 1 : Cond) ∈ lw_tbl := List.mem_append_right _ (List.mem_append_left _ (List.mem_of_getElem? (i := 95) (rfl : tables_1_1[95]? = some _)))
theorem ct_44 : (.initialized RX1 : Cond) ∈ lw_tbl := List.mem_append_right _ (List.mem_append_left _ (List.mem_of_getElem? (i := 3) (rfl : tables_1_1[3]? = some _)))
theorem ct_45 : (.instanceMethod yX1_init : Cond) ∈ lw_tbl := List.mem_append_right _ (List.mem_append_left _ (List.mem_of_getElem? (i := 97) (rfl : tables_1_1[97]? = some _)))
theorem ct_46 : (.code yX1_init cX1_init 1 none : Cond) ∈ lw_tbl := List.mem_append_right _ (List.mem_append_left _ (List.mem_of_getElem? (i := 98) (rfl : tables_1_1[98]? = some _)))
theorem ct_47 : (.fieldLink RX7 22 RX7 "seen" "LWallsByTheHour$History;" : Cond) ∈ lw_tbl := List.mem_append_right _ (List.mem_append_left _ (List.mem_of_getElem? (i := 167) (rfl : tables_1_1[167]? = some _)))
theorem ct_48 : (.fieldLink RX7 26 RX7 "hasImage" "Z" : Cond) ∈ lw_tbl := List.mem_append_right _ (List.mem_append_left _ (List.mem_of_getElem? (i := 168) (rfl : tables_1_1[168]? = some _)))
theorem ct_49 : (.classLink RX7 30 RX3 : Cond) ∈ lw_tbl := List.mem_append_right _ (List.mem_append_left _ (List.mem_of_getElem? (i := 104) (rfl : tables_1_1[104]? = some _)))
theorem ct_50 : (.instantiable RX3 2 : Cond) ∈ lw_tbl := List.mem_append_right _ (List.mem_append_left _ (List.mem_of_getElem? (i := 105) (rfl : tables_1_1[105]? = some _)))
theorem ct_51 : (.initialized RX3 : Cond) ∈ lw_tbl := List.mem_append_right _ (List.mem_append_left _ (List.mem_of_getElem? (i := 4) (rfl : tables_1_1[4]? = some _)))
theorem ct_52 : (.instanceMethod yX3_init : Cond) ∈ lw_tbl := List.mem_append_right _ (List.mem_append_left _ (List.mem_of_getElem? (i := 107) (rfl : tables_1_1[107]? = some _)))
theorem ct_53 : (.code yX3_init cX3_init 1 none : Cond) ∈ lw_tbl := List.mem_append_right _ (List.mem_append_left _ (List.mem_of_getElem? (i := 108) (rfl : tables_1_1[108]? = some _)))
theorem ct_54 : (.fieldLink RX7 33 RX7 "letters" "LWallsByTheHour$Letters;" : Cond) ∈ lw_tbl := List.mem_append_right _ (List.mem_append_left _ (List.mem_of_getElem? (i := 169) (rfl : tables_1_1[169]? = some _)))
theorem ct_55 : (.classLink RX7 37 RX4 : Cond) ∈ lw_tbl := List.mem_append_right _ (List.mem_append_left _ (List.mem_of_getElem? (i := 118) (rfl : tables_1_1[118]? = some _)))
theorem ct_56 : (.instantiable RX4 2 : Cond) ∈ lw_tbl := List.mem_append_right _ (List.mem_append_left _ (List.mem_of_getElem? (i := 119) (rfl : tables_1_1[119]? = some _)))
theorem ct_57 : (.initialized RX4 : Cond) ∈ lw_tbl := List.mem_append_right _ (List.mem_append_left _ (List.mem_of_getElem? (i := 5) (rfl : tables_1_1[5]? = some _)))
theorem ct_58 : (.instanceMethod yX4_init : Cond) ∈ lw_tbl := List.mem_append_right _ (List.mem_append_left _ (List.mem_of_getElem? (i := 121) (rfl : tables_1_1[121]? = some _)))
theorem ct_59 : (.code yX4_init cX4_init 1 none : Cond) ∈ lw_tbl := List.mem_append_right _ (List.mem_append_left _ (List.mem_of_getElem? (i := 122) (rfl : tables_1_1[122]? = some _)))
theorem ct_60 : (.fieldLink RX7 40 RX7 "told" "LWallsByTheHour$Row;" : Cond) ∈ lw_tbl := List.mem_append_right _ (List.mem_append_left _ (List.mem_of_getElem? (i := 170) (rfl : tables_1_1[170]? = some _)))
theorem ct_61 : (.classLink RX7 44 RX0 : Cond) ∈ lw_tbl := List.mem_append_right _ (List.mem_append_left _ (List.mem_of_getElem? (i := 133) (rfl : tables_1_1[133]? = some _)))
theorem ct_62 : (.instantiable RX0 2 : Cond) ∈ lw_tbl := List.mem_append_right _ (List.mem_append_left _ (List.mem_of_getElem? (i := 134) (rfl : tables_1_1[134]? = some _)))
theorem ct_63 : (.initialized RX0 : Cond) ∈ lw_tbl := List.mem_append_right _ (List.mem_append_left _ (List.mem_of_getElem? (i := 6) (rfl : tables_1_1[6]? = some _)))
theorem ct_64 : (.instanceMethod yX0_init : Cond) ∈ lw_tbl := List.mem_append_right _ (List.mem_append_left _ (List.mem_of_getElem? (i := 136) (rfl : tables_1_1[136]? = some _)))
theorem ct_65 : (.code yX0_init cX0_init 1 none : Cond) ∈ lw_tbl := List.mem_append_right _ (List.mem_append_left _ (List.mem_of_getElem? (i := 137) (rfl : tables_1_1[137]? = some _)))
theorem ct_66 : (.fieldLink RX7 47 RX7 "choices" "LWallsByTheHour$Choices;" : Cond) ∈ lw_tbl := List.mem_append_right _ (List.mem_append_left _ (List.mem_of_getElem? (i := 171) (rfl : tables_1_1[171]? = some _)))
theorem ct_67 : (.classLink RX7 51 RX6 : Cond) ∈ lw_tbl := List.mem_append_right _ (List.mem_append_left _ (List.mem_of_getElem? (i := 147) (rfl : tables_1_1[147]? = some _)))
theorem ct_68 : (.instantiable RX6 3 : Cond) ∈ lw_tbl := List.mem_append_right _ (List.mem_append_left _ (List.mem_of_getElem? (i := 148) (rfl : tables_1_1[148]? = some _)))
theorem ct_69 : (.initialized RX6 : Cond) ∈ lw_tbl := List.mem_append_right _ (List.mem_append_left _ (List.mem_of_getElem? (i := 7) (rfl : tables_1_1[7]? = some _)))
theorem ct_70 : (.instanceMethod yX6_init : Cond) ∈ lw_tbl := List.mem_append_right _ (List.mem_append_left _ (List.mem_of_getElem? (i := 150) (rfl : tables_1_1[150]? = some _)))
theorem ct_71 : (.code yX6_init cX6_init 1 none : Cond) ∈ lw_tbl := List.mem_append_right _ (List.mem_append_left _ (List.mem_of_getElem? (i := 151) (rfl : tables_1_1[151]? = some _)))
theorem ct_72 : (.fieldLink RX7 54 RX7 "thought" "LWallsByTheHour$Thought;" : Cond) ∈ lw_tbl := List.mem_append_right _ (List.mem_append_left _ (List.mem_of_getElem? (i := 172) (rfl : tables_1_1[172]? = some _)))
theorem ct_73 : (.fieldLink RX7 58 RX7 "refusals" "[I" : Cond) ∈ lw_tbl := List.mem_append_right _ (List.mem_append_left _ (List.mem_of_getElem? (i := 173) (rfl : tables_1_1[173]? = some _)))
theorem ct_74 : (.methodLink RX8 1 objectInit : Cond) ∈ lw_tbl := List.mem_append_right _ (List.mem_append_right _ (List.mem_append_right _ (List.mem_append_right _ (List.mem_append_left _ (List.mem_of_getElem? (i := 157) (rfl : tables_1_4[157]? = some _))))))
theorem ct_75 : (.fieldLink RX8 7 RX8 "refused" "[I" : Cond) ∈ lw_tbl := List.mem_append_right _ (List.mem_append_right _ (List.mem_append_right _ (List.mem_append_right _ (List.mem_append_left _ (List.mem_of_getElem? (i := 158) (rfl : tables_1_4[158]? = some _))))))
theorem ct_76 : (.fieldLink RX8 13 RX8 "kind" "[I" : Cond) ∈ lw_tbl := List.mem_append_right _ (List.mem_append_right _ (List.mem_append_right _ (List.mem_append_right _ (List.mem_append_left _ (List.mem_of_getElem? (i := 159) (rfl : tables_1_4[159]? = some _))))))
theorem ct_77 : (.fieldLink RX8 16 RX8 "figure" "[I" : Cond) ∈ lw_tbl := List.mem_append_right _ (List.mem_append_right _ (List.mem_append_right _ (List.mem_append_right _ (List.mem_append_left _ (List.mem_of_getElem? (i := 160) (rfl : tables_1_4[160]? = some _))))))
theorem ct_78 : (.fieldLink RX8 19 RX8 "owner" "[I" : Cond) ∈ lw_tbl := List.mem_append_right _ (List.mem_append_right _ (List.mem_append_right _ (List.mem_append_right _ (List.mem_append_left _ (List.mem_of_getElem? (i := 161) (rfl : tables_1_4[161]? = some _))))))
theorem ct_79 : (.fieldLink RX8 22 RX8 "at" "[I" : Cond) ∈ lw_tbl := List.mem_append_right _ (List.mem_append_right _ (List.mem_append_right _ (List.mem_append_right _ (List.mem_append_left _ (List.mem_of_getElem? (i := 162) (rfl : tables_1_4[162]? = some _))))))
theorem ct_80 : (.fieldLink RX8 25 RX8 "holes" "[I" : Cond) ∈ lw_tbl := List.mem_append_right _ (List.mem_append_right _ (List.mem_append_right _ (List.mem_append_right _ (List.mem_append_left _ (List.mem_of_getElem? (i := 163) (rfl : tables_1_4[163]? = some _))))))
theorem ct_81 : (.fieldLink RX8 28 RX8 "need" "[I" : Cond) ∈ lw_tbl := List.mem_append_right _ (List.mem_append_right _ (List.mem_append_right _ (List.mem_append_right _ (List.mem_append_left _ (List.mem_of_getElem? (i := 164) (rfl : tables_1_4[164]? = some _))))))
theorem ct_82 : (.fieldLink RX8 31 RX8 "barred" "[I" : Cond) ∈ lw_tbl := List.mem_append_right _ (List.mem_append_right _ (List.mem_append_right _ (List.mem_append_right _ (List.mem_append_left _ (List.mem_of_getElem? (i := 165) (rfl : tables_1_4[165]? = some _))))))
theorem ct_83 : (.fieldLink RX8 34 RX8 "tape" "[I" : Cond) ∈ lw_tbl := List.mem_append_right _ (List.mem_append_right _ (List.mem_append_right _ (List.mem_append_right _ (List.mem_append_left _ (List.mem_of_getElem? (i := 168) (rfl : tables_1_4[168]? = some _))))))
theorem ct_84 : (.fieldLink RX8 37 RX8 "sort" "[I" : Cond) ∈ lw_tbl := List.mem_append_right _ (List.mem_append_right _ (List.mem_append_right _ (List.mem_append_right _ (List.mem_append_left _ (List.mem_of_getElem? (i := 169) (rfl : tables_1_4[169]? = some _))))))
theorem ct_85 : (.fieldLink RX8 40 RX8 "sortAt" "[I" : Cond) ∈ lw_tbl := List.mem_append_right _ (List.mem_append_right _ (List.mem_append_right _ (List.mem_append_right _ (List.mem_append_left _ (List.mem_of_getElem? (i := 170) (rfl : tables_1_4[170]? = some _))))))
theorem ct_86 : (.fieldLink RX8 43 RX8 "told" "[I" : Cond) ∈ lw_tbl := List.mem_append_right _ (List.mem_append_right _ (List.mem_append_right _ (List.mem_append_right _ (List.mem_append_left _ (List.mem_of_getElem? (i := 171) (rfl : tables_1_4[171]? = some _))))))
theorem ct_87 : (.fieldLink RX8 46 RX8 "kept" "[I" : Cond) ∈ lw_tbl := List.mem_append_right _ (List.mem_append_right _ (List.mem_append_right _ (List.mem_append_right _ (List.mem_append_left _ (List.mem_of_getElem? (i := 176) (rfl : tables_1_4[176]? = some _))))))
theorem ct_88 : (.fieldLink RX8 49 RX8 "seenBy" "[I" : Cond) ∈ lw_tbl := List.mem_append_right _ (List.mem_append_right _ (List.mem_append_right _ (List.mem_append_right _ (List.mem_append_left _ (List.mem_of_getElem? (i := 181) (rfl : tables_1_4[181]? = some _))))))
theorem ct_89 : (.fieldLink RX8 52 RX8 "ends" "[I" : Cond) ∈ lw_tbl := List.mem_append_right _ (List.mem_append_right _ (List.mem_append_right _ (List.mem_append_right _ (List.mem_append_left _ (List.mem_of_getElem? (i := 187) (rfl : tables_1_4[187]? = some _))))))
theorem ct_90 : (.fieldLink RX8 55 RX8 "many" "[J" : Cond) ∈ lw_tbl := List.mem_append_right _ (List.mem_append_right _ (List.mem_append_right _ (List.mem_append_right _ (List.mem_append_left _ (List.mem_of_getElem? (i := 188) (rfl : tables_1_4[188]? = some _))))))
theorem ct_91 : (.fieldLink RX8 59 RX8 "next" "[J" : Cond) ∈ lw_tbl := List.mem_append_right _ (List.mem_append_right _ (List.mem_append_right _ (List.mem_append_right _ (List.mem_append_left _ (List.mem_of_getElem? (i := 189) (rfl : tables_1_4[189]? = some _))))))
theorem ct_92 : (.fieldLink RX8 62 RX8 "row" "[I" : Cond) ∈ lw_tbl := List.mem_append_right _ (List.mem_append_right _ (List.mem_append_right _ (List.mem_append_right _ (List.mem_append_left _ (List.mem_of_getElem? (i := 190) (rfl : tables_1_4[190]? = some _))))))
theorem ct_93 : (.fieldLink RX8 65 RX8 "walls" "I" : Cond) ∈ lw_tbl := List.mem_append_right _ (List.mem_append_right _ (List.mem_append_right _ (List.mem_append_right _ (List.mem_append_left _ (List.mem_of_getElem? (i := 166) (rfl : tables_1_4[166]? = some _))))))
theorem ct_94 : (.methodLink RL 9 yX7_init : Cond) ∈ lw_tbl := List.mem_append_right _ (List.mem_append_left _ (List.mem_of_getElem? (i := 20) (rfl : tables_1_1[20]? = some _)))
theorem ct_95 : (.methodLink RL 12 yX8_init : Cond) ∈ lw_tbl := List.mem_append_right _ (List.mem_append_right _ (List.mem_append_right _ (List.mem_append_right _ (List.mem_append_left _ (List.mem_of_getElem? (i := 154) (rfl : tables_1_4[154]? = some _))))))
theorem ct_96 : (.classLink RL 7 RX7 : Cond) ∈ lw_tbl := List.mem_append_right _ (List.mem_append_left _ (List.mem_of_getElem? (i := 18) (rfl : tables_1_1[18]? = some _)))
theorem ct_97 : (.classLink RL 10 RX8 : Cond) ∈ lw_tbl := List.mem_append_right _ (List.mem_append_right _ (List.mem_append_right _ (List.mem_append_right _ (List.mem_append_left _ (List.mem_of_getElem? (i := 152) (rfl : tables_1_4[152]? = some _))))))
theorem ct_98 : (.instantiable RX7 9 : Cond) ∈ lw_tbl := List.mem_append_right _ (List.mem_append_left _ (List.mem_of_getElem? (i := 19) (rfl : tables_1_1[19]? = some _)))
theorem ct_99 : (.initialized RX7 : Cond) ∈ lw_tbl := List.mem_append_right _ (List.mem_append_left _ (List.mem_of_getElem? (i := 1) (rfl : tables_1_1[1]? = some _)))
theorem ct_100 : (.instanceMethod yX7_init : Cond) ∈ lw_tbl := List.mem_append_right _ (List.mem_append_left _ (List.mem_of_getElem? (i := 21) (rfl : tables_1_1[21]? = some _)))
theorem ct_101 : (.code yX7_init cX7_init 1 none : Cond) ∈ lw_tbl := List.mem_append_right _ (List.mem_append_left _ (List.mem_of_getElem? (i := 22) (rfl : tables_1_1[22]? = some _)))
theorem ct_102 : (.instantiable RX8 36 : Cond) ∈ lw_tbl := List.mem_append_right _ (List.mem_append_right _ (List.mem_append_right _ (List.mem_append_right _ (List.mem_append_left _ (List.mem_of_getElem? (i := 153) (rfl : tables_1_4[153]? = some _))))))
theorem ct_103 : (.initialized RX8 : Cond) ∈ lw_tbl := List.mem_append_right _ (List.mem_append_left _ (List.mem_of_getElem? (i := 8) (rfl : tables_1_1[8]? = some _)))
theorem ct_104 : (.instanceMethod yX8_init : Cond) ∈ lw_tbl := List.mem_append_right _ (List.mem_append_right _ (List.mem_append_right _ (List.mem_append_right _ (List.mem_append_left _ (List.mem_of_getElem? (i := 155) (rfl : tables_1_4[155]? = some _))))))
theorem ct_105 : (.code yX8_init cX8_init 1 none : Cond) ∈ lw_tbl := List.mem_append_right _ (List.mem_append_right _ (List.mem_append_right _ (List.mem_append_right _ (List.mem_append_left _ (List.mem_of_getElem? (i := 156) (rfl : tables_1_4[156]? = some _))))))
theorem cn_0 : (.methodLinkNest RX6 11 yX5_init RX7 : Cond) ∈ lw_tbl := List.mem_append_right _ (List.mem_append_left _ (List.mem_of_getElem? (i := 154) (rfl : tables_1_1[154]? = some _)))
theorem cn_1 : (.methodLinkNest RX7 9 yX5_init RX7 : Cond) ∈ lw_tbl := List.mem_append_right _ (List.mem_append_left _ (List.mem_of_getElem? (i := 28) (rfl : tables_1_1[28]? = some _)))
theorem cn_2 : (.methodLinkNest RX7 21 yX1_init RX7 : Cond) ∈ lw_tbl := List.mem_append_right _ (List.mem_append_left _ (List.mem_of_getElem? (i := 96) (rfl : tables_1_1[96]? = some _)))
theorem cn_3 : (.methodLinkNest RX7 32 yX3_init RX7 : Cond) ∈ lw_tbl := List.mem_append_right _ (List.mem_append_left _ (List.mem_of_getElem? (i := 106) (rfl : tables_1_1[106]? = some _)))
theorem cn_4 : (.methodLinkNest RX7 39 yX4_init RX7 : Cond) ∈ lw_tbl := List.mem_append_right _ (List.mem_append_left _ (List.mem_of_getElem? (i := 120) (rfl : tables_1_1[120]? = some _)))
theorem cn_5 : (.methodLinkNest RX7 46 yX0_init RX7 : Cond) ∈ lw_tbl := List.mem_append_right _ (List.mem_append_left _ (List.mem_of_getElem? (i := 135) (rfl : tables_1_1[135]? = some _)))
theorem cn_6 : (.methodLinkNest RX7 53 yX6_init RX7 : Cond) ∈ lw_tbl := List.mem_append_right _ (List.mem_append_left _ (List.mem_of_getElem? (i := 149) (rfl : tables_1_1[149]? = some _)))
def cv_tb : List Cond := [.instanceMethod objectInit, .code objectInit ⟨#[0xb1]⟩ 1 none, .arrayClass .int, .arrayClass .long, .methodLink RX1 3 objectInit, .fieldLink RX1 9 RX1 "seenAt" "[I", .methodLink RX3 3 objectInit, .fieldLink RX3 9 RX3 "text" "[I", .fieldLink RX3 15 RX3 "length" "I", .methodLink RX4 3 objectInit, .fieldLink RX4 9 RX4 "numbers" "[I", .fieldLink RX4 15 RX4 "length" "I", .methodLink RX0 3 objectInit, .fieldLink RX0 9 RX0 "waysHere" "[J", .fieldLink RX0 15 RX0 "waysNext" "[J", .methodLink RX5 3 objectInit, .fieldLink RX5 9 RX5 "walls" "I", .fieldLink RX5 15 RX5 "hour" "I", .fieldLink RX5 18 RX5 "wet" "I", .fieldLink RX5 21 RX5 "kind" "[I", .fieldLink RX5 25 RX5 "figure" "[I", .fieldLink RX5 28 RX5 "owner" "[I", .fieldLink RX5 31 RX5 "at" "[I", .fieldLink RX5 34 RX5 "holes" "[I", .fieldLink RX5 37 RX5 "cameFrom" "[I", .fieldLink RX5 40 RX5 "need" "[I", .fieldLink RX5 43 RX5 "barred" "[I", .fieldLink RX5 46 RX5 "cover" "[I", .fieldLink RX5 49 RX5 "has" "[I", .methodLink RX6 3 objectInit, .classLink RX6 9 RX5, .instantiable RX5 13, .initialized RX5, .instanceMethod yX5_init, .code yX5_init cX5_init 1 none, .fieldLink RX6 12 RX6 "mind" "LWallsByTheHour$Street;", .fieldLink RX6 18 RX6 "lackOfFirst" "[I", .fieldLink RX6 22 RX6 "lackOfSecond" "[I", .methodLink RX7 1 objectInit, .classLink RX7 7 RX5, .fieldLink RX7 10 RX7 "now" "LWallsByTheHour$Street;", .fieldLink RX7 16 RX7 "keptStreet" "LWallsByTheHour$Street;", .classLink RX7 19 RX1, .instantiable RX1 1, .initialized RX1, .instanceMethod yX1_init, .code yX1_init cX1_init 1 none, .fieldLink RX7 22 RX7 "seen" "LWallsByTheHour$History;", .fieldLink RX7 26 RX7 "hasImage" "Z", .classLink RX7 30 RX3, .instantiable RX3 2, .initialized RX3, .instanceMethod yX3_init, .code yX3_init cX3_init 1 none, .fieldLink RX7 33 RX7 "letters" "LWallsByTheHour$Letters;", .classLink RX7 37 RX4, .instantiable RX4 2, .initialized RX4, .instanceMethod yX4_init, .code yX4_init cX4_init 1 none, .fieldLink RX7 40 RX7 "told" "LWallsByTheHour$Row;", .classLink RX7 44 RX0, .instantiable RX0 2, .initialized RX0, .instanceMethod yX0_init, .code yX0_init cX0_init 1 none, .fieldLink RX7 47 RX7 "choices" "LWallsByTheHour$Choices;", .classLink RX7 51 RX6, .instantiable RX6 3, .initialized RX6, .instanceMethod yX6_init, .code yX6_init cX6_init 1 none, .fieldLink RX7 54 RX7 "thought" "LWallsByTheHour$Thought;", .fieldLink RX7 58 RX7 "refusals" "[I", .methodLink RX8 1 objectInit, .fieldLink RX8 7 RX8 "refused" "[I", .fieldLink RX8 13 RX8 "kind" "[I", .fieldLink RX8 16 RX8 "figure" "[I", .fieldLink RX8 19 RX8 "owner" "[I", .fieldLink RX8 22 RX8 "at" "[I", .fieldLink RX8 25 RX8 "holes" "[I", .fieldLink RX8 28 RX8 "need" "[I", .fieldLink RX8 31 RX8 "barred" "[I", .fieldLink RX8 34 RX8 "tape" "[I", .fieldLink RX8 37 RX8 "sort" "[I", .fieldLink RX8 40 RX8 "sortAt" "[I", .fieldLink RX8 43 RX8 "told" "[I", .fieldLink RX8 46 RX8 "kept" "[I", .fieldLink RX8 49 RX8 "seenBy" "[I", .fieldLink RX8 52 RX8 "ends" "[I", .fieldLink RX8 55 RX8 "many" "[J", .fieldLink RX8 59 RX8 "next" "[J", .fieldLink RX8 62 RX8 "row" "[I", .fieldLink RX8 65 RX8 "walls" "I", .methodLink RL 9 yX7_init, .methodLink RL 12 yX8_init, .classLink RL 7 RX7, .classLink RL 10 RX8, .instantiable RX7 9, .initialized RX7, .instanceMethod yX7_init, .code yX7_init cX7_init 1 none, .instantiable RX8 36, .initialized RX8, .instanceMethod yX8_init, .code yX8_init cX8_init 1 none]
theorem cv_mem : ∀ w ∈ cv_tb, w ∈ lw_tbl := List.forall_mem_cons.mpr ⟨ct_0, List.forall_mem_cons.mpr ⟨ct_1, List.forall_mem_cons.mpr ⟨ct_2, List.forall_mem_cons.mpr ⟨ct_3, List.forall_mem_cons.mpr ⟨ct_4, List.forall_mem_cons.mpr ⟨ct_5, List.forall_mem_cons.mpr ⟨ct_6, List.forall_mem_cons.mpr ⟨ct_7, List.forall_mem_cons.mpr ⟨ct_8, List.forall_mem_cons.mpr ⟨ct_9, List.forall_mem_cons.mpr ⟨ct_10, List.forall_mem_cons.mpr ⟨ct_11, List.forall_mem_cons.mpr ⟨ct_12, List.forall_mem_cons.mpr ⟨ct_13, List.forall_mem_cons.mpr ⟨ct_14, List.forall_mem_cons.mpr ⟨ct_15, List.forall_mem_cons.mpr ⟨ct_16, List.forall_mem_cons.mpr ⟨ct_17, List.forall_mem_cons.mpr ⟨ct_18, List.forall_mem_cons.mpr ⟨ct_19, List.forall_mem_cons.mpr ⟨ct_20, List.forall_mem_cons.mpr ⟨ct_21, List.forall_mem_cons.mpr ⟨ct_22, List.forall_mem_cons.mpr ⟨ct_23, List.forall_mem_cons.mpr ⟨ct_24, List.forall_mem_cons.mpr ⟨ct_25, List.forall_mem_cons.mpr ⟨ct_26, List.forall_mem_cons.mpr ⟨ct_27, List.forall_mem_cons.mpr ⟨ct_28, List.forall_mem_cons.mpr ⟨ct_29, List.forall_mem_cons.mpr ⟨ct_30, List.forall_mem_cons.mpr ⟨ct_31, List.forall_mem_cons.mpr ⟨ct_32, List.forall_mem_cons.mpr ⟨ct_33, List.forall_mem_cons.mpr ⟨ct_34, List.forall_mem_cons.mpr ⟨ct_35, List.forall_mem_cons.mpr ⟨ct_36, List.forall_mem_cons.mpr ⟨ct_37, List.forall_mem_cons.mpr ⟨ct_38, List.forall_mem_cons.mpr ⟨ct_39, List.forall_mem_cons.mpr ⟨ct_40, List.forall_mem_cons.mpr ⟨ct_41, List.forall_mem_cons.mpr ⟨ct_42, List.forall_mem_cons.mpr ⟨ct_43, List.forall_mem_cons.mpr ⟨ct_44, List.forall_mem_cons.mpr ⟨ct_45, List.forall_mem_cons.mpr ⟨ct_46, List.forall_mem_cons.mpr ⟨ct_47, List.forall_mem_cons.mpr ⟨ct_48, List.forall_mem_cons.mpr ⟨ct_49, List.forall_mem_cons.mpr ⟨ct_50, List.forall_mem_cons.mpr ⟨ct_51, List.forall_mem_cons.mpr ⟨ct_52, List.forall_mem_cons.mpr ⟨ct_53, List.forall_mem_cons.mpr ⟨ct_54, List.forall_mem_cons.mpr ⟨ct_55, List.forall_mem_cons.mpr ⟨ct_56, List.forall_mem_cons.mpr ⟨ct_57, List.forall_mem_cons.mpr ⟨ct_58, List.forall_mem_cons.mpr ⟨ct_59, List.forall_mem_cons.mpr ⟨ct_60, List.forall_mem_cons.mpr ⟨ct_61, List.forall_mem_cons.mpr ⟨ct_62, List.forall_mem_cons.mpr ⟨ct_63, List.forall_mem_cons.mpr ⟨ct_64, List.forall_mem_cons.mpr ⟨ct_65, List.forall_mem_cons.mpr ⟨ct_66, List.forall_mem_cons.mpr ⟨ct_67, List.forall_mem_cons.mpr ⟨ct_68, List.forall_mem_cons.mpr ⟨ct_69, List.forall_mem_cons.mpr ⟨ct_70, List.forall_mem_cons.mpr ⟨ct_71, List.forall_mem_cons.mpr ⟨ct_72, List.forall_mem_cons.mpr ⟨ct_73, List.forall_mem_cons.mpr ⟨ct_74, List.forall_mem_cons.mpr ⟨ct_75, List.forall_mem_cons.mpr ⟨ct_76, List.forall_mem_cons.mpr ⟨ct_77, List.forall_mem_cons.mpr ⟨ct_78, List.forall_mem_cons.mpr ⟨ct_79, List.forall_mem_cons.mpr ⟨ct_80, List.forall_mem_cons.mpr ⟨ct_81, List.forall_mem_cons.mpr ⟨ct_82, List.forall_mem_cons.mpr ⟨ct_83, List.forall_mem_cons.mpr ⟨ct_84, List.forall_mem_cons.mpr ⟨ct_85, List.forall_mem_cons.mpr ⟨ct_86, List.forall_mem_cons.mpr ⟨ct_87, List.forall_mem_cons.mpr ⟨ct_88, List.forall_mem_cons.mpr ⟨ct_89, List.forall_mem_cons.mpr ⟨ct_90, List.forall_mem_cons.mpr ⟨ct_91, List.forall_mem_cons.mpr ⟨ct_92, List.forall_mem_cons.mpr ⟨ct_93, List.forall_mem_cons.mpr ⟨ct_94, List.forall_mem_cons.mpr ⟨ct_95, List.forall_mem_cons.mpr ⟨ct_96, List.forall_mem_cons.mpr ⟨ct_97, List.forall_mem_cons.mpr ⟨ct_98, List.forall_mem_cons.mpr ⟨ct_99, List.forall_mem_cons.mpr ⟨ct_100, List.forall_mem_cons.mpr ⟨ct_101, List.forall_mem_cons.mpr ⟨ct_102, List.forall_mem_cons.mpr ⟨ct_103, List.forall_mem_cons.mpr ⟨ct_104, List.forall_mem_cons.mpr ⟨ct_105, fun _ h => absurd h List.not_mem_nil⟩⟩⟩⟩⟩⟩⟩⟩⟩⟩⟩⟩⟩⟩⟩⟩⟩⟩⟩⟩⟩⟩⟩⟩⟩⟩⟩⟩⟩⟩⟩⟩⟩⟩⟩⟩⟩⟩⟩⟩⟩⟩⟩⟩⟩⟩⟩⟩⟩⟩⟩⟩⟩⟩⟩⟩⟩⟩⟩⟩⟩⟩⟩⟩⟩⟩⟩⟩⟩⟩⟩⟩⟩⟩⟩⟩⟩⟩⟩⟩⟩⟩⟩⟩⟩⟩⟩⟩⟩⟩⟩⟩⟩⟩⟩⟩⟩⟩⟩⟩⟩⟩⟩⟩⟩⟩
def cw : List Cond := cv_tb ++ ax_tb
theorem cv_gw : cv_tb.all goodWord = true := by decide +kernel
theorem cw_mem : ∀ w ∈ cw, w ∈ lw_tbl := fun w h => (List.mem_append.mp h).elim (cv_mem w) (ax_tb_mem w)
theorem cw_gd {w : Cond} (h : w ∈ cw) : (w.onTables && w.keeps) = true ∨ ∃ ty, w = .arrayClass ty := (List.mem_append.mp h).elim (fun h => good_of_word (List.all_eq_true.mp cv_gw w h)) (fun h => (ax_tb_good w h).2)
theorem cw_good {x y : Cond} (hy : y ∈ cw) : GoodIn (x :: cw) (y :: cw) := fun w hw => (List.mem_cons.mp hw).elim (fun e => ⟨List.mem_cons_of_mem _ (by rw [e]; exact hy), by rw [e]; exact cw_gd hy⟩) (fun h => ⟨List.mem_cons_of_mem _ h, cw_gd h⟩)
theorem cw_goodL {y : Cond} (hy : y ∈ cw) : GoodIn lw_tbl (y :: cw) := fun w hw => (List.mem_cons.mp hw).elim (fun e => ⟨by rw [e]; exact cw_mem _ hy, by rw [e]; exact cw_gd hy⟩) (fun h => ⟨cw_mem _ h, cw_gd h⟩)
theorem cw_lay {ci : Nat} (h : ci < ax_cl.length) : ∀ w ∈ u_ws (ax_cd ci).1 (ax_cd ci).2.1 (ax_cd ci).2.2, w ∈ cw := fun w hw => List.mem_append_right _ (ax_lay_in h w hw)
theorem cm_0 : (.instanceMethod objectInit : Cond) ∈ cw := List.mem_append_left _ (List.mem_of_getElem? (i := 0) rfl)
theorem cm_1 : (.code objectInit ⟨#[0xb1]⟩ 1 none : Cond) ∈ cw := List.mem_append_left _ (List.mem_of_getElem? (i := 1) rfl)
theorem cm_2 : (.arrayClass .int : Cond) ∈ cw := List.mem_append_left _ (List.mem_of_getElem? (i := 2) rfl)
theorem cm_3 : (.arrayClass .long : Cond) ∈ cw := List.mem_append_left _ (List.mem_of_getElem? (i := 3) rfl)
theorem cm_4 : (.methodLink RX1 3 objectInit : Cond) ∈ cw := List.mem_append_left _ (List.mem_of_getElem? (i := 4) rfl)
theorem cm_5 : (.fieldLink RX1 9 RX1 "seenAt" "[I" : Cond) ∈ cw := List.mem_append_left _ (List.mem_of_getElem? (i := 5) rfl)
theorem cm_6 : (.methodLink RX3 3 objectInit : Cond) ∈ cw := List.mem_append_left _ (List.mem_of_getElem? (i := 6) rfl)
theorem cm_7 : (.fieldLink RX3 9 RX3 "text" "[I" : Cond) ∈ cw := List.mem_append_left _ (List.mem_of_getElem? (i := 7) rfl)
theorem cm_8 : (.fieldLink RX3 15 RX3 "length" "I" : Cond) ∈ cw := List.mem_append_left _ (List.mem_of_getElem? (i := 8) rfl)
theorem cm_9 : (.methodLink RX4 3 objectInit : Cond) ∈ cw := List.mem_append_left _ (List.mem_of_getElem? (i := 9) rfl)
theorem cm_10 : (.fieldLink RX4 9 RX4 "numbers" "[I" : Cond) ∈ cw := List.mem_append_left _ (List.mem_of_getElem? (i := 10) rfl)
theorem cm_11 : (.fieldLink RX4 15 RX4 "length" "I" : Cond) ∈ cw := List.mem_append_left _ (List.mem_of_getElem? (i := 11) rfl)
theorem cm_12 : (.methodLink RX0 3 objectInit : Cond) ∈ cw := List.mem_append_left _ (List.mem_of_getElem? (i := 12) rfl)
theorem cm_13 : (.fieldLink RX0 9 RX0 "waysHere" "[J" : Cond) ∈ cw := List.mem_append_left _ (List.mem_of_getElem? (i := 13) rfl)
theorem cm_14 : (.fieldLink RX0 15 RX0 "waysNext" "[J" : Cond) ∈ cw := List.mem_append_left _ (List.mem_of_getElem? (i := 14) rfl)
theorem cm_15 : (.methodLink RX5 3 objectInit : Cond) ∈ cw := List.mem_append_left _ (List.mem_of_getElem? (i := 15) rfl)
theorem cm_16 : (.fieldLink RX5 9 RX5 "walls" "I" : Cond) ∈ cw := List.mem_append_left _ (List.mem_of_getElem? (i := 16) rfl)
theorem cm_17 : (.fieldLink RX5 15 RX5 "hour" "I" : Cond) ∈ cw := List.mem_append_left _ (List.mem_of_getElem? (i := 17) rfl)
theorem cm_18 : (.fieldLink RX5 18 RX5 "wet" "I" : Cond) ∈ cw := List.mem_append_left _ (List.mem_of_getElem? (i := 18) rfl)
theorem cm_19 : (.fieldLink RX5 21 RX5 "kind" "[I" : Cond) ∈ cw := List.mem_append_left _ (List.mem_of_getElem? (i := 19) rfl)
theorem cm_20 : (.fieldLink RX5 25 RX5 "figure" "[I" : Cond) ∈ cw := List.mem_append_left _ (List.mem_of_getElem? (i := 20) rfl)
theorem cm_21 : (.fieldLink RX5 28 RX5 "owner" "[I" : Cond) ∈ cw := List.mem_append_left _ (List.mem_of_getElem? (i := 21) rfl)
theorem cm_22 : (.fieldLink RX5 31 RX5 "at" "[I" : Cond) ∈ cw := List.mem_append_left _ (List.mem_of_getElem? (i := 22) rfl)
theorem cm_23 : (.fieldLink RX5 34 RX5 "holes" "[I" : Cond) ∈ cw := List.mem_append_left _ (List.mem_of_getElem? (i := 23) rfl)
theorem cm_24 : (.fieldLink RX5 37 RX5 "cameFrom" "[I" : Cond) ∈ cw := List.mem_append_left _ (List.mem_of_getElem? (i := 24) rfl)
theorem cm_25 : (.fieldLink RX5 40 RX5 "need" "[I" : Cond) ∈ cw := List.mem_append_left _ (List.mem_of_getElem? (i := 25) rfl)
theorem cm_26 : (.fieldLink RX5 43 RX5 "barred" "[I" : Cond) ∈ cw := List.mem_append_left _ (List.mem_of_getElem? (i := 26) rfl)
theorem cm_27 : (.fieldLink RX5 46 RX5 "cover" "[I" : Cond) ∈ cw := List.mem_append_left _ (List.mem_of_getElem? (i := 27) rfl)
theorem cm_28 : (.fieldLink RX5 49 RX5 "has" "[I" : Cond) ∈ cw := List.mem_append_left _ (List.mem_of_getElem? (i := 28) rfl)
theorem cm_29 : (.methodLink RX6 3 objectInit : Cond) ∈ cw := List.mem_append_left _ (List.mem_of_getElem? (i := 29) rfl)
theorem cm_30 : (.classLink RX6 9 RX5 : Cond) ∈ cw := List.mem_append_left _ (List.mem_of_getElem? (i := 30) rfl)
theorem cm_31 : (.instantiable RX5 13 : Cond) ∈ cw := List.mem_append_left _ (List.mem_of_getElem? (i := 31) rfl)
theorem cm_32 : (.initialized RX5 : Cond) ∈ cw := List.mem_append_left _ (List.mem_of_getElem? (i := 32) rfl)
theorem cm_33 : (.instanceMethod yX5_init : Cond) ∈ cw := List.mem_append_left _ (List.mem_of_getElem? (i := 33) rfl)
theorem cm_34 : (.code yX5_init cX5_init 1 none : Cond) ∈ cw := List.mem_append_left _ (List.mem_of_getElem? (i := 34) rfl)
theorem cm_35 : (.fieldLink RX6 12 RX6 "mind" "LWallsByTheHour$Street;" : Cond) ∈ cw := List.mem_append_left _ (List.mem_of_getElem? (i := 35) rfl)
theorem cm_36 : (.fieldLink RX6 18 RX6 "lackOfFirst" "[I" : Cond) ∈ cw := List.mem_append_left _ (List.mem_of_getElem? (i := 36) rfl)
theorem cm_37 : (.fieldLink RX6 22 RX6 "lackOfSecond" "[I" : Cond) ∈ cw := List.mem_append_left _ (List.mem_of_getElem? (i := 37) rfl)
theorem cm_38 : (.methodLink RX7 1 objectInit : Cond) ∈ cw := List.mem_append_left _ (List.mem_of_getElem? (i := 38) rfl)
theorem cm_39 : (.classLink RX7 7 RX5 : Cond) ∈ cw := List.mem_append_left _ (List.mem_of_getElem? (i := 39) rfl)
theorem cm_40 : (.fieldLink RX7 10 RX7 "now" "LWallsByTheHour$Street;" : Cond) ∈ cw := List.mem_append_left _ (List.mem_of_getElem? (i := 40) rfl)
theorem cm_41 : (.fieldLink RX7 16 RX7 "keptStreet" "LWallsByTheHour$Street;" : Cond) ∈ cw := List.mem_append_left _ (List.mem_of_getElem? (i := 41) rfl)
theorem cm_42 : (.classLink RX7 19 RX1 : Cond) ∈ cw := List.mem_append_left _ (List.mem_of_getElem? (i := 42) rfl)
theorem cm_43 : (.instantiable RX1 1 : Cond) ∈ cw := List.mem_append_left _ (List.mem_of_getElem? (i := 43) rfl)
theorem cm_44 : (.initialized RX1 : Cond) ∈ cw := List.mem_append_left _ (List.mem_of_getElem? (i := 44) rfl)
theorem cm_45 : (.instanceMethod yX1_init : Cond) ∈ cw := List.mem_append_left _ (List.mem_of_getElem? (i := 45) rfl)
theorem cm_46 : (.code yX1_init cX1_init 1 none : Cond) ∈ cw := List.mem_append_left _ (List.mem_of_getElem? (i := 46) rfl)
theorem cm_47 : (.fieldLink RX7 22 RX7 "seen" "LWallsByTheHour$History;" : Cond) ∈ cw := List.mem_append_left _ (List.mem_of_getElem? (i := 47) rfl)
theorem cm_48 : (.fieldLink RX7 26 RX7 "hasImage" "Z" : Cond) ∈ cw := List.mem_append_left _ (List.mem_of_getElem? (i := 48) rfl)
theorem cm_49 : (.classLink RX7 30 RX3 : Cond) ∈ cw := List.mem_append_left _ (List.mem_of_getElem? (i := 49) rfl)
theorem cm_50 : (.instantiable RX3 2 : Cond) ∈ cw := List.mem_append_left _ (List.mem_of_getElem? (i := 50) rfl)
theorem cm_51 : (.initialized RX3 : Cond) ∈ cw := List.mem_append_left _ (List.mem_of_getElem? (i := 51) rfl)
theorem cm_52 : (.instanceMethod yX3_init : Cond) ∈ cw := List.mem_append_left _ (List.mem_of_getElem? (i := 52) rfl)
theorem cm_53 : (.code yX3_init cX3_init 1 none : Cond) ∈ cw := List.mem_append_left _ (List.mem_of_getElem? (i := 53) rfl)
theorem cm_54 : (.fieldLink RX7 33 RX7 "letters" "LWallsByTheHour$Letters;" : Cond) ∈ cw := List.mem_append_left _ (List.mem_of_getElem? (i := 54) rfl)
theorem cm_55 : (.classLink RX7 37 RX4 : Cond) ∈ cw := List.mem_append_left _ (List.mem_of_getElem? (i := 55) rfl)
theorem cm_56 : (.instantiable RX4 2 : Cond) ∈ cw := List.mem_append_left _ (List.mem_of_getElem? (i := 56) rfl)
theorem cm_57 : (.initialized RX4 : Cond) ∈ cw := List.mem_append_left _ (List.mem_of_getElem? (i := 57) rfl)
theorem cm_58 : (.instanceMethod yX4_init : Cond) ∈ cw := List.mem_append_left _ (List.mem_of_getElem? (i := 58) rfl)
theorem cm_59 : (.code yX4_init cX4_init 1 none : Cond) ∈ cw := List.mem_append_left _ (List.mem_of_getElem? (i := 59) rfl)
theorem cm_60 : (.fieldLink RX7 40 RX7 "told" "LWallsByTheHour$Row;" : Cond) ∈ cw := List.mem_append_left _ (List.mem_of_getElem? (i := 60) rfl)
theorem cm_61 : (.classLink RX7 44 RX0 : Cond) ∈ cw := List.mem_append_left _ (List.mem_of_getElem? (i := 61) rfl)
theorem cm_62 : (.instantiable RX0 2 : Cond) ∈ cw := List.mem_append_left _ (List.mem_of_getElem? (i := 62) rfl)
theorem cm_63 : (.initialized RX0 : Cond) ∈ cw := List.mem_append_left _ (List.mem_of_getElem? (i := 63) rfl)
theorem cm_64 : (.instanceMethod yX0_init : Cond) ∈ cw := List.mem_append_left _ (List.mem_of_getElem? (i := 64) rfl)
theorem cm_65 : (.code yX0_init cX0_init 1 none : Cond) ∈ cw := List.mem_append_left _ (List.mem_of_getElem? (i := 65) rfl)
theorem cm_66 : (.fieldLink RX7 47 RX7 "choices" "LWallsByTheHour$Choices;" : Cond) ∈ cw := List.mem_append_left _ (List.mem_of_getElem? (i := 66) rfl)
theorem cm_67 : (.classLink RX7 51 RX6 : Cond) ∈ cw := List.mem_append_left _ (List.mem_of_getElem? (i := 67) rfl)
theorem cm_68 : (.instantiable RX6 3 : Cond) ∈ cw := List.mem_append_left _ (List.mem_of_getElem? (i := 68) rfl)
theorem cm_69 : (.initialized RX6 : Cond) ∈ cw := List.mem_append_left _ (List.mem_of_getElem? (i := 69) rfl)
theorem cm_70 : (.instanceMethod yX6_init : Cond) ∈ cw := List.mem_append_left _ (List.mem_of_getElem? (i := 70) rfl)
theorem cm_71 : (.code yX6_init cX6_init 1 none : Cond) ∈ cw := List.mem_append_left _ (List.mem_of_getElem? (i := 71) rfl)
theorem cm_72 : (.fieldLink RX7 54 RX7 "thought" "LWallsByTheHour$Thought;" : Cond) ∈ cw := List.mem_append_left _ (List.mem_of_getElem? (i := 72) rfl)
theorem cm_73 : (.fieldLink RX7 58 RX7 "refusals" "[I" : Cond) ∈ cw := List.mem_append_left _ (List.mem_of_getElem? (i := 73) rfl)
theorem cm_74 : (.methodLink RX8 1 objectInit : Cond) ∈ cw := List.mem_append_left _ (List.mem_of_getElem? (i := 74) rfl)
theorem cm_75 : (.fieldLink RX8 7 RX8 "refused" "[I" : Cond) ∈ cw := List.mem_append_left _ (List.mem_of_getElem? (i := 75) rfl)
theorem cm_76 : (.fieldLink RX8 13 RX8 "kind" "[I" : Cond) ∈ cw := List.mem_append_left _ (List.mem_of_getElem? (i := 76) rfl)
theorem cm_77 : (.fieldLink RX8 16 RX8 "figure" "[I" : Cond) ∈ cw := List.mem_append_left _ (List.mem_of_getElem? (i := 77) rfl)
theorem cm_78 : (.fieldLink RX8 19 RX8 "owner" "[I" : Cond) ∈ cw := List.mem_append_left _ (List.mem_of_getElem? (i := 78) rfl)
theorem cm_79 : (.fieldLink RX8 22 RX8 "at" "[I" : Cond) ∈ cw := List.mem_append_left _ (List.mem_of_getElem? (i := 79) rfl)
theorem cm_80 : (.fieldLink RX8 25 RX8 "holes" "[I" : Cond) ∈ cw := List.mem_append_left _ (List.mem_of_getElem? (i := 80) rfl)
theorem cm_81 : (.fieldLink RX8 28 RX8 "need" "[I" : Cond) ∈ cw := List.mem_append_left _ (List.mem_of_getElem? (i := 81) rfl)
theorem cm_82 : (.fieldLink RX8 31 RX8 "barred" "[I" : Cond) ∈ cw := List.mem_append_left _ (List.mem_of_getElem? (i := 82) rfl)
theorem cm_83 : (.fieldLink RX8 34 RX8 "tape" "[I" : Cond) ∈ cw := List.mem_append_left _ (List.mem_of_getElem? (i := 83) rfl)
theorem cm_84 : (.fieldLink RX8 37 RX8 "sort" "[I" : Cond) ∈ cw := List.mem_append_left _ (List.mem_of_getElem? (i := 84) rfl)
theorem cm_85 : (.fieldLink RX8 40 RX8 "sortAt" "[I" : Cond) ∈ cw := List.mem_append_left _ (List.mem_of_getElem? (i := 85) rfl)
theorem cm_86 : (.fieldLink RX8 43 RX8 "told" "[I" : Cond) ∈ cw := List.mem_append_left _ (List.mem_of_getElem? (i := 86) rfl)
theorem cm_87 : (.fieldLink RX8 46 RX8 "kept" "[I" : Cond) ∈ cw := List.mem_append_left _ (List.mem_of_getElem? (i := 87) rfl)
theorem cm_88 : (.fieldLink RX8 49 RX8 "seenBy" "[I" : Cond) ∈ cw := List.mem_append_left _ (List.mem_of_getElem? (i := 88) rfl)
theorem cm_89 : (.fieldLink RX8 52 RX8 "ends" "[I" : Cond) ∈ cw := List.mem_append_left _ (List.mem_of_getElem? (i := 89) rfl)
theorem cm_90 : (.fieldLink RX8 55 RX8 "many" "[J" : Cond) ∈ cw := List.mem_append_left _ (List.mem_of_getElem? (i := 90) rfl)
theorem cm_91 : (.fieldLink RX8 59 RX8 "next" "[J" : Cond) ∈ cw := List.mem_append_left _ (List.mem_of_getElem? (i := 91) rfl)
theorem cm_92 : (.fieldLink RX8 62 RX8 "row" "[I" : Cond) ∈ cw := List.mem_append_left _ (List.mem_of_getElem? (i := 92) rfl)
theorem cm_93 : (.fieldLink RX8 65 RX8 "walls" "I" : Cond) ∈ cw := List.mem_append_left _ (List.mem_of_getElem? (i := 93) rfl)
theorem cm_94 : (.methodLink RL 9 yX7_init : Cond) ∈ cw := List.mem_append_left _ (List.mem_of_getElem? (i := 94) rfl)
theorem cm_95 : (.methodLink RL 12 yX8_init : Cond) ∈ cw := List.mem_append_left _ (List.mem_of_getElem? (i := 95) rfl)
theorem cm_96 : (.classLink RL 7 RX7 : Cond) ∈ cw := List.mem_append_left _ (List.mem_of_getElem? (i := 96) rfl)
theorem cm_97 : (.classLink RL 10 RX8 : Cond) ∈ cw := List.mem_append_left _ (List.mem_of_getElem? (i := 97) rfl)
theorem cm_98 : (.instantiable RX7 9 : Cond) ∈ cw := List.mem_append_left _ (List.mem_of_getElem? (i := 98) rfl)
theorem cm_99 : (.initialized RX7 : Cond) ∈ cw := List.mem_append_left _ (List.mem_of_getElem? (i := 99) rfl)
theorem cm_100 : (.instanceMethod yX7_init : Cond) ∈ cw := List.mem_append_left _ (List.mem_of_getElem? (i := 100) rfl)
theorem cm_101 : (.code yX7_init cX7_init 1 none : Cond) ∈ cw := List.mem_append_left _ (List.mem_of_getElem? (i := 101) rfl)
theorem cm_102 : (.instantiable RX8 36 : Cond) ∈ cw := List.mem_append_left _ (List.mem_of_getElem? (i := 102) rfl)
theorem cm_103 : (.initialized RX8 : Cond) ∈ cw := List.mem_append_left _ (List.mem_of_getElem? (i := 103) rfl)
theorem cm_104 : (.instanceMethod yX8_init : Cond) ∈ cw := List.mem_append_left _ (List.mem_of_getElem? (i := 104) rfl)
theorem cm_105 : (.code yX8_init cX8_init 1 none : Cond) ∈ cw := List.mem_append_left _ (List.mem_of_getElem? (i := 105) rfl)
theorem dfX1 : ∀ j, j < 1 → defaultValue (tyX1 j) = vp_V [.null] j
  | 0, _ => rfl
  | n + 1, h => absurd h (by omega)
theorem dfX3 : ∀ j, j < 2 → defaultValue (tyX3 j) = vp_V [.null, .int 0] j
  | 0, _ => rfl
  | 1, _ => rfl
  | n + 2, h => absurd h (by omega)
theorem dfX4 : ∀ j, j < 2 → defaultValue (tyX4 j) = vp_V [.null, .int 0] j
  | 0, _ => rfl
  | 1, _ => rfl
  | n + 2, h => absurd h (by omega)
theorem dfX0 : ∀ j, j < 2 → defaultValue (tyX0 j) = vp_V [.null, .null] j
  | 0, _ => rfl
  | 1, _ => rfl
  | n + 2, h => absurd h (by omega)
theorem dfX5 : ∀ j, j < 13 → defaultValue (tyX5 j) = vp_V [.int 0, .int 0, .int 0, .null, .null, .null, .null, .null, .null, .null, .null, .null, .null] j
  | 0, _ => rfl
  | 1, _ => rfl
  | 2, _ => rfl
  | 3, _ => rfl
  | 4, _ => rfl
  | 5, _ => rfl
  | 6, _ => rfl
  | 7, _ => rfl
  | 8, _ => rfl
  | 9, _ => rfl
  | 10, _ => rfl
  | 11, _ => rfl
  | 12, _ => rfl
  | n + 13, h => absurd h (by omega)
theorem dfX6 : ∀ j, j < 3 → defaultValue (tyX6 j) = vp_V [.null, .null, .null] j
  | 0, _ => rfl
  | 1, _ => rfl
  | 2, _ => rfl
  | n + 3, h => absurd h (by omega)
theorem dfX7 : ∀ j, j < 9 → defaultValue (tyX7 j) = vp_V [.null, .null, .null, .int 0, .null, .null, .null, .null, .null] j
  | 0, _ => rfl
  | 1, _ => rfl
  | 2, _ => rfl
  | 3, _ => rfl
  | 4, _ => rfl
  | 5, _ => rfl
  | 6, _ => rfl
  | 7, _ => rfl
  | 8, _ => rfl
  | n + 9, h => absurd h (by omega)
theorem dfX8 : ∀ j, j < 36 → defaultValue (tyX8 j) = vp_V [.null, .null, .null, .null, .null, .null, .null, .null, .int 0, .int 0, .null, .null, .null, .null, .int 0, .int 0, .int 0, .int 0, .null, .int 0, .int 0, .int 0, .int 0, .null, .int 0, .int 0, .int 0, .int 0, .int 0, .int 0, .null, .null, .null, .null, .int 0, .int 0] j
  | 0, _ => rfl
  | 1, _ => rfl
  | 2, _ => rfl
  | 3, _ => rfl
  | 4, _ => rfl
  | 5, _ => rfl
  | 6, _ => rfl
  | 7, _ => rfl
  | 8, _ => rfl
  | 9, _ => rfl
  | 10, _ => rfl
  | 11, _ => rfl
  | 12, _ => rfl
  | 13, _ => rfl
  | 14, _ => rfl
  | 15, _ => rfl
  | 16, _ => rfl
  | 17, _ => rfl
  | 18, _ => rfl
  | 19, _ => rfl
  | 20, _ => rfl
  | 21, _ => rfl
  | 22, _ => rfl
  | 23, _ => rfl
  | 24, _ => rfl
  | 25, _ => rfl
  | 26, _ => rfl
  | 27, _ => rfl
  | 28, _ => rfl
  | 29, _ => rfl
  | 30, _ => rfl
  | 31, _ => rfl
  | 32, _ => rfl
  | 33, _ => rfl
  | 34, _ => rfl
  | 35, _ => rfl
  | n + 36, h => absurd h (by omega)
theorem d_X1_0 : decode cX1_init 0 = .ok (.aload_n 0, 1) := by decide +kernel
theorem d_X1_1 : decode cX1_init 1 = .ok (.invokespecial 3, 3) := by decide +kernel
theorem d_X1_4 : decode cX1_init 4 = .ok (.aload_n 0, 1) := by decide +kernel
theorem d_X1_5 : decode cX1_init 5 = .ok (.sipush 1000, 3) := by decide +kernel
theorem d_X1_8 : decode cX1_init 8 = .ok (.newarray .int, 2) := by decide +kernel
theorem d_X1_10 : decode cX1_init 10 = .ok (.putfield 9, 3) := by decide +kernel
theorem d_X1_13 : decode cX1_init 13 = .ok (.return_, 1) := by decide +kernel
theorem d_X3_0 : decode cX3_init 0 = .ok (.aload_n 0, 1) := by decide +kernel
theorem d_X3_1 : decode cX3_init 1 = .ok (.invokespecial 3, 3) := by decide +kernel
theorem d_X3_4 : decode cX3_init 4 = .ok (.aload_n 0, 1) := by decide +kernel
theorem d_X3_5 : decode cX3_init 5 = .ok (.bipush 96, 2) := by decide +kernel
theorem d_X3_7 : decode cX3_init 7 = .ok (.newarray .int, 2) := by decide +kernel
theorem d_X3_9 : decode cX3_init 9 = .ok (.putfield 9, 3) := by decide +kernel
theorem d_X3_12 : decode cX3_init 12 = .ok (.aload_n 0, 1) := by decide +kernel
theorem d_X3_13 : decode cX3_init 13 = .ok (.iconst 0, 1) := by decide +kernel
theorem d_X3_14 : decode cX3_init 14 = .ok (.putfield 15, 3) := by decide +kernel
theorem d_X3_17 : decode cX3_init 17 = .ok (.return_, 1) := by decide +kernel
theorem d_X4_0 : decode cX4_init 0 = .ok (.aload_n 0, 1) := by decide +kernel
theorem d_X4_1 : decode cX4_init 1 = .ok (.invokespecial 3, 3) := by decide +kernel
theorem d_X4_4 : decode cX4_init 4 = .ok (.aload_n 0, 1) := by decide +kernel
theorem d_X4_5 : decode cX4_init 5 = .ok (.bipush 16, 2) := by decide +kernel
theorem d_X4_7 : decode cX4_init 7 = .ok (.newarray .int, 2) := by decide +kernel
theorem d_X4_9 : decode cX4_init 9 = .ok (.putfield 9, 3) := by decide +kernel
theorem d_X4_12 : decode cX4_init 12 = .ok (.aload_n 0, 1) := by decide +kernel
theorem d_X4_13 : decode cX4_init 13 = .ok (.iconst 0, 1) := by decide +kernel
theorem d_X4_14 : decode cX4_init 14 = .ok (.putfield 15, 3) := by decide +kernel
theorem d_X4_17 : decode cX4_init 17 = .ok (.return_, 1) := by decide +kernel
theorem d_X0_0 : decode cX0_init 0 = .ok (.aload_n 0, 1) := by decide +kernel
theorem d_X0_1 : decode cX0_init 1 = .ok (.invokespecial 3, 3) := by decide +kernel
theorem d_X0_4 : decode cX0_init 4 = .ok (.aload_n 0, 1) := by decide +kernel
theorem d_X0_5 : decode cX0_init 5 = .ok (.bipush 8, 2) := by decide +kernel
theorem d_X0_7 : decode cX0_init 7 = .ok (.newarray .long, 2) := by decide +kernel
theorem d_X0_9 : decode cX0_init 9 = .ok (.putfield 9, 3) := by decide +kernel
theorem d_X0_12 : decode cX0_init 12 = .ok (.aload_n 0, 1) := by decide +kernel
theorem d_X0_13 : decode cX0_init 13 = .ok (.bipush 8, 2) := by decide +kernel
theorem d_X0_15 : decode cX0_init 15 = .ok (.newarray .long, 2) := by decide +kernel
theorem d_X0_17 : decode cX0_init 17 = .ok (.putfield 15, 3) := by decide +kernel
theorem d_X0_20 : decode cX0_init 20 = .ok (.return_, 1) := by decide +kernel
theorem d_X5_0 : decode cX5_init 0 = .ok (.aload_n 0, 1) := by decide +kernel
theorem d_X5_1 : decode cX5_init 1 = .ok (.invokespecial 3, 3) := by decide +kernel
theorem d_X5_4 : decode cX5_init 4 = .ok (.aload_n 0, 1) := by decide +kernel
theorem d_X5_5 : decode cX5_init 5 = .ok (.iconst 0, 1) := by decide +kernel
theorem d_X5_6 : decode cX5_init 6 = .ok (.putfield 9, 3) := by decide +kernel
theorem d_X5_9 : decode cX5_init 9 = .ok (.aload_n 0, 1) := by decide +kernel
theorem d_X5_10 : decode cX5_init 10 = .ok (.iconst 0, 1) := by decide +kernel
theorem d_X5_11 : decode cX5_init 11 = .ok (.putfield 15, 3) := by decide +kernel
theorem d_X5_14 : decode cX5_init 14 = .ok (.aload_n 0, 1) := by decide +kernel
theorem d_X5_15 : decode cX5_init 15 = .ok (.iconst 0, 1) := by decide +kernel
theorem d_X5_16 : decode cX5_init 16 = .ok (.putfield 18, 3) := by decide +kernel
theorem d_X5_19 : decode cX5_init 19 = .ok (.aload_n 0, 1) := by decide +kernel
theorem d_X5_20 : decode cX5_init 20 = .ok (.bipush 7, 2) := by decide +kernel
theorem d_X5_22 : decode cX5_init 22 = .ok (.newarray .int, 2) := by decide +kernel
theorem d_X5_24 : decode cX5_init 24 = .ok (.putfield 21, 3) := by decide +kernel
theorem d_X5_27 : decode cX5_init 27 = .ok (.aload_n 0, 1) := by decide +kernel
theorem d_X5_28 : decode cX5_init 28 = .ok (.bipush 7, 2) := by decide +kernel
theorem d_X5_30 : decode cX5_init 30 = .ok (.newarray .int, 2) := by decide +kernel
theorem d_X5_32 : decode cX5_init 32 = .ok (.putfield 25, 3) := by decide +kernel
theorem d_X5_35 : decode cX5_init 35 = .ok (.aload_n 0, 1) := by decide +kernel
theorem d_X5_36 : decode cX5_init 36 = .ok (.bipush 7, 2) := by decide +kernel
theorem d_X5_38 : decode cX5_init 38 = .ok (.newarray .int, 2) := by decide +kernel
theorem d_X5_40 : decode cX5_init 40 = .ok (.putfield 28, 3) := by decide +kernel
theorem d_X5_43 : decode cX5_init 43 = .ok (.aload_n 0, 1) := by decide +kernel
theorem d_X5_44 : decode cX5_init 44 = .ok (.bipush 7, 2) := by decide +kernel
theorem d_X5_46 : decode cX5_init 46 = .ok (.newarray .int, 2) := by decide +kernel
theorem d_X5_48 : decode cX5_init 48 = .ok (.putfield 31, 3) := by decide +kernel
theorem d_X5_51 : decode cX5_init 51 = .ok (.aload_n 0, 1) := by decide +kernel
theorem d_X5_52 : decode cX5_init 52 = .ok (.bipush 7, 2) := by decide +kernel
theorem d_X5_54 : decode cX5_init 54 = .ok (.newarray .int, 2) := by decide +kernel
theorem d_X5_56 : decode cX5_init 56 = .ok (.putfield 34, 3) := by decide +kernel
theorem d_X5_59 : decode cX5_init 59 = .ok (.aload_n 0, 1) := by decide +kernel
theorem d_X5_60 : decode cX5_init 60 = .ok (.bipush 7, 2) := by decide +kernel
theorem d_X5_62 : decode cX5_init 62 = .ok (.newarray .int, 2) := by decide +kernel
theorem d_X5_64 : decode cX5_init 64 = .ok (.putfield 37, 3) := by decide +kernel
theorem d_X5_67 : decode cX5_init 67 = .ok (.aload_n 0, 1) := by decide +kernel
theorem d_X5_68 : decode cX5_init 68 = .ok (.bipush 48, 2) := by decide +kernel
theorem d_X5_70 : decode cX5_init 70 = .ok (.newarray .int, 2) := by decide +kernel
theorem d_X5_72 : decode cX5_init 72 = .ok (.putfield 40, 3) := by decide +kernel
theorem d_X5_75 : decode cX5_init 75 = .ok (.aload_n 0, 1) := by decide +kernel
theorem d_X5_76 : decode cX5_init 76 = .ok (.bipush 8, 2) := by decide +kernel
theorem d_X5_78 : decode cX5_init 78 = .ok (.newarray .int, 2) := by decide +kernel
theorem d_X5_80 : decode cX5_init 80 = .ok (.putfield 43, 3) := by decide +kernel
theorem d_X5_83 : decode cX5_init 83 = .ok (.aload_n 0, 1) := by decide +kernel
theorem d_X5_84 : decode cX5_init 84 = .ok (.bipush 7, 2) := by decide +kernel
theorem d_X5_86 : decode cX5_init 86 = .ok (.newarray .int, 2) := by decide +kernel
theorem d_X5_88 : decode cX5_init 88 = .ok (.putfield 46, 3) := by decide +kernel
theorem d_X5_91 : decode cX5_init 91 = .ok (.aload_n 0, 1) := by decide +kernel
theorem d_X5_92 : decode cX5_init 92 = .ok (.bipush 8, 2) := by decide +kernel
theorem d_X5_94 : decode cX5_init 94 = .ok (.newarray .int, 2) := by decide +kernel
theorem d_X5_96 : decode cX5_init 96 = .ok (.putfield 49, 3) := by decide +kernel
theorem d_X5_99 : decode cX5_init 99 = .ok (.return_, 1) := by decide +kernel
theorem d_X6_0 : decode cX6_init 0 = .ok (.aload_n 0, 1) := by decide +kernel
theorem d_X6_1 : decode cX6_init 1 = .ok (.invokespecial 3, 3) := by decide +kernel
theorem d_X6_4 : decode cX6_init 4 = .ok (.aload_n 0, 1) := by decide +kernel
theorem d_X6_5 : decode cX6_init 5 = .ok (.new 9, 3) := by decide +kernel
theorem d_X6_8 : decode cX6_init 8 = .ok (.dup, 1) := by decide +kernel
theorem d_X6_9 : decode cX6_init 9 = .ok (.invokespecial 11, 3) := by decide +kernel
theorem d_X6_12 : decode cX6_init 12 = .ok (.putfield 12, 3) := by decide +kernel
theorem d_X6_15 : decode cX6_init 15 = .ok (.aload_n 0, 1) := by decide +kernel
theorem d_X6_16 : decode cX6_init 16 = .ok (.iconst 4, 1) := by decide +kernel
theorem d_X6_17 : decode cX6_init 17 = .ok (.newarray .int, 2) := by decide +kernel
theorem d_X6_19 : decode cX6_init 19 = .ok (.putfield 18, 3) := by decide +kernel
theorem d_X6_22 : decode cX6_init 22 = .ok (.aload_n 0, 1) := by decide +kernel
theorem d_X6_23 : decode cX6_init 23 = .ok (.iconst 4, 1) := by decide +kernel
theorem d_X6_24 : decode cX6_init 24 = .ok (.newarray .int, 2) := by decide +kernel
theorem d_X6_26 : decode cX6_init 26 = .ok (.putfield 22, 3) := by decide +kernel
theorem d_X6_29 : decode cX6_init 29 = .ok (.return_, 1) := by decide +kernel
theorem d_X7_0 : decode cX7_init 0 = .ok (.aload_n 0, 1) := by decide +kernel
theorem d_X7_1 : decode cX7_init 1 = .ok (.invokespecial 1, 3) := by decide +kernel
theorem d_X7_4 : decode cX7_init 4 = .ok (.aload_n 0, 1) := by decide +kernel
theorem d_X7_5 : decode cX7_init 5 = .ok (.new 7, 3) := by decide +kernel
theorem d_X7_8 : decode cX7_init 8 = .ok (.dup, 1) := by decide +kernel
theorem d_X7_9 : decode cX7_init 9 = .ok (.invokespecial 9, 3) := by decide +kernel
theorem d_X7_12 : decode cX7_init 12 = .ok (.putfield 10, 3) := by decide +kernel
theorem d_X7_15 : decode cX7_init 15 = .ok (.aload_n 0, 1) := by decide +kernel
theorem d_X7_16 : decode cX7_init 16 = .ok (.new 7, 3) := by decide +kernel
theorem d_X7_19 : decode cX7_init 19 = .ok (.dup, 1) := by decide +kernel
theorem d_X7_20 : decode cX7_init 20 = .ok (.invokespecial 9, 3) := by decide +kernel
theorem d_X7_23 : decode cX7_init 23 = .ok (.putfield 16, 3) := by decide +kernel
theorem d_X7_26 : decode cX7_init 26 = .ok (.aload_n 0, 1) := by decide +kernel
theorem d_X7_27 : decode cX7_init 27 = .ok (.new 19, 3) := by decide +kernel
theorem d_X7_30 : decode cX7_init 30 = .ok (.dup, 1) := by decide +kernel
theorem d_X7_31 : decode cX7_init 31 = .ok (.invokespecial 21, 3) := by decide +kernel
theorem d_X7_34 : decode cX7_init 34 = .ok (.putfield 22, 3) := by decide +kernel
theorem d_X7_37 : decode cX7_init 37 = .ok (.aload_n 0, 1) := by decide +kernel
theorem d_X7_38 : decode cX7_init 38 = .ok (.iconst 0, 1) := by decide +kernel
theorem d_X7_39 : decode cX7_init 39 = .ok (.putfield 26, 3) := by decide +kernel
theorem d_X7_42 : decode cX7_init 42 = .ok (.aload_n 0, 1) := by decide +kernel
theorem d_X7_43 : decode cX7_init 43 = .ok (.new 30, 3) := by decide +kernel
theorem d_X7_46 : decode cX7_init 46 = .ok (.dup, 1) := by decide +kernel
theorem d_X7_47 : decode cX7_init 47 = .ok (.invokespecial 32, 3) := by decide +kernel
theorem d_X7_50 : decode cX7_init 50 = .ok (.putfield 33, 3) := by decide +kernel
theorem d_X7_53 : decode cX7_init 53 = .ok (.aload_n 0, 1) := by decide +kernel
theorem d_X7_54 : decode cX7_init 54 = .ok (.new 37, 3) := by decide +kernel
theorem d_X7_57 : decode cX7_init 57 = .ok (.dup, 1) := by decide +kernel
theorem d_X7_58 : decode cX7_init 58 = .ok (.invokespecial 39, 3) := by decide +kernel
theorem d_X7_61 : decode cX7_init 61 = .ok (.putfield 40, 3) := by decide +kernel
theorem d_X7_64 : decode cX7_init 64 = .ok (.aload_n 0, 1) := by decide +kernel
theorem d_X7_65 : decode cX7_init 65 = .ok (.new 44, 3) := by decide +kernel
theorem d_X7_68 : decode cX7_init 68 = .ok (.dup, 1) := by decide +kernel
theorem d_X7_69 : decode cX7_init 69 = .ok (.invokespecial 46, 3) := by decide +kernel
theorem d_X7_72 : decode cX7_init 72 = .ok (.putfield 47, 3) := by decide +kernel
theorem d_X7_75 : decode cX7_init 75 = .ok (.aload_n 0, 1) := by decide +kernel
theorem d_X7_76 : decode cX7_init 76 = .ok (.new 51, 3) := by decide +kernel
theorem d_X7_79 : decode cX7_init 79 = .ok (.dup, 1) := by decide +kernel
theorem d_X7_80 : decode cX7_init 80 = .ok (.invokespecial 53, 3) := by decide +kernel
theorem d_X7_83 : decode cX7_init 83 = .ok (.putfield 54, 3) := by decide +kernel
theorem d_X7_86 : decode cX7_init 86 = .ok (.aload_n 0, 1) := by decide +kernel
theorem d_X7_87 : decode cX7_init 87 = .ok (.bipush 7, 2) := by decide +kernel
theorem d_X7_89 : decode cX7_init 89 = .ok (.newarray .int, 2) := by decide +kernel
theorem d_X7_91 : decode cX7_init 91 = .ok (.putfield 58, 3) := by decide +kernel
theorem d_X7_94 : decode cX7_init 94 = .ok (.return_, 1) := by decide +kernel
theorem d_X8_0 : decode cX8_init 0 = .ok (.aload_n 0, 1) := by decide +kernel
theorem d_X8_1 : decode cX8_init 1 = .ok (.invokespecial 1, 3) := by decide +kernel
theorem d_X8_4 : decode cX8_init 4 = .ok (.aload_n 0, 1) := by decide +kernel
theorem d_X8_5 : decode cX8_init 5 = .ok (.bipush 7, 2) := by decide +kernel
theorem d_X8_7 : decode cX8_init 7 = .ok (.newarray .int, 2) := by decide +kernel
theorem d_X8_9 : decode cX8_init 9 = .ok (.putfield 7, 3) := by decide +kernel
theorem d_X8_12 : decode cX8_init 12 = .ok (.aload_n 0, 1) := by decide +kernel
theorem d_X8_13 : decode cX8_init 13 = .ok (.bipush 7, 2) := by decide +kernel
theorem d_X8_15 : decode cX8_init 15 = .ok (.newarray .int, 2) := by decide +kernel
theorem d_X8_17 : decode cX8_init 17 = .ok (.putfield 13, 3) := by decide +kernel
theorem d_X8_20 : decode cX8_init 20 = .ok (.aload_n 0, 1) := by decide +kernel
theorem d_X8_21 : decode cX8_init 21 = .ok (.bipush 7, 2) := by decide +kernel
theorem d_X8_23 : decode cX8_init 23 = .ok (.newarray .int, 2) := by decide +kernel
theorem d_X8_25 : decode cX8_init 25 = .ok (.putfield 16, 3) := by decide +kernel
theorem d_X8_28 : decode cX8_init 28 = .ok (.aload_n 0, 1) := by decide +kernel
theorem d_X8_29 : decode cX8_init 29 = .ok (.bipush 7, 2) := by decide +kernel
theorem d_X8_31 : decode cX8_init 31 = .ok (.newarray .int, 2) := by decide +kernel
theorem d_X8_33 : decode cX8_init 33 = .ok (.putfield 19, 3) := by decide +kernel
theorem d_X8_36 : decode cX8_init 36 = .ok (.aload_n 0, 1) := by decide +kernel
theorem d_X8_37 : decode cX8_init 37 = .ok (.bipush 7, 2) := by decide +kernel
theorem d_X8_39 : decode cX8_init 39 = .ok (.newarray .int, 2) := by decide +kernel
theorem d_X8_41 : decode cX8_init 41 = .ok (.putfield 22, 3) := by decide +kernel
theorem d_X8_44 : decode cX8_init 44 = .ok (.aload_n 0, 1) := by decide +kernel
theorem d_X8_45 : decode cX8_init 45 = .ok (.bipush 7, 2) := by decide +kernel
theorem d_X8_47 : decode cX8_init 47 = .ok (.newarray .int, 2) := by decide +kernel
theorem d_X8_49 : decode cX8_init 49 = .ok (.putfield 25, 3) := by decide +kernel
theorem d_X8_52 : decode cX8_init 52 = .ok (.aload_n 0, 1) := by decide +kernel
theorem d_X8_53 : decode cX8_init 53 = .ok (.bipush 48, 2) := by decide +kernel
theorem d_X8_55 : decode cX8_init 55 = .ok (.newarray .int, 2) := by decide +kernel
theorem d_X8_57 : decode cX8_init 57 = .ok (.putfield 28, 3) := by decide +kernel
theorem d_X8_60 : decode cX8_init 60 = .ok (.aload_n 0, 1) := by decide +kernel
theorem d_X8_61 : decode cX8_init 61 = .ok (.bipush 8, 2) := by decide +kernel
theorem d_X8_63 : decode cX8_init 63 = .ok (.newarray .int, 2) := by decide +kernel
theorem d_X8_65 : decode cX8_init 65 = .ok (.putfield 31, 3) := by decide +kernel
theorem d_X8_68 : decode cX8_init 68 = .ok (.aload_n 0, 1) := by decide +kernel
theorem d_X8_69 : decode cX8_init 69 = .ok (.bipush 96, 2) := by decide +kernel
theorem d_X8_71 : decode cX8_init 71 = .ok (.newarray .int, 2) := by decide +kernel
theorem d_X8_73 : decode cX8_init 73 = .ok (.putfield 34, 3) := by decide +kernel
theorem d_X8_76 : decode cX8_init 76 = .ok (.aload_n 0, 1) := by decide +kernel
theorem d_X8_77 : decode cX8_init 77 = .ok (.bipush 32, 2) := by decide +kernel
theorem d_X8_79 : decode cX8_init 79 = .ok (.newarray .int, 2) := by decide +kernel
theorem d_X8_81 : decode cX8_init 81 = .ok (.putfield 37, 3) := by decide +kernel
theorem d_X8_84 : decode cX8_init 84 = .ok (.aload_n 0, 1) := by decide +kernel
theorem d_X8_85 : decode cX8_init 85 = .ok (.bipush 32, 2) := by decide +kernel
theorem d_X8_87 : decode cX8_init 87 = .ok (.newarray .int, 2) := by decide +kernel
theorem d_X8_89 : decode cX8_init 89 = .ok (.putfield 40, 3) := by decide +kernel
theorem d_X8_92 : decode cX8_init 92 = .ok (.aload_n 0, 1) := by decide +kernel
theorem d_X8_93 : decode cX8_init 93 = .ok (.sipush 224, 3) := by decide +kernel
theorem d_X8_96 : decode cX8_init 96 = .ok (.newarray .int, 2) := by decide +kernel
theorem d_X8_98 : decode cX8_init 98 = .ok (.putfield 43, 3) := by decide +kernel
theorem d_X8_101 : decode cX8_init 101 = .ok (.aload_n 0, 1) := by decide +kernel
theorem d_X8_102 : decode cX8_init 102 = .ok (.sipush 279, 3) := by decide +kernel
theorem d_X8_105 : decode cX8_init 105 = .ok (.newarray .int, 2) := by decide +kernel
theorem d_X8_107 : decode cX8_init 107 = .ok (.putfield 46, 3) := by decide +kernel
theorem d_X8_110 : decode cX8_init 110 = .ok (.aload_n 0, 1) := by decide +kernel
theorem d_X8_111 : decode cX8_init 111 = .ok (.sipush 1000, 3) := by decide +kernel
theorem d_X8_114 : decode cX8_init 114 = .ok (.newarray .int, 2) := by decide +kernel
theorem d_X8_116 : decode cX8_init 116 = .ok (.putfield 49, 3) := by decide +kernel
theorem d_X8_119 : decode cX8_init 119 = .ok (.aload_n 0, 1) := by decide +kernel
theorem d_X8_120 : decode cX8_init 120 = .ok (.bipush 8, 2) := by decide +kernel
theorem d_X8_122 : decode cX8_init 122 = .ok (.newarray .int, 2) := by decide +kernel
theorem d_X8_124 : decode cX8_init 124 = .ok (.putfield 52, 3) := by decide +kernel
theorem d_X8_127 : decode cX8_init 127 = .ok (.aload_n 0, 1) := by decide +kernel
theorem d_X8_128 : decode cX8_init 128 = .ok (.bipush 8, 2) := by decide +kernel
theorem d_X8_130 : decode cX8_init 130 = .ok (.newarray .long, 2) := by decide +kernel
theorem d_X8_132 : decode cX8_init 132 = .ok (.putfield 55, 3) := by decide +kernel
theorem d_X8_135 : decode cX8_init 135 = .ok (.aload_n 0, 1) := by decide +kernel
theorem d_X8_136 : decode cX8_init 136 = .ok (.bipush 8, 2) := by decide +kernel
theorem d_X8_138 : decode cX8_init 138 = .ok (.newarray .long, 2) := by decide +kernel
theorem d_X8_140 : decode cX8_init 140 = .ok (.putfield 59, 3) := by decide +kernel
theorem d_X8_143 : decode cX8_init 143 = .ok (.aload_n 0, 1) := by decide +kernel
theorem d_X8_144 : decode cX8_init 144 = .ok (.bipush 16, 2) := by decide +kernel
theorem d_X8_146 : decode cX8_init 146 = .ok (.newarray .int, 2) := by decide +kernel
theorem d_X8_148 : decode cX8_init 148 = .ok (.putfield 62, 3) := by decide +kernel
theorem d_X8_151 : decode cX8_init 151 = .ok (.aload_n 0, 1) := by decide +kernel
theorem d_X8_152 : decode cX8_init 152 = .ok (.iconst 0, 1) := by decide +kernel
theorem d_X8_153 : decode cX8_init 153 = .ok (.putfield 65, 3) := by decide +kernel
theorem d_X8_156 : decode cX8_init 156 = .ok (.return_, 1) := by decide +kernel
section
variable {p : Program} {l : Launch} {e : Env} {R : Room} {s : State} {m : MethodId} {args : Array Value} {below : List Frame} {meth : Method} {c : Code} {H H0 : Heap} {locs : List Loc} {cells slots : Nat} {Q : State → Prop}
variable {cc : ByteArray} {pc : Nat} {ls : Array Slot} {rest : List Value} {A : Nat → Prop} {ws : va_W} {cI cL : ClassId} {D : va_G} {cl : List vw_C}
theorem ax_newI (hexec : p.tables.exec = Jvm.exec) (hb : c.code = cc) (harr : (Cond.arrayClass .int).before args s = true) (hK : va_K D cl (ax_tys cI cL) s) (hP : va_P D cl ws H) (hD : va_D A ws) (hS : va_S A H0 H locs) (hA : ∀ q, H0.size ≤ q → A q)
    {n : Int32} {N' : Nat} {a0 : vp_A} (ha : ∀ cA : ClassId, vp_cell cA a0 = arrV cA N' (fun _ => defaultValue .int)) (hn : ¬ n < 0) (hN : n.toNatClampNeg = N') (hbytes : N' * componentBytes .int ≤ 536870912) (hcells : cells + 1 ≤ R.cells) (hslots : slots + N' ≤ R.slots) (hdg : decode cc pc = .ok (.newarray .int, 2))
    (kk : ∀ (q : Nat) (H1 : Heap), va_P D cl (ws ++ [(q, .inl (cI, a0))]) H1 → va_D A (ws ++ [(q, .inl (cI, a0))]) → va_S A H0 H1 locs → W p l e R s m args below meth c H1 locs (cells + 1) (slots + N') Q (F0 m (pc + 2) ls (.ref q :: rest))) : W p l e R s m args below meth c H locs cells slots Q (F0 m pc ls (.int n :: rest)) := by
  refine va_newa hexec hb (atype := .int) harr rfl hK hP hD hS hA ha hn hN hbytes hcells hslots hdg (fun q cA H1 hK1 hP1 hD1 hS1 => ?_)
  have e1 : s.vm.findClass ("[" ++ FieldType.int.toString) = some cI := (hK.2 0 (cI, .int) rfl).2
  have e2 : s.vm.findClass ("[" ++ FieldType.int.toString) = some cA := (hK1.2 2 (cA, .int) rfl).2
  have e : cI = cA := Option.some.inj (e1.symm.trans e2)
  subst e
  exact kk q H1 hP1 hD1 hS1
theorem ax_newL (hexec : p.tables.exec = Jvm.exec) (hb : c.code = cc) (harr : (Cond.arrayClass .long).before args s = true) (hK : va_K D cl (ax_tys cI cL) s) (hP : va_P D cl ws H) (hD : va_D A ws) (hS : va_S A H0 H locs) (hA : ∀ q, H0.size ≤ q → A q)
    {n : Int32} {N' : Nat} {a0 : vp_A} (ha : ∀ cA : ClassId, vp_cell cA a0 = arrV cA N' (fun _ => defaultValue .long)) (hn : ¬ n < 0) (hN : n.toNatClampNeg = N') (hbytes : N' * componentBytes .long ≤ 536870912) (hcells : cells + 1 ≤ R.cells) (hslots : slots + N' ≤ R.slots) (hdg : decode cc pc = .ok (.newarray .long, 2))
    (kk : ∀ (q : Nat) (H1 : Heap), va_P D cl (ws ++ [(q, .inl (cL, a0))]) H1 → va_D A (ws ++ [(q, .inl (cL, a0))]) → va_S A H0 H1 locs → W p l e R s m args below meth c H1 locs (cells + 1) (slots + N') Q (F0 m (pc + 2) ls (.ref q :: rest))) : W p l e R s m args below meth c H locs cells slots Q (F0 m pc ls (.int n :: rest)) := by
  refine va_newa hexec hb (atype := .long) harr rfl hK hP hD hS hA ha hn hN hbytes hcells hslots hdg (fun q cA H1 hK1 hP1 hD1 hS1 => ?_)
  have e1 : s.vm.findClass ("[" ++ FieldType.long.toString) = some cL := (hK.2 1 (cL, .long) rfl).2
  have e2 : s.vm.findClass ("[" ++ FieldType.long.toString) = some cA := (hK1.2 2 (cA, .long) rfl).2
  have e : cL = cA := Option.some.inj (e1.symm.trans e2)
  subst e
  exact kk q H1 hP1 hD1 hS1
end
