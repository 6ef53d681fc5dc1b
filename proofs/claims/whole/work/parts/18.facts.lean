/-! WORDS OF THE TABLES, by their places -/
theorem ob_X0 : z_OB 1 RX0 TX0 7 tyX0 := ⟨rfl, rfl, rfl, fun w hw => zTB_in ((by decide +kernel : ∀ w ∈ u_ws RX0 TX0 7, w ∈ lw_tbl) w hw) ((by decide +kernel : ∀ w ∈ u_ws RX0 TX0 7, goodWord w = true) w hw), tyX0_ok, nmX0⟩
theorem ob_X1 : z_OB 2 RX1 TX1 5 tyX1 := ⟨rfl, rfl, rfl, fun w hw => zTB_in ((by decide +kernel : ∀ w ∈ u_ws RX1 TX1 5, w ∈ lw_tbl) w hw) ((by decide +kernel : ∀ w ∈ u_ws RX1 TX1 5, goodWord w = true) w hw), tyX1_ok, nmX1⟩
theorem ob_X2 : z_OB 3 RX2 TX2 10 tyX2 := ⟨rfl, rfl, rfl, fun w hw => zTB_in ((by decide +kernel : ∀ w ∈ u_ws RX2 TX2 10, w ∈ lw_tbl) w hw) ((by decide +kernel : ∀ w ∈ u_ws RX2 TX2 10, goodWord w = true) w hw), tyX2_ok, nmX2⟩
theorem ob_X3 : z_OB 4 RX3 TX3 4 tyX3 := ⟨rfl, rfl, rfl, fun w hw => zTB_in ((by decide +kernel : ∀ w ∈ u_ws RX3 TX3 4, w ∈ lw_tbl) w hw) ((by decide +kernel : ∀ w ∈ u_ws RX3 TX3 4, goodWord w = true) w hw), tyX3_ok, nmX3⟩
theorem ob_X4 : z_OB 5 RX4 TX4 9 tyX4 := ⟨rfl, rfl, rfl, fun w hw => zTB_in ((by decide +kernel : ∀ w ∈ u_ws RX4 TX4 9, w ∈ lw_tbl) w hw) ((by decide +kernel : ∀ w ∈ u_ws RX4 TX4 9, goodWord w = true) w hw), tyX4_ok, nmX4⟩
theorem ob_X5 : z_OB 6 RX5 TX5 3 tyX5 := ⟨rfl, rfl, rfl, fun w hw => zTB_in ((by decide +kernel : ∀ w ∈ u_ws RX5 TX5 3, w ∈ lw_tbl) w hw) ((by decide +kernel : ∀ w ∈ u_ws RX5 TX5 3, goodWord w = true) w hw), tyX5_ok, nmX5⟩
theorem ob_X6 : z_OB 7 RX6 TX6 7 tyX6 := ⟨rfl, rfl, rfl, fun w hw => zTB_in ((by decide +kernel : ∀ w ∈ u_ws RX6 TX6 7, w ∈ lw_tbl) w hw) ((by decide +kernel : ∀ w ∈ u_ws RX6 TX6 7, goodWord w = true) w hw), tyX6_ok, nmX6⟩
theorem ob_X7 : z_OB 8 RX7 TX7 11 tyX7 := ⟨rfl, rfl, rfl, fun w hw => zTB_in ((by decide +kernel : ∀ w ∈ u_ws RX7 TX7 11, w ∈ lw_tbl) w hw) ((by decide +kernel : ∀ w ∈ u_ws RX7 TX7 11, goodWord w = true) w hw), tyX7_ok, nmX7⟩
theorem ob_X8 : z_OB 9 RX8 TX8 15 tyX8 := ⟨rfl, rfl, rfl, fun w hw => zTB_in ((by decide +kernel : ∀ w ∈ u_ws RX8 TX8 15, w ∈ lw_tbl) w hw) ((by decide +kernel : ∀ w ∈ u_ws RX8 TX8 15, goodWord w = true) w hw), tyX8_ok, nmX8⟩
theorem ob_X9 : z_OB 10 RX9 TX9 15 tyX9 := ⟨rfl, rfl, rfl, fun w hw => zTB_in ((by decide +kernel : ∀ w ∈ u_ws RX9 TX9 15, w ∈ lw_tbl) w hw) ((by decide +kernel : ∀ w ∈ u_ws RX9 TX9 15, goodWord w = true) w hw), tyX9_ok, nmX9⟩
theorem ob_X10 : z_OB 11 RX10 TX10 57 tyX10 := ⟨rfl, rfl, rfl, fun w hw => zTB_in ((by decide +kernel : ∀ w ∈ u_ws RX10 TX10 57, w ∈ lw_tbl) w hw) ((by decide +kernel : ∀ w ∈ u_ws RX10 TX10 57, goodWord w = true) w hw), tyX10_ok, nmX10⟩
theorem kf_J0_15 : Cond.fieldLink RJ0 15 "java/lang/String" "coder" "B" ∈ zTB := (zTB_in (List.mem_of_getElem? (i := 1819) (by decide +kernel)) (by decide +kernel))
theorem kf_J0_38 : Cond.fieldLink RJ0 38 "java/lang/String" "COMPACT_STRINGS" "Z" ∈ zTB := (zTB_in (List.mem_of_getElem? (i := 611) (by decide +kernel)) (by decide +kernel))
theorem kf_J0_9 : Cond.fieldLink RJ0 9 "java/lang/String" "value" "[B" ∈ zTB := (zTB_in (List.mem_of_getElem? (i := 1818) (by decide +kernel)) (by decide +kernel))
theorem kf_X0_15 : Cond.fieldLink RX0 15 RX0 (TX0 1).2.1 (TX0 1).2.2.1 ∈ zTB := (zTB_in (List.mem_of_getElem? (i := 150) (by decide +kernel)) (by decide +kernel))
theorem kf_X0_18 : Cond.fieldLink RX0 18 RX0 (TX0 2).2.1 (TX0 2).2.2.1 ∈ zTB := (zTB_in (List.mem_of_getElem? (i := 151) (by decide +kernel)) (by decide +kernel))
theorem kf_X0_21 : Cond.fieldLink RX0 21 RX0 (TX0 3).2.1 (TX0 3).2.2.1 ∈ zTB := (zTB_in (List.mem_of_getElem? (i := 152) (by decide +kernel)) (by decide +kernel))
theorem kf_X0_24 : Cond.fieldLink RX0 24 RX0 (TX0 4).2.1 (TX0 4).2.2.1 ∈ zTB := (zTB_in (List.mem_of_getElem? (i := 153) (by decide +kernel)) (by decide +kernel))
theorem kf_X0_28 : Cond.fieldLink RX0 28 RX0 (TX0 5).2.1 (TX0 5).2.2.1 ∈ zTB := (zTB_in (List.mem_of_getElem? (i := 154) (by decide +kernel)) (by decide +kernel))
theorem kf_X0_32 : Cond.fieldLink RX0 32 RX0 (TX0 6).2.1 (TX0 6).2.2.1 ∈ zTB := (zTB_in (List.mem_of_getElem? (i := 155) (by decide +kernel)) (by decide +kernel))
theorem kf_X0_9 : Cond.fieldLink RX0 9 RX0 (TX0 0).2.1 (TX0 0).2.2.1 ∈ zTB := (zTB_in (List.mem_of_getElem? (i := 149) (by decide +kernel)) (by decide +kernel))
theorem kf_X10_102 : Cond.fieldLink RX10 102 RX10 (TX10 56).2.1 (TX10 56).2.2.1 ∈ zTB := (zTB_in (List.mem_of_getElem? (i := 1199) (by decide +kernel)) (by decide +kernel))
theorem kf_X10_106 : Cond.fieldLink RX10 106 RX10 (TX10 1).2.1 (TX10 1).2.2.1 ∈ zTB := (zTB_in (List.mem_of_getElem? (i := 1144) (by decide +kernel)) (by decide +kernel))
theorem kf_X10_114 : Cond.fieldLink RX10 114 RX10 (TX10 19).2.1 (TX10 19).2.2.1 ∈ zTB := (zTB_in (List.mem_of_getElem? (i := 1162) (by decide +kernel)) (by decide +kernel))
theorem kf_X10_117 : Cond.fieldLink RX10 117 RX10 (TX10 18).2.1 (TX10 18).2.2.1 ∈ zTB := (zTB_in (List.mem_of_getElem? (i := 1161) (by decide +kernel)) (by decide +kernel))
theorem kf_X10_13 : Cond.fieldLink RX10 13 RX10 (TX10 2).2.1 (TX10 2).2.2.1 ∈ zTB := (zTB_in (List.mem_of_getElem? (i := 1145) (by decide +kernel)) (by decide +kernel))
theorem kf_X10_141 : Cond.fieldLink RX10 141 RX10 (TX10 20).2.1 (TX10 20).2.2.1 ∈ zTB := (zTB_in (List.mem_of_getElem? (i := 1163) (by decide +kernel)) (by decide +kernel))
theorem kf_X10_148 : Cond.fieldLink RX10 148 RX10 (TX10 21).2.1 (TX10 21).2.2.1 ∈ zTB := (zTB_in (List.mem_of_getElem? (i := 1164) (by decide +kernel)) (by decide +kernel))
theorem kf_X10_17 : Cond.fieldLink RX10 17 RX10 (TX10 3).2.1 (TX10 3).2.2.1 ∈ zTB := (zTB_in (List.mem_of_getElem? (i := 1146) (by decide +kernel)) (by decide +kernel))
theorem kf_X10_173 : Cond.fieldLink RX10 173 RX10 (TX10 22).2.1 (TX10 22).2.2.1 ∈ zTB := (zTB_in (List.mem_of_getElem? (i := 1165) (by decide +kernel)) (by decide +kernel))
theorem kf_X10_176 : Cond.fieldLink RX10 176 RX10 (TX10 23).2.1 (TX10 23).2.2.1 ∈ zTB := (zTB_in (List.mem_of_getElem? (i := 1166) (by decide +kernel)) (by decide +kernel))
theorem kf_X10_179 : Cond.fieldLink RX10 179 RX10 (TX10 26).2.1 (TX10 26).2.2.1 ∈ zTB := (zTB_in (List.mem_of_getElem? (i := 1169) (by decide +kernel)) (by decide +kernel))
theorem kf_X10_20 : Cond.fieldLink RX10 20 RX10 (TX10 4).2.1 (TX10 4).2.2.1 ∈ zTB := (zTB_in (List.mem_of_getElem? (i := 1147) (by decide +kernel)) (by decide +kernel))
theorem kf_X10_23 : Cond.fieldLink RX10 23 RX10 (TX10 5).2.1 (TX10 5).2.2.1 ∈ zTB := (zTB_in (List.mem_of_getElem? (i := 1148) (by decide +kernel)) (by decide +kernel))
theorem kf_X10_26 : Cond.fieldLink RX10 26 RX10 (TX10 6).2.1 (TX10 6).2.2.1 ∈ zTB := (zTB_in (List.mem_of_getElem? (i := 1149) (by decide +kernel)) (by decide +kernel))
theorem kf_X10_29 : Cond.fieldLink RX10 29 RX10 (TX10 7).2.1 (TX10 7).2.2.1 ∈ zTB := (zTB_in (List.mem_of_getElem? (i := 1150) (by decide +kernel)) (by decide +kernel))
theorem kf_X10_297 : Cond.fieldLink RX10 297 RX10 (TX10 24).2.1 (TX10 24).2.2.1 ∈ zTB := (zTB_in (List.mem_of_getElem? (i := 1167) (by decide +kernel)) (by decide +kernel))
theorem kf_X10_32 : Cond.fieldLink RX10 32 RX10 (TX10 8).2.1 (TX10 8).2.2.1 ∈ zTB := (zTB_in (List.mem_of_getElem? (i := 1151) (by decide +kernel)) (by decide +kernel))
theorem kf_X10_347 : Cond.fieldLink RX10 347 RX10 (TX10 30).2.1 (TX10 30).2.2.1 ∈ zTB := (zTB_in (List.mem_of_getElem? (i := 1173) (by decide +kernel)) (by decide +kernel))
theorem kf_X10_35 : Cond.fieldLink RX10 35 RX10 (TX10 9).2.1 (TX10 9).2.2.1 ∈ zTB := (zTB_in (List.mem_of_getElem? (i := 1152) (by decide +kernel)) (by decide +kernel))
theorem kf_X10_38 : Cond.fieldLink RX10 38 RX10 (TX10 10).2.1 (TX10 10).2.2.1 ∈ zTB := (zTB_in (List.mem_of_getElem? (i := 1153) (by decide +kernel)) (by decide +kernel))
theorem kf_X10_41 : Cond.fieldLink RX10 41 RX10 (TX10 11).2.1 (TX10 11).2.2.1 ∈ zTB := (zTB_in (List.mem_of_getElem? (i := 1154) (by decide +kernel)) (by decide +kernel))
theorem kf_X10_44 : Cond.fieldLink RX10 44 RX10 (TX10 12).2.1 (TX10 12).2.2.1 ∈ zTB := (zTB_in (List.mem_of_getElem? (i := 1155) (by decide +kernel)) (by decide +kernel))
theorem kf_X10_462 : Cond.fieldLink RX10 462 RX10 (TX10 35).2.1 (TX10 35).2.2.1 ∈ zTB := (zTB_in (List.mem_of_getElem? (i := 1178) (by decide +kernel)) (by decide +kernel))
theorem kf_X10_465 : Cond.fieldLink RX10 465 RX10 (TX10 36).2.1 (TX10 36).2.2.1 ∈ zTB := (zTB_in (List.mem_of_getElem? (i := 1179) (by decide +kernel)) (by decide +kernel))
theorem kf_X10_47 : Cond.fieldLink RX10 47 RX10 (TX10 13).2.1 (TX10 13).2.2.1 ∈ zTB := (zTB_in (List.mem_of_getElem? (i := 1156) (by decide +kernel)) (by decide +kernel))
theorem kf_X10_472 : Cond.fieldLink RX10 472 RX10 (TX10 37).2.1 (TX10 37).2.2.1 ∈ zTB := (zTB_in (List.mem_of_getElem? (i := 1180) (by decide +kernel)) (by decide +kernel))
theorem kf_X10_490 : Cond.fieldLink RX10 490 RX10 (TX10 38).2.1 (TX10 38).2.2.1 ∈ zTB := (zTB_in (List.mem_of_getElem? (i := 1181) (by decide +kernel)) (by decide +kernel))
theorem kf_X10_493 : Cond.fieldLink RX10 493 RX10 (TX10 39).2.1 (TX10 39).2.2.1 ∈ zTB := (zTB_in (List.mem_of_getElem? (i := 1182) (by decide +kernel)) (by decide +kernel))
theorem kf_X10_50 : Cond.fieldLink RX10 50 RX10 (TX10 14).2.1 (TX10 14).2.2.1 ∈ zTB := (zTB_in (List.mem_of_getElem? (i := 1157) (by decide +kernel)) (by decide +kernel))
theorem kf_X10_509 : Cond.fieldLink RX10 509 RX10 (TX10 43).2.1 (TX10 43).2.2.1 ∈ zTB := (zTB_in (List.mem_of_getElem? (i := 1186) (by decide +kernel)) (by decide +kernel))
theorem kf_X10_520 : Cond.fieldLink RX10 520 RX10 (TX10 50).2.1 (TX10 50).2.2.1 ∈ zTB := (zTB_in (List.mem_of_getElem? (i := 1193) (by decide +kernel)) (by decide +kernel))
theorem kf_X10_523 : Cond.fieldLink RX10 523 RX10 (TX10 51).2.1 (TX10 51).2.2.1 ∈ zTB := (zTB_in (List.mem_of_getElem? (i := 1194) (by decide +kernel)) (by decide +kernel))
theorem kf_X10_526 : Cond.fieldLink RX10 526 RX10 (TX10 52).2.1 (TX10 52).2.2.1 ∈ zTB := (zTB_in (List.mem_of_getElem? (i := 1195) (by decide +kernel)) (by decide +kernel))
theorem kf_X10_529 : Cond.fieldLink RX10 529 RX10 (TX10 48).2.1 (TX10 48).2.2.1 ∈ zTB := (zTB_in (List.mem_of_getElem? (i := 1191) (by decide +kernel)) (by decide +kernel))
theorem kf_X10_53 : Cond.fieldLink RX10 53 RX10 (TX10 15).2.1 (TX10 15).2.2.1 ∈ zTB := (zTB_in (List.mem_of_getElem? (i := 1158) (by decide +kernel)) (by decide +kernel))
theorem kf_X10_532 : Cond.fieldLink RX10 532 RX10 (TX10 49).2.1 (TX10 49).2.2.1 ∈ zTB := (zTB_in (List.mem_of_getElem? (i := 1192) (by decide +kernel)) (by decide +kernel))
theorem kf_X10_535 : Cond.fieldLink RX10 535 RX10 (TX10 53).2.1 (TX10 53).2.2.1 ∈ zTB := (zTB_in (List.mem_of_getElem? (i := 1196) (by decide +kernel)) (by decide +kernel))
theorem kf_X10_538 : Cond.fieldLink RX10 538 RX10 (TX10 46).2.1 (TX10 46).2.2.1 ∈ zTB := (zTB_in (List.mem_of_getElem? (i := 1189) (by decide +kernel)) (by decide +kernel))
theorem kf_X10_544 : Cond.fieldLink RX10 544 RX10 (TX10 47).2.1 (TX10 47).2.2.1 ∈ zTB := (zTB_in (List.mem_of_getElem? (i := 1190) (by decide +kernel)) (by decide +kernel))
theorem kf_X10_547 : Cond.fieldLink RX10 547 RX10 (TX10 44).2.1 (TX10 44).2.2.1 ∈ zTB := (zTB_in (List.mem_of_getElem? (i := 1187) (by decide +kernel)) (by decide +kernel))
theorem kf_X10_550 : Cond.fieldLink RX10 550 RX10 (TX10 45).2.1 (TX10 45).2.2.1 ∈ zTB := (zTB_in (List.mem_of_getElem? (i := 1188) (by decide +kernel)) (by decide +kernel))
theorem kf_X10_56 : Cond.fieldLink RX10 56 RX10 (TX10 16).2.1 (TX10 16).2.2.1 ∈ zTB := (zTB_in (List.mem_of_getElem? (i := 1159) (by decide +kernel)) (by decide +kernel))
theorem kf_X10_59 : Cond.fieldLink RX10 59 RX10 (TX10 17).2.1 (TX10 17).2.2.1 ∈ zTB := (zTB_in (List.mem_of_getElem? (i := 1160) (by decide +kernel)) (by decide +kernel))
theorem kf_X10_62 : Cond.fieldLink RX10 62 RX10 (TX10 25).2.1 (TX10 25).2.2.1 ∈ zTB := (zTB_in (List.mem_of_getElem? (i := 1168) (by decide +kernel)) (by decide +kernel))
theorem kf_X10_65 : Cond.fieldLink RX10 65 RX10 (TX10 27).2.1 (TX10 27).2.2.1 ∈ zTB := (zTB_in (List.mem_of_getElem? (i := 1170) (by decide +kernel)) (by decide +kernel))
theorem kf_X10_68 : Cond.fieldLink RX10 68 RX10 (TX10 28).2.1 (TX10 28).2.2.1 ∈ zTB := (zTB_in (List.mem_of_getElem? (i := 1171) (by decide +kernel)) (by decide +kernel))
theorem kf_X10_7 : Cond.fieldLink RX10 7 RX10 (TX10 0).2.1 (TX10 0).2.2.1 ∈ zTB := (zTB_in (List.mem_of_getElem? (i := 1143) (by decide +kernel)) (by decide +kernel))
theorem kf_X10_71 : Cond.fieldLink RX10 71 RX10 (TX10 29).2.1 (TX10 29).2.2.1 ∈ zTB := (zTB_in (List.mem_of_getElem? (i := 1172) (by decide +kernel)) (by decide +kernel))
theorem kf_X10_75 : Cond.fieldLink RX10 75 RX10 (TX10 31).2.1 (TX10 31).2.2.1 ∈ zTB := (zTB_in (List.mem_of_getElem? (i := 1174) (by decide +kernel)) (by decide +kernel))
theorem kf_X10_78 : Cond.fieldLink RX10 78 RX10 (TX10 32).2.1 (TX10 32).2.2.1 ∈ zTB := (zTB_in (List.mem_of_getElem? (i := 1175) (by decide +kernel)) (by decide +kernel))
theorem kf_X10_81 : Cond.fieldLink RX10 81 RX10 (TX10 33).2.1 (TX10 33).2.2.1 ∈ zTB := (zTB_in (List.mem_of_getElem? (i := 1176) (by decide +kernel)) (by decide +kernel))
theorem kf_X10_84 : Cond.fieldLink RX10 84 RX10 (TX10 34).2.1 (TX10 34).2.2.1 ∈ zTB := (zTB_in (List.mem_of_getElem? (i := 1177) (by decide +kernel)) (by decide +kernel))
theorem kf_X10_87 : Cond.fieldLink RX10 87 RX10 (TX10 40).2.1 (TX10 40).2.2.1 ∈ zTB := (zTB_in (List.mem_of_getElem? (i := 1183) (by decide +kernel)) (by decide +kernel))
theorem kf_X10_90 : Cond.fieldLink RX10 90 RX10 (TX10 41).2.1 (TX10 41).2.2.1 ∈ zTB := (zTB_in (List.mem_of_getElem? (i := 1184) (by decide +kernel)) (by decide +kernel))
theorem kf_X10_93 : Cond.fieldLink RX10 93 RX10 (TX10 42).2.1 (TX10 42).2.2.1 ∈ zTB := (zTB_in (List.mem_of_getElem? (i := 1185) (by decide +kernel)) (by decide +kernel))
theorem kf_X10_96 : Cond.fieldLink RX10 96 RX10 (TX10 54).2.1 (TX10 54).2.2.1 ∈ zTB := (zTB_in (List.mem_of_getElem? (i := 1197) (by decide +kernel)) (by decide +kernel))
theorem kf_X10_99 : Cond.fieldLink RX10 99 RX10 (TX10 55).2.1 (TX10 55).2.2.1 ∈ zTB := (zTB_in (List.mem_of_getElem? (i := 1198) (by decide +kernel)) (by decide +kernel))
theorem kf_X1_12 : Cond.fieldLink RX1 12 RX1 (TX1 0).2.1 (TX1 0).2.2.1 ∈ zTB := (zTB_in (List.mem_of_getElem? (i := 450) (by decide +kernel)) (by decide +kernel))
theorem kf_X1_21 : Cond.fieldLink RX1 21 RX1 (TX1 1).2.1 (TX1 1).2.2.1 ∈ zTB := (zTB_in (List.mem_of_getElem? (i := 453) (by decide +kernel)) (by decide +kernel))
theorem kf_X1_25 : Cond.fieldLink RX1 25 RX1 (TX1 2).2.1 (TX1 2).2.2.1 ∈ zTB := (zTB_in (List.mem_of_getElem? (i := 456) (by decide +kernel)) (by decide +kernel))
theorem kf_X1_28 : Cond.fieldLink RX1 28 RX1 (TX1 3).2.1 (TX1 3).2.2.1 ∈ zTB := (zTB_in (List.mem_of_getElem? (i := 460) (by decide +kernel)) (by decide +kernel))
theorem kf_X1_31 : Cond.fieldLink RX1 31 RX1 (TX1 4).2.1 (TX1 4).2.2.1 ∈ zTB := (zTB_in (List.mem_of_getElem? (i := 462) (by decide +kernel)) (by decide +kernel))
theorem kf_X2_106 : Cond.fieldLink RX2 106 RX8 (TX8 2).2.1 (TX8 2).2.2.1 ∈ zTB := (zTB_in (List.mem_of_getElem? (i := 369) (by decide +kernel)) (by decide +kernel))
theorem kf_X2_115 : Cond.fieldLink RX2 115 RX8 (TX8 9).2.1 (TX8 9).2.2.1 ∈ zTB := (zTB_in (List.mem_of_getElem? (i := 397) (by decide +kernel)) (by decide +kernel))
theorem kf_X2_12 : Cond.fieldLink RX2 12 RX2 (TX2 0).2.1 (TX2 0).2.2.1 ∈ zTB := (zTB_in (List.mem_of_getElem? (i := 317) (by decide +kernel)) (by decide +kernel))
theorem kf_X2_136 : Cond.fieldLink RX2 136 RX3 (TX3 1).2.1 (TX3 1).2.2.1 ∈ zTB := (zTB_in (List.mem_of_getElem? (i := 224) (by decide +kernel)) (by decide +kernel))
theorem kf_X2_139 : Cond.fieldLink RX2 139 RX3 (TX3 2).2.1 (TX3 2).2.2.1 ∈ zTB := (zTB_in (List.mem_of_getElem? (i := 227) (by decide +kernel)) (by decide +kernel))
theorem kf_X2_142 : Cond.fieldLink RX2 142 RX3 (TX3 3).2.1 (TX3 3).2.2.1 ∈ zTB := (zTB_in (List.mem_of_getElem? (i := 230) (by decide +kernel)) (by decide +kernel))
theorem kf_X2_145 : Cond.fieldLink RX2 145 RX8 (TX8 7).2.1 (TX8 7).2.2.1 ∈ zTB := (zTB_in (List.mem_of_getElem? (i := 388) (by decide +kernel)) (by decide +kernel))
theorem kf_X2_148 : Cond.fieldLink RX2 148 RX8 (TX8 5).2.1 (TX8 5).2.2.1 ∈ zTB := (zTB_in (List.mem_of_getElem? (i := 380) (by decide +kernel)) (by decide +kernel))
theorem kf_X2_162 : Cond.fieldLink RX2 162 RX8 (TX8 11).2.1 (TX8 11).2.2.1 ∈ zTB := (zTB_in (List.mem_of_getElem? (i := 403) (by decide +kernel)) (by decide +kernel))
theorem kf_X2_165 : Cond.fieldLink RX2 165 RX6 (TX6 1).2.1 (TX6 1).2.2.1 ∈ zTB := (zTB_in (List.mem_of_getElem? (i := 491) (by decide +kernel)) (by decide +kernel))
theorem kf_X2_169 : Cond.fieldLink RX2 169 RX1 (TX1 2).2.1 (TX1 2).2.2.1 ∈ zTB := (zTB_in (List.mem_of_getElem? (i := 458) (by decide +kernel)) (by decide +kernel))
theorem kf_X2_174 : Cond.fieldLink RX2 174 RX8 (TX8 8).2.1 (TX8 8).2.2.1 ∈ zTB := (zTB_in (List.mem_of_getElem? (i := 393) (by decide +kernel)) (by decide +kernel))
theorem kf_X2_18 : Cond.fieldLink RX2 18 RX2 (TX2 1).2.1 (TX2 1).2.2.1 ∈ zTB := (zTB_in (List.mem_of_getElem? (i := 319) (by decide +kernel)) (by decide +kernel))
theorem kf_X2_180 : Cond.fieldLink RX2 180 RX8 (TX8 3).2.1 (TX8 3).2.2.1 ∈ zTB := (zTB_in (List.mem_of_getElem? (i := 375) (by decide +kernel)) (by decide +kernel))
theorem kf_X2_186 : Cond.fieldLink RX2 186 RX1 (TX1 4).2.1 (TX1 4).2.2.1 ∈ zTB := (zTB_in (List.mem_of_getElem? (i := 464) (by decide +kernel)) (by decide +kernel))
theorem kf_X2_22 : Cond.fieldLink RX2 22 RX2 (TX2 2).2.1 (TX2 2).2.2.1 ∈ zTB := (zTB_in (List.mem_of_getElem? (i := 320) (by decide +kernel)) (by decide +kernel))
theorem kf_X2_26 : Cond.fieldLink RX2 26 RX2 (TX2 7).2.1 (TX2 7).2.2.1 ∈ zTB := (zTB_in (List.mem_of_getElem? (i := 329) (by decide +kernel)) (by decide +kernel))
theorem kf_X2_30 : Cond.fieldLink RX2 30 RX2 (TX2 8).2.1 (TX2 8).2.2.1 ∈ zTB := (zTB_in (List.mem_of_getElem? (i := 331) (by decide +kernel)) (by decide +kernel))
theorem kf_X2_33 : Cond.fieldLink RX2 33 RX2 (TX2 9).2.1 (TX2 9).2.2.1 ∈ zTB := (zTB_in (List.mem_of_getElem? (i := 333) (by decide +kernel)) (by decide +kernel))
theorem kf_X2_40 : Cond.fieldLink RX2 40 RX2 (TX2 6).2.1 (TX2 6).2.2.1 ∈ zTB := (zTB_in (List.mem_of_getElem? (i := 327) (by decide +kernel)) (by decide +kernel))
theorem kf_X2_47 : Cond.fieldLink RX2 47 RX2 (TX2 5).2.1 (TX2 5).2.2.1 ∈ zTB := (zTB_in (List.mem_of_getElem? (i := 325) (by decide +kernel)) (by decide +kernel))
theorem kf_X2_51 : Cond.fieldLink RX2 51 RX2 (TX2 3).2.1 (TX2 3).2.2.1 ∈ zTB := (zTB_in (List.mem_of_getElem? (i := 321) (by decide +kernel)) (by decide +kernel))
theorem kf_X2_54 : Cond.fieldLink RX2 54 RX2 (TX2 4).2.1 (TX2 4).2.2.1 ∈ zTB := (zTB_in (List.mem_of_getElem? (i := 323) (by decide +kernel)) (by decide +kernel))
theorem kf_X2_73 : Cond.fieldLink RX2 73 RX6 (TX6 0).2.1 (TX6 0).2.2.1 ∈ zTB := (zTB_in (List.mem_of_getElem? (i := 488) (by decide +kernel)) (by decide +kernel))
theorem kf_X3_101 : Cond.fieldLink RX3 101 RX8 (TX8 11).2.1 (TX8 11).2.2.1 ∈ zTB := (zTB_in (List.mem_of_getElem? (i := 402) (by decide +kernel)) (by decide +kernel))
theorem kf_X3_104 : Cond.fieldLink RX3 104 RX6 (TX6 2).2.1 (TX6 2).2.2.1 ∈ zTB := (zTB_in (List.mem_of_getElem? (i := 493) (by decide +kernel)) (by decide +kernel))
theorem kf_X3_111 : Cond.fieldLink RX3 111 RX8 (TX8 5).2.1 (TX8 5).2.2.1 ∈ zTB := (zTB_in (List.mem_of_getElem? (i := 382) (by decide +kernel)) (by decide +kernel))
theorem kf_X3_114 : Cond.fieldLink RX3 114 RX8 (TX8 2).2.1 (TX8 2).2.2.1 ∈ zTB := (zTB_in (List.mem_of_getElem? (i := 372) (by decide +kernel)) (by decide +kernel))
theorem kf_X3_123 : Cond.fieldLink RX3 123 RX8 (TX8 9).2.1 (TX8 9).2.2.1 ∈ zTB := (zTB_in (List.mem_of_getElem? (i := 399) (by decide +kernel)) (by decide +kernel))
theorem kf_X3_23 : Cond.fieldLink RX3 23 RX3 (TX3 1).2.1 (TX3 1).2.2.1 ∈ zTB := (zTB_in (List.mem_of_getElem? (i := 223) (by decide +kernel)) (by decide +kernel))
theorem kf_X3_27 : Cond.fieldLink RX3 27 RX3 (TX3 2).2.1 (TX3 2).2.2.1 ∈ zTB := (zTB_in (List.mem_of_getElem? (i := 226) (by decide +kernel)) (by decide +kernel))
theorem kf_X3_30 : Cond.fieldLink RX3 30 RX3 (TX3 3).2.1 (TX3 3).2.2.1 ∈ zTB := (zTB_in (List.mem_of_getElem? (i := 229) (by decide +kernel)) (by decide +kernel))
theorem kf_X3_61 : Cond.fieldLink RX3 61 RX6 (TX6 0).2.1 (TX6 0).2.2.1 ∈ zTB := (zTB_in (List.mem_of_getElem? (i := 487) (by decide +kernel)) (by decide +kernel))
theorem kf_X3_74 : Cond.fieldLink RX3 74 RX8 (TX8 13).2.1 (TX8 13).2.2.1 ∈ zTB := (zTB_in (List.mem_of_getElem? (i := 410) (by decide +kernel)) (by decide +kernel))
theorem kf_X3_79 : Cond.fieldLink RX3 79 RX8 (TX8 12).2.1 (TX8 12).2.2.1 ∈ zTB := (zTB_in (List.mem_of_getElem? (i := 407) (by decide +kernel)) (by decide +kernel))
theorem kf_X3_83 : Cond.fieldLink RX3 83 RX6 (TX6 3).2.1 (TX6 3).2.2.1 ∈ zTB := (zTB_in (List.mem_of_getElem? (i := 495) (by decide +kernel)) (by decide +kernel))
theorem kf_X3_9 : Cond.fieldLink RX3 9 RX3 (TX3 0).2.1 (TX3 0).2.2.1 ∈ zTB := (zTB_in (List.mem_of_getElem? (i := 222) (by decide +kernel)) (by decide +kernel))
theorem kf_X4_115 : Cond.fieldLink RX4 115 RX8 (TX8 5).2.1 (TX8 5).2.2.1 ∈ zTB := (zTB_in (List.mem_of_getElem? (i := 381) (by decide +kernel)) (by decide +kernel))
theorem kf_X4_118 : Cond.fieldLink RX4 118 RX8 (TX8 6).2.1 (TX8 6).2.2.1 ∈ zTB := (zTB_in (List.mem_of_getElem? (i := 385) (by decide +kernel)) (by decide +kernel))
theorem kf_X4_121 : Cond.fieldLink RX4 121 RX8 (TX8 7).2.1 (TX8 7).2.2.1 ∈ zTB := (zTB_in (List.mem_of_getElem? (i := 389) (by decide +kernel)) (by decide +kernel))
theorem kf_X4_124 : Cond.fieldLink RX4 124 RX8 (TX8 8).2.1 (TX8 8).2.2.1 ∈ zTB := (zTB_in (List.mem_of_getElem? (i := 394) (by decide +kernel)) (by decide +kernel))
theorem kf_X4_127 : Cond.fieldLink RX4 127 RX8 (TX8 9).2.1 (TX8 9).2.2.1 ∈ zTB := (zTB_in (List.mem_of_getElem? (i := 398) (by decide +kernel)) (by decide +kernel))
theorem kf_X4_139 : Cond.fieldLink RX4 139 RX1 (TX1 0).2.1 (TX1 0).2.2.1 ∈ zTB := (zTB_in (List.mem_of_getElem? (i := 452) (by decide +kernel)) (by decide +kernel))
theorem kf_X4_144 : Cond.fieldLink RX4 144 RX1 (TX1 1).2.1 (TX1 1).2.2.1 ∈ zTB := (zTB_in (List.mem_of_getElem? (i := 455) (by decide +kernel)) (by decide +kernel))
theorem kf_X4_147 : Cond.fieldLink RX4 147 RX1 (TX1 2).2.1 (TX1 2).2.2.1 ∈ zTB := (zTB_in (List.mem_of_getElem? (i := 459) (by decide +kernel)) (by decide +kernel))
theorem kf_X4_150 : Cond.fieldLink RX4 150 RX1 (TX1 3).2.1 (TX1 3).2.2.1 ∈ zTB := (zTB_in (List.mem_of_getElem? (i := 461) (by decide +kernel)) (by decide +kernel))
theorem kf_X4_153 : Cond.fieldLink RX4 153 RX1 (TX1 4).2.1 (TX1 4).2.2.1 ∈ zTB := (zTB_in (List.mem_of_getElem? (i := 465) (by decide +kernel)) (by decide +kernel))
theorem kf_X4_17 : Cond.fieldLink RX4 17 RX4 (TX4 7).2.1 (TX4 7).2.2.1 ∈ zTB := (zTB_in (List.mem_of_getElem? (i := 183) (by decide +kernel)) (by decide +kernel))
theorem kf_X4_24 : Cond.fieldLink RX4 24 RX4 (TX4 8).2.1 (TX4 8).2.2.1 ∈ zTB := (zTB_in (List.mem_of_getElem? (i := 184) (by decide +kernel)) (by decide +kernel))
theorem kf_X4_28 : Cond.fieldLink RX4 28 RX4 (TX4 1).2.1 (TX4 1).2.2.1 ∈ zTB := (zTB_in (List.mem_of_getElem? (i := 176) (by decide +kernel)) (by decide +kernel))
theorem kf_X4_32 : Cond.fieldLink RX4 32 RX4 (TX4 2).2.1 (TX4 2).2.2.1 ∈ zTB := (zTB_in (List.mem_of_getElem? (i := 177) (by decide +kernel)) (by decide +kernel))
theorem kf_X4_35 : Cond.fieldLink RX4 35 RX4 (TX4 5).2.1 (TX4 5).2.2.1 ∈ zTB := (zTB_in (List.mem_of_getElem? (i := 181) (by decide +kernel)) (by decide +kernel))
theorem kf_X4_38 : Cond.fieldLink RX4 38 RX4 (TX4 6).2.1 (TX4 6).2.2.1 ∈ zTB := (zTB_in (List.mem_of_getElem? (i := 182) (by decide +kernel)) (by decide +kernel))
theorem kf_X4_44 : Cond.fieldLink RX4 44 RX4 (TX4 3).2.1 (TX4 3).2.2.1 ∈ zTB := (zTB_in (List.mem_of_getElem? (i := 179) (by decide +kernel)) (by decide +kernel))
theorem kf_X4_47 : Cond.fieldLink RX4 47 RX4 (TX4 4).2.1 (TX4 4).2.2.1 ∈ zTB := (zTB_in (List.mem_of_getElem? (i := 180) (by decide +kernel)) (by decide +kernel))
theorem kf_X4_84 : Cond.fieldLink RX4 84 RX8 (TX8 3).2.1 (TX8 3).2.2.1 ∈ zTB := (zTB_in (List.mem_of_getElem? (i := 376) (by decide +kernel)) (by decide +kernel))
theorem kf_X4_9 : Cond.fieldLink RX4 9 RX4 (TX4 0).2.1 (TX4 0).2.2.1 ∈ zTB := (zTB_in (List.mem_of_getElem? (i := 174) (by decide +kernel)) (by decide +kernel))
theorem kf_X4_91 : Cond.fieldLink RX4 91 RX8 (TX8 0).2.1 (TX8 0).2.2.1 ∈ zTB := (zTB_in (List.mem_of_getElem? (i := 363) (by decide +kernel)) (by decide +kernel))
theorem kf_X4_94 : Cond.fieldLink RX4 94 RX8 (TX8 1).2.1 (TX8 1).2.2.1 ∈ zTB := (zTB_in (List.mem_of_getElem? (i := 366) (by decide +kernel)) (by decide +kernel))
theorem kf_X4_97 : Cond.fieldLink RX4 97 RX8 (TX8 2).2.1 (TX8 2).2.2.1 ∈ zTB := (zTB_in (List.mem_of_getElem? (i := 371) (by decide +kernel)) (by decide +kernel))
theorem kf_X5_11 : Cond.fieldLink RX5 11 RX5 (TX5 0).2.1 (TX5 0).2.2.1 ∈ zTB := (zTB_in (List.mem_of_getElem? (i := 297) (by decide +kernel)) (by decide +kernel))
theorem kf_X5_17 : Cond.fieldLink RX5 17 RX5 (TX5 1).2.1 (TX5 1).2.2.1 ∈ zTB := (zTB_in (List.mem_of_getElem? (i := 298) (by decide +kernel)) (by decide +kernel))
theorem kf_X5_21 : Cond.fieldLink RX5 21 RX5 (TX5 2).2.1 (TX5 2).2.2.1 ∈ zTB := (zTB_in (List.mem_of_getElem? (i := 300) (by decide +kernel)) (by decide +kernel))
theorem kf_X5_29 : Cond.fieldLink RX5 29 RX8 (TX8 2).2.1 (TX8 2).2.2.1 ∈ zTB := (zTB_in (List.mem_of_getElem? (i := 368) (by decide +kernel)) (by decide +kernel))
theorem kf_X5_39 : Cond.fieldLink RX5 39 RX6 (TX6 0).2.1 (TX6 0).2.2.1 ∈ zTB := (zTB_in (List.mem_of_getElem? (i := 485) (by decide +kernel)) (by decide +kernel))
theorem kf_X6_102 : Cond.fieldLink RX6 102 RX1 (TX1 4).2.1 (TX1 4).2.2.1 ∈ zTB := (zTB_in (List.mem_of_getElem? (i := 463) (by decide +kernel)) (by decide +kernel))
theorem kf_X6_18 : Cond.fieldLink RX6 18 RX6 (TX6 4).2.1 (TX6 4).2.2.1 ∈ zTB := (zTB_in (List.mem_of_getElem? (i := 496) (by decide +kernel)) (by decide +kernel))
theorem kf_X6_22 : Cond.fieldLink RX6 22 RX6 (TX6 5).2.1 (TX6 5).2.2.1 ∈ zTB := (zTB_in (List.mem_of_getElem? (i := 497) (by decide +kernel)) (by decide +kernel))
theorem kf_X6_26 : Cond.fieldLink RX6 26 RX6 (TX6 6).2.1 (TX6 6).2.2.1 ∈ zTB := (zTB_in (List.mem_of_getElem? (i := 498) (by decide +kernel)) (by decide +kernel))
theorem kf_X6_29 : Cond.fieldLink RX6 29 RX6 (TX6 0).2.1 (TX6 0).2.2.1 ∈ zTB := (zTB_in (List.mem_of_getElem? (i := 484) (by decide +kernel)) (by decide +kernel))
theorem kf_X6_33 : Cond.fieldLink RX6 33 RX6 (TX6 1).2.1 (TX6 1).2.2.1 ∈ zTB := (zTB_in (List.mem_of_getElem? (i := 490) (by decide +kernel)) (by decide +kernel))
theorem kf_X6_37 : Cond.fieldLink RX6 37 RX8 (TX8 13).2.1 (TX8 13).2.2.1 ∈ zTB := (zTB_in (List.mem_of_getElem? (i := 408) (by decide +kernel)) (by decide +kernel))
theorem kf_X6_43 : Cond.fieldLink RX6 43 RX8 (TX8 12).2.1 (TX8 12).2.2.1 ∈ zTB := (zTB_in (List.mem_of_getElem? (i := 406) (by decide +kernel)) (by decide +kernel))
theorem kf_X6_46 : Cond.fieldLink RX6 46 RX8 (TX8 5).2.1 (TX8 5).2.2.1 ∈ zTB := (zTB_in (List.mem_of_getElem? (i := 379) (by decide +kernel)) (by decide +kernel))
theorem kf_X6_49 : Cond.fieldLink RX6 49 RX8 (TX8 7).2.1 (TX8 7).2.2.1 ∈ zTB := (zTB_in (List.mem_of_getElem? (i := 387) (by decide +kernel)) (by decide +kernel))
theorem kf_X6_52 : Cond.fieldLink RX6 52 RX8 (TX8 8).2.1 (TX8 8).2.2.1 ∈ zTB := (zTB_in (List.mem_of_getElem? (i := 392) (by decide +kernel)) (by decide +kernel))
theorem kf_X6_55 : Cond.fieldLink RX6 55 RX8 (TX8 9).2.1 (TX8 9).2.2.1 ∈ zTB := (zTB_in (List.mem_of_getElem? (i := 396) (by decide +kernel)) (by decide +kernel))
theorem kf_X6_60 : Cond.fieldLink RX6 60 RX1 (TX1 0).2.1 (TX1 0).2.2.1 ∈ zTB := (zTB_in (List.mem_of_getElem? (i := 451) (by decide +kernel)) (by decide +kernel))
theorem kf_X6_83 : Cond.fieldLink RX6 83 RX1 (TX1 1).2.1 (TX1 1).2.2.1 ∈ zTB := (zTB_in (List.mem_of_getElem? (i := 454) (by decide +kernel)) (by decide +kernel))
theorem kf_X6_9 : Cond.fieldLink RX6 9 RX6 (TX6 2).2.1 (TX6 2).2.2.1 ∈ zTB := (zTB_in (List.mem_of_getElem? (i := 492) (by decide +kernel)) (by decide +kernel))
theorem kf_X6_93 : Cond.fieldLink RX6 93 RX1 (TX1 2).2.1 (TX1 2).2.2.1 ∈ zTB := (zTB_in (List.mem_of_getElem? (i := 457) (by decide +kernel)) (by decide +kernel))
theorem kf_X7_12 : Cond.fieldLink RX7 12 RX7 (TX7 7).2.1 (TX7 7).2.2.1 ∈ zTB := (zTB_in (List.mem_of_getElem? (i := 255) (by decide +kernel)) (by decide +kernel))
theorem kf_X7_18 : Cond.fieldLink RX7 18 RX7 (TX7 8).2.1 (TX7 8).2.2.1 ∈ zTB := (zTB_in (List.mem_of_getElem? (i := 257) (by decide +kernel)) (by decide +kernel))
theorem kf_X7_22 : Cond.fieldLink RX7 22 RX7 (TX7 9).2.1 (TX7 9).2.2.1 ∈ zTB := (zTB_in (List.mem_of_getElem? (i := 258) (by decide +kernel)) (by decide +kernel))
theorem kf_X7_25 : Cond.fieldLink RX7 25 RX7 (TX7 10).2.1 (TX7 10).2.2.1 ∈ zTB := (zTB_in (List.mem_of_getElem? (i := 260) (by decide +kernel)) (by decide +kernel))
theorem kf_X7_34 : Cond.fieldLink RX7 34 RX7 (TX7 1).2.1 (TX7 1).2.2.1 ∈ zTB := (zTB_in (List.mem_of_getElem? (i := 245) (by decide +kernel)) (by decide +kernel))
theorem kf_X7_38 : Cond.fieldLink RX7 38 RX7 (TX7 2).2.1 (TX7 2).2.2.1 ∈ zTB := (zTB_in (List.mem_of_getElem? (i := 247) (by decide +kernel)) (by decide +kernel))
theorem kf_X7_42 : Cond.fieldLink RX7 42 RX7 (TX7 3).2.1 (TX7 3).2.2.1 ∈ zTB := (zTB_in (List.mem_of_getElem? (i := 249) (by decide +kernel)) (by decide +kernel))
theorem kf_X7_45 : Cond.fieldLink RX7 45 RX7 (TX7 4).2.1 (TX7 4).2.2.1 ∈ zTB := (zTB_in (List.mem_of_getElem? (i := 251) (by decide +kernel)) (by decide +kernel))
theorem kf_X7_48 : Cond.fieldLink RX7 48 RX7 (TX7 5).2.1 (TX7 5).2.2.1 ∈ zTB := (zTB_in (List.mem_of_getElem? (i := 252) (by decide +kernel)) (by decide +kernel))
theorem kf_X7_51 : Cond.fieldLink RX7 51 RX7 (TX7 6).2.1 (TX7 6).2.2.1 ∈ zTB := (zTB_in (List.mem_of_getElem? (i := 253) (by decide +kernel)) (by decide +kernel))
theorem kf_X7_62 : Cond.fieldLink RX7 62 RX6 (TX6 0).2.1 (TX6 0).2.2.1 ∈ zTB := (zTB_in (List.mem_of_getElem? (i := 486) (by decide +kernel)) (by decide +kernel))
theorem kf_X8_15 : Cond.fieldLink RX8 15 RX8 (TX8 5).2.1 (TX8 5).2.2.1 ∈ zTB := (zTB_in (List.mem_of_getElem? (i := 378) (by decide +kernel)) (by decide +kernel))
theorem kf_X8_18 : Cond.fieldLink RX8 18 RX8 (TX8 6).2.1 (TX8 6).2.2.1 ∈ zTB := (zTB_in (List.mem_of_getElem? (i := 384) (by decide +kernel)) (by decide +kernel))
theorem kf_X8_21 : Cond.fieldLink RX8 21 RX8 (TX8 7).2.1 (TX8 7).2.2.1 ∈ zTB := (zTB_in (List.mem_of_getElem? (i := 386) (by decide +kernel)) (by decide +kernel))
theorem kf_X8_24 : Cond.fieldLink RX8 24 RX8 (TX8 8).2.1 (TX8 8).2.2.1 ∈ zTB := (zTB_in (List.mem_of_getElem? (i := 391) (by decide +kernel)) (by decide +kernel))
theorem kf_X8_27 : Cond.fieldLink RX8 27 RX8 (TX8 9).2.1 (TX8 9).2.2.1 ∈ zTB := (zTB_in (List.mem_of_getElem? (i := 395) (by decide +kernel)) (by decide +kernel))
theorem kf_X8_30 : Cond.fieldLink RX8 30 RX8 (TX8 10).2.1 (TX8 10).2.2.1 ∈ zTB := (zTB_in (List.mem_of_getElem? (i := 400) (by decide +kernel)) (by decide +kernel))
theorem kf_X8_33 : Cond.fieldLink RX8 33 RX8 (TX8 11).2.1 (TX8 11).2.2.1 ∈ zTB := (zTB_in (List.mem_of_getElem? (i := 401) (by decide +kernel)) (by decide +kernel))
theorem kf_X8_36 : Cond.fieldLink RX8 36 RX8 (TX8 12).2.1 (TX8 12).2.2.1 ∈ zTB := (zTB_in (List.mem_of_getElem? (i := 405) (by decide +kernel)) (by decide +kernel))
theorem kf_X8_39 : Cond.fieldLink RX8 39 RX8 (TX8 14).2.1 (TX8 14).2.2.1 ∈ zTB := (zTB_in (List.mem_of_getElem? (i := 411) (by decide +kernel)) (by decide +kernel))
theorem kf_X8_42 : Cond.fieldLink RX8 42 RX8 (TX8 0).2.1 (TX8 0).2.2.1 ∈ zTB := (zTB_in (List.mem_of_getElem? (i := 361) (by decide +kernel)) (by decide +kernel))
theorem kf_X8_46 : Cond.fieldLink RX8 46 RX8 (TX8 1).2.1 (TX8 1).2.2.1 ∈ zTB := (zTB_in (List.mem_of_getElem? (i := 364) (by decide +kernel)) (by decide +kernel))
theorem kf_X8_49 : Cond.fieldLink RX8 49 RX8 (TX8 2).2.1 (TX8 2).2.2.1 ∈ zTB := (zTB_in (List.mem_of_getElem? (i := 367) (by decide +kernel)) (by decide +kernel))
theorem kf_X8_52 : Cond.fieldLink RX8 52 RX8 (TX8 3).2.1 (TX8 3).2.2.1 ∈ zTB := (zTB_in (List.mem_of_getElem? (i := 373) (by decide +kernel)) (by decide +kernel))
theorem kf_X8_74 : Cond.fieldLink RX8 74 RX8 (TX8 13).2.1 (TX8 13).2.2.1 ∈ zTB := (zTB_in (List.mem_of_getElem? (i := 409) (by decide +kernel)) (by decide +kernel))
theorem kf_X8_9 : Cond.fieldLink RX8 9 RX8 (TX8 4).2.1 (TX8 4).2.2.1 ∈ zTB := (zTB_in (List.mem_of_getElem? (i := 377) (by decide +kernel)) (by decide +kernel))
theorem kf_X9_10 : Cond.fieldLink RX9 10 RX9 (TX9 0).2.1 (TX9 0).2.2.1 ∈ zTB := (zTB_in (List.mem_of_getElem? (i := 515) (by decide +kernel)) (by decide +kernel))
theorem kf_X9_100 : Cond.fieldLink RX9 100 RX4 (TX4 2).2.1 (TX4 2).2.2.1 ∈ zTB := (zTB_in (List.mem_of_getElem? (i := 178) (by decide +kernel)) (by decide +kernel))
theorem kf_X9_103 : Cond.fieldLink RX9 103 RX9 (TX9 5).2.1 (TX9 5).2.2.1 ∈ zTB := (zTB_in (List.mem_of_getElem? (i := 520) (by decide +kernel)) (by decide +kernel))
theorem kf_X9_110 : Cond.fieldLink RX9 110 RX9 (TX9 6).2.1 (TX9 6).2.2.1 ∈ zTB := (zTB_in (List.mem_of_getElem? (i := 521) (by decide +kernel)) (by decide +kernel))
theorem kf_X9_124 : Cond.fieldLink RX9 124 RX8 (TX8 0).2.1 (TX8 0).2.2.1 ∈ zTB := (zTB_in (List.mem_of_getElem? (i := 362) (by decide +kernel)) (by decide +kernel))
theorem kf_X9_127 : Cond.fieldLink RX9 127 RX8 (TX8 1).2.1 (TX8 1).2.2.1 ∈ zTB := (zTB_in (List.mem_of_getElem? (i := 365) (by decide +kernel)) (by decide +kernel))
theorem kf_X9_129 : Cond.fieldLink RX9 129 RX8 (TX8 2).2.1 (TX8 2).2.2.1 ∈ zTB := (zTB_in (List.mem_of_getElem? (i := 370) (by decide +kernel)) (by decide +kernel))
theorem kf_X9_132 : Cond.fieldLink RX9 132 RX8 (TX8 3).2.1 (TX8 3).2.2.1 ∈ zTB := (zTB_in (List.mem_of_getElem? (i := 374) (by decide +kernel)) (by decide +kernel))
theorem kf_X9_149 : Cond.fieldLink RX9 149 RX7 (TX7 7).2.1 (TX7 7).2.2.1 ∈ zTB := (zTB_in (List.mem_of_getElem? (i := 256) (by decide +kernel)) (by decide +kernel))
theorem kf_X9_152 : Cond.fieldLink RX9 152 RX3 (TX3 1).2.1 (TX3 1).2.2.1 ∈ zTB := (zTB_in (List.mem_of_getElem? (i := 225) (by decide +kernel)) (by decide +kernel))
theorem kf_X9_154 : Cond.fieldLink RX9 154 RX7 (TX7 6).2.1 (TX7 6).2.2.1 ∈ zTB := (zTB_in (List.mem_of_getElem? (i := 254) (by decide +kernel)) (by decide +kernel))
theorem kf_X9_157 : Cond.fieldLink RX9 157 RX6 (TX6 0).2.1 (TX6 0).2.2.1 ∈ zTB := (zTB_in (List.mem_of_getElem? (i := 489) (by decide +kernel)) (by decide +kernel))
theorem kf_X9_161 : Cond.fieldLink RX9 161 RX3 (TX3 2).2.1 (TX3 2).2.2.1 ∈ zTB := (zTB_in (List.mem_of_getElem? (i := 228) (by decide +kernel)) (by decide +kernel))
theorem kf_X9_164 : Cond.fieldLink RX9 164 RX7 (TX7 1).2.1 (TX7 1).2.2.1 ∈ zTB := (zTB_in (List.mem_of_getElem? (i := 246) (by decide +kernel)) (by decide +kernel))
theorem kf_X9_18 : Cond.fieldLink RX9 18 RX9 (TX9 1).2.1 (TX9 1).2.2.1 ∈ zTB := (zTB_in (List.mem_of_getElem? (i := 516) (by decide +kernel)) (by decide +kernel))
theorem kf_X9_196 : Cond.fieldLink RX9 196 RX5 (TX5 1).2.1 (TX5 1).2.2.1 ∈ zTB := (zTB_in (List.mem_of_getElem? (i := 299) (by decide +kernel)) (by decide +kernel))
theorem kf_X9_200 : Cond.fieldLink RX9 200 RX5 (TX5 2).2.1 (TX5 2).2.2.1 ∈ zTB := (zTB_in (List.mem_of_getElem? (i := 301) (by decide +kernel)) (by decide +kernel))
theorem kf_X9_211 : Cond.fieldLink RX9 211 RX7 (TX7 9).2.1 (TX7 9).2.2.1 ∈ zTB := (zTB_in (List.mem_of_getElem? (i := 259) (by decide +kernel)) (by decide +kernel))
theorem kf_X9_229 : Cond.fieldLink RX9 229 RX8 (TX8 7).2.1 (TX8 7).2.2.1 ∈ zTB := (zTB_in (List.mem_of_getElem? (i := 390) (by decide +kernel)) (by decide +kernel))
theorem kf_X9_232 : Cond.fieldLink RX9 232 RX8 (TX8 5).2.1 (TX8 5).2.2.1 ∈ zTB := (zTB_in (List.mem_of_getElem? (i := 383) (by decide +kernel)) (by decide +kernel))
theorem kf_X9_24 : Cond.fieldLink RX9 24 RX9 (TX9 2).2.1 (TX9 2).2.2.1 ∈ zTB := (zTB_in (List.mem_of_getElem? (i := 517) (by decide +kernel)) (by decide +kernel))
theorem kf_X9_252 : Cond.fieldLink RX9 252 RX8 (TX8 11).2.1 (TX8 11).2.2.1 ∈ zTB := (zTB_in (List.mem_of_getElem? (i := 404) (by decide +kernel)) (by decide +kernel))
theorem kf_X9_255 : Cond.fieldLink RX9 255 RX7 (TX7 10).2.1 (TX7 10).2.2.1 ∈ zTB := (zTB_in (List.mem_of_getElem? (i := 261) (by decide +kernel)) (by decide +kernel))
theorem kf_X9_278 : Cond.fieldLink RX9 278 RX2 (TX2 6).2.1 (TX2 6).2.2.1 ∈ zTB := (zTB_in (List.mem_of_getElem? (i := 328) (by decide +kernel)) (by decide +kernel))
theorem kf_X9_281 : Cond.fieldLink RX9 281 RX2 (TX2 5).2.1 (TX2 5).2.2.1 ∈ zTB := (zTB_in (List.mem_of_getElem? (i := 326) (by decide +kernel)) (by decide +kernel))
theorem kf_X9_284 : Cond.fieldLink RX9 284 RX2 (TX2 3).2.1 (TX2 3).2.2.1 ∈ zTB := (zTB_in (List.mem_of_getElem? (i := 322) (by decide +kernel)) (by decide +kernel))
theorem kf_X9_287 : Cond.fieldLink RX9 287 RX2 (TX2 4).2.1 (TX2 4).2.2.1 ∈ zTB := (zTB_in (List.mem_of_getElem? (i := 324) (by decide +kernel)) (by decide +kernel))
theorem kf_X9_290 : Cond.fieldLink RX9 290 RX2 (TX2 0).2.1 (TX2 0).2.2.1 ∈ zTB := (zTB_in (List.mem_of_getElem? (i := 318) (by decide +kernel)) (by decide +kernel))
theorem kf_X9_294 : Cond.fieldLink RX9 294 RX2 (TX2 7).2.1 (TX2 7).2.2.1 ∈ zTB := (zTB_in (List.mem_of_getElem? (i := 330) (by decide +kernel)) (by decide +kernel))
theorem kf_X9_296 : Cond.fieldLink RX9 296 RX2 (TX2 8).2.1 (TX2 8).2.2.1 ∈ zTB := (zTB_in (List.mem_of_getElem? (i := 332) (by decide +kernel)) (by decide +kernel))
theorem kf_X9_299 : Cond.fieldLink RX9 299 RX2 (TX2 9).2.1 (TX2 9).2.2.1 ∈ zTB := (zTB_in (List.mem_of_getElem? (i := 334) (by decide +kernel)) (by decide +kernel))
theorem kf_X9_30 : Cond.fieldLink RX9 30 RX9 (TX9 3).2.1 (TX9 3).2.2.1 ∈ zTB := (zTB_in (List.mem_of_getElem? (i := 518) (by decide +kernel)) (by decide +kernel))
theorem kf_X9_302 : Cond.fieldLink RX9 302 RX3 (TX3 3).2.1 (TX3 3).2.2.1 ∈ zTB := (zTB_in (List.mem_of_getElem? (i := 231) (by decide +kernel)) (by decide +kernel))
theorem kf_X9_309 : Cond.fieldLink RX9 309 RX7 (TX7 0).2.1 (TX7 0).2.2.1 ∈ zTB := (zTB_in (List.mem_of_getElem? (i := 244) (by decide +kernel)) (by decide +kernel))
theorem kf_X9_312 : Cond.fieldLink RX9 312 RX7 (TX7 2).2.1 (TX7 2).2.2.1 ∈ zTB := (zTB_in (List.mem_of_getElem? (i := 248) (by decide +kernel)) (by decide +kernel))
theorem kf_X9_314 : Cond.fieldLink RX9 314 RX7 (TX7 3).2.1 (TX7 3).2.2.1 ∈ zTB := (zTB_in (List.mem_of_getElem? (i := 250) (by decide +kernel)) (by decide +kernel))
theorem kf_X9_37 : Cond.fieldLink RX9 37 RX9 (TX9 7).2.1 (TX9 7).2.2.1 ∈ zTB := (zTB_in (List.mem_of_getElem? (i := 522) (by decide +kernel)) (by decide +kernel))
theorem kf_X9_41 : Cond.fieldLink RX9 41 RX9 (TX9 8).2.1 (TX9 8).2.2.1 ∈ zTB := (zTB_in (List.mem_of_getElem? (i := 523) (by decide +kernel)) (by decide +kernel))
theorem kf_X9_48 : Cond.fieldLink RX9 48 RX9 (TX9 10).2.1 (TX9 10).2.2.1 ∈ zTB := (zTB_in (List.mem_of_getElem? (i := 525) (by decide +kernel)) (by decide +kernel))
theorem kf_X9_55 : Cond.fieldLink RX9 55 RX9 (TX9 11).2.1 (TX9 11).2.2.1 ∈ zTB := (zTB_in (List.mem_of_getElem? (i := 526) (by decide +kernel)) (by decide +kernel))
theorem kf_X9_62 : Cond.fieldLink RX9 62 RX9 (TX9 12).2.1 (TX9 12).2.2.1 ∈ zTB := (zTB_in (List.mem_of_getElem? (i := 527) (by decide +kernel)) (by decide +kernel))
theorem kf_X9_66 : Cond.fieldLink RX9 66 RX9 (TX9 13).2.1 (TX9 13).2.2.1 ∈ zTB := (zTB_in (List.mem_of_getElem? (i := 528) (by decide +kernel)) (by decide +kernel))
theorem kf_X9_70 : Cond.fieldLink RX9 70 RX9 (TX9 14).2.1 (TX9 14).2.2.1 ∈ zTB := (zTB_in (List.mem_of_getElem? (i := 529) (by decide +kernel)) (by decide +kernel))
theorem kf_X9_81 : Cond.fieldLink RX9 81 RX9 (TX9 9).2.1 (TX9 9).2.2.1 ∈ zTB := (zTB_in (List.mem_of_getElem? (i := 524) (by decide +kernel)) (by decide +kernel))
theorem kf_X9_85 : Cond.fieldLink RX9 85 RX4 (TX4 1).2.1 (TX4 1).2.2.1 ∈ zTB := (zTB_in (List.mem_of_getElem? (i := 175) (by decide +kernel)) (by decide +kernel))
theorem kf_X9_93 : Cond.fieldLink RX9 93 RX9 (TX9 4).2.1 (TX9 4).2.2.1 ∈ zTB := (zTB_in (List.mem_of_getElem? (i := 519) (by decide +kernel)) (by decide +kernel))
theorem kk_J6_265 : Cond.constant RJ6 265 (1431655765 : Int32) ∈ zTB := (zTB_in (List.mem_of_getElem? (i := 995) (by decide +kernel)) (by decide +kernel))
theorem kk_J6_266 : Cond.constant RJ6 266 (858993459 : Int32) ∈ zTB := (zTB_in (List.mem_of_getElem? (i := 996) (by decide +kernel)) (by decide +kernel))
theorem kk_J6_267 : Cond.constant RJ6 267 (252645135 : Int32) ∈ zTB := (zTB_in (List.mem_of_getElem? (i := 997) (by decide +kernel)) (by decide +kernel))
theorem kk_X10_151 : Cond.constantLong RX10 151 (1885434984 : Int64) ∈ zTB := (zTB_in (List.mem_of_getElem? (i := 1363) (by decide +kernel)) (by decide +kernel))
theorem kk_X10_153 : Cond.constantLong RX10 153 (113741193899620 : Int64) ∈ zTB := (zTB_in (List.mem_of_getElem? (i := 1365) (by decide +kernel)) (by decide +kernel))
theorem kk_X10_155 : Cond.constantLong RX10 155 (7564153 : Int64) ∈ zTB := (zTB_in (List.mem_of_getElem? (i := 1366) (by decide +kernel)) (by decide +kernel))
theorem kk_X10_157 : Cond.constantLong RX10 157 (1751216749 : Int64) ∈ zTB := (zTB_in (List.mem_of_getElem? (i := 1367) (by decide +kernel)) (by decide +kernel))
theorem kk_X10_159 : Cond.constantLong RX10 159 (1702454643 : Int64) ∈ zTB := (zTB_in (List.mem_of_getElem? (i := 1429) (by decide +kernel)) (by decide +kernel))
theorem kk_X10_161 : Cond.constantLong RX10 161 (28526 : Int64) ∈ zTB := (zTB_in (List.mem_of_getElem? (i := 1430) (by decide +kernel)) (by decide +kernel))
theorem kk_X10_163 : Cond.constantLong RX10 163 (24948 : Int64) ∈ zTB := (zTB_in (List.mem_of_getElem? (i := 1431) (by decide +kernel)) (by decide +kernel))
theorem kk_X10_165 : Cond.constantLong RX10 165 (1937076837 : Int64) ∈ zTB := (zTB_in (List.mem_of_getElem? (i := 1432) (by decide +kernel)) (by decide +kernel))
theorem kk_X10_167 : Cond.constantLong RX10 167 (1819243876 : Int64) ∈ zTB := (zTB_in (List.mem_of_getElem? (i := 1433) (by decide +kernel)) (by decide +kernel))
theorem kk_X10_169 : Cond.constantLong RX10 169 (495874044019 : Int64) ∈ zTB := (zTB_in (List.mem_of_getElem? (i := 1434) (by decide +kernel)) (by decide +kernel))
theorem kk_X10_171 : Cond.constantLong RX10 171 (30787924973348211 : Int64) ∈ zTB := (zTB_in (List.mem_of_getElem? (i := 1435) (by decide +kernel)) (by decide +kernel))
theorem kk_X10_190 : Cond.constant RX10 190 (99999 : Int32) ∈ zTB := (zTB_in (List.mem_of_getElem? (i := 1412) (by decide +kernel)) (by decide +kernel))
theorem kk_X10_210 : Cond.constantLong RX10 210 (7237492 : Int64) ∈ zTB := (zTB_in (List.mem_of_getElem? (i := 1449) (by decide +kernel)) (by decide +kernel))
theorem kk_X10_230 : Cond.constantLong RX10 230 (6385252 : Int64) ∈ zTB := (zTB_in (List.mem_of_getElem? (i := 1473) (by decide +kernel)) (by decide +kernel))
theorem kk_X10_232 : Cond.constantLong RX10 232 (28530 : Int64) ∈ zTB := (zTB_in (List.mem_of_getElem? (i := 1474) (by decide +kernel)) (by decide +kernel))
theorem kk_X10_234 : Cond.constantLong RX10 234 (26982 : Int64) ∈ zTB := (zTB_in (List.mem_of_getElem? (i := 1436) (by decide +kernel)) (by decide +kernel))
theorem kk_X10_246 : Cond.constantLong RX10 246 (2003395685 : Int64) ∈ zTB := (zTB_in (List.mem_of_getElem? (i := 1362) (by decide +kernel)) (by decide +kernel))
theorem kk_X10_252 : Cond.constantLong RX10 252 (1752132965 : Int64) ∈ zTB := (zTB_in (List.mem_of_getElem? (i := 1369) (by decide +kernel)) (by decide +kernel))
theorem kk_X10_254 : Cond.constantLong RX10 254 (126922548994917 : Int64) ∈ zTB := (zTB_in (List.mem_of_getElem? (i := 1368) (by decide +kernel)) (by decide +kernel))
theorem kk_X10_262 : Cond.constantLong RX10 262 (2002873452 : Int64) ∈ zTB := (zTB_in (List.mem_of_getElem? (i := 1364) (by decide +kernel)) (by decide +kernel))
theorem kk_X10_264 : Cond.constantLong RX10 264 (1937007984 : Int64) ∈ zTB := (zTB_in (List.mem_of_getElem? (i := 1349) (by decide +kernel)) (by decide +kernel))
theorem kk_X10_270 : Cond.constantLong RX10 270 (431416239732 : Int64) ∈ zTB := (zTB_in (List.mem_of_getElem? (i := 1358) (by decide +kernel)) (by decide +kernel))
theorem kk_X10_276 : Cond.constantLong RX10 276 (1717921132 : Int64) ∈ zTB := (zTB_in (List.mem_of_getElem? (i := 1359) (by decide +kernel)) (by decide +kernel))
theorem kk_X10_278 : Cond.constantLong RX10 278 (7562597 : Int64) ∈ zTB := (zTB_in (List.mem_of_getElem? (i := 1360) (by decide +kernel)) (by decide +kernel))
theorem kk_X10_280 : Cond.constantLong RX10 280 (26479 : Int64) ∈ zTB := (zTB_in (List.mem_of_getElem? (i := 1374) (by decide +kernel)) (by decide +kernel))
theorem kk_X10_282 : Cond.constantLong RX10 282 (1818584692 : Int64) ∈ zTB := (zTB_in (List.mem_of_getElem? (i := 1375) (by decide +kernel)) (by decide +kernel))
theorem kk_X10_284 : Cond.constantLong RX10 284 (491394656372 : Int64) ∈ zTB := (zTB_in (List.mem_of_getElem? (i := 1376) (by decide +kernel)) (by decide +kernel))
theorem kk_X10_286 : Cond.constantLong RX10 286 (1650549611 : Int64) ∈ zTB := (zTB_in (List.mem_of_getElem? (i := 1377) (by decide +kernel)) (by decide +kernel))
theorem kk_X10_288 : Cond.constantLong RX10 288 (7563636 : Int64) ∈ zTB := (zTB_in (List.mem_of_getElem? (i := 1378) (by decide +kernel)) (by decide +kernel))
theorem kk_X10_290 : Cond.constantLong RX10 290 (126943972911973 : Int64) ∈ zTB := (zTB_in (List.mem_of_getElem? (i := 1379) (by decide +kernel)) (by decide +kernel))
theorem kk_X10_292 : Cond.constantLong RX10 292 (1751474546 : Int64) ∈ zTB := (zTB_in (List.mem_of_getElem? (i := 1361) (by decide +kernel)) (by decide +kernel))
theorem kk_X10_306 : Cond.constantLong RX10 306 (2 : Int64) ∈ zTB := (zTB_in (List.mem_of_getElem? (i := 1331) (by decide +kernel)) (by decide +kernel))
theorem kk_X10_340 : Cond.constantLong RX10 340 (9 : Int64) ∈ zTB := (zTB_in (List.mem_of_getElem? (i := 1527) (by decide +kernel)) (by decide +kernel))
theorem kk_X10_345 : Cond.constantLong RX10 345 (4 : Int64) ∈ zTB := (zTB_in (List.mem_of_getElem? (i := 1539) (by decide +kernel)) (by decide +kernel))
theorem kk_X10_366 : Cond.constant RX10 366 (1000000000 : Int32) ∈ zTB := (zTB_in (List.mem_of_getElem? (i := 1552) (by decide +kernel)) (by decide +kernel))
theorem kk_X10_367 : Cond.constantLong RX10 367 (3 : Int64) ∈ zTB := (zTB_in (List.mem_of_getElem? (i := 1548) (by decide +kernel)) (by decide +kernel))
theorem kk_X10_386 : Cond.constantLong RX10 386 (1000 : Int64) ∈ zTB := (zTB_in (List.mem_of_getElem? (i := 1603) (by decide +kernel)) (by decide +kernel))
theorem kk_X10_412 : Cond.constantLong RX10 412 (1000000000 : Int64) ∈ zTB := (zTB_in (List.mem_of_getElem? (i := 1652) (by decide +kernel)) (by decide +kernel))
theorem kk_X10_418 : Cond.constantLong RX10 418 (1000000 : Int64) ∈ zTB := (zTB_in (List.mem_of_getElem? (i := 1630) (by decide +kernel)) (by decide +kernel))
theorem kk_X10_440 : Cond.constantLong RX10 440 (7 : Int64) ∈ zTB := (zTB_in (List.mem_of_getElem? (i := 1635) (by decide +kernel)) (by decide +kernel))
theorem kk_X10_445 : Cond.constantLong RX10 445 (40 : Int64) ∈ zTB := (zTB_in (List.mem_of_getElem? (i := 1661) (by decide +kernel)) (by decide +kernel))
theorem kk_X10_451 : Cond.constantLong RX10 451 (-1 : Int64) ∈ zTB := (zTB_in (List.mem_of_getElem? (i := 1670) (by decide +kernel)) (by decide +kernel))
theorem kk_X10_453 : Cond.constantLong RX10 453 (10 : Int64) ∈ zTB := (zTB_in (List.mem_of_getElem? (i := 1675) (by decide +kernel)) (by decide +kernel))
theorem kk_X10_478 : Cond.constantLong RX10 478 (6 : Int64) ∈ zTB := (zTB_in (List.mem_of_getElem? (i := 1688) (by decide +kernel)) (by decide +kernel))
theorem kk_X10_486 : Cond.constantLong RX10 486 (5 : Int64) ∈ zTB := (zTB_in (List.mem_of_getElem? (i := 1708) (by decide +kernel)) (by decide +kernel))
theorem kk_X10_488 : Cond.constantLong RX10 488 (11 : Int64) ∈ zTB := (zTB_in (List.mem_of_getElem? (i := 1717) (by decide +kernel)) (by decide +kernel))
theorem kk_X10_512 : Cond.constantLong RX10 512 (1103515245 : Int64) ∈ zTB := (zTB_in (List.mem_of_getElem? (i := 1786) (by decide +kernel)) (by decide +kernel))
theorem kk_X10_514 : Cond.constantLong RX10 514 (12345 : Int64) ∈ zTB := (zTB_in (List.mem_of_getElem? (i := 1787) (by decide +kernel)) (by decide +kernel))
theorem kk_X10_516 : Cond.constantLong RX10 516 (2147483648 : Int64) ∈ zTB := (zTB_in (List.mem_of_getElem? (i := 1788) (by decide +kernel)) (by decide +kernel))
theorem kk_X10_518 : Cond.constantLong RX10 518 (65536 : Int64) ∈ zTB := (zTB_in (List.mem_of_getElem? (i := 1789) (by decide +kernel)) (by decide +kernel))
theorem kk_X10_565 : Cond.constantLong RX10 565 (99 : Int64) ∈ zTB := (zTB_in (List.mem_of_getElem? (i := 1765) (by decide +kernel)) (by decide +kernel))
theorem kk_X2_126 : Cond.constantLong RX2 126 (1000000 : Int64) ∈ zTB := (zTB_in (List.mem_of_getElem? (i := 1071) (by decide +kernel)) (by decide +kernel))
theorem kk_X2_57 : Cond.constantLong RX2 57 (99 : Int64) ∈ zTB := (zTB_in (List.mem_of_getElem? (i := 1060) (by decide +kernel)) (by decide +kernel))
theorem kk_X2_65 : Cond.constantLong RX2 65 (1103515245 : Int64) ∈ zTB := (zTB_in (List.mem_of_getElem? (i := 1097) (by decide +kernel)) (by decide +kernel))
theorem kk_X2_67 : Cond.constantLong RX2 67 (12345 : Int64) ∈ zTB := (zTB_in (List.mem_of_getElem? (i := 1098) (by decide +kernel)) (by decide +kernel))
theorem kk_X2_69 : Cond.constantLong RX2 69 (2147483648 : Int64) ∈ zTB := (zTB_in (List.mem_of_getElem? (i := 1099) (by decide +kernel)) (by decide +kernel))
theorem kk_X2_71 : Cond.constantLong RX2 71 (65536 : Int64) ∈ zTB := (zTB_in (List.mem_of_getElem? (i := 1100) (by decide +kernel)) (by decide +kernel))
theorem kk_X2_83 : Cond.constantLong RX2 83 (4 : Int64) ∈ zTB := (zTB_in (List.mem_of_getElem? (i := 1079) (by decide +kernel)) (by decide +kernel))
theorem kk_X3_121 : Cond.constantLong RX3 121 (1000000 : Int64) ∈ zTB := (zTB_in (List.mem_of_getElem? (i := 1078) (by decide +kernel)) (by decide +kernel))
theorem kk_X3_21 : Cond.constantLong RX3 21 (1000000000 : Int64) ∈ zTB := (zTB_in (List.mem_of_getElem? (i := 810) (by decide +kernel)) (by decide +kernel))
theorem kk_X3_93 : Cond.constantLong RX3 93 (1000 : Int64) ∈ zTB := (zTB_in (List.mem_of_getElem? (i := 843) (by decide +kernel)) (by decide +kernel))
theorem kk_X3_95 : Cond.constantLong RX3 95 (2 : Int64) ∈ zTB := (zTB_in (List.mem_of_getElem? (i := 876) (by decide +kernel)) (by decide +kernel))
theorem kk_X6_58 : Cond.constantLong RX6 58 (1000 : Int64) ∈ zTB := (zTB_in (List.mem_of_getElem? (i := 838) (by decide +kernel)) (by decide +kernel))
theorem kk_X6_66 : Cond.constantLong RX6 66 (900 : Int64) ∈ zTB := (zTB_in (List.mem_of_getElem? (i := 848) (by decide +kernel)) (by decide +kernel))
theorem kk_X7_71 : Cond.constantLong RX7 71 (1000000 : Int64) ∈ zTB := (zTB_in (List.mem_of_getElem? (i := 899) (by decide +kernel)) (by decide +kernel))
theorem kk_X9_187 : Cond.constantLong RX9 187 (-1 : Int64) ∈ zTB := (zTB_in (List.mem_of_getElem? (i := 942) (by decide +kernel)) (by decide +kernel))
theorem kk_X9_224 : Cond.constantLong RX9 224 (1000000 : Int64) ∈ zTB := (zTB_in (List.mem_of_getElem? (i := 1002) (by decide +kernel)) (by decide +kernel))
theorem km_J0_335 : Cond.methodLink RJ0 335 yJ0_coder_7d493 ∈ zTB := (zTB_in (List.mem_of_getElem? (i := 607) (by decide +kernel)) (by decide +kernel))
theorem km_J0_492 : Cond.methodLink RJ0 492 yJ0_isLatin1_aae02 ∈ zTB := (zTB_in (List.mem_of_getElem? (i := 617) (by decide +kernel)) (by decide +kernel))
theorem km_J0_495 : Cond.methodLink RJ0 495 yJ1_charAt_3b067 ∈ zTB := (zTB_in (List.mem_of_getElem? (i := 621) (by decide +kernel)) (by decide +kernel))
theorem km_J1_9 : Cond.methodLink RJ1 9 yJ0_checkIndex_df160 ∈ zTB := (zTB_in (List.mem_of_getElem? (i := 624) (by decide +kernel)) (by decide +kernel))
theorem km_J7_13 : Cond.methodLink RJ7 13 yJ7_rangeCheck_23922 ∈ zTB := (zTB_in (List.mem_of_getElem? (i := 680) (by decide +kernel)) (by decide +kernel))
theorem km_X0_35 : Cond.methodLink RX0 35 yX0_worth ∈ zTB := (zTB_in (List.mem_of_getElem? (i := 853) (by decide +kernel)) (by decide +kernel))
theorem km_X10_110 : Cond.methodLink RX10 110 yX10_four ∈ zTB := (zTB_in (List.mem_of_getElem? (i := 1319) (by decide +kernel)) (by decide +kernel))
theorem km_X10_120 : Cond.methodLink RX10 120 yX10_see ∈ zTB := (zTB_in (List.mem_of_getElem? (i := 1345) (by decide +kernel)) (by decide +kernel))
theorem km_X10_123 : Cond.methodLink RX10 123 yX10_isLetter ∈ zTB := (zTB_in (List.mem_of_getElem? (i := 1354) (by decide +kernel)) (by decide +kernel))
theorem km_X10_127 : Cond.methodLink RX10 127 yX10_isWord ∈ zTB := (zTB_in (List.mem_of_getElem? (i := 1350) (by decide +kernel)) (by decide +kernel))
theorem km_X10_131 : Cond.methodLink RX10 131 yX10_passWord ∈ zTB := (zTB_in (List.mem_of_getElem? (i := 1392) (by decide +kernel)) (by decide +kernel))
theorem km_X10_134 : Cond.methodLink RX10 134 yX10_isDigit ∈ zTB := (zTB_in (List.mem_of_getElem? (i := 1408) (by decide +kernel)) (by decide +kernel))
theorem km_X10_137 : Cond.methodLink RX10 137 yX10_fails ∈ zTB := (zTB_in (List.mem_of_getElem? (i := 1380) (by decide +kernel)) (by decide +kernel))
theorem km_X10_144 : Cond.methodLink RX10 144 yX10_in ∈ zTB := (zTB_in (List.mem_of_getElem? (i := 1332) (by decide +kernel)) (by decide +kernel))
theorem km_X10_182 : Cond.methodLink RX10 182 yX10_strength ∈ zTB := (zTB_in (List.mem_of_getElem? (i := 1466) (by decide +kernel)) (by decide +kernel))
theorem km_X10_186 : Cond.methodLink RX10 186 yX10_puts ∈ zTB := (zTB_in (List.mem_of_getElem? (i := 1421) (by decide +kernel)) (by decide +kernel))
theorem km_X10_191 : Cond.methodLink RX10 191 yX10_numberHere ∈ zTB := (zTB_in (List.mem_of_getElem? (i := 1413) (by decide +kernel)) (by decide +kernel))
theorem km_X10_194 : Cond.methodLink RX10 194 yX10_makes ∈ zTB := (zTB_in (List.mem_of_getElem? (i := 1417) (by decide +kernel)) (by decide +kernel))
theorem km_X10_197 : Cond.methodLink RX10 197 yX10_wordHere ∈ zTB := (zTB_in (List.mem_of_getElem? (i := 1425) (by decide +kernel)) (by decide +kernel))
theorem km_X10_200 : Cond.methodLink RX10 200 yX10_value ∈ zTB := (zTB_in (List.mem_of_getElem? (i := 1404) (by decide +kernel)) (by decide +kernel))
theorem km_X10_204 : Cond.methodLink RX10 204 yX10_term ∈ zTB := (zTB_in (List.mem_of_getElem? (i := 1400) (by decide +kernel)) (by decide +kernel))
theorem km_X10_207 : Cond.methodLink RX10 207 yX10_sum ∈ zTB := (zTB_in (List.mem_of_getElem? (i := 1396) (by decide +kernel)) (by decide +kernel))
theorem km_X10_212 : Cond.methodLink RX10 212 yX10_opens ∈ zTB := (zTB_in (List.mem_of_getElem? (i := 1450) (by decide +kernel)) (by decide +kernel))
theorem km_X10_215 : Cond.methodLink RX10 215 yX10_compare ∈ zTB := (zTB_in (List.mem_of_getElem? (i := 1454) (by decide +kernel)) (by decide +kernel))
theorem km_X10_218 : Cond.methodLink RX10 218 yX10_settles ∈ zTB := (zTB_in (List.mem_of_getElem? (i := 1462) (by decide +kernel)) (by decide +kernel))
theorem km_X10_221 : Cond.methodLink RX10 221 yX10_isInside ∈ zTB := (zTB_in (List.mem_of_getElem? (i := 1469) (by decide +kernel)) (by decide +kernel))
theorem km_X10_224 : Cond.methodLink RX10 224 yX10_fact ∈ zTB := (zTB_in (List.mem_of_getElem? (i := 1445) (by decide +kernel)) (by decide +kernel))
theorem km_X10_227 : Cond.methodLink RX10 227 yX10_closes ∈ zTB := (zTB_in (List.mem_of_getElem? (i := 1458) (by decide +kernel)) (by decide +kernel))
theorem km_X10_236 : Cond.methodLink RX10 236 yX10_takesWord ∈ zTB := (zTB_in (List.mem_of_getElem? (i := 1437) (by decide +kernel)) (by decide +kernel))
theorem km_X10_239 : Cond.methodLink RX10 239 yX10_tested ∈ zTB := (zTB_in (List.mem_of_getElem? (i := 1441) (by decide +kernel)) (by decide +kernel))
theorem km_X10_242 : Cond.methodLink RX10 242 yX10_laidAt ∈ zTB := (zTB_in (List.mem_of_getElem? (i := 1338) (by decide +kernel)) (by decide +kernel))
theorem km_X10_248 : Cond.methodLink RX10 248 yX10_setsTwo ∈ zTB := (zTB_in (List.mem_of_getElem? (i := 1483) (by decide +kernel)) (by decide +kernel))
theorem km_X10_256 : Cond.methodLink RX10 256 yX10_sounds ∈ zTB := (zTB_in (List.mem_of_getElem? (i := 1487) (by decide +kernel)) (by decide +kernel))
theorem km_X10_259 : Cond.methodLink RX10 259 yX10_area ∈ zTB := (zTB_in (List.mem_of_getElem? (i := 1491) (by decide +kernel)) (by decide +kernel))
theorem km_X10_266 : Cond.methodLink RX10 266 yX10_clauseOf ∈ zTB := (zTB_in (List.mem_of_getElem? (i := 1388) (by decide +kernel)) (by decide +kernel))
theorem km_X10_272 : Cond.methodLink RX10 272 yX10_sets ∈ zTB := (zTB_in (List.mem_of_getElem? (i := 1475) (by decide +kernel)) (by decide +kernel))
theorem km_X10_294 : Cond.methodLink RX10 294 yX10_actHere ∈ zTB := (zTB_in (List.mem_of_getElem? (i := 1370) (by decide +kernel)) (by decide +kernel))
theorem km_X10_300 : Cond.methodLink RX10 300 yX10_lawClause ∈ zTB := (zTB_in (List.mem_of_getElem? (i := 1384) (by decide +kernel)) (by decide +kernel))
theorem km_X10_303 : Cond.methodLink RX10 303 yX10_woodClause ∈ zTB := (zTB_in (List.mem_of_getElem? (i := 1479) (by decide +kernel)) (by decide +kernel))
theorem km_X10_308 : Cond.methodLink RX10 308 yX10_firstOf ∈ zTB := (zTB_in (List.mem_of_getElem? (i := 1335) (by decide +kernel)) (by decide +kernel))
theorem km_X10_311 : Cond.methodLink RX10 311 yX10_clauseHere ∈ zTB := (zTB_in (List.mem_of_getElem? (i := 1341) (by decide +kernel)) (by decide +kernel))
theorem km_X10_314 : Cond.methodLink RX10 314 yX10_lays ∈ zTB := (zTB_in (List.mem_of_getElem? (i := 1495) (by decide +kernel)) (by decide +kernel))
theorem km_X10_317 : Cond.methodLink RX10 317 yX10_homeOf ∈ zTB := (zTB_in (List.mem_of_getElem? (i := 1499) (by decide +kernel)) (by decide +kernel))
theorem km_X10_320 : Cond.methodLink RX10 320 yX10_spreads ∈ zTB := (zTB_in (List.mem_of_getElem? (i := 1503) (by decide +kernel)) (by decide +kernel))
theorem km_X10_323 : Cond.methodLink RX10 323 yX10_isInWood ∈ zTB := (zTB_in (List.mem_of_getElem? (i := 1511) (by decide +kernel)) (by decide +kernel))
theorem km_X10_327 : Cond.methodLink RX10 327 yX10_at ∈ zTB := (zTB_in (List.mem_of_getElem? (i := 1515) (by decide +kernel)) (by decide +kernel))
theorem km_X10_331 : Cond.methodLink RX10 331 yX10_beside ∈ zTB := (zTB_in (List.mem_of_getElem? (i := 1507) (by decide +kernel)) (by decide +kernel))
theorem km_X10_334 : Cond.methodLink RX10 334 yX10_size ∈ zTB := (zTB_in (List.mem_of_getElem? (i := 1532) (by decide +kernel)) (by decide +kernel))
theorem km_X10_337 : Cond.methodLink RX10 337 yX10_isText ∈ zTB := (zTB_in (List.mem_of_getElem? (i := 1523) (by decide +kernel)) (by decide +kernel))
theorem km_X10_342 : Cond.methodLink RX10 342 yX10_loudAt ∈ zTB := (zTB_in (List.mem_of_getElem? (i := 1528) (by decide +kernel)) (by decide +kernel))
theorem km_X10_350 : Cond.methodLink RX10 350 yX10_push ∈ zTB := (zTB_in (List.mem_of_getElem? (i := 1592) (by decide +kernel)) (by decide +kernel))
theorem km_X10_354 : Cond.methodLink RX10 354 yX10_pop ∈ zTB := (zTB_in (List.mem_of_getElem? (i := 1596) (by decide +kernel)) (by decide +kernel))
theorem km_X10_358 : Cond.methodLink RX10 358 yX10_one ∈ zTB := (zTB_in (List.mem_of_getElem? (i := 1600) (by decide +kernel)) (by decide +kernel))
theorem km_X10_362 : Cond.methodLink RX10 362 yX10_reckons ∈ zTB := (zTB_in (List.mem_of_getElem? (i := 1588) (by decide +kernel)) (by decide +kernel))
theorem km_X10_369 : Cond.methodLink RX10 369 yX10_canStand ∈ zTB := (zTB_in (List.mem_of_getElem? (i := 1544) (by decide +kernel)) (by decide +kernel))
theorem km_X10_373 : Cond.methodLink RX10 373 yX10_surely ∈ zTB := (zTB_in (List.mem_of_getElem? (i := 1549) (by decide +kernel)) (by decide +kernel))
theorem km_X10_377 : Cond.methodLink RX10 377 yX10_woodNow ∈ zTB := (zTB_in (List.mem_of_getElem? (i := 1576) (by decide +kernel)) (by decide +kernel))
theorem km_X10_380 : Cond.methodLink RX10 380 yX10_lawNow ∈ zTB := (zTB_in (List.mem_of_getElem? (i := 1580) (by decide +kernel)) (by decide +kernel))
theorem km_X10_383 : Cond.methodLink RX10 383 yX10_clauseThat ∈ zTB := (zTB_in (List.mem_of_getElem? (i := 1584) (by decide +kernel)) (by decide +kernel))
theorem km_X10_388 : Cond.methodLink RX10 388 yX10_bounded ∈ zTB := (zTB_in (List.mem_of_getElem? (i := 1604) (by decide +kernel)) (by decide +kernel))
theorem km_X10_392 : Cond.methodLink RX10 392 yX10_turned ∈ zTB := (zTB_in (List.mem_of_getElem? (i := 1569) (by decide +kernel)) (by decide +kernel))
theorem km_X10_395 : Cond.methodLink RX10 395 yX10_stepAt ∈ zTB := (zTB_in (List.mem_of_getElem? (i := 1572) (by decide +kernel)) (by decide +kernel))
theorem km_X10_398 : Cond.methodLink RX10 398 yX10_driftBy ∈ zTB := (zTB_in (List.mem_of_getElem? (i := 1607) (by decide +kernel)) (by decide +kernel))
theorem km_X10_401 : Cond.methodLink RX10 401 yX10_comes ∈ zTB := (zTB_in (List.mem_of_getElem? (i := 1611) (by decide +kernel)) (by decide +kernel))
theorem km_X10_405 : Cond.methodLink RX10 405 yX10_seeing ∈ zTB := (zTB_in (List.mem_of_getElem? (i := 1648) (by decide +kernel)) (by decide +kernel))
theorem km_X10_408 : Cond.methodLink RX10 408 yX10_chance ∈ zTB := (zTB_in (List.mem_of_getElem? (i := 1644) (by decide +kernel)) (by decide +kernel))
theorem km_X10_414 : Cond.methodLink RX10 414 yX10_sumOn ∈ zTB := (zTB_in (List.mem_of_getElem? (i := 1622) (by decide +kernel)) (by decide +kernel))
theorem km_X10_420 : Cond.methodLink RX10 420 yX10_isWalk ∈ zTB := (zTB_in (List.mem_of_getElem? (i := 1561) (by decide +kernel)) (by decide +kernel))
theorem km_X10_423 : Cond.methodLink RX10 423 yX10_canAct ∈ zTB := (zTB_in (List.mem_of_getElem? (i := 1557) (by decide +kernel)) (by decide +kernel))
theorem km_X10_426 : Cond.methodLink RX10 426 yX10_does ∈ zTB := (zTB_in (List.mem_of_getElem? (i := 1565) (by decide +kernel)) (by decide +kernel))
theorem km_X10_429 : Cond.methodLink RX10 429 yX10_later ∈ zTB := (zTB_in (List.mem_of_getElem? (i := 1615) (by decide +kernel)) (by decide +kernel))
theorem km_X10_432 : Cond.methodLink RX10 432 yX10_writes ∈ zTB := (zTB_in (List.mem_of_getElem? (i := 1618) (by decide +kernel)) (by decide +kernel))
theorem km_X10_436 : Cond.methodLink RX10 436 yX10_signs ∈ zTB := (zTB_in (List.mem_of_getElem? (i := 1640) (by decide +kernel)) (by decide +kernel))
theorem km_X10_442 : Cond.methodLink RX10 442 yX10_told ∈ zTB := (zTB_in (List.mem_of_getElem? (i := 1636) (by decide +kernel)) (by decide +kernel))
theorem km_X10_447 : Cond.methodLink RX10 447 yX10_oddsOf ∈ zTB := (zTB_in (List.mem_of_getElem? (i := 1626) (by decide +kernel)) (by decide +kernel))
theorem km_X10_455 : Cond.methodLink RX10 455 yX10_surest ∈ zTB := (zTB_in (List.mem_of_getElem? (i := 1676) (by decide +kernel)) (by decide +kernel))
theorem km_X10_459 : Cond.methodLink RX10 459 yX10_riskOf ∈ zTB := (zTB_in (List.mem_of_getElem? (i := 1680) (by decide +kernel)) (by decide +kernel))
theorem km_X10_469 : Cond.methodLink RX10 469 yX10_tryBegins ∈ zTB := (zTB_in (List.mem_of_getElem? (i := 1696) (by decide +kernel)) (by decide +kernel))
theorem km_X10_475 : Cond.methodLink RX10 475 yX10_comesHome ∈ zTB := (zTB_in (List.mem_of_getElem? (i := 1700) (by decide +kernel)) (by decide +kernel))
theorem km_X10_480 : Cond.methodLink RX10 480 yX10_isCode ∈ zTB := (zTB_in (List.mem_of_getElem? (i := 1689) (by decide +kernel)) (by decide +kernel))
theorem km_X10_483 : Cond.methodLink RX10 483 yX10_goesRow ∈ zTB := (zTB_in (List.mem_of_getElem? (i := 1692) (by decide +kernel)) (by decide +kernel))
theorem km_X10_496 : Cond.methodLink RX10 496 yX10_bits ∈ zTB := (zTB_in (List.mem_of_getElem? (i := 1722) (by decide +kernel)) (by decide +kernel))
theorem km_X10_499 : Cond.methodLink RX10 499 yX10_again ∈ zTB := (zTB_in (List.mem_of_getElem? (i := 1725) (by decide +kernel)) (by decide +kernel))
theorem km_X10_502 : Cond.methodLink RX10 502 yX10_gone ∈ zTB := (zTB_in (List.mem_of_getElem? (i := 1741) (by decide +kernel)) (by decide +kernel))
theorem km_X10_506 : Cond.methodLink RX10 506 yX10_covers ∈ zTB := (zTB_in (List.mem_of_getElem? (i := 1753) (by decide +kernel)) (by decide +kernel))
theorem km_X10_541 : Cond.methodLink RX10 541 yX10_draw ∈ zTB := (zTB_in (List.mem_of_getElem? (i := 1782) (by decide +kernel)) (by decide +kernel))
theorem km_X10_553 : Cond.methodLink RX10 553 yX10_ruled ∈ zTB := (zTB_in (List.mem_of_getElem? (i := 1770) (by decide +kernel)) (by decide +kernel))
theorem km_X10_556 : Cond.methodLink RX10 556 yX10_strikes ∈ zTB := (zTB_in (List.mem_of_getElem? (i := 1774) (by decide +kernel)) (by decide +kernel))
theorem km_X10_559 : Cond.methodLink RX10 559 yX10_goesTruly ∈ zTB := (zTB_in (List.mem_of_getElem? (i := 1778) (by decide +kernel)) (by decide +kernel))
theorem km_X10_562 : Cond.methodLink RX10 562 yX10_senses ∈ zTB := (zTB_in (List.mem_of_getElem? (i := 1790) (by decide +kernel)) (by decide +kernel))
theorem km_X10_567 : Cond.methodLink RX10 567 yX10_isNight ∈ zTB := (zTB_in (List.mem_of_getElem? (i := 1761) (by decide +kernel)) (by decide +kernel))
theorem km_X10_571 : Cond.methodLink RX10 571 yX10_nightGoes ∈ zTB := (zTB_in (List.mem_of_getElem? (i := 1766) (by decide +kernel)) (by decide +kernel))
theorem km_X10_574 : Cond.methodLink RX10 574 yX10_sums ∈ zTB := (zTB_in (List.mem_of_getElem? (i := 1798) (by decide +kernel)) (by decide +kernel))
theorem km_X1_18 : Cond.methodLink RX1 18 yX0_clear ∈ zTB := (zTB_in (List.mem_of_getElem? (i := 714) (by decide +kernel)) (by decide +kernel))
theorem km_X1_34 : Cond.methodLink RX1 34 Lib.Math.max.name ∈ zTB := (zTB_in (List.mem_of_getElem? (i := 835) (by decide +kernel)) (by decide +kernel))
theorem km_X2_102 : Cond.methodLink RX2 102 yX3_happens ∈ zTB := (zTB_in (List.mem_of_getElem? (i := 1085) (by decide +kernel)) (by decide +kernel))
theorem km_X2_111 : Cond.methodLink RX2 111 yX2_draw ∈ zTB := (zTB_in (List.mem_of_getElem? (i := 1093) (by decide +kernel)) (by decide +kernel))
theorem km_X2_119 : Cond.methodLink RX2 119 yX2_perceive ∈ zTB := (zTB_in (List.mem_of_getElem? (i := 1102) (by decide +kernel)) (by decide +kernel))
theorem km_X2_122 : Cond.methodLink RX2 122 yX3_onPath ∈ zTB := (zTB_in (List.mem_of_getElem? (i := 1070) (by decide +kernel)) (by decide +kernel))
theorem km_X2_128 : Cond.methodLink RX2 128 yX3_weightAt ∈ zTB := (zTB_in (List.mem_of_getElem? (i := 1072) (by decide +kernel)) (by decide +kernel))
theorem km_X2_132 : Cond.methodLink RX2 132 yX3_sure ∈ zTB := (zTB_in (List.mem_of_getElem? (i := 1073) (by decide +kernel)) (by decide +kernel))
theorem km_X2_151 : Cond.methodLink RX2 151 yX6_ready ∈ zTB := (zTB_in (List.mem_of_getElem? (i := 1090) (by decide +kernel)) (by decide +kernel))
theorem km_X2_155 : Cond.methodLink RX2 155 yX6_aheadAt ∈ zTB := (zTB_in (List.mem_of_getElem? (i := 1091) (by decide +kernel)) (by decide +kernel))
theorem km_X2_158 : Cond.methodLink RX2 158 yX6_asideBy ∈ zTB := (zTB_in (List.mem_of_getElem? (i := 1092) (by decide +kernel)) (by decide +kernel))
theorem km_X2_177 : Cond.methodLink RX2 177 yX1_seeing ∈ zTB := (zTB_in (List.mem_of_getElem? (i := 1106) (by decide +kernel)) (by decide +kernel))
theorem km_X2_183 : Cond.methodLink RX2 183 yX8_loudAt ∈ zTB := (zTB_in (List.mem_of_getElem? (i := 1107) (by decide +kernel)) (by decide +kernel))
theorem km_X2_189 : Cond.methodLink RX2 189 Lib.Math.max.name ∈ zTB := (zTB_in (List.mem_of_getElem? (i := 1108) (by decide +kernel)) (by decide +kernel))
theorem km_X2_194 : Cond.methodLink RX2 194 Lib.Math.min.name ∈ zTB := (zTB_in (List.mem_of_getElem? (i := 1109) (by decide +kernel)) (by decide +kernel))
theorem km_X2_36 : Cond.methodLink RX2 36 yX2_begin ∈ zTB := (zTB_in (List.mem_of_getElem? (i := 1055) (by decide +kernel)) (by decide +kernel))
theorem km_X2_43 : Cond.methodLink RX2 43 yX2_round ∈ zTB := (zTB_in (List.mem_of_getElem? (i := 1062) (by decide +kernel)) (by decide +kernel))
theorem km_X2_50 : Cond.methodLink RX2 50 yX3_begin ∈ zTB := (zTB_in (List.mem_of_getElem? (i := 1059) (by decide +kernel)) (by decide +kernel))
theorem km_X2_59 : Cond.methodLink RX2 59 yJ7_fill_d0a16 ∈ zTB := (zTB_in (List.mem_of_getElem? (i := 1061) (by decide +kernel)) (by decide +kernel))
theorem km_X2_79 : Cond.methodLink RX2 79 yX2_takeStock ∈ zTB := (zTB_in (List.mem_of_getElem? (i := 1066) (by decide +kernel)) (by decide +kernel))
theorem km_X2_85 : Cond.methodLink RX2 85 yX0_first ∈ zTB := (zTB_in (List.mem_of_getElem? (i := 1080) (by decide +kernel)) (by decide +kernel))
theorem km_X2_91 : Cond.methodLink RX2 91 yX2_strikeOne ∈ zTB := (zTB_in (List.mem_of_getElem? (i := 1081) (by decide +kernel)) (by decide +kernel))
theorem km_X2_95 : Cond.methodLink RX2 95 yX2_goTruly ∈ zTB := (zTB_in (List.mem_of_getElem? (i := 1086) (by decide +kernel)) (by decide +kernel))
theorem km_X2_98 : Cond.methodLink RX2 98 yX3_turned ∈ zTB := (zTB_in (List.mem_of_getElem? (i := 1101) (by decide +kernel)) (by decide +kernel))
theorem km_X3_107 : Cond.methodLink RX3 107 yX3_weightAt ∈ zTB := (zTB_in (List.mem_of_getElem? (i := 895) (by decide +kernel)) (by decide +kernel))
theorem km_X3_117 : Cond.methodLink RX3 117 yX3_surest ∈ zTB := (zTB_in (List.mem_of_getElem? (i := 1077) (by decide +kernel)) (by decide +kernel))
theorem km_X3_126 : Cond.methodLink RX3 126 yJ7_fill_bad5a ∈ zTB := (zTB_in (List.mem_of_getElem? (i := 955) (by decide +kernel)) (by decide +kernel))
theorem km_X3_15 : Cond.methodLink RX3 15 yJ7_fill_d0a16 ∈ zTB := (zTB_in (List.mem_of_getElem? (i := 807) (by decide +kernel)) (by decide +kernel))
theorem km_X3_33 : Cond.methodLink RX3 33 arraycopyName ∈ zTB := (zTB_in (List.mem_of_getElem? (i := 880) (by decide +kernel)) (by decide +kernel))
theorem km_X3_39 : Cond.methodLink RX3 39 yX6_tell ∈ zTB := (zTB_in (List.mem_of_getElem? (i := 827) (by decide +kernel)) (by decide +kernel))
theorem km_X3_45 : Cond.methodLink RX3 45 yX3_weigh ∈ zTB := (zTB_in (List.mem_of_getElem? (i := 839) (by decide +kernel)) (by decide +kernel))
theorem km_X3_49 : Cond.methodLink RX3 49 yX6_ready ∈ zTB := (zTB_in (List.mem_of_getElem? (i := 844) (by decide +kernel)) (by decide +kernel))
theorem km_X3_53 : Cond.methodLink RX3 53 yX3_go ∈ zTB := (zTB_in (List.mem_of_getElem? (i := 863) (by decide +kernel)) (by decide +kernel))
theorem km_X3_57 : Cond.methodLink RX3 57 yX3_turned ∈ zTB := (zTB_in (List.mem_of_getElem? (i := 883) (by decide +kernel)) (by decide +kernel))
theorem km_X3_65 : Cond.methodLink RX3 65 yX3_turn ∈ zTB := (zTB_in (List.mem_of_getElem? (i := 886) (by decide +kernel)) (by decide +kernel))
theorem km_X3_69 : Cond.methodLink RX3 69 Lib.Math.min.name ∈ zTB := (zTB_in (List.mem_of_getElem? (i := 890) (by decide +kernel)) (by decide +kernel))
theorem km_X3_86 : Cond.methodLink RX3 86 yX6_aheadAt ∈ zTB := (zTB_in (List.mem_of_getElem? (i := 867) (by decide +kernel)) (by decide +kernel))
theorem km_X3_89 : Cond.methodLink RX3 89 yX6_asideBy ∈ zTB := (zTB_in (List.mem_of_getElem? (i := 871) (by decide +kernel)) (by decide +kernel))
theorem km_X3_97 : Cond.methodLink RX3 97 yX3_comeTo ∈ zTB := (zTB_in (List.mem_of_getElem? (i := 877) (by decide +kernel)) (by decide +kernel))
theorem km_X4_100 : Cond.methodLink RX4 100 yX8_addSource ∈ zTB := (zTB_in (List.mem_of_getElem? (i := 663) (by decide +kernel)) (by decide +kernel))
theorem km_X4_104 : Cond.methodLink RX4 104 yX4_readArea ∈ zTB := (zTB_in (List.mem_of_getElem? (i := 673) (by decide +kernel)) (by decide +kernel))
theorem km_X4_108 : Cond.methodLink RX4 108 yX4_goesOn ∈ zTB := (zTB_in (List.mem_of_getElem? (i := 683) (by decide +kernel)) (by decide +kernel))
theorem km_X4_112 : Cond.methodLink RX4 112 yX8_settle ∈ zTB := (zTB_in (List.mem_of_getElem? (i := 687) (by decide +kernel)) (by decide +kernel))
theorem km_X4_130 : Cond.methodLink RX4 130 yJ7_fill_fda19 ∈ zTB := (zTB_in (List.mem_of_getElem? (i := 677) (by decide +kernel)) (by decide +kernel))
theorem km_X4_136 : Cond.methodLink RX4 136 yX1_clear ∈ zTB := (zTB_in (List.mem_of_getElem? (i := 710) (by decide +kernel)) (by decide +kernel))
theorem km_X4_156 : Cond.methodLink RX4 156 yX0_openOne ∈ zTB := (zTB_in (List.mem_of_getElem? (i := 719) (by decide +kernel)) (by decide +kernel))
theorem km_X4_159 : Cond.methodLink RX4 159 yX4_sum ∈ zTB := (zTB_in (List.mem_of_getElem? (i := 723) (by decide +kernel)) (by decide +kernel))
theorem km_X4_162 : Cond.methodLink RX4 162 yX4_opensTest ∈ zTB := (zTB_in (List.mem_of_getElem? (i := 739) (by decide +kernel)) (by decide +kernel))
theorem km_X4_165 : Cond.methodLink RX4 165 yX4_test ∈ zTB := (zTB_in (List.mem_of_getElem? (i := 748) (by decide +kernel)) (by decide +kernel))
theorem km_X4_168 : Cond.methodLink RX4 168 yX0_closeOne ∈ zTB := (zTB_in (List.mem_of_getElem? (i := 766) (by decide +kernel)) (by decide +kernel))
theorem km_X4_171 : Cond.methodLink RX4 171 yX0_clear ∈ zTB := (zTB_in (List.mem_of_getElem? (i := 774) (by decide +kernel)) (by decide +kernel))
theorem km_X4_176 : Cond.methodLink RX4 176 yX0_add ∈ zTB := (zTB_in (List.mem_of_getElem? (i := 731) (by decide +kernel)) (by decide +kernel))
theorem km_X4_180 : Cond.methodLink RX4 180 yX0_openTest ∈ zTB := (zTB_in (List.mem_of_getElem? (i := 743) (by decide +kernel)) (by decide +kernel))
theorem km_X4_185 : Cond.methodLink RX4 185 yX4_fact ∈ zTB := (zTB_in (List.mem_of_getElem? (i := 752) (by decide +kernel)) (by decide +kernel))
theorem km_X4_192 : Cond.methodLink RX4 192 yX4_deeper ∈ zTB := (zTB_in (List.mem_of_getElem? (i := 757) (by decide +kernel)) (by decide +kernel))
theorem km_X4_196 : Cond.methodLink RX4 196 yX4_countPart ∈ zTB := (zTB_in (List.mem_of_getElem? (i := 735) (by decide +kernel)) (by decide +kernel))
theorem km_X4_199 : Cond.methodLink RX4 199 yX4_addComparison ∈ zTB := (zTB_in (List.mem_of_getElem? (i := 761) (by decide +kernel)) (by decide +kernel))
theorem km_X4_202 : Cond.methodLink RX4 202 yX4_value ∈ zTB := (zTB_in (List.mem_of_getElem? (i := 727) (by decide +kernel)) (by decide +kernel))
theorem km_X4_41 : Cond.methodLink RX4 41 yX4_next ∈ zTB := (zTB_in (List.mem_of_getElem? (i := 585) (by decide +kernel)) (by decide +kernel))
theorem km_X4_50 : Cond.methodLink RX4 50 yJ0_length_8abf5 ∈ zTB := (zTB_in (List.mem_of_getElem? (i := 603) (by decide +kernel)) (by decide +kernel))
theorem km_X4_55 : Cond.methodLink RX4 55 yJ0_charAt_5068e ∈ zTB := (zTB_in (List.mem_of_getElem? (i := 613) (by decide +kernel)) (by decide +kernel))
theorem km_X4_59 : Cond.methodLink RX4 59 yX4_refuse ∈ zTB := (zTB_in (List.mem_of_getElem? (i := 651) (by decide +kernel)) (by decide +kernel))
theorem km_X4_63 : Cond.methodLink RX4 63 yX4_digits ∈ zTB := (zTB_in (List.mem_of_getElem? (i := 659) (by decide +kernel)) (by decide +kernel))
theorem km_X4_66 : Cond.methodLink RX4 66 yX4_wordIn ∈ zTB := (zTB_in (List.mem_of_getElem? (i := 599) (by decide +kernel)) (by decide +kernel))
theorem km_X4_70 : Cond.methodLink RX4 70 yX4_start ∈ zTB := (zTB_in (List.mem_of_getElem? (i := 581) (by decide +kernel)) (by decide +kernel))
theorem km_X4_73 : Cond.methodLink RX4 73 yX8_clear ∈ zTB := (zTB_in (List.mem_of_getElem? (i := 589) (by decide +kernel)) (by decide +kernel))
theorem km_X4_80 : Cond.methodLink RX4 80 yX4_opened ∈ zTB := (zTB_in (List.mem_of_getElem? (i := 595) (by decide +kernel)) (by decide +kernel))
theorem km_X4_87 : Cond.methodLink RX4 87 yX4_number ∈ zTB := (zTB_in (List.mem_of_getElem? (i := 655) (by decide +kernel)) (by decide +kernel))
theorem km_X5_25 : Cond.methodLink RX5 25 yX3_copyFrom ∈ zTB := (zTB_in (List.mem_of_getElem? (i := 947) (by decide +kernel)) (by decide +kernel))
theorem km_X5_35 : Cond.methodLink RX5 35 yX3_takeFrom ∈ zTB := (zTB_in (List.mem_of_getElem? (i := 951) (by decide +kernel)) (by decide +kernel))
theorem km_X5_45 : Cond.methodLink RX5 45 yX3_risk ∈ zTB := (zTB_in (List.mem_of_getElem? (i := 962) (by decide +kernel)) (by decide +kernel))
theorem km_X5_49 : Cond.methodLink RX5 49 yX3_happens ∈ zTB := (zTB_in (List.mem_of_getElem? (i := 963) (by decide +kernel)) (by decide +kernel))
theorem km_X5_53 : Cond.methodLink RX5 53 yX5_begin ∈ zTB := (zTB_in (List.mem_of_getElem? (i := 972) (by decide +kernel)) (by decide +kernel))
theorem km_X5_57 : Cond.methodLink RX5 57 yX5_step ∈ zTB := (zTB_in (List.mem_of_getElem? (i := 973) (by decide +kernel)) (by decide +kernel))
theorem km_X5_61 : Cond.methodLink RX5 61 yX5_turnedAround ∈ zTB := (zTB_in (List.mem_of_getElem? (i := 974) (by decide +kernel)) (by decide +kernel))
theorem km_X6_68 : Cond.methodLink RX6 68 yX0_first ∈ zTB := (zTB_in (List.mem_of_getElem? (i := 849) (by decide +kernel)) (by decide +kernel))
theorem km_X6_74 : Cond.methodLink RX6 74 Lib.MathLoose.min_long.x ∈ zTB := (zTB_in (List.mem_of_getElem? (i := 857) (by decide +kernel)) (by decide +kernel))
theorem km_X6_80 : Cond.methodLink RX6 80 Lib.MathLoose.max_long.x ∈ zTB := (zTB_in (List.mem_of_getElem? (i := 860) (by decide +kernel)) (by decide +kernel))
theorem km_X6_86 : Cond.methodLink RX6 86 Lib.Math.min.name ∈ zTB := (zTB_in (List.mem_of_getElem? (i := 875) (by decide +kernel)) (by decide +kernel))
theorem km_X6_89 : Cond.methodLink RX6 89 yX1_seeing ∈ zTB := (zTB_in (List.mem_of_getElem? (i := 831) (by decide +kernel)) (by decide +kernel))
theorem km_X6_96 : Cond.methodLink RX6 96 yX8_loudAt ∈ zTB := (zTB_in (List.mem_of_getElem? (i := 836) (by decide +kernel)) (by decide +kernel))
theorem km_X6_99 : Cond.methodLink RX6 99 Lib.Math.abs.name ∈ zTB := (zTB_in (List.mem_of_getElem? (i := 837) (by decide +kernel)) (by decide +kernel))
theorem km_X7_54 : Cond.methodLink RX7 54 yX3_begin ∈ zTB := (zTB_in (List.mem_of_getElem? (i := 803) (by decide +kernel)) (by decide +kernel))
theorem km_X7_58 : Cond.methodLink RX7 58 yX3_happens ∈ zTB := (zTB_in (List.mem_of_getElem? (i := 823) (by decide +kernel)) (by decide +kernel))
theorem km_X7_67 : Cond.methodLink RX7 67 yX3_onPath ∈ zTB := (zTB_in (List.mem_of_getElem? (i := 891) (by decide +kernel)) (by decide +kernel))
theorem km_X7_73 : Cond.methodLink RX7 73 yX3_copyFrom ∈ zTB := (zTB_in (List.mem_of_getElem? (i := 1131) (by decide +kernel)) (by decide +kernel))
theorem km_X7_77 : Cond.methodLink RX7 77 arraycopyName ∈ zTB := (zTB_in (List.mem_of_getElem? (i := 1132) (by decide +kernel)) (by decide +kernel))
theorem km_X8_55 : Cond.methodLink RX8 55 yJ7_fill_53178 ∈ zTB := (zTB_in (List.mem_of_getElem? (i := 593) (by decide +kernel)) (by decide +kernel))
theorem km_X8_61 : Cond.methodLink RX8 61 Lib.Math.abs.name ∈ zTB := (zTB_in (List.mem_of_getElem? (i := 667) (by decide +kernel)) (by decide +kernel))
theorem km_X8_67 : Cond.methodLink RX8 67 Lib.Math.max.name ∈ zTB := (zTB_in (List.mem_of_getElem? (i := 670) (by decide +kernel)) (by decide +kernel))
theorem km_X8_71 : Cond.methodLink RX8 71 Lib.Math.min.name ∈ zTB := (zTB_in (List.mem_of_getElem? (i := 691) (by decide +kernel)) (by decide +kernel))
theorem km_X8_77 : Cond.methodLink RX8 77 yX8_openAt ∈ zTB := (zTB_in (List.mem_of_getElem? (i := 694) (by decide +kernel)) (by decide +kernel))
theorem km_X8_80 : Cond.methodLink RX8 80 yX8_measure ∈ zTB := (zTB_in (List.mem_of_getElem? (i := 702) (by decide +kernel)) (by decide +kernel))
theorem km_X8_84 : Cond.methodLink RX8 84 yX8_cellAt ∈ zTB := (zTB_in (List.mem_of_getElem? (i := 698) (by decide +kernel)) (by decide +kernel))
theorem km_X8_87 : Cond.methodLink RX8 87 yX8_loudAt ∈ zTB := (zTB_in (List.mem_of_getElem? (i := 786) (by decide +kernel)) (by decide +kernel))
theorem km_X9_106 : Cond.methodLink RX9 106 yX4_readLaw ∈ zTB := (zTB_in (List.mem_of_getElem? (i := 706) (by decide +kernel)) (by decide +kernel))
theorem km_X9_113 : Cond.methodLink RX9 113 yX4_readRule ∈ zTB := (zTB_in (List.mem_of_getElem? (i := 770) (by decide +kernel)) (by decide +kernel))
theorem km_X9_117 : Cond.methodLink RX9 117 yX8_cellAt ∈ zTB := (zTB_in (List.mem_of_getElem? (i := 781) (by decide +kernel)) (by decide +kernel))
theorem km_X9_121 : Cond.methodLink RX9 121 yX8_told ∈ zTB := (zTB_in (List.mem_of_getElem? (i := 782) (by decide +kernel)) (by decide +kernel))
theorem km_X9_135 : Cond.methodLink RX9 135 yX8_openAt ∈ zTB := (zTB_in (List.mem_of_getElem? (i := 798) (by decide +kernel)) (by decide +kernel))
theorem km_X9_138 : Cond.methodLink RX9 138 yX7_begin ∈ zTB := (zTB_in (List.mem_of_getElem? (i := 799) (by decide +kernel)) (by decide +kernel))
theorem km_X9_142 : Cond.methodLink RX9 142 yX6_take ∈ zTB := (zTB_in (List.mem_of_getElem? (i := 811) (by decide +kernel)) (by decide +kernel))
theorem km_X9_145 : Cond.methodLink RX9 145 yX7_keep ∈ zTB := (zTB_in (List.mem_of_getElem? (i := 819) (by decide +kernel)) (by decide +kernel))
theorem km_X9_168 : Cond.methodLink RX9 168 yX3_weightAt ∈ zTB := (zTB_in (List.mem_of_getElem? (i := 920) (by decide +kernel)) (by decide +kernel))
theorem km_X9_172 : Cond.methodLink RX9 172 yX3_onPath ∈ zTB := (zTB_in (List.mem_of_getElem? (i := 925) (by decide +kernel)) (by decide +kernel))
theorem km_X9_176 : Cond.methodLink RX9 176 yX3_surest ∈ zTB := (zTB_in (List.mem_of_getElem? (i := 926) (by decide +kernel)) (by decide +kernel))
theorem km_X9_180 : Cond.methodLink RX9 180 yX3_risk ∈ zTB := (zTB_in (List.mem_of_getElem? (i := 930) (by decide +kernel)) (by decide +kernel))
theorem km_X9_183 : Cond.methodLink RX9 183 yX3_inArea ∈ zTB := (zTB_in (List.mem_of_getElem? (i := 934) (by decide +kernel)) (by decide +kernel))
theorem km_X9_189 : Cond.methodLink RX9 189 yX5_begin ∈ zTB := (zTB_in (List.mem_of_getElem? (i := 943) (by decide +kernel)) (by decide +kernel))
theorem km_X9_192 : Cond.methodLink RX9 192 yX5_step ∈ zTB := (zTB_in (List.mem_of_getElem? (i := 958) (by decide +kernel)) (by decide +kernel))
theorem km_X9_203 : Cond.methodLink RX9 203 yX5_best ∈ zTB := (zTB_in (List.mem_of_getElem? (i := 968) (by decide +kernel)) (by decide +kernel))
theorem km_X9_207 : Cond.methodLink RX9 207 yX9_isBar ∈ zTB := (zTB_in (List.mem_of_getElem? (i := 981) (by decide +kernel)) (by decide +kernel))
theorem km_X9_214 : Cond.methodLink RX9 214 yJ6_bitCount_0f7a4 ∈ zTB := (zTB_in (List.mem_of_getElem? (i := 992) (by decide +kernel)) (by decide +kernel))
theorem km_X9_220 : Cond.methodLink RX9 220 yX7_doAgain ∈ zTB := (zTB_in (List.mem_of_getElem? (i := 998) (by decide +kernel)) (by decide +kernel))
theorem km_X9_226 : Cond.methodLink RX9 226 yX9_mostShown ∈ zTB := (zTB_in (List.mem_of_getElem? (i := 1007) (by decide +kernel)) (by decide +kernel))
theorem km_X9_235 : Cond.methodLink RX9 235 Lib.MathLoose.max_long.x ∈ zTB := (zTB_in (List.mem_of_getElem? (i := 1011) (by decide +kernel)) (by decide +kernel))
theorem km_X9_241 : Cond.methodLink RX9 241 Lib.Math.max.name ∈ zTB := (zTB_in (List.mem_of_getElem? (i := 1016) (by decide +kernel)) (by decide +kernel))
theorem km_X9_243 : Cond.methodLink RX9 243 yJ7_fill_53178 ∈ zTB := (zTB_in (List.mem_of_getElem? (i := 1021) (by decide +kernel)) (by decide +kernel))
theorem km_X9_249 : Cond.methodLink RX9 249 yX9_overWay ∈ zTB := (zTB_in (List.mem_of_getElem? (i := 1022) (by decide +kernel)) (by decide +kernel))
theorem km_X9_258 : Cond.methodLink RX9 258 yX9_reach ∈ zTB := (zTB_in (List.mem_of_getElem? (i := 1034) (by decide +kernel)) (by decide +kernel))
theorem km_X9_262 : Cond.methodLink RX9 262 yX9_isEnough ∈ zTB := (zTB_in (List.mem_of_getElem? (i := 1039) (by decide +kernel)) (by decide +kernel))
theorem km_X9_266 : Cond.methodLink RX9 266 yX8_measure ∈ zTB := (zTB_in (List.mem_of_getElem? (i := 1038) (by decide +kernel)) (by decide +kernel))
theorem km_X9_270 : Cond.methodLink RX9 270 yX9_startOf ∈ zTB := (zTB_in (List.mem_of_getElem? (i := 1047) (by decide +kernel)) (by decide +kernel))
theorem km_X9_274 : Cond.methodLink RX9 274 yX2_play ∈ zTB := (zTB_in (List.mem_of_getElem? (i := 1051) (by decide +kernel)) (by decide +kernel))
theorem km_X9_291 : Cond.methodLink RX9 291 yX3_sure ∈ zTB := (zTB_in (List.mem_of_getElem? (i := 1110) (by decide +kernel)) (by decide +kernel))
theorem km_X9_305 : Cond.methodLink RX9 305 yX7_copyFrom ∈ zTB := (zTB_in (List.mem_of_getElem? (i := 1127) (by decide +kernel)) (by decide +kernel))
theorem km_X9_89 : Cond.methodLink RX9 89 yX4_put ∈ zTB := (zTB_in (List.mem_of_getElem? (i := 565) (by decide +kernel)) (by decide +kernel))
theorem km_X9_96 : Cond.methodLink RX9 96 yX4_readWood ∈ zTB := (zTB_in (List.mem_of_getElem? (i := 577) (by decide +kernel)) (by decide +kernel))
theorem kc_0 : z_Cal 0 0 0 1 := ⟨(zTB_in (List.mem_of_getElem? (i := 717) (by decide +kernel)) (by decide +kernel)), (zTB_in (List.mem_of_getElem? (i := 111) (by decide +kernel)) (by decide +kernel)), ⟨by decide, by decide, by decide +kernel⟩, by decide, rfl, rfl⟩
theorem ki_0 : Cond.instanceMethod (z_mt 0).1 ∈ zTB := (zTB_in (List.mem_of_getElem? (i := 715) (by decide +kernel)) (by decide +kernel))
theorem kx_0 : Cond.selects RX0 (z_mt 0).1 (z_mt 0).1 ∈ zTB := (zTB_in (List.mem_of_getElem? (i := 716) (by decide +kernel)) (by decide +kernel))
theorem kc_1 : z_Cal 1 2 0 3 := ⟨(zTB_in (List.mem_of_getElem? (i := 734) (by decide +kernel)) (by decide +kernel)), (zTB_in (List.mem_of_getElem? (i := 111) (by decide +kernel)) (by decide +kernel)), ⟨by decide, by decide, by decide +kernel⟩, by decide, rfl, rfl⟩
theorem ki_1 : Cond.instanceMethod (z_mt 1).1 ∈ zTB := (zTB_in (List.mem_of_getElem? (i := 732) (by decide +kernel)) (by decide +kernel))
theorem kx_1 : Cond.selects RX0 (z_mt 1).1 (z_mt 1).1 ∈ zTB := (zTB_in (List.mem_of_getElem? (i := 733) (by decide +kernel)) (by decide +kernel))
theorem kc_2 : z_Cal 2 0 0 1 := ⟨(zTB_in (List.mem_of_getElem? (i := 722) (by decide +kernel)) (by decide +kernel)), (zTB_in (List.mem_of_getElem? (i := 111) (by decide +kernel)) (by decide +kernel)), ⟨by decide, by decide, by decide +kernel⟩, by decide, rfl, rfl⟩
theorem ki_2 : Cond.instanceMethod (z_mt 2).1 ∈ zTB := (zTB_in (List.mem_of_getElem? (i := 720) (by decide +kernel)) (by decide +kernel))
theorem kx_2 : Cond.selects RX0 (z_mt 2).1 (z_mt 2).1 ∈ zTB := (zTB_in (List.mem_of_getElem? (i := 721) (by decide +kernel)) (by decide +kernel))
theorem kc_3 : z_Cal 3 0 0 1 := ⟨(zTB_in (List.mem_of_getElem? (i := 746) (by decide +kernel)) (by decide +kernel)), (zTB_in (List.mem_of_getElem? (i := 111) (by decide +kernel)) (by decide +kernel)), ⟨by decide, by decide, by decide +kernel⟩, by decide, rfl, rfl⟩
theorem ki_3 : Cond.instanceMethod (z_mt 3).1 ∈ zTB := (zTB_in (List.mem_of_getElem? (i := 744) (by decide +kernel)) (by decide +kernel))
theorem kx_3 : Cond.selects RX0 (z_mt 3).1 (z_mt 3).1 ∈ zTB := (zTB_in (List.mem_of_getElem? (i := 745) (by decide +kernel)) (by decide +kernel))
theorem kc_4 : z_Cal 4 0 0 1 := ⟨(zTB_in (List.mem_of_getElem? (i := 769) (by decide +kernel)) (by decide +kernel)), (zTB_in (List.mem_of_getElem? (i := 111) (by decide +kernel)) (by decide +kernel)), ⟨by decide, by decide, by decide +kernel⟩, by decide, rfl, rfl⟩
theorem ki_4 : Cond.instanceMethod (z_mt 4).1 ∈ zTB := (zTB_in (List.mem_of_getElem? (i := 767) (by decide +kernel)) (by decide +kernel))
theorem kx_4 : Cond.selects RX0 (z_mt 4).1 (z_mt 4).1 ∈ zTB := (zTB_in (List.mem_of_getElem? (i := 768) (by decide +kernel)) (by decide +kernel))
theorem kc_5 : z_Cal 5 2 2 5 := ⟨(zTB_in (List.mem_of_getElem? (i := 852) (by decide +kernel)) (by decide +kernel)), (zTB_in (List.mem_of_getElem? (i := 111) (by decide +kernel)) (by decide +kernel)), ⟨by decide, by decide, by decide +kernel⟩, by decide, rfl, rfl⟩
theorem ki_5 : Cond.instanceMethod (z_mt 5).1 ∈ zTB := (zTB_in (List.mem_of_getElem? (i := 850) (by decide +kernel)) (by decide +kernel))
theorem kx_5 : Cond.selects RX0 (z_mt 5).1 (z_mt 5).1 ∈ zTB := (zTB_in (List.mem_of_getElem? (i := 851) (by decide +kernel)) (by decide +kernel))
theorem kc_6 : z_Cal 6 3 2 13 := ⟨(zTB_in (List.mem_of_getElem? (i := 856) (by decide +kernel)) (by decide +kernel)), (zTB_in (List.mem_of_getElem? (i := 111) (by decide +kernel)) (by decide +kernel)), ⟨by decide, by decide, by decide +kernel⟩, by decide, rfl, rfl⟩
theorem ki_6 : Cond.instanceMethod (z_mt 6).1 ∈ zTB := (zTB_in (List.mem_of_getElem? (i := 855) (by decide +kernel)) (by decide +kernel))
theorem kx_6 : Cond.selects RX0 (z_mt 6).1 (z_mt 6).1 ∈ zTB := (zTB_in (List.mem_of_getElem? (i := 18) (by decide +kernel)) (by decide +kernel))
theorem kc_7 : z_Cal 7 0 0 1 := ⟨(zTB_in (List.mem_of_getElem? (i := 713) (by decide +kernel)) (by decide +kernel)), (zTB_in (List.mem_of_getElem? (i := 118) (by decide +kernel)) (by decide +kernel)), ⟨by decide, by decide, by decide +kernel⟩, by decide, rfl, rfl⟩
theorem ki_7 : Cond.instanceMethod (z_mt 7).1 ∈ zTB := (zTB_in (List.mem_of_getElem? (i := 711) (by decide +kernel)) (by decide +kernel))
theorem kx_7 : Cond.selects RX1 (z_mt 7).1 (z_mt 7).1 ∈ zTB := (zTB_in (List.mem_of_getElem? (i := 712) (by decide +kernel)) (by decide +kernel))
theorem kc_8 : z_Cal 8 1 1 2 := ⟨(zTB_in (List.mem_of_getElem? (i := 834) (by decide +kernel)) (by decide +kernel)), (zTB_in (List.mem_of_getElem? (i := 118) (by decide +kernel)) (by decide +kernel)), ⟨by decide, by decide, by decide +kernel⟩, by decide, rfl, rfl⟩
theorem ki_8 : Cond.instanceMethod (z_mt 8).1 ∈ zTB := (zTB_in (List.mem_of_getElem? (i := 832) (by decide +kernel)) (by decide +kernel))
theorem kx_8 : Cond.selects RX1 (z_mt 8).1 (z_mt 8).1 ∈ zTB := (zTB_in (List.mem_of_getElem? (i := 833) (by decide +kernel)) (by decide +kernel))
theorem kc_9 : z_Cal 9 6 0 9 := ⟨(zTB_in (List.mem_of_getElem? (i := 1054) (by decide +kernel)) (by decide +kernel)), (zTB_in (List.mem_of_getElem? (i := 116) (by decide +kernel)) (by decide +kernel)), ⟨by decide, by decide, by decide +kernel⟩, by decide, rfl, rfl⟩
theorem ki_9 : Cond.instanceMethod (z_mt 9).1 ∈ zTB := (zTB_in (List.mem_of_getElem? (i := 1052) (by decide +kernel)) (by decide +kernel))
theorem kx_9 : Cond.selects RX2 (z_mt 9).1 (z_mt 9).1 ∈ zTB := (zTB_in (List.mem_of_getElem? (i := 1053) (by decide +kernel)) (by decide +kernel))
theorem kc_10 : z_Cal 10 2 0 3 := ⟨(zTB_in (List.mem_of_getElem? (i := 1058) (by decide +kernel)) (by decide +kernel)), (zTB_in (List.mem_of_getElem? (i := 116) (by decide +kernel)) (by decide +kernel)), ⟨by decide, by decide, by decide +kernel⟩, by decide, rfl, rfl⟩
theorem ki_10 : Cond.instanceMethod (z_mt 10).1 ∈ zTB := (zTB_in (List.mem_of_getElem? (i := 1057) (by decide +kernel)) (by decide +kernel))
theorem kx_10 : Cond.selects RX2 (z_mt 10).1 (z_mt 10).1 ∈ zTB := (zTB_in (List.mem_of_getElem? (i := 26) (by decide +kernel)) (by decide +kernel))
theorem kc_11 : z_Cal 11 0 1 1 := ⟨(zTB_in (List.mem_of_getElem? (i := 1096) (by decide +kernel)) (by decide +kernel)), (zTB_in (List.mem_of_getElem? (i := 116) (by decide +kernel)) (by decide +kernel)), ⟨by decide, by decide, by decide +kernel⟩, by decide, rfl, rfl⟩
theorem ki_11 : Cond.instanceMethod (z_mt 11).1 ∈ zTB := (zTB_in (List.mem_of_getElem? (i := 1095) (by decide +kernel)) (by decide +kernel))
theorem kx_11 : Cond.selects RX2 (z_mt 11).1 (z_mt 11).1 ∈ zTB := (zTB_in (List.mem_of_getElem? (i := 31) (by decide +kernel)) (by decide +kernel))
theorem kc_12 : z_Cal 12 2 0 4 := ⟨(zTB_in (List.mem_of_getElem? (i := 1065) (by decide +kernel)) (by decide +kernel)), (zTB_in (List.mem_of_getElem? (i := 116) (by decide +kernel)) (by decide +kernel)), ⟨by decide, by decide, by decide +kernel⟩, by decide, rfl, rfl⟩
theorem ki_12 : Cond.instanceMethod (z_mt 12).1 ∈ zTB := (zTB_in (List.mem_of_getElem? (i := 1064) (by decide +kernel)) (by decide +kernel))
theorem kx_12 : Cond.selects RX2 (z_mt 12).1 (z_mt 12).1 ∈ zTB := (zTB_in (List.mem_of_getElem? (i := 27) (by decide +kernel)) (by decide +kernel))
theorem kc_13 : z_Cal 13 1 0 2 := ⟨(zTB_in (List.mem_of_getElem? (i := 1069) (by decide +kernel)) (by decide +kernel)), (zTB_in (List.mem_of_getElem? (i := 116) (by decide +kernel)) (by decide +kernel)), ⟨by decide, by decide, by decide +kernel⟩, by decide, rfl, rfl⟩
theorem ki_13 : Cond.instanceMethod (z_mt 13).1 ∈ zTB := (zTB_in (List.mem_of_getElem? (i := 1068) (by decide +kernel)) (by decide +kernel))
theorem kx_13 : Cond.selects RX2 (z_mt 13).1 (z_mt 13).1 ∈ zTB := (zTB_in (List.mem_of_getElem? (i := 28) (by decide +kernel)) (by decide +kernel))
theorem kc_14 : z_Cal 14 1 0 4 := ⟨(zTB_in (List.mem_of_getElem? (i := 1084) (by decide +kernel)) (by decide +kernel)), (zTB_in (List.mem_of_getElem? (i := 116) (by decide +kernel)) (by decide +kernel)), ⟨by decide, by decide, by decide +kernel⟩, by decide, rfl, rfl⟩
theorem ki_14 : Cond.instanceMethod (z_mt 14).1 ∈ zTB := (zTB_in (List.mem_of_getElem? (i := 1083) (by decide +kernel)) (by decide +kernel))
theorem kx_14 : Cond.selects RX2 (z_mt 14).1 (z_mt 14).1 ∈ zTB := (zTB_in (List.mem_of_getElem? (i := 29) (by decide +kernel)) (by decide +kernel))
theorem kc_15 : z_Cal 15 1 0 7 := ⟨(zTB_in (List.mem_of_getElem? (i := 1089) (by decide +kernel)) (by decide +kernel)), (zTB_in (List.mem_of_getElem? (i := 116) (by decide +kernel)) (by decide +kernel)), ⟨by decide, by decide, by decide +kernel⟩, by decide, rfl, rfl⟩
theorem ki_15 : Cond.instanceMethod (z_mt 15).1 ∈ zTB := (zTB_in (List.mem_of_getElem? (i := 1088) (by decide +kernel)) (by decide +kernel))
theorem kx_15 : Cond.selects RX2 (z_mt 15).1 (z_mt 15).1 ∈ zTB := (zTB_in (List.mem_of_getElem? (i := 30) (by decide +kernel)) (by decide +kernel))
theorem kc_16 : z_Cal 16 1 0 7 := ⟨(zTB_in (List.mem_of_getElem? (i := 1105) (by decide +kernel)) (by decide +kernel)), (zTB_in (List.mem_of_getElem? (i := 116) (by decide +kernel)) (by decide +kernel)), ⟨by decide, by decide, by decide +kernel⟩, by decide, rfl, rfl⟩
theorem ki_16 : Cond.instanceMethod (z_mt 16).1 ∈ zTB := (zTB_in (List.mem_of_getElem? (i := 1104) (by decide +kernel)) (by decide +kernel))
theorem kx_16 : Cond.selects RX2 (z_mt 16).1 (z_mt 16).1 ∈ zTB := (zTB_in (List.mem_of_getElem? (i := 32) (by decide +kernel)) (by decide +kernel))
theorem kc_17 : z_Cal 17 2 0 3 := ⟨(zTB_in (List.mem_of_getElem? (i := 806) (by decide +kernel)) (by decide +kernel)), (zTB_in (List.mem_of_getElem? (i := 113) (by decide +kernel)) (by decide +kernel)), ⟨by decide, by decide, by decide +kernel⟩, by decide, rfl, rfl⟩
theorem ki_17 : Cond.instanceMethod (z_mt 17).1 ∈ zTB := (zTB_in (List.mem_of_getElem? (i := 804) (by decide +kernel)) (by decide +kernel))
theorem kx_17 : Cond.selects RX3 (z_mt 17).1 (z_mt 17).1 ∈ zTB := (zTB_in (List.mem_of_getElem? (i := 805) (by decide +kernel)) (by decide +kernel))
theorem kc_18 : z_Cal 18 1 0 2 := ⟨(zTB_in (List.mem_of_getElem? (i := 950) (by decide +kernel)) (by decide +kernel)), (zTB_in (List.mem_of_getElem? (i := 113) (by decide +kernel)) (by decide +kernel)), ⟨by decide, by decide, by decide +kernel⟩, by decide, rfl, rfl⟩
theorem ki_18 : Cond.instanceMethod (z_mt 18).1 ∈ zTB := (zTB_in (List.mem_of_getElem? (i := 948) (by decide +kernel)) (by decide +kernel))
theorem kx_18 : Cond.selects RX3 (z_mt 18).1 (z_mt 18).1 ∈ zTB := (zTB_in (List.mem_of_getElem? (i := 949) (by decide +kernel)) (by decide +kernel))
theorem kc_19 : z_Cal 19 4 1 6 := ⟨(zTB_in (List.mem_of_getElem? (i := 826) (by decide +kernel)) (by decide +kernel)), (zTB_in (List.mem_of_getElem? (i := 113) (by decide +kernel)) (by decide +kernel)), ⟨by decide, by decide, by decide +kernel⟩, by decide, rfl, rfl⟩
theorem ki_19 : Cond.instanceMethod (z_mt 19).1 ∈ zTB := (zTB_in (List.mem_of_getElem? (i := 824) (by decide +kernel)) (by decide +kernel))
theorem kx_19 : Cond.selects RX3 (z_mt 19).1 (z_mt 19).1 ∈ zTB := (zTB_in (List.mem_of_getElem? (i := 825) (by decide +kernel)) (by decide +kernel))
theorem kc_20 : z_Cal 20 2 1 3 := ⟨(zTB_in (List.mem_of_getElem? (i := 885) (by decide +kernel)) (by decide +kernel)), (zTB_in (List.mem_of_getElem? (i := 113) (by decide +kernel)) (by decide +kernel)), ⟨by decide, by decide, by decide +kernel⟩, by decide, rfl, rfl⟩
theorem ks_20 : Cond.static (z_mt 20).1 ∈ zTB := (zTB_in (List.mem_of_getElem? (i := 884) (by decide +kernel)) (by decide +kernel))
theorem kc_21 : z_Cal 21 2 0 8 := ⟨(zTB_in (List.mem_of_getElem? (i := 889) (by decide +kernel)) (by decide +kernel)), (zTB_in (List.mem_of_getElem? (i := 113) (by decide +kernel)) (by decide +kernel)), ⟨by decide, by decide, by decide +kernel⟩, by decide, rfl, rfl⟩
theorem ki_21 : Cond.instanceMethod (z_mt 21).1 ∈ zTB := (zTB_in (List.mem_of_getElem? (i := 888) (by decide +kernel)) (by decide +kernel))
theorem kx_21 : Cond.selects RX3 (z_mt 21).1 (z_mt 21).1 ∈ zTB := (zTB_in (List.mem_of_getElem? (i := 20) (by decide +kernel)) (by decide +kernel))
theorem kc_22 : z_Cal 22 1 0 15 := ⟨(zTB_in (List.mem_of_getElem? (i := 866) (by decide +kernel)) (by decide +kernel)), (zTB_in (List.mem_of_getElem? (i := 113) (by decide +kernel)) (by decide +kernel)), ⟨by decide, by decide, by decide +kernel⟩, by decide, rfl, rfl⟩
theorem ki_22 : Cond.instanceMethod (z_mt 22).1 ∈ zTB := (zTB_in (List.mem_of_getElem? (i := 865) (by decide +kernel)) (by decide +kernel))
theorem kx_22 : Cond.selects RX3 (z_mt 22).1 (z_mt 22).1 ∈ zTB := (zTB_in (List.mem_of_getElem? (i := 19) (by decide +kernel)) (by decide +kernel))
theorem kc_23 : z_Cal 23 4 1 5 := ⟨(zTB_in (List.mem_of_getElem? (i := 879) (by decide +kernel)) (by decide +kernel)), (zTB_in (List.mem_of_getElem? (i := 113) (by decide +kernel)) (by decide +kernel)), ⟨by decide, by decide, by decide +kernel⟩, by decide, rfl, rfl⟩
theorem ks_23 : Cond.static (z_mt 23).1 ∈ zTB := (zTB_in (List.mem_of_getElem? (i := 878) (by decide +kernel)) (by decide +kernel))
theorem kc_24 : z_Cal 24 1 1 9 := ⟨(zTB_in (List.mem_of_getElem? (i := 842) (by decide +kernel)) (by decide +kernel)), (zTB_in (List.mem_of_getElem? (i := 113) (by decide +kernel)) (by decide +kernel)), ⟨by decide, by decide, by decide +kernel⟩, by decide, rfl, rfl⟩
theorem ki_24 : Cond.instanceMethod (z_mt 24).1 ∈ zTB := (zTB_in (List.mem_of_getElem? (i := 841) (by decide +kernel)) (by decide +kernel))
theorem kx_24 : Cond.selects RX3 (z_mt 24).1 (z_mt 24).1 ∈ zTB := (zTB_in (List.mem_of_getElem? (i := 17) (by decide +kernel)) (by decide +kernel))
theorem kc_25 : z_Cal 25 2 2 4 := ⟨(zTB_in (List.mem_of_getElem? (i := 898) (by decide +kernel)) (by decide +kernel)), (zTB_in (List.mem_of_getElem? (i := 113) (by decide +kernel)) (by decide +kernel)), ⟨by decide, by decide, by decide +kernel⟩, by decide, rfl, rfl⟩
theorem ki_25 : Cond.instanceMethod (z_mt 25).1 ∈ zTB := (zTB_in (List.mem_of_getElem? (i := 896) (by decide +kernel)) (by decide +kernel))
theorem kx_25 : Cond.selects RX3 (z_mt 25).1 (z_mt 25).1 ∈ zTB := (zTB_in (List.mem_of_getElem? (i := 897) (by decide +kernel)) (by decide +kernel))
theorem kc_26 : z_Cal 26 3 2 8 := ⟨(zTB_in (List.mem_of_getElem? (i := 937) (by decide +kernel)) (by decide +kernel)), (zTB_in (List.mem_of_getElem? (i := 113) (by decide +kernel)) (by decide +kernel)), ⟨by decide, by decide, by decide +kernel⟩, by decide, rfl, rfl⟩
theorem ki_26 : Cond.instanceMethod (z_mt 26).1 ∈ zTB := (zTB_in (List.mem_of_getElem? (i := 935) (by decide +kernel)) (by decide +kernel))
theorem kx_26 : Cond.selects RX3 (z_mt 26).1 (z_mt 26).1 ∈ zTB := (zTB_in (List.mem_of_getElem? (i := 936) (by decide +kernel)) (by decide +kernel))
theorem kc_27 : z_Cal 27 1 2 5 := ⟨(zTB_in (List.mem_of_getElem? (i := 894) (by decide +kernel)) (by decide +kernel)), (zTB_in (List.mem_of_getElem? (i := 113) (by decide +kernel)) (by decide +kernel)), ⟨by decide, by decide, by decide +kernel⟩, by decide, rfl, rfl⟩
theorem ki_27 : Cond.instanceMethod (z_mt 27).1 ∈ zTB := (zTB_in (List.mem_of_getElem? (i := 892) (by decide +kernel)) (by decide +kernel))
theorem kx_27 : Cond.selects RX3 (z_mt 27).1 (z_mt 27).1 ∈ zTB := (zTB_in (List.mem_of_getElem? (i := 893) (by decide +kernel)) (by decide +kernel))
theorem kc_28 : z_Cal 28 1 1 8 := ⟨(zTB_in (List.mem_of_getElem? (i := 929) (by decide +kernel)) (by decide +kernel)), (zTB_in (List.mem_of_getElem? (i := 113) (by decide +kernel)) (by decide +kernel)), ⟨by decide, by decide, by decide +kernel⟩, by decide, rfl, rfl⟩
theorem ki_28 : Cond.instanceMethod (z_mt 28).1 ∈ zTB := (zTB_in (List.mem_of_getElem? (i := 927) (by decide +kernel)) (by decide +kernel))
theorem kx_28 : Cond.selects RX3 (z_mt 28).1 (z_mt 28).1 ∈ zTB := (zTB_in (List.mem_of_getElem? (i := 928) (by decide +kernel)) (by decide +kernel))
theorem kc_29 : z_Cal 29 1 1 2 := ⟨(zTB_in (List.mem_of_getElem? (i := 1076) (by decide +kernel)) (by decide +kernel)), (zTB_in (List.mem_of_getElem? (i := 113) (by decide +kernel)) (by decide +kernel)), ⟨by decide, by decide, by decide +kernel⟩, by decide, rfl, rfl⟩
theorem ki_29 : Cond.instanceMethod (z_mt 29).1 ∈ zTB := (zTB_in (List.mem_of_getElem? (i := 1074) (by decide +kernel)) (by decide +kernel))
theorem kx_29 : Cond.selects RX3 (z_mt 29).1 (z_mt 29).1 ∈ zTB := (zTB_in (List.mem_of_getElem? (i := 1075) (by decide +kernel)) (by decide +kernel))
theorem kc_30 : z_Cal 30 1 2 6 := ⟨(zTB_in (List.mem_of_getElem? (i := 933) (by decide +kernel)) (by decide +kernel)), (zTB_in (List.mem_of_getElem? (i := 113) (by decide +kernel)) (by decide +kernel)), ⟨by decide, by decide, by decide +kernel⟩, by decide, rfl, rfl⟩
theorem ki_30 : Cond.instanceMethod (z_mt 30).1 ∈ zTB := (zTB_in (List.mem_of_getElem? (i := 931) (by decide +kernel)) (by decide +kernel))
theorem kx_30 : Cond.selects RX3 (z_mt 30).1 (z_mt 30).1 ∈ zTB := (zTB_in (List.mem_of_getElem? (i := 932) (by decide +kernel)) (by decide +kernel))
theorem kc_31 : z_Cal 31 1 2 4 := ⟨(zTB_in (List.mem_of_getElem? (i := 954) (by decide +kernel)) (by decide +kernel)), (zTB_in (List.mem_of_getElem? (i := 113) (by decide +kernel)) (by decide +kernel)), ⟨by decide, by decide, by decide +kernel⟩, by decide, rfl, rfl⟩
theorem ki_31 : Cond.instanceMethod (z_mt 31).1 ∈ zTB := (zTB_in (List.mem_of_getElem? (i := 952) (by decide +kernel)) (by decide +kernel))
theorem kx_31 : Cond.selects RX3 (z_mt 31).1 (z_mt 31).1 ∈ zTB := (zTB_in (List.mem_of_getElem? (i := 953) (by decide +kernel)) (by decide +kernel))
theorem kc_32 : z_Cal 32 1 0 3 := ⟨(zTB_in (List.mem_of_getElem? (i := 568) (by decide +kernel)) (by decide +kernel)), (zTB_in (List.mem_of_getElem? (i := 110) (by decide +kernel)) (by decide +kernel)), ⟨by decide, by decide, by decide +kernel⟩, by decide, rfl, rfl⟩
theorem ki_32 : Cond.instanceMethod (z_mt 32).1 ∈ zTB := (zTB_in (List.mem_of_getElem? (i := 566) (by decide +kernel)) (by decide +kernel))
theorem kx_32 : Cond.selects RX4 (z_mt 32).1 (z_mt 32).1 ∈ zTB := (zTB_in (List.mem_of_getElem? (i := 567) (by decide +kernel)) (by decide +kernel))
theorem kc_33 : z_Cal 33 0 0 1 := ⟨(zTB_in (List.mem_of_getElem? (i := 584) (by decide +kernel)) (by decide +kernel)), (zTB_in (List.mem_of_getElem? (i := 110) (by decide +kernel)) (by decide +kernel)), ⟨by decide, by decide, by decide +kernel⟩, by decide, rfl, rfl⟩
theorem ki_33 : Cond.instanceMethod (z_mt 33).1 ∈ zTB := (zTB_in (List.mem_of_getElem? (i := 583) (by decide +kernel)) (by decide +kernel))
theorem kx_33 : Cond.selects RX4 (z_mt 33).1 (z_mt 33).1 ∈ zTB := (zTB_in (List.mem_of_getElem? (i := 0) (by decide +kernel)) (by decide +kernel))
theorem kc_34 : z_Cal 34 0 0 2 := ⟨(zTB_in (List.mem_of_getElem? (i := 588) (by decide +kernel)) (by decide +kernel)), (zTB_in (List.mem_of_getElem? (i := 110) (by decide +kernel)) (by decide +kernel)), ⟨by decide, by decide, by decide +kernel⟩, by decide, rfl, rfl⟩
theorem ki_34 : Cond.instanceMethod (z_mt 34).1 ∈ zTB := (zTB_in (List.mem_of_getElem? (i := 587) (by decide +kernel)) (by decide +kernel))
theorem kx_34 : Cond.selects RX4 (z_mt 34).1 (z_mt 34).1 ∈ zTB := (zTB_in (List.mem_of_getElem? (i := 1) (by decide +kernel)) (by decide +kernel))
theorem kc_35 : z_Cal 35 1 0 2 := ⟨(zTB_in (List.mem_of_getElem? (i := 654) (by decide +kernel)) (by decide +kernel)), (zTB_in (List.mem_of_getElem? (i := 110) (by decide +kernel)) (by decide +kernel)), ⟨by decide, by decide, by decide +kernel⟩, by decide, rfl, rfl⟩
theorem ki_35 : Cond.instanceMethod (z_mt 35).1 ∈ zTB := (zTB_in (List.mem_of_getElem? (i := 653) (by decide +kernel)) (by decide +kernel))
theorem kx_35 : Cond.selects RX4 (z_mt 35).1 (z_mt 35).1 ∈ zTB := (zTB_in (List.mem_of_getElem? (i := 4) (by decide +kernel)) (by decide +kernel))
theorem kc_36 : z_Cal 36 1 1 6 := ⟨(zTB_in (List.mem_of_getElem? (i := 602) (by decide +kernel)) (by decide +kernel)), (zTB_in (List.mem_of_getElem? (i := 110) (by decide +kernel)) (by decide +kernel)), ⟨by decide, by decide, by decide +kernel⟩, by decide, rfl, rfl⟩
theorem ki_36 : Cond.instanceMethod (z_mt 36).1 ∈ zTB := (zTB_in (List.mem_of_getElem? (i := 601) (by decide +kernel)) (by decide +kernel))
theorem kx_36 : Cond.selects RX4 (z_mt 36).1 (z_mt 36).1 ∈ zTB := (zTB_in (List.mem_of_getElem? (i := 3) (by decide +kernel)) (by decide +kernel))
theorem kc_37 : z_Cal 37 0 1 3 := ⟨(zTB_in (List.mem_of_getElem? (i := 662) (by decide +kernel)) (by decide +kernel)), (zTB_in (List.mem_of_getElem? (i := 110) (by decide +kernel)) (by decide +kernel)), ⟨by decide, by decide, by decide +kernel⟩, by decide, rfl, rfl⟩
theorem ki_37 : Cond.instanceMethod (z_mt 37).1 ∈ zTB := (zTB_in (List.mem_of_getElem? (i := 661) (by decide +kernel)) (by decide +kernel))
theorem kx_37 : Cond.selects RX4 (z_mt 37).1 (z_mt 37).1 ∈ zTB := (zTB_in (List.mem_of_getElem? (i := 6) (by decide +kernel)) (by decide +kernel))
theorem kc_38 : z_Cal 38 2 1 4 := ⟨(zTB_in (List.mem_of_getElem? (i := 658) (by decide +kernel)) (by decide +kernel)), (zTB_in (List.mem_of_getElem? (i := 110) (by decide +kernel)) (by decide +kernel)), ⟨by decide, by decide, by decide +kernel⟩, by decide, rfl, rfl⟩
theorem ki_38 : Cond.instanceMethod (z_mt 38).1 ∈ zTB := (zTB_in (List.mem_of_getElem? (i := 657) (by decide +kernel)) (by decide +kernel))
theorem kx_38 : Cond.selects RX4 (z_mt 38).1 (z_mt 38).1 ∈ zTB := (zTB_in (List.mem_of_getElem? (i := 5) (by decide +kernel)) (by decide +kernel))
theorem kc_39 : z_Cal 39 3 1 5 := ⟨(zTB_in (List.mem_of_getElem? (i := 598) (by decide +kernel)) (by decide +kernel)), (zTB_in (List.mem_of_getElem? (i := 110) (by decide +kernel)) (by decide +kernel)), ⟨by decide, by decide, by decide +kernel⟩, by decide, rfl, rfl⟩
theorem ki_39 : Cond.instanceMethod (z_mt 39).1 ∈ zTB := (zTB_in (List.mem_of_getElem? (i := 597) (by decide +kernel)) (by decide +kernel))
theorem kx_39 : Cond.selects RX4 (z_mt 39).1 (z_mt 39).1 ∈ zTB := (zTB_in (List.mem_of_getElem? (i := 2) (by decide +kernel)) (by decide +kernel))
theorem kc_40 : z_Cal 40 0 1 1 := ⟨(zTB_in (List.mem_of_getElem? (i := 686) (by decide +kernel)) (by decide +kernel)), (zTB_in (List.mem_of_getElem? (i := 110) (by decide +kernel)) (by decide +kernel)), ⟨by decide, by decide, by decide +kernel⟩, by decide, rfl, rfl⟩
theorem ki_40 : Cond.instanceMethod (z_mt 40).1 ∈ zTB := (zTB_in (List.mem_of_getElem? (i := 685) (by decide +kernel)) (by decide +kernel))
theorem kx_40 : Cond.selects RX4 (z_mt 40).1 (z_mt 40).1 ∈ zTB := (zTB_in (List.mem_of_getElem? (i := 8) (by decide +kernel)) (by decide +kernel))
theorem kc_41 : z_Cal 41 1 0 9 := ⟨(zTB_in (List.mem_of_getElem? (i := 580) (by decide +kernel)) (by decide +kernel)), (zTB_in (List.mem_of_getElem? (i := 110) (by decide +kernel)) (by decide +kernel)), ⟨by decide, by decide, by decide +kernel⟩, by decide, rfl, rfl⟩
theorem ki_41 : Cond.instanceMethod (z_mt 41).1 ∈ zTB := (zTB_in (List.mem_of_getElem? (i := 578) (by decide +kernel)) (by decide +kernel))
theorem kx_41 : Cond.selects RX4 (z_mt 41).1 (z_mt 41).1 ∈ zTB := (zTB_in (List.mem_of_getElem? (i := 579) (by decide +kernel)) (by decide +kernel))
theorem kc_42 : z_Cal 42 2 0 10 := ⟨(zTB_in (List.mem_of_getElem? (i := 676) (by decide +kernel)) (by decide +kernel)), (zTB_in (List.mem_of_getElem? (i := 110) (by decide +kernel)) (by decide +kernel)), ⟨by decide, by decide, by decide +kernel⟩, by decide, rfl, rfl⟩
theorem ki_42 : Cond.instanceMethod (z_mt 42).1 ∈ zTB := (zTB_in (List.mem_of_getElem? (i := 675) (by decide +kernel)) (by decide +kernel))
theorem kx_42 : Cond.selects RX4 (z_mt 42).1 (z_mt 42).1 ∈ zTB := (zTB_in (List.mem_of_getElem? (i := 7) (by decide +kernel)) (by decide +kernel))
theorem kc_43 : z_Cal 43 1 0 6 := ⟨(zTB_in (List.mem_of_getElem? (i := 709) (by decide +kernel)) (by decide +kernel)), (zTB_in (List.mem_of_getElem? (i := 110) (by decide +kernel)) (by decide +kernel)), ⟨by decide, by decide, by decide +kernel⟩, by decide, rfl, rfl⟩
theorem ki_43 : Cond.instanceMethod (z_mt 43).1 ∈ zTB := (zTB_in (List.mem_of_getElem? (i := 707) (by decide +kernel)) (by decide +kernel))
theorem kx_43 : Cond.selects RX4 (z_mt 43).1 (z_mt 43).1 ∈ zTB := (zTB_in (List.mem_of_getElem? (i := 708) (by decide +kernel)) (by decide +kernel))
theorem kc_44 : z_Cal 44 1 0 5 := ⟨(zTB_in (List.mem_of_getElem? (i := 773) (by decide +kernel)) (by decide +kernel)), (zTB_in (List.mem_of_getElem? (i := 110) (by decide +kernel)) (by decide +kernel)), ⟨by decide, by decide, by decide +kernel⟩, by decide, rfl, rfl⟩
theorem ki_44 : Cond.instanceMethod (z_mt 44).1 ∈ zTB := (zTB_in (List.mem_of_getElem? (i := 771) (by decide +kernel)) (by decide +kernel))
theorem kx_44 : Cond.selects RX4 (z_mt 44).1 (z_mt 44).1 ∈ zTB := (zTB_in (List.mem_of_getElem? (i := 772) (by decide +kernel)) (by decide +kernel))
theorem kc_45 : z_Cal 45 0 1 1 := ⟨(zTB_in (List.mem_of_getElem? (i := 742) (by decide +kernel)) (by decide +kernel)), (zTB_in (List.mem_of_getElem? (i := 110) (by decide +kernel)) (by decide +kernel)), ⟨by decide, by decide, by decide +kernel⟩, by decide, rfl, rfl⟩
theorem ki_45 : Cond.instanceMethod (z_mt 45).1 ∈ zTB := (zTB_in (List.mem_of_getElem? (i := 741) (by decide +kernel)) (by decide +kernel))
theorem kx_45 : Cond.selects RX4 (z_mt 45).1 (z_mt 45).1 ∈ zTB := (zTB_in (List.mem_of_getElem? (i := 12) (by decide +kernel)) (by decide +kernel))
theorem kc_46 : z_Cal 46 1 0 5 := ⟨(zTB_in (List.mem_of_getElem? (i := 751) (by decide +kernel)) (by decide +kernel)), (zTB_in (List.mem_of_getElem? (i := 110) (by decide +kernel)) (by decide +kernel)), ⟨by decide, by decide, by decide +kernel⟩, by decide, rfl, rfl⟩
theorem ki_46 : Cond.instanceMethod (z_mt 46).1 ∈ zTB := (zTB_in (List.mem_of_getElem? (i := 750) (by decide +kernel)) (by decide +kernel))
theorem kx_46 : Cond.selects RX4 (z_mt 46).1 (z_mt 46).1 ∈ zTB := (zTB_in (List.mem_of_getElem? (i := 13) (by decide +kernel)) (by decide +kernel))
theorem kc_47 : z_Cal 47 1 0 4 := ⟨(zTB_in (List.mem_of_getElem? (i := 755) (by decide +kernel)) (by decide +kernel)), (zTB_in (List.mem_of_getElem? (i := 110) (by decide +kernel)) (by decide +kernel)), ⟨by decide, by decide, by decide +kernel⟩, by decide, rfl, rfl⟩
theorem ki_47 : Cond.instanceMethod (z_mt 47).1 ∈ zTB := (zTB_in (List.mem_of_getElem? (i := 754) (by decide +kernel)) (by decide +kernel))
theorem kx_47 : Cond.selects RX4 (z_mt 47).1 (z_mt 47).1 ∈ zTB := (zTB_in (List.mem_of_getElem? (i := 14) (by decide +kernel)) (by decide +kernel))
theorem kc_48 : z_Cal 48 1 0 2 := ⟨(zTB_in (List.mem_of_getElem? (i := 764) (by decide +kernel)) (by decide +kernel)), (zTB_in (List.mem_of_getElem? (i := 110) (by decide +kernel)) (by decide +kernel)), ⟨by decide, by decide, by decide +kernel⟩, by decide, rfl, rfl⟩
theorem ki_48 : Cond.instanceMethod (z_mt 48).1 ∈ zTB := (zTB_in (List.mem_of_getElem? (i := 763) (by decide +kernel)) (by decide +kernel))
theorem kx_48 : Cond.selects RX4 (z_mt 48).1 (z_mt 48).1 ∈ zTB := (zTB_in (List.mem_of_getElem? (i := 16) (by decide +kernel)) (by decide +kernel))
theorem kc_49 : z_Cal 49 1 1 2 := ⟨(zTB_in (List.mem_of_getElem? (i := 760) (by decide +kernel)) (by decide +kernel)), (zTB_in (List.mem_of_getElem? (i := 110) (by decide +kernel)) (by decide +kernel)), ⟨by decide, by decide, by decide +kernel⟩, by decide, rfl, rfl⟩
theorem ki_49 : Cond.instanceMethod (z_mt 49).1 ∈ zTB := (zTB_in (List.mem_of_getElem? (i := 759) (by decide +kernel)) (by decide +kernel))
theorem kx_49 : Cond.selects RX4 (z_mt 49).1 (z_mt 49).1 ∈ zTB := (zTB_in (List.mem_of_getElem? (i := 15) (by decide +kernel)) (by decide +kernel))
theorem kc_50 : z_Cal 50 0 0 1 := ⟨(zTB_in (List.mem_of_getElem? (i := 738) (by decide +kernel)) (by decide +kernel)), (zTB_in (List.mem_of_getElem? (i := 110) (by decide +kernel)) (by decide +kernel)), ⟨by decide, by decide, by decide +kernel⟩, by decide, rfl, rfl⟩
theorem ki_50 : Cond.instanceMethod (z_mt 50).1 ∈ zTB := (zTB_in (List.mem_of_getElem? (i := 737) (by decide +kernel)) (by decide +kernel))
theorem kx_50 : Cond.selects RX4 (z_mt 50).1 (z_mt 50).1 ∈ zTB := (zTB_in (List.mem_of_getElem? (i := 11) (by decide +kernel)) (by decide +kernel))
theorem kc_51 : z_Cal 51 0 0 5 := ⟨(zTB_in (List.mem_of_getElem? (i := 726) (by decide +kernel)) (by decide +kernel)), (zTB_in (List.mem_of_getElem? (i := 110) (by decide +kernel)) (by decide +kernel)), ⟨by decide, by decide, by decide +kernel⟩, by decide, rfl, rfl⟩
theorem ki_51 : Cond.instanceMethod (z_mt 51).1 ∈ zTB := (zTB_in (List.mem_of_getElem? (i := 725) (by decide +kernel)) (by decide +kernel))
theorem kx_51 : Cond.selects RX4 (z_mt 51).1 (z_mt 51).1 ∈ zTB := (zTB_in (List.mem_of_getElem? (i := 9) (by decide +kernel)) (by decide +kernel))
theorem kc_52 : z_Cal 52 0 0 2 := ⟨(zTB_in (List.mem_of_getElem? (i := 730) (by decide +kernel)) (by decide +kernel)), (zTB_in (List.mem_of_getElem? (i := 110) (by decide +kernel)) (by decide +kernel)), ⟨by decide, by decide, by decide +kernel⟩, by decide, rfl, rfl⟩
theorem ki_52 : Cond.instanceMethod (z_mt 52).1 ∈ zTB := (zTB_in (List.mem_of_getElem? (i := 729) (by decide +kernel)) (by decide +kernel))
theorem kx_52 : Cond.selects RX4 (z_mt 52).1 (z_mt 52).1 ∈ zTB := (zTB_in (List.mem_of_getElem? (i := 10) (by decide +kernel)) (by decide +kernel))
theorem kc_53 : z_Cal 53 2 0 3 := ⟨(zTB_in (List.mem_of_getElem? (i := 946) (by decide +kernel)) (by decide +kernel)), (zTB_in (List.mem_of_getElem? (i := 115) (by decide +kernel)) (by decide +kernel)), ⟨by decide, by decide, by decide +kernel⟩, by decide, rfl, rfl⟩
theorem ki_53 : Cond.instanceMethod (z_mt 53).1 ∈ zTB := (zTB_in (List.mem_of_getElem? (i := 944) (by decide +kernel)) (by decide +kernel))
theorem kx_53 : Cond.selects RX5 (z_mt 53).1 (z_mt 53).1 ∈ zTB := (zTB_in (List.mem_of_getElem? (i := 945) (by decide +kernel)) (by decide +kernel))
theorem kc_54 : z_Cal 54 3 0 5 := ⟨(zTB_in (List.mem_of_getElem? (i := 961) (by decide +kernel)) (by decide +kernel)), (zTB_in (List.mem_of_getElem? (i := 115) (by decide +kernel)) (by decide +kernel)), ⟨by decide, by decide, by decide +kernel⟩, by decide, rfl, rfl⟩
theorem ki_54 : Cond.instanceMethod (z_mt 54).1 ∈ zTB := (zTB_in (List.mem_of_getElem? (i := 959) (by decide +kernel)) (by decide +kernel))
theorem kx_54 : Cond.selects RX5 (z_mt 54).1 (z_mt 54).1 ∈ zTB := (zTB_in (List.mem_of_getElem? (i := 960) (by decide +kernel)) (by decide +kernel))
theorem kc_55 : z_Cal 55 3 1 13 := ⟨(zTB_in (List.mem_of_getElem? (i := 971) (by decide +kernel)) (by decide +kernel)), (zTB_in (List.mem_of_getElem? (i := 115) (by decide +kernel)) (by decide +kernel)), ⟨by decide, by decide, by decide +kernel⟩, by decide, rfl, rfl⟩
theorem ki_55 : Cond.instanceMethod (z_mt 55).1 ∈ zTB := (zTB_in (List.mem_of_getElem? (i := 969) (by decide +kernel)) (by decide +kernel))
theorem kx_55 : Cond.selects RX5 (z_mt 55).1 (z_mt 55).1 ∈ zTB := (zTB_in (List.mem_of_getElem? (i := 970) (by decide +kernel)) (by decide +kernel))
theorem kc_56 : z_Cal 56 2 1 4 := ⟨(zTB_in (List.mem_of_getElem? (i := 976) (by decide +kernel)) (by decide +kernel)), (zTB_in (List.mem_of_getElem? (i := 115) (by decide +kernel)) (by decide +kernel)), ⟨by decide, by decide, by decide +kernel⟩, by decide, rfl, rfl⟩
theorem ks_56 : Cond.static (z_mt 56).1 ∈ zTB := (zTB_in (List.mem_of_getElem? (i := 975) (by decide +kernel)) (by decide +kernel))
theorem kc_57 : z_Cal 57 2 0 4 := ⟨(zTB_in (List.mem_of_getElem? (i := 814) (by decide +kernel)) (by decide +kernel)), (zTB_in (List.mem_of_getElem? (i := 119) (by decide +kernel)) (by decide +kernel)), ⟨by decide, by decide, by decide +kernel⟩, by decide, rfl, rfl⟩
theorem ki_57 : Cond.instanceMethod (z_mt 57).1 ∈ zTB := (zTB_in (List.mem_of_getElem? (i := 812) (by decide +kernel)) (by decide +kernel))
theorem kx_57 : Cond.selects RX6 (z_mt 57).1 (z_mt 57).1 ∈ zTB := (zTB_in (List.mem_of_getElem? (i := 813) (by decide +kernel)) (by decide +kernel))
theorem kc_58 : z_Cal 58 1 0 4 := ⟨(zTB_in (List.mem_of_getElem? (i := 847) (by decide +kernel)) (by decide +kernel)), (zTB_in (List.mem_of_getElem? (i := 119) (by decide +kernel)) (by decide +kernel)), ⟨by decide, by decide, by decide +kernel⟩, by decide, rfl, rfl⟩
theorem ki_58 : Cond.instanceMethod (z_mt 58).1 ∈ zTB := (zTB_in (List.mem_of_getElem? (i := 845) (by decide +kernel)) (by decide +kernel))
theorem kx_58 : Cond.selects RX6 (z_mt 58).1 (z_mt 58).1 ∈ zTB := (zTB_in (List.mem_of_getElem? (i := 846) (by decide +kernel)) (by decide +kernel))
theorem kc_59 : z_Cal 59 2 1 3 := ⟨(zTB_in (List.mem_of_getElem? (i := 870) (by decide +kernel)) (by decide +kernel)), (zTB_in (List.mem_of_getElem? (i := 119) (by decide +kernel)) (by decide +kernel)), ⟨by decide, by decide, by decide +kernel⟩, by decide, rfl, rfl⟩
theorem ki_59 : Cond.instanceMethod (z_mt 59).1 ∈ zTB := (zTB_in (List.mem_of_getElem? (i := 868) (by decide +kernel)) (by decide +kernel))
theorem kx_59 : Cond.selects RX6 (z_mt 59).1 (z_mt 59).1 ∈ zTB := (zTB_in (List.mem_of_getElem? (i := 869) (by decide +kernel)) (by decide +kernel))
theorem kc_60 : z_Cal 60 1 1 2 := ⟨(zTB_in (List.mem_of_getElem? (i := 874) (by decide +kernel)) (by decide +kernel)), (zTB_in (List.mem_of_getElem? (i := 119) (by decide +kernel)) (by decide +kernel)), ⟨by decide, by decide, by decide +kernel⟩, by decide, rfl, rfl⟩
theorem ki_60 : Cond.instanceMethod (z_mt 60).1 ∈ zTB := (zTB_in (List.mem_of_getElem? (i := 872) (by decide +kernel)) (by decide +kernel))
theorem kx_60 : Cond.selects RX6 (z_mt 60).1 (z_mt 60).1 ∈ zTB := (zTB_in (List.mem_of_getElem? (i := 873) (by decide +kernel)) (by decide +kernel))
theorem kc_61 : z_Cal 61 4 0 9 := ⟨(zTB_in (List.mem_of_getElem? (i := 830) (by decide +kernel)) (by decide +kernel)), (zTB_in (List.mem_of_getElem? (i := 119) (by decide +kernel)) (by decide +kernel)), ⟨by decide, by decide, by decide +kernel⟩, by decide, rfl, rfl⟩
theorem ki_61 : Cond.instanceMethod (z_mt 61).1 ∈ zTB := (zTB_in (List.mem_of_getElem? (i := 828) (by decide +kernel)) (by decide +kernel))
theorem kx_61 : Cond.selects RX6 (z_mt 61).1 (z_mt 61).1 ∈ zTB := (zTB_in (List.mem_of_getElem? (i := 829) (by decide +kernel)) (by decide +kernel))
theorem kc_62 : z_Cal 62 4 0 5 := ⟨(zTB_in (List.mem_of_getElem? (i := 802) (by decide +kernel)) (by decide +kernel)), (zTB_in (List.mem_of_getElem? (i := 112) (by decide +kernel)) (by decide +kernel)), ⟨by decide, by decide, by decide +kernel⟩, by decide, rfl, rfl⟩
theorem ki_62 : Cond.instanceMethod (z_mt 62).1 ∈ zTB := (zTB_in (List.mem_of_getElem? (i := 800) (by decide +kernel)) (by decide +kernel))
theorem kx_62 : Cond.selects RX7 (z_mt 62).1 (z_mt 62).1 ∈ zTB := (zTB_in (List.mem_of_getElem? (i := 801) (by decide +kernel)) (by decide +kernel))
theorem kc_63 : z_Cal 63 4 1 5 := ⟨(zTB_in (List.mem_of_getElem? (i := 822) (by decide +kernel)) (by decide +kernel)), (zTB_in (List.mem_of_getElem? (i := 112) (by decide +kernel)) (by decide +kernel)), ⟨by decide, by decide, by decide +kernel⟩, by decide, rfl, rfl⟩
theorem ki_63 : Cond.instanceMethod (z_mt 63).1 ∈ zTB := (zTB_in (List.mem_of_getElem? (i := 820) (by decide +kernel)) (by decide +kernel))
theorem kx_63 : Cond.selects RX7 (z_mt 63).1 (z_mt 63).1 ∈ zTB := (zTB_in (List.mem_of_getElem? (i := 821) (by decide +kernel)) (by decide +kernel))
theorem kc_64 : z_Cal 64 3 0 9 := ⟨(zTB_in (List.mem_of_getElem? (i := 1001) (by decide +kernel)) (by decide +kernel)), (zTB_in (List.mem_of_getElem? (i := 112) (by decide +kernel)) (by decide +kernel)), ⟨by decide, by decide, by decide +kernel⟩, by decide, rfl, rfl⟩
theorem ki_64 : Cond.instanceMethod (z_mt 64).1 ∈ zTB := (zTB_in (List.mem_of_getElem? (i := 999) (by decide +kernel)) (by decide +kernel))
theorem kx_64 : Cond.selects RX7 (z_mt 64).1 (z_mt 64).1 ∈ zTB := (zTB_in (List.mem_of_getElem? (i := 1000) (by decide +kernel)) (by decide +kernel))
theorem kc_65 : z_Cal 65 1 0 2 := ⟨(zTB_in (List.mem_of_getElem? (i := 1130) (by decide +kernel)) (by decide +kernel)), (zTB_in (List.mem_of_getElem? (i := 112) (by decide +kernel)) (by decide +kernel)), ⟨by decide, by decide, by decide +kernel⟩, by decide, rfl, rfl⟩
theorem ki_65 : Cond.instanceMethod (z_mt 65).1 ∈ zTB := (zTB_in (List.mem_of_getElem? (i := 1128) (by decide +kernel)) (by decide +kernel))
theorem kx_65 : Cond.selects RX7 (z_mt 65).1 (z_mt 65).1 ∈ zTB := (zTB_in (List.mem_of_getElem? (i := 1129) (by decide +kernel)) (by decide +kernel))
theorem kc_66 : z_Cal 66 0 0 1 := ⟨(zTB_in (List.mem_of_getElem? (i := 592) (by decide +kernel)) (by decide +kernel)), (zTB_in (List.mem_of_getElem? (i := 117) (by decide +kernel)) (by decide +kernel)), ⟨by decide, by decide, by decide +kernel⟩, by decide, rfl, rfl⟩
theorem ki_66 : Cond.instanceMethod (z_mt 66).1 ∈ zTB := (zTB_in (List.mem_of_getElem? (i := 590) (by decide +kernel)) (by decide +kernel))
theorem kx_66 : Cond.selects RX8 (z_mt 66).1 (z_mt 66).1 ∈ zTB := (zTB_in (List.mem_of_getElem? (i := 591) (by decide +kernel)) (by decide +kernel))
theorem kc_67 : z_Cal 67 3 0 6 := ⟨(zTB_in (List.mem_of_getElem? (i := 666) (by decide +kernel)) (by decide +kernel)), (zTB_in (List.mem_of_getElem? (i := 117) (by decide +kernel)) (by decide +kernel)), ⟨by decide, by decide, by decide +kernel⟩, by decide, rfl, rfl⟩
theorem ki_67 : Cond.instanceMethod (z_mt 67).1 ∈ zTB := (zTB_in (List.mem_of_getElem? (i := 664) (by decide +kernel)) (by decide +kernel))
theorem kx_67 : Cond.selects RX8 (z_mt 67).1 (z_mt 67).1 ∈ zTB := (zTB_in (List.mem_of_getElem? (i := 665) (by decide +kernel)) (by decide +kernel))
theorem kc_68 : z_Cal 68 0 0 6 := ⟨(zTB_in (List.mem_of_getElem? (i := 690) (by decide +kernel)) (by decide +kernel)), (zTB_in (List.mem_of_getElem? (i := 117) (by decide +kernel)) (by decide +kernel)), ⟨by decide, by decide, by decide +kernel⟩, by decide, rfl, rfl⟩
theorem ki_68 : Cond.instanceMethod (z_mt 68).1 ∈ zTB := (zTB_in (List.mem_of_getElem? (i := 688) (by decide +kernel)) (by decide +kernel))
theorem kx_68 : Cond.selects RX8 (z_mt 68).1 (z_mt 68).1 ∈ zTB := (zTB_in (List.mem_of_getElem? (i := 689) (by decide +kernel)) (by decide +kernel))
theorem kc_69 : z_Cal 69 2 1 3 := ⟨(zTB_in (List.mem_of_getElem? (i := 701) (by decide +kernel)) (by decide +kernel)), (zTB_in (List.mem_of_getElem? (i := 117) (by decide +kernel)) (by decide +kernel)), ⟨by decide, by decide, by decide +kernel⟩, by decide, rfl, rfl⟩
theorem ki_69 : Cond.instanceMethod (z_mt 69).1 ∈ zTB := (zTB_in (List.mem_of_getElem? (i := 699) (by decide +kernel)) (by decide +kernel))
theorem kx_69 : Cond.selects RX8 (z_mt 69).1 (z_mt 69).1 ∈ zTB := (zTB_in (List.mem_of_getElem? (i := 700) (by decide +kernel)) (by decide +kernel))
theorem kc_70 : z_Cal 70 2 1 4 := ⟨(zTB_in (List.mem_of_getElem? (i := 697) (by decide +kernel)) (by decide +kernel)), (zTB_in (List.mem_of_getElem? (i := 117) (by decide +kernel)) (by decide +kernel)), ⟨by decide, by decide, by decide +kernel⟩, by decide, rfl, rfl⟩
theorem ki_70 : Cond.instanceMethod (z_mt 70).1 ∈ zTB := (zTB_in (List.mem_of_getElem? (i := 695) (by decide +kernel)) (by decide +kernel))
theorem kx_70 : Cond.selects RX8 (z_mt 70).1 (z_mt 70).1 ∈ zTB := (zTB_in (List.mem_of_getElem? (i := 696) (by decide +kernel)) (by decide +kernel))
theorem kc_71 : z_Cal 71 2 0 8 := ⟨(zTB_in (List.mem_of_getElem? (i := 705) (by decide +kernel)) (by decide +kernel)), (zTB_in (List.mem_of_getElem? (i := 117) (by decide +kernel)) (by decide +kernel)), ⟨by decide, by decide, by decide +kernel⟩, by decide, rfl, rfl⟩
theorem ki_71 : Cond.instanceMethod (z_mt 71).1 ∈ zTB := (zTB_in (List.mem_of_getElem? (i := 703) (by decide +kernel)) (by decide +kernel))
theorem kx_71 : Cond.selects RX8 (z_mt 71).1 (z_mt 71).1 ∈ zTB := (zTB_in (List.mem_of_getElem? (i := 704) (by decide +kernel)) (by decide +kernel))
theorem kc_72 : z_Cal 72 2 1 3 := ⟨(zTB_in (List.mem_of_getElem? (i := 789) (by decide +kernel)) (by decide +kernel)), (zTB_in (List.mem_of_getElem? (i := 117) (by decide +kernel)) (by decide +kernel)), ⟨by decide, by decide, by decide +kernel⟩, by decide, rfl, rfl⟩
theorem ki_72 : Cond.instanceMethod (z_mt 72).1 ∈ zTB := (zTB_in (List.mem_of_getElem? (i := 787) (by decide +kernel)) (by decide +kernel))
theorem kx_72 : Cond.selects RX8 (z_mt 72).1 (z_mt 72).1 ∈ zTB := (zTB_in (List.mem_of_getElem? (i := 788) (by decide +kernel)) (by decide +kernel))
theorem kc_73 : z_Cal 73 2 1 3 := ⟨(zTB_in (List.mem_of_getElem? (i := 785) (by decide +kernel)) (by decide +kernel)), (zTB_in (List.mem_of_getElem? (i := 117) (by decide +kernel)) (by decide +kernel)), ⟨by decide, by decide, by decide +kernel⟩, by decide, rfl, rfl⟩
theorem ki_73 : Cond.instanceMethod (z_mt 73).1 ∈ zTB := (zTB_in (List.mem_of_getElem? (i := 783) (by decide +kernel)) (by decide +kernel))
theorem kx_73 : Cond.selects RX8 (z_mt 73).1 (z_mt 73).1 ∈ zTB := (zTB_in (List.mem_of_getElem? (i := 784) (by decide +kernel)) (by decide +kernel))
theorem kc_90 : z_Cal 90 1 1 1 := ⟨(zTB_in (List.mem_of_getElem? (i := 983) (by decide +kernel)) (by decide +kernel)), (zTB_in (List.mem_of_getElem? (i := 109) (by decide +kernel)) (by decide +kernel)), ⟨by decide, by decide, by decide +kernel⟩, by decide, rfl, rfl⟩
theorem ks_90 : Cond.static (z_mt 90).1 ∈ zTB := (zTB_in (List.mem_of_getElem? (i := 982) (by decide +kernel)) (by decide +kernel))
theorem kc_94 : z_Cal 94 2 2 6 := ⟨(zTB_in (List.mem_of_getElem? (i := 1010) (by decide +kernel)) (by decide +kernel)), (zTB_in (List.mem_of_getElem? (i := 109) (by decide +kernel)) (by decide +kernel)), ⟨by decide, by decide, by decide +kernel⟩, by decide, rfl, rfl⟩
theorem ki_94 : Cond.instanceMethod (z_mt 94).1 ∈ zTB := (zTB_in (List.mem_of_getElem? (i := 1009) (by decide +kernel)) (by decide +kernel))
theorem kx_94 : Cond.selects RX9 (z_mt 94).1 (z_mt 94).1 ∈ zTB := (zTB_in (List.mem_of_getElem? (i := 21) (by decide +kernel)) (by decide +kernel))
theorem kc_97 : z_Cal 97 2 2 8 := ⟨(zTB_in (List.mem_of_getElem? (i := 1025) (by decide +kernel)) (by decide +kernel)), (zTB_in (List.mem_of_getElem? (i := 109) (by decide +kernel)) (by decide +kernel)), ⟨by decide, by decide, by decide +kernel⟩, by decide, rfl, rfl⟩
theorem ki_97 : Cond.instanceMethod (z_mt 97).1 ∈ zTB := (zTB_in (List.mem_of_getElem? (i := 1024) (by decide +kernel)) (by decide +kernel))
theorem kx_97 : Cond.selects RX9 (z_mt 97).1 (z_mt 97).1 ∈ zTB := (zTB_in (List.mem_of_getElem? (i := 22) (by decide +kernel)) (by decide +kernel))
theorem kc_100 : z_Cal 100 3 0 6 := ⟨(zTB_in (List.mem_of_getElem? (i := 1037) (by decide +kernel)) (by decide +kernel)), (zTB_in (List.mem_of_getElem? (i := 109) (by decide +kernel)) (by decide +kernel)), ⟨by decide, by decide, by decide +kernel⟩, by decide, rfl, rfl⟩
theorem ki_100 : Cond.instanceMethod (z_mt 100).1 ∈ zTB := (zTB_in (List.mem_of_getElem? (i := 1036) (by decide +kernel)) (by decide +kernel))
theorem kx_100 : Cond.selects RX9 (z_mt 100).1 (z_mt 100).1 ∈ zTB := (zTB_in (List.mem_of_getElem? (i := 23) (by decide +kernel)) (by decide +kernel))
theorem kc_101 : z_Cal 101 2 1 5 := ⟨(zTB_in (List.mem_of_getElem? (i := 1042) (by decide +kernel)) (by decide +kernel)), (zTB_in (List.mem_of_getElem? (i := 109) (by decide +kernel)) (by decide +kernel)), ⟨by decide, by decide, by decide +kernel⟩, by decide, rfl, rfl⟩
theorem ki_101 : Cond.instanceMethod (z_mt 101).1 ∈ zTB := (zTB_in (List.mem_of_getElem? (i := 1041) (by decide +kernel)) (by decide +kernel))
theorem kx_101 : Cond.selects RX9 (z_mt 101).1 (z_mt 101).1 ∈ zTB := (zTB_in (List.mem_of_getElem? (i := 24) (by decide +kernel)) (by decide +kernel))
theorem kc_103 : z_Cal 103 5 1 7 := ⟨(zTB_in (List.mem_of_getElem? (i := 1050) (by decide +kernel)) (by decide +kernel)), (zTB_in (List.mem_of_getElem? (i := 109) (by decide +kernel)) (by decide +kernel)), ⟨by decide, by decide, by decide +kernel⟩, by decide, rfl, rfl⟩
theorem ki_103 : Cond.instanceMethod (z_mt 103).1 ∈ zTB := (zTB_in (List.mem_of_getElem? (i := 1049) (by decide +kernel)) (by decide +kernel))
theorem kx_103 : Cond.selects RX9 (z_mt 103).1 (z_mt 103).1 ∈ zTB := (zTB_in (List.mem_of_getElem? (i := 25) (by decide +kernel)) (by decide +kernel))
theorem kc_109 : z_Cal 109 3 1 6 := ⟨(zTB_in (List.mem_of_getElem? (i := 1334) (by decide +kernel)) (by decide +kernel)), (zTB_in (List.mem_of_getElem? (i := 120) (by decide +kernel)) (by decide +kernel)), ⟨by decide, by decide, by decide +kernel⟩, by decide, rfl, rfl⟩
theorem ks_109 : Cond.static (z_mt 109).1 ∈ zTB := (zTB_in (List.mem_of_getElem? (i := 1333) (by decide +kernel)) (by decide +kernel))
theorem kc_110 : z_Cal 110 3 2 6 := ⟨(zTB_in (List.mem_of_getElem? (i := 1606) (by decide +kernel)) (by decide +kernel)), (zTB_in (List.mem_of_getElem? (i := 120) (by decide +kernel)) (by decide +kernel)), ⟨by decide, by decide, by decide +kernel⟩, by decide, rfl, rfl⟩
theorem ks_110 : Cond.static (z_mt 110).1 ∈ zTB := (zTB_in (List.mem_of_getElem? (i := 1605) (by decide +kernel)) (by decide +kernel))
theorem kc_111 : z_Cal 111 1 1 1 := ⟨(zTB_in (List.mem_of_getElem? (i := 1534) (by decide +kernel)) (by decide +kernel)), (zTB_in (List.mem_of_getElem? (i := 120) (by decide +kernel)) (by decide +kernel)), ⟨by decide, by decide, by decide +kernel⟩, by decide, rfl, rfl⟩
theorem ks_111 : Cond.static (z_mt 111).1 ∈ zTB := (zTB_in (List.mem_of_getElem? (i := 1533) (by decide +kernel)) (by decide +kernel))
theorem kc_112 : z_Cal 112 1 0 3 := ⟨(zTB_in (List.mem_of_getElem? (i := 1322) (by decide +kernel)) (by decide +kernel)), (zTB_in (List.mem_of_getElem? (i := 120) (by decide +kernel)) (by decide +kernel)), ⟨by decide, by decide, by decide +kernel⟩, by decide, rfl, rfl⟩
theorem ki_112 : Cond.instanceMethod (z_mt 112).1 ∈ zTB := (zTB_in (List.mem_of_getElem? (i := 1321) (by decide +kernel)) (by decide +kernel))
theorem kx_112 : Cond.selects RX10 (z_mt 112).1 (z_mt 112).1 ∈ zTB := (zTB_in (List.mem_of_getElem? (i := 33) (by decide +kernel)) (by decide +kernel))
theorem kc_115 : z_Cal 115 2 1 3 := ⟨(zTB_in (List.mem_of_getElem? (i := 1383) (by decide +kernel)) (by decide +kernel)), (zTB_in (List.mem_of_getElem? (i := 120) (by decide +kernel)) (by decide +kernel)), ⟨by decide, by decide, by decide +kernel⟩, by decide, rfl, rfl⟩
theorem ki_115 : Cond.instanceMethod (z_mt 115).1 ∈ zTB := (zTB_in (List.mem_of_getElem? (i := 1382) (by decide +kernel)) (by decide +kernel))
theorem kx_115 : Cond.selects RX10 (z_mt 115).1 (z_mt 115).1 ∈ zTB := (zTB_in (List.mem_of_getElem? (i := 39) (by decide +kernel)) (by decide +kernel))
theorem kc_116 : z_Cal 116 0 1 1 := ⟨(zTB_in (List.mem_of_getElem? (i := 1348) (by decide +kernel)) (by decide +kernel)), (zTB_in (List.mem_of_getElem? (i := 120) (by decide +kernel)) (by decide +kernel)), ⟨by decide, by decide, by decide +kernel⟩, by decide, rfl, rfl⟩
theorem ki_116 : Cond.instanceMethod (z_mt 116).1 ∈ zTB := (zTB_in (List.mem_of_getElem? (i := 1347) (by decide +kernel)) (by decide +kernel))
theorem kx_116 : Cond.selects RX10 (z_mt 116).1 (z_mt 116).1 ∈ zTB := (zTB_in (List.mem_of_getElem? (i := 35) (by decide +kernel)) (by decide +kernel))
theorem kc_117 : z_Cal 117 1 1 2 := ⟨(zTB_in (List.mem_of_getElem? (i := 1411) (by decide +kernel)) (by decide +kernel)), (zTB_in (List.mem_of_getElem? (i := 120) (by decide +kernel)) (by decide +kernel)), ⟨by decide, by decide, by decide +kernel⟩, by decide, rfl, rfl⟩
theorem ki_117 : Cond.instanceMethod (z_mt 117).1 ∈ zTB := (zTB_in (List.mem_of_getElem? (i := 1410) (by decide +kernel)) (by decide +kernel))
theorem kx_117 : Cond.selects RX10 (z_mt 117).1 (z_mt 117).1 ∈ zTB := (zTB_in (List.mem_of_getElem? (i := 46) (by decide +kernel)) (by decide +kernel))
theorem kc_118 : z_Cal 118 1 1 2 := ⟨(zTB_in (List.mem_of_getElem? (i := 1357) (by decide +kernel)) (by decide +kernel)), (zTB_in (List.mem_of_getElem? (i := 120) (by decide +kernel)) (by decide +kernel)), ⟨by decide, by decide, by decide +kernel⟩, by decide, rfl, rfl⟩
theorem ki_118 : Cond.instanceMethod (z_mt 118).1 ∈ zTB := (zTB_in (List.mem_of_getElem? (i := 1356) (by decide +kernel)) (by decide +kernel))
theorem kx_118 : Cond.selects RX10 (z_mt 118).1 (z_mt 118).1 ∈ zTB := (zTB_in (List.mem_of_getElem? (i := 37) (by decide +kernel)) (by decide +kernel))
theorem kc_119 : z_Cal 119 1 1 6 := ⟨(zTB_in (List.mem_of_getElem? (i := 1353) (by decide +kernel)) (by decide +kernel)), (zTB_in (List.mem_of_getElem? (i := 120) (by decide +kernel)) (by decide +kernel)), ⟨by decide, by decide, by decide +kernel⟩, by decide, rfl, rfl⟩
theorem ki_119 : Cond.instanceMethod (z_mt 119).1 ∈ zTB := (zTB_in (List.mem_of_getElem? (i := 1352) (by decide +kernel)) (by decide +kernel))
theorem kx_119 : Cond.selects RX10 (z_mt 119).1 (z_mt 119).1 ∈ zTB := (zTB_in (List.mem_of_getElem? (i := 36) (by decide +kernel)) (by decide +kernel))
theorem kc_120 : z_Cal 120 0 0 1 := ⟨(zTB_in (List.mem_of_getElem? (i := 1395) (by decide +kernel)) (by decide +kernel)), (zTB_in (List.mem_of_getElem? (i := 120) (by decide +kernel)) (by decide +kernel)), ⟨by decide, by decide, by decide +kernel⟩, by decide, rfl, rfl⟩
theorem ki_120 : Cond.instanceMethod (z_mt 120).1 ∈ zTB := (zTB_in (List.mem_of_getElem? (i := 1394) (by decide +kernel)) (by decide +kernel))
theorem kx_120 : Cond.selects RX10 (z_mt 120).1 (z_mt 120).1 ∈ zTB := (zTB_in (List.mem_of_getElem? (i := 42) (by decide +kernel)) (by decide +kernel))
theorem kc_121 : z_Cal 121 1 1 3 := ⟨(zTB_in (List.mem_of_getElem? (i := 1440) (by decide +kernel)) (by decide +kernel)), (zTB_in (List.mem_of_getElem? (i := 120) (by decide +kernel)) (by decide +kernel)), ⟨by decide, by decide, by decide +kernel⟩, by decide, rfl, rfl⟩
theorem ki_121 : Cond.instanceMethod (z_mt 121).1 ∈ zTB := (zTB_in (List.mem_of_getElem? (i := 1439) (by decide +kernel)) (by decide +kernel))
theorem kx_121 : Cond.selects RX10 (z_mt 121).1 (z_mt 121).1 ∈ zTB := (zTB_in (List.mem_of_getElem? (i := 51) (by decide +kernel)) (by decide +kernel))
theorem kc_122 : z_Cal 122 2 1 5 := ⟨(zTB_in (List.mem_of_getElem? (i := 1416) (by decide +kernel)) (by decide +kernel)), (zTB_in (List.mem_of_getElem? (i := 120) (by decide +kernel)) (by decide +kernel)), ⟨by decide, by decide, by decide +kernel⟩, by decide, rfl, rfl⟩
theorem ki_122 : Cond.instanceMethod (z_mt 122).1 ∈ zTB := (zTB_in (List.mem_of_getElem? (i := 1415) (by decide +kernel)) (by decide +kernel))
theorem kx_122 : Cond.selects RX10 (z_mt 122).1 (z_mt 122).1 ∈ zTB := (zTB_in (List.mem_of_getElem? (i := 47) (by decide +kernel)) (by decide +kernel))
theorem kc_123 : z_Cal 123 0 1 1 := ⟨(zTB_in (List.mem_of_getElem? (i := 1428) (by decide +kernel)) (by decide +kernel)), (zTB_in (List.mem_of_getElem? (i := 120) (by decide +kernel)) (by decide +kernel)), ⟨by decide, by decide, by decide +kernel⟩, by decide, rfl, rfl⟩
theorem ki_123 : Cond.instanceMethod (z_mt 123).1 ∈ zTB := (zTB_in (List.mem_of_getElem? (i := 1427) (by decide +kernel)) (by decide +kernel))
theorem kx_123 : Cond.selects RX10 (z_mt 123).1 (z_mt 123).1 ∈ zTB := (zTB_in (List.mem_of_getElem? (i := 50) (by decide +kernel)) (by decide +kernel))
theorem kc_124 : z_Cal 124 2 0 3 := ⟨(zTB_in (List.mem_of_getElem? (i := 1424) (by decide +kernel)) (by decide +kernel)), (zTB_in (List.mem_of_getElem? (i := 120) (by decide +kernel)) (by decide +kernel)), ⟨by decide, by decide, by decide +kernel⟩, by decide, rfl, rfl⟩
theorem ki_124 : Cond.instanceMethod (z_mt 124).1 ∈ zTB := (zTB_in (List.mem_of_getElem? (i := 1423) (by decide +kernel)) (by decide +kernel))
theorem kx_124 : Cond.selects RX10 (z_mt 124).1 (z_mt 124).1 ∈ zTB := (zTB_in (List.mem_of_getElem? (i := 49) (by decide +kernel)) (by decide +kernel))
theorem kc_125 : z_Cal 125 1 1 2 := ⟨(zTB_in (List.mem_of_getElem? (i := 1420) (by decide +kernel)) (by decide +kernel)), (zTB_in (List.mem_of_getElem? (i := 120) (by decide +kernel)) (by decide +kernel)), ⟨by decide, by decide, by decide +kernel⟩, by decide, rfl, rfl⟩
theorem ki_125 : Cond.instanceMethod (z_mt 125).1 ∈ zTB := (zTB_in (List.mem_of_getElem? (i := 1419) (by decide +kernel)) (by decide +kernel))
theorem kx_125 : Cond.selects RX10 (z_mt 125).1 (z_mt 125).1 ∈ zTB := (zTB_in (List.mem_of_getElem? (i := 48) (by decide +kernel)) (by decide +kernel))
theorem kc_126 : z_Cal 126 1 1 2 := ⟨(zTB_in (List.mem_of_getElem? (i := 1453) (by decide +kernel)) (by decide +kernel)), (zTB_in (List.mem_of_getElem? (i := 120) (by decide +kernel)) (by decide +kernel)), ⟨by decide, by decide, by decide +kernel⟩, by decide, rfl, rfl⟩
theorem ki_126 : Cond.instanceMethod (z_mt 126).1 ∈ zTB := (zTB_in (List.mem_of_getElem? (i := 1452) (by decide +kernel)) (by decide +kernel))
theorem kx_126 : Cond.selects RX10 (z_mt 126).1 (z_mt 126).1 ∈ zTB := (zTB_in (List.mem_of_getElem? (i := 54) (by decide +kernel)) (by decide +kernel))
theorem kc_127 : z_Cal 127 1 1 1 := ⟨(zTB_in (List.mem_of_getElem? (i := 1468) (by decide +kernel)) (by decide +kernel)), (zTB_in (List.mem_of_getElem? (i := 120) (by decide +kernel)) (by decide +kernel)), ⟨by decide, by decide, by decide +kernel⟩, by decide, rfl, rfl⟩
theorem ks_127 : Cond.static (z_mt 127).1 ∈ zTB := (zTB_in (List.mem_of_getElem? (i := 1467) (by decide +kernel)) (by decide +kernel))
theorem kc_128 : z_Cal 128 1 0 2 := ⟨(zTB_in (List.mem_of_getElem? (i := 1465) (by decide +kernel)) (by decide +kernel)), (zTB_in (List.mem_of_getElem? (i := 120) (by decide +kernel)) (by decide +kernel)), ⟨by decide, by decide, by decide +kernel⟩, by decide, rfl, rfl⟩
theorem ki_128 : Cond.instanceMethod (z_mt 128).1 ∈ zTB := (zTB_in (List.mem_of_getElem? (i := 1464) (by decide +kernel)) (by decide +kernel))
theorem kx_128 : Cond.selects RX10 (z_mt 128).1 (z_mt 128).1 ∈ zTB := (zTB_in (List.mem_of_getElem? (i := 57) (by decide +kernel)) (by decide +kernel))
theorem kc_129 : z_Cal 129 0 1 3 := ⟨(zTB_in (List.mem_of_getElem? (i := 1407) (by decide +kernel)) (by decide +kernel)), (zTB_in (List.mem_of_getElem? (i := 120) (by decide +kernel)) (by decide +kernel)), ⟨by decide, by decide, by decide +kernel⟩, by decide, rfl, rfl⟩
theorem ki_129 : Cond.instanceMethod (z_mt 129).1 ∈ zTB := (zTB_in (List.mem_of_getElem? (i := 1406) (by decide +kernel)) (by decide +kernel))
theorem kx_129 : Cond.selects RX10 (z_mt 129).1 (z_mt 129).1 ∈ zTB := (zTB_in (List.mem_of_getElem? (i := 45) (by decide +kernel)) (by decide +kernel))
theorem kc_130 : z_Cal 130 0 1 2 := ⟨(zTB_in (List.mem_of_getElem? (i := 1403) (by decide +kernel)) (by decide +kernel)), (zTB_in (List.mem_of_getElem? (i := 120) (by decide +kernel)) (by decide +kernel)), ⟨by decide, by decide, by decide +kernel⟩, by decide, rfl, rfl⟩
theorem ki_130 : Cond.instanceMethod (z_mt 130).1 ∈ zTB := (zTB_in (List.mem_of_getElem? (i := 1402) (by decide +kernel)) (by decide +kernel))
theorem kx_130 : Cond.selects RX10 (z_mt 130).1 (z_mt 130).1 ∈ zTB := (zTB_in (List.mem_of_getElem? (i := 44) (by decide +kernel)) (by decide +kernel))
theorem kc_131 : z_Cal 131 0 1 2 := ⟨(zTB_in (List.mem_of_getElem? (i := 1399) (by decide +kernel)) (by decide +kernel)), (zTB_in (List.mem_of_getElem? (i := 120) (by decide +kernel)) (by decide +kernel)), ⟨by decide, by decide, by decide +kernel⟩, by decide, rfl, rfl⟩
theorem ki_131 : Cond.instanceMethod (z_mt 131).1 ∈ zTB := (zTB_in (List.mem_of_getElem? (i := 1398) (by decide +kernel)) (by decide +kernel))
theorem kx_131 : Cond.selects RX10 (z_mt 131).1 (z_mt 131).1 ∈ zTB := (zTB_in (List.mem_of_getElem? (i := 43) (by decide +kernel)) (by decide +kernel))
theorem kc_132 : z_Cal 132 0 1 5 := ⟨(zTB_in (List.mem_of_getElem? (i := 1457) (by decide +kernel)) (by decide +kernel)), (zTB_in (List.mem_of_getElem? (i := 120) (by decide +kernel)) (by decide +kernel)), ⟨by decide, by decide, by decide +kernel⟩, by decide, rfl, rfl⟩
theorem ki_132 : Cond.instanceMethod (z_mt 132).1 ∈ zTB := (zTB_in (List.mem_of_getElem? (i := 1456) (by decide +kernel)) (by decide +kernel))
theorem kx_132 : Cond.selects RX10 (z_mt 132).1 (z_mt 132).1 ∈ zTB := (zTB_in (List.mem_of_getElem? (i := 55) (by decide +kernel)) (by decide +kernel))
theorem kc_133 : z_Cal 133 0 1 3 := ⟨(zTB_in (List.mem_of_getElem? (i := 1448) (by decide +kernel)) (by decide +kernel)), (zTB_in (List.mem_of_getElem? (i := 120) (by decide +kernel)) (by decide +kernel)), ⟨by decide, by decide, by decide +kernel⟩, by decide, rfl, rfl⟩
theorem ki_133 : Cond.instanceMethod (z_mt 133).1 ∈ zTB := (zTB_in (List.mem_of_getElem? (i := 1447) (by decide +kernel)) (by decide +kernel))
theorem kx_133 : Cond.selects RX10 (z_mt 133).1 (z_mt 133).1 ∈ zTB := (zTB_in (List.mem_of_getElem? (i := 53) (by decide +kernel)) (by decide +kernel))
theorem kc_134 : z_Cal 134 0 1 2 := ⟨(zTB_in (List.mem_of_getElem? (i := 1472) (by decide +kernel)) (by decide +kernel)), (zTB_in (List.mem_of_getElem? (i := 120) (by decide +kernel)) (by decide +kernel)), ⟨by decide, by decide, by decide +kernel⟩, by decide, rfl, rfl⟩
theorem ki_134 : Cond.instanceMethod (z_mt 134).1 ∈ zTB := (zTB_in (List.mem_of_getElem? (i := 1471) (by decide +kernel)) (by decide +kernel))
theorem kx_134 : Cond.selects RX10 (z_mt 134).1 (z_mt 134).1 ∈ zTB := (zTB_in (List.mem_of_getElem? (i := 58) (by decide +kernel)) (by decide +kernel))
theorem kc_135 : z_Cal 135 0 0 1 := ⟨(zTB_in (List.mem_of_getElem? (i := 1461) (by decide +kernel)) (by decide +kernel)), (zTB_in (List.mem_of_getElem? (i := 120) (by decide +kernel)) (by decide +kernel)), ⟨by decide, by decide, by decide +kernel⟩, by decide, rfl, rfl⟩
theorem ki_135 : Cond.instanceMethod (z_mt 135).1 ∈ zTB := (zTB_in (List.mem_of_getElem? (i := 1460) (by decide +kernel)) (by decide +kernel))
theorem kx_135 : Cond.selects RX10 (z_mt 135).1 (z_mt 135).1 ∈ zTB := (zTB_in (List.mem_of_getElem? (i := 56) (by decide +kernel)) (by decide +kernel))
theorem kc_136 : z_Cal 136 0 1 3 := ⟨(zTB_in (List.mem_of_getElem? (i := 1444) (by decide +kernel)) (by decide +kernel)), (zTB_in (List.mem_of_getElem? (i := 120) (by decide +kernel)) (by decide +kernel)), ⟨by decide, by decide, by decide +kernel⟩, by decide, rfl, rfl⟩
theorem ki_136 : Cond.instanceMethod (z_mt 136).1 ∈ zTB := (zTB_in (List.mem_of_getElem? (i := 1443) (by decide +kernel)) (by decide +kernel))
theorem kx_136 : Cond.selects RX10 (z_mt 136).1 (z_mt 136).1 ∈ zTB := (zTB_in (List.mem_of_getElem? (i := 52) (by decide +kernel)) (by decide +kernel))
theorem kc_137 : z_Cal 137 2 1 4 := ⟨(zTB_in (List.mem_of_getElem? (i := 1391) (by decide +kernel)) (by decide +kernel)), (zTB_in (List.mem_of_getElem? (i := 120) (by decide +kernel)) (by decide +kernel)), ⟨by decide, by decide, by decide +kernel⟩, by decide, rfl, rfl⟩
theorem ki_137 : Cond.instanceMethod (z_mt 137).1 ∈ zTB := (zTB_in (List.mem_of_getElem? (i := 1390) (by decide +kernel)) (by decide +kernel))
theorem kx_137 : Cond.selects RX10 (z_mt 137).1 (z_mt 137).1 ∈ zTB := (zTB_in (List.mem_of_getElem? (i := 41) (by decide +kernel)) (by decide +kernel))
theorem kc_138 : z_Cal 138 3 1 4 := ⟨(zTB_in (List.mem_of_getElem? (i := 1478) (by decide +kernel)) (by decide +kernel)), (zTB_in (List.mem_of_getElem? (i := 120) (by decide +kernel)) (by decide +kernel)), ⟨by decide, by decide, by decide +kernel⟩, by decide, rfl, rfl⟩
theorem ki_138 : Cond.instanceMethod (z_mt 138).1 ∈ zTB := (zTB_in (List.mem_of_getElem? (i := 1477) (by decide +kernel)) (by decide +kernel))
theorem kx_138 : Cond.selects RX10 (z_mt 138).1 (z_mt 138).1 ∈ zTB := (zTB_in (List.mem_of_getElem? (i := 59) (by decide +kernel)) (by decide +kernel))
theorem kc_139 : z_Cal 139 5 1 6 := ⟨(zTB_in (List.mem_of_getElem? (i := 1486) (by decide +kernel)) (by decide +kernel)), (zTB_in (List.mem_of_getElem? (i := 120) (by decide +kernel)) (by decide +kernel)), ⟨by decide, by decide, by decide +kernel⟩, by decide, rfl, rfl⟩
theorem ki_139 : Cond.instanceMethod (z_mt 139).1 ∈ zTB := (zTB_in (List.mem_of_getElem? (i := 1485) (by decide +kernel)) (by decide +kernel))
theorem kx_139 : Cond.selects RX10 (z_mt 139).1 (z_mt 139).1 ∈ zTB := (zTB_in (List.mem_of_getElem? (i := 61) (by decide +kernel)) (by decide +kernel))
theorem kc_140 : z_Cal 140 2 1 9 := ⟨(zTB_in (List.mem_of_getElem? (i := 1494) (by decide +kernel)) (by decide +kernel)), (zTB_in (List.mem_of_getElem? (i := 120) (by decide +kernel)) (by decide +kernel)), ⟨by decide, by decide, by decide +kernel⟩, by decide, rfl, rfl⟩
theorem ki_140 : Cond.instanceMethod (z_mt 140).1 ∈ zTB := (zTB_in (List.mem_of_getElem? (i := 1493) (by decide +kernel)) (by decide +kernel))
theorem kx_140 : Cond.selects RX10 (z_mt 140).1 (z_mt 140).1 ∈ zTB := (zTB_in (List.mem_of_getElem? (i := 63) (by decide +kernel)) (by decide +kernel))
theorem kc_141 : z_Cal 141 2 1 2 := ⟨(zTB_in (List.mem_of_getElem? (i := 1340) (by decide +kernel)) (by decide +kernel)), (zTB_in (List.mem_of_getElem? (i := 120) (by decide +kernel)) (by decide +kernel)), ⟨by decide, by decide, by decide +kernel⟩, by decide, rfl, rfl⟩
theorem ks_141 : Cond.static (z_mt 141).1 ∈ zTB := (zTB_in (List.mem_of_getElem? (i := 1339) (by decide +kernel)) (by decide +kernel))
theorem kc_142 : z_Cal 142 1 1 4 := ⟨(zTB_in (List.mem_of_getElem? (i := 1490) (by decide +kernel)) (by decide +kernel)), (zTB_in (List.mem_of_getElem? (i := 120) (by decide +kernel)) (by decide +kernel)), ⟨by decide, by decide, by decide +kernel⟩, by decide, rfl, rfl⟩
theorem ki_142 : Cond.instanceMethod (z_mt 142).1 ∈ zTB := (zTB_in (List.mem_of_getElem? (i := 1489) (by decide +kernel)) (by decide +kernel))
theorem kx_142 : Cond.selects RX10 (z_mt 142).1 (z_mt 142).1 ∈ zTB := (zTB_in (List.mem_of_getElem? (i := 62) (by decide +kernel)) (by decide +kernel))
theorem kc_143 : z_Cal 143 1 1 2 := ⟨(zTB_in (List.mem_of_getElem? (i := 1482) (by decide +kernel)) (by decide +kernel)), (zTB_in (List.mem_of_getElem? (i := 120) (by decide +kernel)) (by decide +kernel)), ⟨by decide, by decide, by decide +kernel⟩, by decide, rfl, rfl⟩
theorem ki_143 : Cond.instanceMethod (z_mt 143).1 ∈ zTB := (zTB_in (List.mem_of_getElem? (i := 1481) (by decide +kernel)) (by decide +kernel))
theorem kx_143 : Cond.selects RX10 (z_mt 143).1 (z_mt 143).1 ∈ zTB := (zTB_in (List.mem_of_getElem? (i := 60) (by decide +kernel)) (by decide +kernel))
theorem kc_144 : z_Cal 144 1 1 2 := ⟨(zTB_in (List.mem_of_getElem? (i := 1387) (by decide +kernel)) (by decide +kernel)), (zTB_in (List.mem_of_getElem? (i := 120) (by decide +kernel)) (by decide +kernel)), ⟨by decide, by decide, by decide +kernel⟩, by decide, rfl, rfl⟩
theorem ki_144 : Cond.instanceMethod (z_mt 144).1 ∈ zTB := (zTB_in (List.mem_of_getElem? (i := 1386) (by decide +kernel)) (by decide +kernel))
theorem kx_144 : Cond.selects RX10 (z_mt 144).1 (z_mt 144).1 ∈ zTB := (zTB_in (List.mem_of_getElem? (i := 40) (by decide +kernel)) (by decide +kernel))
theorem kc_145 : z_Cal 145 0 1 1 := ⟨(zTB_in (List.mem_of_getElem? (i := 1373) (by decide +kernel)) (by decide +kernel)), (zTB_in (List.mem_of_getElem? (i := 120) (by decide +kernel)) (by decide +kernel)), ⟨by decide, by decide, by decide +kernel⟩, by decide, rfl, rfl⟩
theorem ki_145 : Cond.instanceMethod (z_mt 145).1 ∈ zTB := (zTB_in (List.mem_of_getElem? (i := 1372) (by decide +kernel)) (by decide +kernel))
theorem kx_145 : Cond.selects RX10 (z_mt 145).1 (z_mt 145).1 ∈ zTB := (zTB_in (List.mem_of_getElem? (i := 38) (by decide +kernel)) (by decide +kernel))
theorem kc_146 : z_Cal 146 0 1 5 := ⟨(zTB_in (List.mem_of_getElem? (i := 1344) (by decide +kernel)) (by decide +kernel)), (zTB_in (List.mem_of_getElem? (i := 120) (by decide +kernel)) (by decide +kernel)), ⟨by decide, by decide, by decide +kernel⟩, by decide, rfl, rfl⟩
theorem ki_146 : Cond.instanceMethod (z_mt 146).1 ∈ zTB := (zTB_in (List.mem_of_getElem? (i := 1343) (by decide +kernel)) (by decide +kernel))
theorem kx_146 : Cond.selects RX10 (z_mt 146).1 (z_mt 146).1 ∈ zTB := (zTB_in (List.mem_of_getElem? (i := 34) (by decide +kernel)) (by decide +kernel))
theorem kc_147 : z_Cal 147 1 1 1 := ⟨(zTB_in (List.mem_of_getElem? (i := 1337) (by decide +kernel)) (by decide +kernel)), (zTB_in (List.mem_of_getElem? (i := 120) (by decide +kernel)) (by decide +kernel)), ⟨by decide, by decide, by decide +kernel⟩, by decide, rfl, rfl⟩
theorem ks_147 : Cond.static (z_mt 147).1 ∈ zTB := (zTB_in (List.mem_of_getElem? (i := 1336) (by decide +kernel)) (by decide +kernel))
theorem kc_149 : z_Cal 149 1 0 3 := ⟨(zTB_in (List.mem_of_getElem? (i := 1498) (by decide +kernel)) (by decide +kernel)), (zTB_in (List.mem_of_getElem? (i := 120) (by decide +kernel)) (by decide +kernel)), ⟨by decide, by decide, by decide +kernel⟩, by decide, rfl, rfl⟩
theorem ki_149 : Cond.instanceMethod (z_mt 149).1 ∈ zTB := (zTB_in (List.mem_of_getElem? (i := 1497) (by decide +kernel)) (by decide +kernel))
theorem kx_149 : Cond.selects RX10 (z_mt 149).1 (z_mt 149).1 ∈ zTB := (zTB_in (List.mem_of_getElem? (i := 64) (by decide +kernel)) (by decide +kernel))
theorem kc_150 : z_Cal 150 1 1 2 := ⟨(zTB_in (List.mem_of_getElem? (i := 1502) (by decide +kernel)) (by decide +kernel)), (zTB_in (List.mem_of_getElem? (i := 120) (by decide +kernel)) (by decide +kernel)), ⟨by decide, by decide, by decide +kernel⟩, by decide, rfl, rfl⟩
theorem ki_150 : Cond.instanceMethod (z_mt 150).1 ∈ zTB := (zTB_in (List.mem_of_getElem? (i := 1501) (by decide +kernel)) (by decide +kernel))
theorem kx_150 : Cond.selects RX10 (z_mt 150).1 (z_mt 150).1 ∈ zTB := (zTB_in (List.mem_of_getElem? (i := 65) (by decide +kernel)) (by decide +kernel))
theorem kc_151 : z_Cal 151 3 1 4 := ⟨(zTB_in (List.mem_of_getElem? (i := 1514) (by decide +kernel)) (by decide +kernel)), (zTB_in (List.mem_of_getElem? (i := 120) (by decide +kernel)) (by decide +kernel)), ⟨by decide, by decide, by decide +kernel⟩, by decide, rfl, rfl⟩
theorem ki_151 : Cond.instanceMethod (z_mt 151).1 ∈ zTB := (zTB_in (List.mem_of_getElem? (i := 1513) (by decide +kernel)) (by decide +kernel))
theorem kx_151 : Cond.selects RX10 (z_mt 151).1 (z_mt 151).1 ∈ zTB := (zTB_in (List.mem_of_getElem? (i := 68) (by decide +kernel)) (by decide +kernel))
theorem kc_152 : z_Cal 152 3 1 4 := ⟨(zTB_in (List.mem_of_getElem? (i := 1518) (by decide +kernel)) (by decide +kernel)), (zTB_in (List.mem_of_getElem? (i := 120) (by decide +kernel)) (by decide +kernel)), ⟨by decide, by decide, by decide +kernel⟩, by decide, rfl, rfl⟩
theorem ki_152 : Cond.instanceMethod (z_mt 152).1 ∈ zTB := (zTB_in (List.mem_of_getElem? (i := 1517) (by decide +kernel)) (by decide +kernel))
theorem kx_152 : Cond.selects RX10 (z_mt 152).1 (z_mt 152).1 ∈ zTB := (zTB_in (List.mem_of_getElem? (i := 69) (by decide +kernel)) (by decide +kernel))
theorem kc_153 : z_Cal 153 3 1 6 := ⟨(zTB_in (List.mem_of_getElem? (i := 1510) (by decide +kernel)) (by decide +kernel)), (zTB_in (List.mem_of_getElem? (i := 120) (by decide +kernel)) (by decide +kernel)), ⟨by decide, by decide, by decide +kernel⟩, by decide, rfl, rfl⟩
theorem ki_153 : Cond.instanceMethod (z_mt 153).1 ∈ zTB := (zTB_in (List.mem_of_getElem? (i := 1509) (by decide +kernel)) (by decide +kernel))
theorem kx_153 : Cond.selects RX10 (z_mt 153).1 (z_mt 153).1 ∈ zTB := (zTB_in (List.mem_of_getElem? (i := 67) (by decide +kernel)) (by decide +kernel))
theorem kc_154 : z_Cal 154 2 0 7 := ⟨(zTB_in (List.mem_of_getElem? (i := 1506) (by decide +kernel)) (by decide +kernel)), (zTB_in (List.mem_of_getElem? (i := 120) (by decide +kernel)) (by decide +kernel)), ⟨by decide, by decide, by decide +kernel⟩, by decide, rfl, rfl⟩
theorem ki_154 : Cond.instanceMethod (z_mt 154).1 ∈ zTB := (zTB_in (List.mem_of_getElem? (i := 1505) (by decide +kernel)) (by decide +kernel))
theorem kx_154 : Cond.selects RX10 (z_mt 154).1 (z_mt 154).1 ∈ zTB := (zTB_in (List.mem_of_getElem? (i := 66) (by decide +kernel)) (by decide +kernel))
theorem kc_155 : z_Cal 155 2 1 3 := ⟨(zTB_in (List.mem_of_getElem? (i := 1526) (by decide +kernel)) (by decide +kernel)), (zTB_in (List.mem_of_getElem? (i := 120) (by decide +kernel)) (by decide +kernel)), ⟨by decide, by decide, by decide +kernel⟩, by decide, rfl, rfl⟩
theorem ki_155 : Cond.instanceMethod (z_mt 155).1 ∈ zTB := (zTB_in (List.mem_of_getElem? (i := 1525) (by decide +kernel)) (by decide +kernel))
theorem kx_155 : Cond.selects RX10 (z_mt 155).1 (z_mt 155).1 ∈ zTB := (zTB_in (List.mem_of_getElem? (i := 70) (by decide +kernel)) (by decide +kernel))
theorem kc_156 : z_Cal 156 3 1 6 := ⟨(zTB_in (List.mem_of_getElem? (i := 1531) (by decide +kernel)) (by decide +kernel)), (zTB_in (List.mem_of_getElem? (i := 120) (by decide +kernel)) (by decide +kernel)), ⟨by decide, by decide, by decide +kernel⟩, by decide, rfl, rfl⟩
theorem ki_156 : Cond.instanceMethod (z_mt 156).1 ∈ zTB := (zTB_in (List.mem_of_getElem? (i := 1530) (by decide +kernel)) (by decide +kernel))
theorem kx_156 : Cond.selects RX10 (z_mt 156).1 (z_mt 156).1 ∈ zTB := (zTB_in (List.mem_of_getElem? (i := 71) (by decide +kernel)) (by decide +kernel))
theorem kc_159 : z_Cal 159 1 0 3 := ⟨(zTB_in (List.mem_of_getElem? (i := 1595) (by decide +kernel)) (by decide +kernel)), (zTB_in (List.mem_of_getElem? (i := 120) (by decide +kernel)) (by decide +kernel)), ⟨by decide, by decide, by decide +kernel⟩, by decide, rfl, rfl⟩
theorem ki_159 : Cond.instanceMethod (z_mt 159).1 ∈ zTB := (zTB_in (List.mem_of_getElem? (i := 1594) (by decide +kernel)) (by decide +kernel))
theorem kx_159 : Cond.selects RX10 (z_mt 159).1 (z_mt 159).1 ∈ zTB := (zTB_in (List.mem_of_getElem? (i := 81) (by decide +kernel)) (by decide +kernel))
theorem kc_160 : z_Cal 160 0 2 1 := ⟨(zTB_in (List.mem_of_getElem? (i := 1599) (by decide +kernel)) (by decide +kernel)), (zTB_in (List.mem_of_getElem? (i := 120) (by decide +kernel)) (by decide +kernel)), ⟨by decide, by decide, by decide +kernel⟩, by decide, rfl, rfl⟩
theorem ki_160 : Cond.instanceMethod (z_mt 160).1 ∈ zTB := (zTB_in (List.mem_of_getElem? (i := 1598) (by decide +kernel)) (by decide +kernel))
theorem kx_160 : Cond.selects RX10 (z_mt 160).1 (z_mt 160).1 ∈ zTB := (zTB_in (List.mem_of_getElem? (i := 82) (by decide +kernel)) (by decide +kernel))
theorem kc_161 : z_Cal 161 3 2 5 := ⟨(zTB_in (List.mem_of_getElem? (i := 1602) (by decide +kernel)) (by decide +kernel)), (zTB_in (List.mem_of_getElem? (i := 120) (by decide +kernel)) (by decide +kernel)), ⟨by decide, by decide, by decide +kernel⟩, by decide, rfl, rfl⟩
theorem ks_161 : Cond.static (z_mt 161).1 ∈ zTB := (zTB_in (List.mem_of_getElem? (i := 1601) (by decide +kernel)) (by decide +kernel))
theorem kc_162 : z_Cal 162 3 2 11 := ⟨(zTB_in (List.mem_of_getElem? (i := 1591) (by decide +kernel)) (by decide +kernel)), (zTB_in (List.mem_of_getElem? (i := 120) (by decide +kernel)) (by decide +kernel)), ⟨by decide, by decide, by decide +kernel⟩, by decide, rfl, rfl⟩
theorem ki_162 : Cond.instanceMethod (z_mt 162).1 ∈ zTB := (zTB_in (List.mem_of_getElem? (i := 1590) (by decide +kernel)) (by decide +kernel))
theorem kx_162 : Cond.selects RX10 (z_mt 162).1 (z_mt 162).1 ∈ zTB := (zTB_in (List.mem_of_getElem? (i := 80) (by decide +kernel)) (by decide +kernel))
theorem kc_163 : z_Cal 163 1 1 4 := ⟨(zTB_in (List.mem_of_getElem? (i := 1587) (by decide +kernel)) (by decide +kernel)), (zTB_in (List.mem_of_getElem? (i := 120) (by decide +kernel)) (by decide +kernel)), ⟨by decide, by decide, by decide +kernel⟩, by decide, rfl, rfl⟩
theorem ki_163 : Cond.instanceMethod (z_mt 163).1 ∈ zTB := (zTB_in (List.mem_of_getElem? (i := 1586) (by decide +kernel)) (by decide +kernel))
theorem kx_163 : Cond.selects RX10 (z_mt 163).1 (z_mt 163).1 ∈ zTB := (zTB_in (List.mem_of_getElem? (i := 79) (by decide +kernel)) (by decide +kernel))
theorem kc_164 : z_Cal 164 0 1 1 := ⟨(zTB_in (List.mem_of_getElem? (i := 1579) (by decide +kernel)) (by decide +kernel)), (zTB_in (List.mem_of_getElem? (i := 120) (by decide +kernel)) (by decide +kernel)), ⟨by decide, by decide, by decide +kernel⟩, by decide, rfl, rfl⟩
theorem ki_164 : Cond.instanceMethod (z_mt 164).1 ∈ zTB := (zTB_in (List.mem_of_getElem? (i := 1578) (by decide +kernel)) (by decide +kernel))
theorem kx_164 : Cond.selects RX10 (z_mt 164).1 (z_mt 164).1 ∈ zTB := (zTB_in (List.mem_of_getElem? (i := 77) (by decide +kernel)) (by decide +kernel))
theorem kc_165 : z_Cal 165 0 1 1 := ⟨(zTB_in (List.mem_of_getElem? (i := 1583) (by decide +kernel)) (by decide +kernel)), (zTB_in (List.mem_of_getElem? (i := 120) (by decide +kernel)) (by decide +kernel)), ⟨by decide, by decide, by decide +kernel⟩, by decide, rfl, rfl⟩
theorem ki_165 : Cond.instanceMethod (z_mt 165).1 ∈ zTB := (zTB_in (List.mem_of_getElem? (i := 1582) (by decide +kernel)) (by decide +kernel))
theorem kx_165 : Cond.selects RX10 (z_mt 165).1 (z_mt 165).1 ∈ zTB := (zTB_in (List.mem_of_getElem? (i := 78) (by decide +kernel)) (by decide +kernel))
theorem kc_166 : z_Cal 166 0 1 1 := ⟨(zTB_in (List.mem_of_getElem? (i := 1564) (by decide +kernel)) (by decide +kernel)), (zTB_in (List.mem_of_getElem? (i := 120) (by decide +kernel)) (by decide +kernel)), ⟨by decide, by decide, by decide +kernel⟩, by decide, rfl, rfl⟩
theorem ki_166 : Cond.instanceMethod (z_mt 166).1 ∈ zTB := (zTB_in (List.mem_of_getElem? (i := 1563) (by decide +kernel)) (by decide +kernel))
theorem kx_166 : Cond.selects RX10 (z_mt 166).1 (z_mt 166).1 ∈ zTB := (zTB_in (List.mem_of_getElem? (i := 74) (by decide +kernel)) (by decide +kernel))
theorem kc_167 : z_Cal 167 4 0 5 := ⟨(zTB_in (List.mem_of_getElem? (i := 1551) (by decide +kernel)) (by decide +kernel)), (zTB_in (List.mem_of_getElem? (i := 120) (by decide +kernel)) (by decide +kernel)), ⟨by decide, by decide, by decide +kernel⟩, by decide, rfl, rfl⟩
theorem ks_167 : Cond.static (z_mt 167).1 ∈ zTB := (zTB_in (List.mem_of_getElem? (i := 1550) (by decide +kernel)) (by decide +kernel))
theorem kc_168 : z_Cal 168 4 1 5 := ⟨(zTB_in (List.mem_of_getElem? (i := 1547) (by decide +kernel)) (by decide +kernel)), (zTB_in (List.mem_of_getElem? (i := 120) (by decide +kernel)) (by decide +kernel)), ⟨by decide, by decide, by decide +kernel⟩, by decide, rfl, rfl⟩
theorem ki_168 : Cond.instanceMethod (z_mt 168).1 ∈ zTB := (zTB_in (List.mem_of_getElem? (i := 1546) (by decide +kernel)) (by decide +kernel))
theorem kx_168 : Cond.selects RX10 (z_mt 168).1 (z_mt 168).1 ∈ zTB := (zTB_in (List.mem_of_getElem? (i := 72) (by decide +kernel)) (by decide +kernel))
theorem kc_170 : z_Cal 170 2 1 5 := ⟨(zTB_in (List.mem_of_getElem? (i := 1575) (by decide +kernel)) (by decide +kernel)), (zTB_in (List.mem_of_getElem? (i := 120) (by decide +kernel)) (by decide +kernel)), ⟨by decide, by decide, by decide +kernel⟩, by decide, rfl, rfl⟩
theorem ki_170 : Cond.instanceMethod (z_mt 170).1 ∈ zTB := (zTB_in (List.mem_of_getElem? (i := 1574) (by decide +kernel)) (by decide +kernel))
theorem kx_170 : Cond.selects RX10 (z_mt 170).1 (z_mt 170).1 ∈ zTB := (zTB_in (List.mem_of_getElem? (i := 76) (by decide +kernel)) (by decide +kernel))
theorem kc_171 : z_Cal 171 1 1 3 := ⟨(zTB_in (List.mem_of_getElem? (i := 1610) (by decide +kernel)) (by decide +kernel)), (zTB_in (List.mem_of_getElem? (i := 120) (by decide +kernel)) (by decide +kernel)), ⟨by decide, by decide, by decide +kernel⟩, by decide, rfl, rfl⟩
theorem ki_171 : Cond.instanceMethod (z_mt 171).1 ∈ zTB := (zTB_in (List.mem_of_getElem? (i := 1609) (by decide +kernel)) (by decide +kernel))
theorem kx_171 : Cond.selects RX10 (z_mt 171).1 (z_mt 171).1 ∈ zTB := (zTB_in (List.mem_of_getElem? (i := 83) (by decide +kernel)) (by decide +kernel))
theorem kc_172 : z_Cal 172 4 0 6 := ⟨(zTB_in (List.mem_of_getElem? (i := 1614) (by decide +kernel)) (by decide +kernel)), (zTB_in (List.mem_of_getElem? (i := 120) (by decide +kernel)) (by decide +kernel)), ⟨by decide, by decide, by decide +kernel⟩, by decide, rfl, rfl⟩
theorem ki_172 : Cond.instanceMethod (z_mt 172).1 ∈ zTB := (zTB_in (List.mem_of_getElem? (i := 1613) (by decide +kernel)) (by decide +kernel))
theorem kx_172 : Cond.selects RX10 (z_mt 172).1 (z_mt 172).1 ∈ zTB := (zTB_in (List.mem_of_getElem? (i := 84) (by decide +kernel)) (by decide +kernel))
theorem kc_173 : z_Cal 173 4 0 11 := ⟨(zTB_in (List.mem_of_getElem? (i := 1568) (by decide +kernel)) (by decide +kernel)), (zTB_in (List.mem_of_getElem? (i := 120) (by decide +kernel)) (by decide +kernel)), ⟨by decide, by decide, by decide +kernel⟩, by decide, rfl, rfl⟩
theorem ki_173 : Cond.instanceMethod (z_mt 173).1 ∈ zTB := (zTB_in (List.mem_of_getElem? (i := 1567) (by decide +kernel)) (by decide +kernel))
theorem kx_173 : Cond.selects RX10 (z_mt 173).1 (z_mt 173).1 ∈ zTB := (zTB_in (List.mem_of_getElem? (i := 75) (by decide +kernel)) (by decide +kernel))
theorem kc_174 : z_Cal 174 2 1 2 := ⟨(zTB_in (List.mem_of_getElem? (i := 1571) (by decide +kernel)) (by decide +kernel)), (zTB_in (List.mem_of_getElem? (i := 120) (by decide +kernel)) (by decide +kernel)), ⟨by decide, by decide, by decide +kernel⟩, by decide, rfl, rfl⟩
theorem ks_174 : Cond.static (z_mt 174).1 ∈ zTB := (zTB_in (List.mem_of_getElem? (i := 1570) (by decide +kernel)) (by decide +kernel))
theorem kc_175 : z_Cal 175 1 1 3 := ⟨(zTB_in (List.mem_of_getElem? (i := 1651) (by decide +kernel)) (by decide +kernel)), (zTB_in (List.mem_of_getElem? (i := 120) (by decide +kernel)) (by decide +kernel)), ⟨by decide, by decide, by decide +kernel⟩, by decide, rfl, rfl⟩
theorem ki_175 : Cond.instanceMethod (z_mt 175).1 ∈ zTB := (zTB_in (List.mem_of_getElem? (i := 1650) (by decide +kernel)) (by decide +kernel))
theorem kx_175 : Cond.selects RX10 (z_mt 175).1 (z_mt 175).1 ∈ zTB := (zTB_in (List.mem_of_getElem? (i := 91) (by decide +kernel)) (by decide +kernel))
theorem kc_176 : z_Cal 176 5 1 7 := ⟨(zTB_in (List.mem_of_getElem? (i := 1647) (by decide +kernel)) (by decide +kernel)), (zTB_in (List.mem_of_getElem? (i := 120) (by decide +kernel)) (by decide +kernel)), ⟨by decide, by decide, by decide +kernel⟩, by decide, rfl, rfl⟩
theorem ki_176 : Cond.instanceMethod (z_mt 176).1 ∈ zTB := (zTB_in (List.mem_of_getElem? (i := 1646) (by decide +kernel)) (by decide +kernel))
theorem kx_176 : Cond.selects RX10 (z_mt 176).1 (z_mt 176).1 ∈ zTB := (zTB_in (List.mem_of_getElem? (i := 90) (by decide +kernel)) (by decide +kernel))
theorem kc_177 : z_Cal 177 6 1 12 := ⟨(zTB_in (List.mem_of_getElem? (i := 1643) (by decide +kernel)) (by decide +kernel)), (zTB_in (List.mem_of_getElem? (i := 120) (by decide +kernel)) (by decide +kernel)), ⟨by decide, by decide, by decide +kernel⟩, by decide, rfl, rfl⟩
theorem ki_177 : Cond.instanceMethod (z_mt 177).1 ∈ zTB := (zTB_in (List.mem_of_getElem? (i := 1642) (by decide +kernel)) (by decide +kernel))
theorem kx_177 : Cond.selects RX10 (z_mt 177).1 (z_mt 177).1 ∈ zTB := (zTB_in (List.mem_of_getElem? (i := 89) (by decide +kernel)) (by decide +kernel))
theorem kc_178 : z_Cal 178 1 1 1 := ⟨(zTB_in (List.mem_of_getElem? (i := 1617) (by decide +kernel)) (by decide +kernel)), (zTB_in (List.mem_of_getElem? (i := 120) (by decide +kernel)) (by decide +kernel)), ⟨by decide, by decide, by decide +kernel⟩, by decide, rfl, rfl⟩
theorem ks_178 : Cond.static (z_mt 178).1 ∈ zTB := (zTB_in (List.mem_of_getElem? (i := 1616) (by decide +kernel)) (by decide +kernel))
theorem kc_179 : z_Cal 179 3 0 5 := ⟨(zTB_in (List.mem_of_getElem? (i := 1621) (by decide +kernel)) (by decide +kernel)), (zTB_in (List.mem_of_getElem? (i := 120) (by decide +kernel)) (by decide +kernel)), ⟨by decide, by decide, by decide +kernel⟩, by decide, rfl, rfl⟩
theorem ki_179 : Cond.instanceMethod (z_mt 179).1 ∈ zTB := (zTB_in (List.mem_of_getElem? (i := 1620) (by decide +kernel)) (by decide +kernel))
theorem kx_179 : Cond.selects RX10 (z_mt 179).1 (z_mt 179).1 ∈ zTB := (zTB_in (List.mem_of_getElem? (i := 85) (by decide +kernel)) (by decide +kernel))
theorem kc_180 : z_Cal 180 0 1 1 := ⟨(zTB_in (List.mem_of_getElem? (i := 1560) (by decide +kernel)) (by decide +kernel)), (zTB_in (List.mem_of_getElem? (i := 120) (by decide +kernel)) (by decide +kernel)), ⟨by decide, by decide, by decide +kernel⟩, by decide, rfl, rfl⟩
theorem ki_180 : Cond.instanceMethod (z_mt 180).1 ∈ zTB := (zTB_in (List.mem_of_getElem? (i := 1559) (by decide +kernel)) (by decide +kernel))
theorem kx_180 : Cond.selects RX10 (z_mt 180).1 (z_mt 180).1 ∈ zTB := (zTB_in (List.mem_of_getElem? (i := 73) (by decide +kernel)) (by decide +kernel))
theorem kc_182 : z_Cal 182 3 1 4 := ⟨(zTB_in (List.mem_of_getElem? (i := 1639) (by decide +kernel)) (by decide +kernel)), (zTB_in (List.mem_of_getElem? (i := 120) (by decide +kernel)) (by decide +kernel)), ⟨by decide, by decide, by decide +kernel⟩, by decide, rfl, rfl⟩
theorem ki_182 : Cond.instanceMethod (z_mt 182).1 ∈ zTB := (zTB_in (List.mem_of_getElem? (i := 1638) (by decide +kernel)) (by decide +kernel))
theorem kx_182 : Cond.selects RX10 (z_mt 182).1 (z_mt 182).1 ∈ zTB := (zTB_in (List.mem_of_getElem? (i := 88) (by decide +kernel)) (by decide +kernel))
theorem kc_187 : z_Cal 187 3 2 5 := ⟨(zTB_in (List.mem_of_getElem? (i := 1629) (by decide +kernel)) (by decide +kernel)), (zTB_in (List.mem_of_getElem? (i := 120) (by decide +kernel)) (by decide +kernel)), ⟨by decide, by decide, by decide +kernel⟩, by decide, rfl, rfl⟩
theorem ki_187 : Cond.instanceMethod (z_mt 187).1 ∈ zTB := (zTB_in (List.mem_of_getElem? (i := 1628) (by decide +kernel)) (by decide +kernel))
theorem kx_187 : Cond.selects RX10 (z_mt 187).1 (z_mt 187).1 ∈ zTB := (zTB_in (List.mem_of_getElem? (i := 87) (by decide +kernel)) (by decide +kernel))
theorem kc_188 : z_Cal 188 2 2 6 := ⟨(zTB_in (List.mem_of_getElem? (i := 1625) (by decide +kernel)) (by decide +kernel)), (zTB_in (List.mem_of_getElem? (i := 120) (by decide +kernel)) (by decide +kernel)), ⟨by decide, by decide, by decide +kernel⟩, by decide, rfl, rfl⟩
theorem ki_188 : Cond.instanceMethod (z_mt 188).1 ∈ zTB := (zTB_in (List.mem_of_getElem? (i := 1624) (by decide +kernel)) (by decide +kernel))
theorem kx_188 : Cond.selects RX10 (z_mt 188).1 (z_mt 188).1 ∈ zTB := (zTB_in (List.mem_of_getElem? (i := 86) (by decide +kernel)) (by decide +kernel))
theorem kc_189 : z_Cal 189 2 1 5 := ⟨(zTB_in (List.mem_of_getElem? (i := 1679) (by decide +kernel)) (by decide +kernel)), (zTB_in (List.mem_of_getElem? (i := 120) (by decide +kernel)) (by decide +kernel)), ⟨by decide, by decide, by decide +kernel⟩, by decide, rfl, rfl⟩
theorem ki_189 : Cond.instanceMethod (z_mt 189).1 ∈ zTB := (zTB_in (List.mem_of_getElem? (i := 1678) (by decide +kernel)) (by decide +kernel))
theorem kx_189 : Cond.selects RX10 (z_mt 189).1 (z_mt 189).1 ∈ zTB := (zTB_in (List.mem_of_getElem? (i := 92) (by decide +kernel)) (by decide +kernel))
theorem kc_190 : z_Cal 190 2 2 6 := ⟨(zTB_in (List.mem_of_getElem? (i := 1683) (by decide +kernel)) (by decide +kernel)), (zTB_in (List.mem_of_getElem? (i := 120) (by decide +kernel)) (by decide +kernel)), ⟨by decide, by decide, by decide +kernel⟩, by decide, rfl, rfl⟩
theorem ki_190 : Cond.instanceMethod (z_mt 190).1 ∈ zTB := (zTB_in (List.mem_of_getElem? (i := 1682) (by decide +kernel)) (by decide +kernel))
theorem kx_190 : Cond.selects RX10 (z_mt 190).1 (z_mt 190).1 ∈ zTB := (zTB_in (List.mem_of_getElem? (i := 93) (by decide +kernel)) (by decide +kernel))
theorem kc_193 : z_Cal 193 0 0 2 := ⟨(zTB_in (List.mem_of_getElem? (i := 1699) (by decide +kernel)) (by decide +kernel)), (zTB_in (List.mem_of_getElem? (i := 120) (by decide +kernel)) (by decide +kernel)), ⟨by decide, by decide, by decide +kernel⟩, by decide, rfl, rfl⟩
theorem ki_193 : Cond.instanceMethod (z_mt 193).1 ∈ zTB := (zTB_in (List.mem_of_getElem? (i := 1698) (by decide +kernel)) (by decide +kernel))
theorem kx_193 : Cond.selects RX10 (z_mt 193).1 (z_mt 193).1 ∈ zTB := (zTB_in (List.mem_of_getElem? (i := 95) (by decide +kernel)) (by decide +kernel))
theorem kc_194 : z_Cal 194 0 0 3 := ⟨(zTB_in (List.mem_of_getElem? (i := 1703) (by decide +kernel)) (by decide +kernel)), (zTB_in (List.mem_of_getElem? (i := 120) (by decide +kernel)) (by decide +kernel)), ⟨by decide, by decide, by decide +kernel⟩, by decide, rfl, rfl⟩
theorem ki_194 : Cond.instanceMethod (z_mt 194).1 ∈ zTB := (zTB_in (List.mem_of_getElem? (i := 1702) (by decide +kernel)) (by decide +kernel))
theorem kx_194 : Cond.selects RX10 (z_mt 194).1 (z_mt 194).1 ∈ zTB := (zTB_in (List.mem_of_getElem? (i := 96) (by decide +kernel)) (by decide +kernel))
theorem kc_195 : z_Cal 195 2 0 6 := ⟨(zTB_in (List.mem_of_getElem? (i := 1695) (by decide +kernel)) (by decide +kernel)), (zTB_in (List.mem_of_getElem? (i := 120) (by decide +kernel)) (by decide +kernel)), ⟨by decide, by decide, by decide +kernel⟩, by decide, rfl, rfl⟩
theorem ki_195 : Cond.instanceMethod (z_mt 195).1 ∈ zTB := (zTB_in (List.mem_of_getElem? (i := 1694) (by decide +kernel)) (by decide +kernel))
theorem kx_195 : Cond.selects RX10 (z_mt 195).1 (z_mt 195).1 ∈ zTB := (zTB_in (List.mem_of_getElem? (i := 94) (by decide +kernel)) (by decide +kernel))
theorem kc_196 : z_Cal 196 2 1 2 := ⟨(zTB_in (List.mem_of_getElem? (i := 1691) (by decide +kernel)) (by decide +kernel)), (zTB_in (List.mem_of_getElem? (i := 120) (by decide +kernel)) (by decide +kernel)), ⟨by decide, by decide, by decide +kernel⟩, by decide, rfl, rfl⟩
theorem ks_196 : Cond.static (z_mt 196).1 ∈ zTB := (zTB_in (List.mem_of_getElem? (i := 1690) (by decide +kernel)) (by decide +kernel))
theorem kc_201 : z_Cal 201 1 0 7 := ⟨(zTB_in (List.mem_of_getElem? (i := 1728) (by decide +kernel)) (by decide +kernel)), (zTB_in (List.mem_of_getElem? (i := 120) (by decide +kernel)) (by decide +kernel)), ⟨by decide, by decide, by decide +kernel⟩, by decide, rfl, rfl⟩
theorem ki_201 : Cond.instanceMethod (z_mt 201).1 ∈ zTB := (zTB_in (List.mem_of_getElem? (i := 1727) (by decide +kernel)) (by decide +kernel))
theorem kx_201 : Cond.selects RX10 (z_mt 201).1 (z_mt 201).1 ∈ zTB := (zTB_in (List.mem_of_getElem? (i := 97) (by decide +kernel)) (by decide +kernel))
theorem kc_202 : z_Cal 202 1 1 3 := ⟨(zTB_in (List.mem_of_getElem? (i := 1724) (by decide +kernel)) (by decide +kernel)), (zTB_in (List.mem_of_getElem? (i := 120) (by decide +kernel)) (by decide +kernel)), ⟨by decide, by decide, by decide +kernel⟩, by decide, rfl, rfl⟩
theorem ks_202 : Cond.static (z_mt 202).1 ∈ zTB := (zTB_in (List.mem_of_getElem? (i := 1723) (by decide +kernel)) (by decide +kernel))
theorem kc_207 : z_Cal 207 1 2 7 := ⟨(zTB_in (List.mem_of_getElem? (i := 1744) (by decide +kernel)) (by decide +kernel)), (zTB_in (List.mem_of_getElem? (i := 120) (by decide +kernel)) (by decide +kernel)), ⟨by decide, by decide, by decide +kernel⟩, by decide, rfl, rfl⟩
theorem ki_207 : Cond.instanceMethod (z_mt 207).1 ∈ zTB := (zTB_in (List.mem_of_getElem? (i := 1743) (by decide +kernel)) (by decide +kernel))
theorem kx_207 : Cond.selects RX10 (z_mt 207).1 (z_mt 207).1 ∈ zTB := (zTB_in (List.mem_of_getElem? (i := 98) (by decide +kernel)) (by decide +kernel))
theorem kc_210 : z_Cal 210 2 1 5 := ⟨(zTB_in (List.mem_of_getElem? (i := 1756) (by decide +kernel)) (by decide +kernel)), (zTB_in (List.mem_of_getElem? (i := 120) (by decide +kernel)) (by decide +kernel)), ⟨by decide, by decide, by decide +kernel⟩, by decide, rfl, rfl⟩
theorem ki_210 : Cond.instanceMethod (z_mt 210).1 ∈ zTB := (zTB_in (List.mem_of_getElem? (i := 1755) (by decide +kernel)) (by decide +kernel))
theorem kx_210 : Cond.selects RX10 (z_mt 210).1 (z_mt 210).1 ∈ zTB := (zTB_in (List.mem_of_getElem? (i := 99) (by decide +kernel)) (by decide +kernel))
theorem kc_211 : z_Cal 211 0 1 1 := ⟨(zTB_in (List.mem_of_getElem? (i := 1785) (by decide +kernel)) (by decide +kernel)), (zTB_in (List.mem_of_getElem? (i := 120) (by decide +kernel)) (by decide +kernel)), ⟨by decide, by decide, by decide +kernel⟩, by decide, rfl, rfl⟩
theorem ki_211 : Cond.instanceMethod (z_mt 211).1 ∈ zTB := (zTB_in (List.mem_of_getElem? (i := 1784) (by decide +kernel)) (by decide +kernel))
theorem kx_211 : Cond.selects RX10 (z_mt 211).1 (z_mt 211).1 ∈ zTB := (zTB_in (List.mem_of_getElem? (i := 105) (by decide +kernel)) (by decide +kernel))
theorem kc_212 : z_Cal 212 1 1 3 := ⟨(zTB_in (List.mem_of_getElem? (i := 1773) (by decide +kernel)) (by decide +kernel)), (zTB_in (List.mem_of_getElem? (i := 120) (by decide +kernel)) (by decide +kernel)), ⟨by decide, by decide, by decide +kernel⟩, by decide, rfl, rfl⟩
theorem ki_212 : Cond.instanceMethod (z_mt 212).1 ∈ zTB := (zTB_in (List.mem_of_getElem? (i := 1772) (by decide +kernel)) (by decide +kernel))
theorem kx_212 : Cond.selects RX10 (z_mt 212).1 (z_mt 212).1 ∈ zTB := (zTB_in (List.mem_of_getElem? (i := 102) (by decide +kernel)) (by decide +kernel))
theorem kc_213 : z_Cal 213 0 0 6 := ⟨(zTB_in (List.mem_of_getElem? (i := 1781) (by decide +kernel)) (by decide +kernel)), (zTB_in (List.mem_of_getElem? (i := 120) (by decide +kernel)) (by decide +kernel)), ⟨by decide, by decide, by decide +kernel⟩, by decide, rfl, rfl⟩
theorem ki_213 : Cond.instanceMethod (z_mt 213).1 ∈ zTB := (zTB_in (List.mem_of_getElem? (i := 1780) (by decide +kernel)) (by decide +kernel))
theorem kx_213 : Cond.selects RX10 (z_mt 213).1 (z_mt 213).1 ∈ zTB := (zTB_in (List.mem_of_getElem? (i := 104) (by decide +kernel)) (by decide +kernel))
theorem kc_214 : z_Cal 214 0 0 4 := ⟨(zTB_in (List.mem_of_getElem? (i := 1793) (by decide +kernel)) (by decide +kernel)), (zTB_in (List.mem_of_getElem? (i := 120) (by decide +kernel)) (by decide +kernel)), ⟨by decide, by decide, by decide +kernel⟩, by decide, rfl, rfl⟩
theorem ki_214 : Cond.instanceMethod (z_mt 214).1 ∈ zTB := (zTB_in (List.mem_of_getElem? (i := 1792) (by decide +kernel)) (by decide +kernel))
theorem kx_214 : Cond.selects RX10 (z_mt 214).1 (z_mt 214).1 ∈ zTB := (zTB_in (List.mem_of_getElem? (i := 106) (by decide +kernel)) (by decide +kernel))
theorem kc_215 : z_Cal 215 0 1 1 := ⟨(zTB_in (List.mem_of_getElem? (i := 1777) (by decide +kernel)) (by decide +kernel)), (zTB_in (List.mem_of_getElem? (i := 120) (by decide +kernel)) (by decide +kernel)), ⟨by decide, by decide, by decide +kernel⟩, by decide, rfl, rfl⟩
theorem ki_215 : Cond.instanceMethod (z_mt 215).1 ∈ zTB := (zTB_in (List.mem_of_getElem? (i := 1776) (by decide +kernel)) (by decide +kernel))
theorem kx_215 : Cond.selects RX10 (z_mt 215).1 (z_mt 215).1 ∈ zTB := (zTB_in (List.mem_of_getElem? (i := 103) (by decide +kernel)) (by decide +kernel))
theorem kc_216 : z_Cal 216 4 0 6 := ⟨(zTB_in (List.mem_of_getElem? (i := 1769) (by decide +kernel)) (by decide +kernel)), (zTB_in (List.mem_of_getElem? (i := 120) (by decide +kernel)) (by decide +kernel)), ⟨by decide, by decide, by decide +kernel⟩, by decide, rfl, rfl⟩
theorem ki_216 : Cond.instanceMethod (z_mt 216).1 ∈ zTB := (zTB_in (List.mem_of_getElem? (i := 1768) (by decide +kernel)) (by decide +kernel))
theorem kx_216 : Cond.selects RX10 (z_mt 216).1 (z_mt 216).1 ∈ zTB := (zTB_in (List.mem_of_getElem? (i := 101) (by decide +kernel)) (by decide +kernel))
theorem kc_217 : z_Cal 217 6 1 7 := ⟨(zTB_in (List.mem_of_getElem? (i := 1764) (by decide +kernel)) (by decide +kernel)), (zTB_in (List.mem_of_getElem? (i := 120) (by decide +kernel)) (by decide +kernel)), ⟨by decide, by decide, by decide +kernel⟩, by decide, rfl, rfl⟩
theorem ki_217 : Cond.instanceMethod (z_mt 217).1 ∈ zTB := (zTB_in (List.mem_of_getElem? (i := 1763) (by decide +kernel)) (by decide +kernel))
theorem kx_217 : Cond.selects RX10 (z_mt 217).1 (z_mt 217).1 ∈ zTB := (zTB_in (List.mem_of_getElem? (i := 100) (by decide +kernel)) (by decide +kernel))
theorem kc_219 : z_Cal 219 6 0 8 := ⟨(zTB_in (List.mem_of_getElem? (i := 1801) (by decide +kernel)) (by decide +kernel)), (zTB_in (List.mem_of_getElem? (i := 120) (by decide +kernel)) (by decide +kernel)), ⟨by decide, by decide, by decide +kernel⟩, by decide, rfl, rfl⟩
theorem ki_219 : Cond.instanceMethod (z_mt 219).1 ∈ zTB := (zTB_in (List.mem_of_getElem? (i := 1800) (by decide +kernel)) (by decide +kernel))
theorem kx_219 : Cond.selects RX10 (z_mt 219).1 (z_mt 219).1 ∈ zTB := (zTB_in (List.mem_of_getElem? (i := 107) (by decide +kernel)) (by decide +kernel))
theorem kc_225 : z_Cal 225 1 1 1 := ⟨(zTB_in (List.mem_of_getElem? (i := 994) (by decide +kernel)) (by decide +kernel)), (zTB_in (List.mem_of_getElem? (i := 127) (by decide +kernel)) (by decide +kernel)), ⟨by decide, by decide, by decide +kernel⟩, by decide, rfl, rfl⟩
theorem ks_225 : Cond.static (z_mt 225).1 ∈ zTB := (zTB_in (List.mem_of_getElem? (i := 993) (by decide +kernel)) (by decide +kernel))
theorem kc_226 : z_Cal 226 3 0 3 := ⟨(zTB_in (List.mem_of_getElem? (i := 682) (by decide +kernel)) (by decide +kernel)), (zTB_in (List.mem_of_getElem? (i := 114) (by decide +kernel)) (by decide +kernel)), ⟨by decide, by decide, by decide +kernel⟩, by decide, rfl, rfl⟩
theorem ks_226 : Cond.static (z_mt 226).1 ∈ zTB := (zTB_in (List.mem_of_getElem? (i := 681) (by decide +kernel)) (by decide +kernel))
theorem kc_227 : z_Cal 227 2 0 5 := ⟨(zTB_in (List.mem_of_getElem? (i := 809) (by decide +kernel)) (by decide +kernel)), (zTB_in (List.mem_of_getElem? (i := 114) (by decide +kernel)) (by decide +kernel)), ⟨by decide, by decide, by decide +kernel⟩, by decide, rfl, rfl⟩
theorem ks_227 : Cond.static (z_mt 227).1 ∈ zTB := (zTB_in (List.mem_of_getElem? (i := 808) (by decide +kernel)) (by decide +kernel))
theorem kc_228 : z_Cal 228 4 0 6 := ⟨(zTB_in (List.mem_of_getElem? (i := 957) (by decide +kernel)) (by decide +kernel)), (zTB_in (List.mem_of_getElem? (i := 114) (by decide +kernel)) (by decide +kernel)), ⟨by decide, by decide, by decide +kernel⟩, by decide, rfl, rfl⟩
theorem ks_228 : Cond.static (z_mt 228).1 ∈ zTB := (zTB_in (List.mem_of_getElem? (i := 956) (by decide +kernel)) (by decide +kernel))
theorem kc_229 : z_Cal 229 2 0 4 := ⟨(zTB_in (List.mem_of_getElem? (i := 243) (by decide +kernel)) (by decide +kernel)), (zTB_in (List.mem_of_getElem? (i := 114) (by decide +kernel)) (by decide +kernel)), ⟨by decide, by decide, by decide +kernel⟩, by decide, rfl, rfl⟩
theorem ks_229 : Cond.static (z_mt 229).1 ∈ zTB := (zTB_in (List.mem_of_getElem? (i := 242) (by decide +kernel)) (by decide +kernel))
theorem kc_230 : z_Cal 230 4 0 5 := ⟨(zTB_in (List.mem_of_getElem? (i := 679) (by decide +kernel)) (by decide +kernel)), (zTB_in (List.mem_of_getElem? (i := 114) (by decide +kernel)) (by decide +kernel)), ⟨by decide, by decide, by decide +kernel⟩, by decide, rfl, rfl⟩
theorem ks_230 : Cond.static (z_mt 230).1 ∈ zTB := (zTB_in (List.mem_of_getElem? (i := 678) (by decide +kernel)) (by decide +kernel))
theorem kc_231 : z_Cal 231 0 1 1 := ⟨(zTB_in (List.mem_of_getElem? (i := 606) (by decide +kernel)) (by decide +kernel)), (zTB_in (List.mem_of_getElem? (i := 121) (by decide +kernel)) (by decide +kernel)), ⟨by decide, by decide, by decide +kernel⟩, by decide, rfl, rfl⟩
theorem ki_231 : Cond.instanceMethod (z_mt 231).1 ∈ zTB := (zTB_in (List.mem_of_getElem? (i := 604) (by decide +kernel)) (by decide +kernel))
theorem kx_231 : Cond.selects RJ0 (z_mt 231).1 (z_mt 231).1 ∈ zTB := (zTB_in (List.mem_of_getElem? (i := 605) (by decide +kernel)) (by decide +kernel))
theorem kc_232 : z_Cal 232 0 1 1 := ⟨(zTB_in (List.mem_of_getElem? (i := 610) (by decide +kernel)) (by decide +kernel)), (zTB_in (List.mem_of_getElem? (i := 121) (by decide +kernel)) (by decide +kernel)), ⟨by decide, by decide, by decide +kernel⟩, by decide, rfl, rfl⟩
theorem ki_232 : Cond.instanceMethod (z_mt 232).1 ∈ zTB := (zTB_in (List.mem_of_getElem? (i := 608) (by decide +kernel)) (by decide +kernel))
theorem kx_232 : Cond.selects RJ0 (z_mt 232).1 (z_mt 232).1 ∈ zTB := (zTB_in (List.mem_of_getElem? (i := 609) (by decide +kernel)) (by decide +kernel))
theorem kc_233 : z_Cal 233 1 1 2 := ⟨(zTB_in (List.mem_of_getElem? (i := 616) (by decide +kernel)) (by decide +kernel)), (zTB_in (List.mem_of_getElem? (i := 121) (by decide +kernel)) (by decide +kernel)), ⟨by decide, by decide, by decide +kernel⟩, by decide, rfl, rfl⟩
theorem ki_233 : Cond.instanceMethod (z_mt 233).1 ∈ zTB := (zTB_in (List.mem_of_getElem? (i := 614) (by decide +kernel)) (by decide +kernel))
theorem kx_233 : Cond.selects RJ0 (z_mt 233).1 (z_mt 233).1 ∈ zTB := (zTB_in (List.mem_of_getElem? (i := 615) (by decide +kernel)) (by decide +kernel))
theorem kc_234 : z_Cal 234 0 1 1 := ⟨(zTB_in (List.mem_of_getElem? (i := 620) (by decide +kernel)) (by decide +kernel)), (zTB_in (List.mem_of_getElem? (i := 121) (by decide +kernel)) (by decide +kernel)), ⟨by decide, by decide, by decide +kernel⟩, by decide, rfl, rfl⟩
theorem ki_234 : Cond.instanceMethod (z_mt 234).1 ∈ zTB := (zTB_in (List.mem_of_getElem? (i := 618) (by decide +kernel)) (by decide +kernel))
theorem kx_234 : Cond.selects RJ0 (z_mt 234).1 (z_mt 234).1 ∈ zTB := (zTB_in (List.mem_of_getElem? (i := 619) (by decide +kernel)) (by decide +kernel))
theorem kc_235 : z_Cal 235 2 1 2 := ⟨(zTB_in (List.mem_of_getElem? (i := 623) (by decide +kernel)) (by decide +kernel)), (zTB_in (List.mem_of_getElem? (i := 122) (by decide +kernel)) (by decide +kernel)), ⟨by decide, by decide, by decide +kernel⟩, by decide, rfl, rfl⟩
theorem ks_235 : Cond.static (z_mt 235).1 ∈ zTB := (zTB_in (List.mem_of_getElem? (i := 622) (by decide +kernel)) (by decide +kernel))
theorem cI_m2 : inI (-2) := by decide
theorem cI_m1 : inI (-1) := by decide
theorem cI_0 : inI 0 := by decide
theorem cI_1 : inI 1 := by decide
theorem cI_2 : inI 2 := by decide
theorem cI_3 : inI 3 := by decide
theorem cI_4 : inI 4 := by decide
theorem cI_5 : inI 5 := by decide
theorem cI_6 : inI 6 := by decide
theorem cI_7 : inI 7 := by decide
theorem cI_8 : inI 8 := by decide
theorem cI_9 : inI 9 := by decide
theorem cI_10 : inI 10 := by decide
theorem cI_11 : inI 11 := by decide
theorem cI_12 : inI 12 := by decide
theorem cI_13 : inI 13 := by decide
theorem cI_15 : inI 15 := by decide
theorem cI_16 : inI 16 := by decide
theorem cI_20 : inI 20 := by decide
theorem cI_24 : inI 24 := by decide
theorem cI_30 : inI 30 := by decide
theorem cI_32 : inI 32 := by decide
theorem cI_33 : inI 33 := by decide
theorem cI_38 : inI 38 := by decide
theorem cI_40 : inI 40 := by decide
theorem cI_42 : inI 42 := by decide
theorem cI_43 : inI 43 := by decide
theorem cI_45 : inI 45 := by decide
theorem cI_47 : inI 47 := by decide
theorem cI_48 : inI 48 := by decide
theorem cI_57 : inI 57 := by decide
theorem cI_59 : inI 59 := by decide
theorem cI_60 : inI 60 := by decide
theorem cI_61 : inI 61 := by decide
theorem cI_62 : inI 62 := by decide
theorem cI_63 : inI 63 := by decide
theorem cI_64 : inI 64 := by decide
theorem cI_80 : inI 80 := by decide
theorem cI_91 : inI 91 := by decide
theorem cI_93 : inI 93 := by decide
theorem cI_97 : inI 97 := by decide
theorem cI_99 : inI 99 := by decide
theorem cI_100 : inI 100 := by decide
theorem cI_103 : inI 103 := by decide
theorem cI_108 : inI 108 := by decide
theorem cI_122 : inI 122 := by decide
theorem cI_124 : inI 124 := by decide
theorem cI_143 : inI 143 := by decide
theorem cI_144 : inI 144 := by decide
theorem cI_200 : inI 200 := by decide
theorem cI_255 : inI 255 := by decide
theorem cI_256 : inI 256 := by decide
theorem cI_400 : inI 400 := by decide
theorem cI_500 : inI 500 := by decide
theorem cI_576 : inI 576 := by decide
theorem cI_582 : inI 582 := by decide
theorem cI_800 : inI 800 := by decide
theorem cI_864 : inI 864 := by decide
theorem cI_900 : inI 900 := by decide
theorem cI_1000 : inI 1000 := by decide
theorem cI_1382 : inI 1382 := by decide
theorem cI_1390 : inI 1390 := by decide
theorem cI_1391 : inI 1391 := by decide
theorem cI_1392 : inI 1392 := by decide
theorem cI_99999 : inI 99999 := by decide
theorem cI_252645135 : inI 252645135 := by decide
theorem cI_858993459 : inI 858993459 := by decide
theorem cI_1000000000 : inI 1000000000 := by decide
theorem cI_1431655765 : inI 1431655765 := by decide
theorem cL_m1 : inL (-1) := by decide
theorem cL_0 : inL 0 := by decide
theorem cL_1 : inL 1 := by decide
theorem cL_2 : inL 2 := by decide
theorem cL_3 : inL 3 := by decide
theorem cL_4 : inL 4 := by decide
theorem cL_5 : inL 5 := by decide
theorem cL_6 : inL 6 := by decide
theorem cL_7 : inL 7 := by decide
theorem cL_9 : inL 9 := by decide
theorem cL_10 : inL 10 := by decide
theorem cL_11 : inL 11 := by decide
theorem cL_40 : inL 40 := by decide
theorem cL_99 : inL 99 := by decide
theorem cL_900 : inL 900 := by decide
theorem cL_1000 : inL 1000 := by decide
theorem cL_12345 : inL 12345 := by decide
theorem cL_24948 : inL 24948 := by decide
theorem cL_26479 : inL 26479 := by decide
theorem cL_26982 : inL 26982 := by decide
theorem cL_28526 : inL 28526 := by decide
theorem cL_28530 : inL 28530 := by decide
theorem cL_65536 : inL 65536 := by decide
theorem cL_1000000 : inL 1000000 := by decide
theorem cL_6385252 : inL 6385252 := by decide
theorem cL_7237492 : inL 7237492 := by decide
theorem cL_7562597 : inL 7562597 := by decide
theorem cL_7563636 : inL 7563636 := by decide
theorem cL_7564153 : inL 7564153 := by decide
theorem cL_1000000000 : inL 1000000000 := by decide
theorem cL_1103515245 : inL 1103515245 := by decide
theorem cL_1650549611 : inL 1650549611 := by decide
theorem cL_1702454643 : inL 1702454643 := by decide
theorem cL_1717921132 : inL 1717921132 := by decide
theorem cL_1751216749 : inL 1751216749 := by decide
theorem cL_1751474546 : inL 1751474546 := by decide
theorem cL_1752132965 : inL 1752132965 := by decide
theorem cL_1818584692 : inL 1818584692 := by decide
theorem cL_1819243876 : inL 1819243876 := by decide
theorem cL_1885434984 : inL 1885434984 := by decide
theorem cL_1937007984 : inL 1937007984 := by decide
theorem cL_1937076837 : inL 1937076837 := by decide
theorem cL_2002873452 : inL 2002873452 := by decide
theorem cL_2003395685 : inL 2003395685 := by decide
theorem cL_2147483648 : inL 2147483648 := by decide
theorem cL_431416239732 : inL 431416239732 := by decide
theorem cL_491394656372 : inL 491394656372 := by decide
theorem cL_495874044019 : inL 495874044019 := by decide
theorem cL_113741193899620 : inL 113741193899620 := by decide
theorem cL_126922548994917 : inL 126922548994917 := by decide
theorem cL_126943972911973 : inL 126943972911973 := by decide
theorem cL_30787924973348211 : inL 30787924973348211 := by decide
theorem kmI : Cond.initialized "java/lang/Math" ∈ zTB := (zTB_in (List.mem_of_getElem? (i := 125) (by decide +kernel)) (by decide +kernel))
theorem kmS_i_max : Cond.static Lib.Math.max.name ∈ zTB := (zTB_in (List.mem_of_getElem? (i := 671) (by decide +kernel)) (by decide +kernel))
theorem kmC_i_max : Cond.code Lib.Math.max.name Lib.Math.max.code 2 (some .int) ∈ zTB := (zTB_in (List.mem_of_getElem? (i := 672) (by decide +kernel)) (by decide +kernel))
theorem kmS_i_min : Cond.static Lib.Math.min.name ∈ zTB := (zTB_in (List.mem_of_getElem? (i := 692) (by decide +kernel)) (by decide +kernel))
theorem kmC_i_min : Cond.code Lib.Math.min.name Lib.Math.min.code 2 (some .int) ∈ zTB := (zTB_in (List.mem_of_getElem? (i := 693) (by decide +kernel)) (by decide +kernel))
theorem kmS_i_iabs : Cond.static Lib.Math.abs.name ∈ zTB := (zTB_in (List.mem_of_getElem? (i := 668) (by decide +kernel)) (by decide +kernel))
theorem kmC_i_iabs : Cond.code Lib.Math.abs.name Lib.Math.abs.code 1 (some .int) ∈ zTB := (zTB_in (List.mem_of_getElem? (i := 669) (by decide +kernel)) (by decide +kernel))
theorem kmS_i_lmax : Cond.static Lib.MathLoose.max_long.x ∈ zTB := (zTB_in (List.mem_of_getElem? (i := 861) (by decide +kernel)) (by decide +kernel))
theorem kmC_i_lmax : Cond.code Lib.MathLoose.max_long.x Lib.MathLoose.max_long.code 4 (some .long) ∈ zTB := (zTB_in (List.mem_of_getElem? (i := 862) (by decide +kernel)) (by decide +kernel))
theorem kmS_i_lmin : Cond.static Lib.MathLoose.min_long.x ∈ zTB := (zTB_in (List.mem_of_getElem? (i := 858) (by decide +kernel)) (by decide +kernel))
theorem kmC_i_lmin : Cond.code Lib.MathLoose.min_long.x Lib.MathLoose.min_long.code 4 (some .long) ∈ zTB := (zTB_in (List.mem_of_getElem? (i := 859) (by decide +kernel)) (by decide +kernel))
theorem kaN : Cond.native arraycopyName ∈ zTB := (zTB_in (List.mem_of_getElem? (i := 882) (by decide +kernel)) (by decide +kernel))
theorem kaS : Cond.static arraycopyName ∈ zTB := (zTB_in (List.mem_of_getElem? (i := 881) (by decide +kernel)) (by decide +kernel))
theorem kaI : Cond.initialized "java/lang/System" ∈ zTB := (zTB_in (List.mem_of_getElem? (i := 126) (by decide +kernel)) (by decide +kernel))
/-- a call on a text -/
theorem im_callS {E : zE} {A : Nat → Prop} {adV : Nat → Nat} {l : Launch} {cc : ByteArray} {own : String} {nL : Nat} {rt : Option FieldType} {bp : Nat → Nat} {pc : Nat} {as : List zA} {z n rk ml idx : Nat} (hc : z_Cal z n rk ml) (hcl : (z_mt z).1.cls = RJ0) (hrk : rk = 0 ∨ rk = 1 ∨ rk = 2) (hw : Cond.methodLink own idx (z_mt z).1 ∈ zTB) (hin : Cond.instanceMethod (z_mt z).1 ∈ zTB) (hse : Cond.selects RJ0 (z_mt z).1 (z_mt z).1 ∈ zTB) (hd : decode cc pc = .ok (.invokevirtual idx, 3)) (h : z_Imp E A (z_strOK E adV A) l cc own nL rt bp (pc + 3) as) : z_Imp E A (z_strOK E adV A) l cc own nL rt bp pc (a_callV z (n + 1) rk ml 12 :: as) := by
  intro d C G r hC hG ls st w hb okl oks p e R s m args below meth c cells slots Q cx H locs lv hR hS hL
  unfold z_blk a_callV at hb
  obtain ⟨xs, rest, rfl, hn, hb⟩ := z_pop_s hb
  obtain ⟨hq, hb2⟩ := z_bt hb
  clear hb
  obtain ⟨r', e1, hbb⟩ := z_bind_some hb2
  clear hb2
  rw [Bool.and_eq_true, Bool.and_eq_true] at hq
  have hxs : ∀ v ∈ xs, z_okv v := fun v hv => oks v (List.mem_append_left _ (List.mem_reverse.mpr hv))
  have hrest : z_okS rest := fun v hv => oks v (List.mem_append_right _ hv)
  obtain ⟨d', rfl, hM⟩ := z_okr_get hc (hC _ _ _ _ e1) hxs (Nat.le_of_ble_eq_true hq.2.2)
  have hts := cx.2.2.2.2.1
  have hRm := cx.2.2.2.2.2.2.1
  obtain ⟨i, ys, rfl⟩ : ∃ i ys, xs = vR 12 i :: ys := by
    have h1 := hq.1
    cases xs with
    | nil => cases h1
    | cons x ys =>
      rcases x with x | x | ⟨c1, i⟩
      · cases h1
      · cases h1
      · have := Nat.eq_of_beq_eq_true h1
        subst this
        exact ⟨i, ys, rfl⟩
  obtain ⟨n8, rfl, hn8⟩ := n_of8 (hxs _ List.mem_cons_self)
  have hX := cx.2.2.2.2.2.2.2.1 H locs hS
  have hX0 := cx.2.2.2.2.2.2.2.1 s.heap [] va_S.rf
  refine w_call (a := (Value.ref (E.2.2 12 (n8 : Int)) :: ys.map (z_cv E)).toArray) hrk h hC hG hbb okl hrest cx (w := w) hS hL ?_
  refine va_runV (As := ys.map (z_cv E)) (b := E.2.2 12 (n8 : Int)) (C := RJ0) ⟨cx.1, cx.2.1, cx.2.2.1, cx.2.2.2.1, hts⟩ hM ⟨callB_of n hts (z_good_ws hc) rfl rfl rfl (hts _ hc.2.1) (hts _ hw) hc.2.2.1 (z_rmR hc ⟨hRm.1, hRm.2.1⟩), hts _ hin, hts _ hse⟩ ⟨z_blind (z_strXP E adV A) _ w, vk_recv hX0.1 hn8 hS, fun U hU hW => ⟨rfl, by rw [hU]; exact hR, va_K.moved hW.alike cx.2.2.2.2.2.1, ?_⟩⟩ rfl ?_ hL.1 ?_ ?_ hd ⟨hRm.2.2.1, hRm.2.2.2⟩
  · have := (z_strXP E adV A).2 s U H hX hW
    rw [hU]
    exact this
  · rw [List.length_map]
    simpa using hn
  · show (((vR 12 (n8 : Int) :: ys).reverse ++ rest).map (z_cv E)) = _
    rw [List.reverse_cons, List.map_append, List.map_append, List.map_reverse, List.append_assoc]
    rfl
  · refine lv_room ?_
    rw [z_sz_sum]
    exact Nat.le_of_ble_eq_true hq.2.1
theorem imB_c {E : zE} {A : Nat → Prop} {XH : State → Heap → Prop} {l : Launch} {cc : ByteArray} {own : String} {nL : Nat} {rt : Option FieldType} {bp : Nat → Nat} {k : Nat} {x : List zA} {B : List (List zA)} (h : z_Imp E A XH l cc own nL rt bp (bp k) x) (t : ∀ b, z_Imp E A XH l cc own nL rt bp (bp (k + 1 + b)) (B.getD b [])) : ∀ b, z_Imp E A XH l cc own nL rt bp (bp (k + b)) ((x :: B).getD b []) := fun b => by
  cases b with
  | zero => exact h
  | succ b =>
    have := t b
    rw [show k + 1 + b = k + (b + 1) by omega] at this
    exact this
theorem imB_all {E : zE} {A : Nat → Prop} {XH : State → Heap → Prop} {l : Launch} {cc : ByteArray} {own : String} {nL : Nat} {rt : Option FieldType} {bp : Nat → Nat} {k : Nat} {B : List (List zA)} (h : ∀ b, z_Imp E A XH l cc own nL rt bp (bp (k + b)) (B.getD b [])) (hk : k = 0 := by rfl) : ∀ b, z_Imp E A XH l cc own nL rt bp (bp b) (B.getD b []) := fun b => by
  have := h b
  rw [hk, Nat.zero_add] at this
  exact this
