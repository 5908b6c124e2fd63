/-! methods and links by their places -/
theorem mok_X0_init : MOK yX0_init cX0_init 4 none 3 := ⟨tb_at 202 (by decide +kernel) (by decide +kernel), tb_at 10 (by decide +kernel) (by decide +kernel), ⟨by decide +kernel, by decide +kernel, by decide +kernel⟩, by decide +kernel, by decide⟩
theorem im_X0_init : Cond.instanceMethod yX0_init ∈ TB := tb_at 201 (by decide +kernel) (by decide +kernel)
theorem mok_X0_forget : MOK yX0_forget cX0_forget 1 none 0 := ⟨tb_at 519 (by decide +kernel) (by decide +kernel), tb_at 10 (by decide +kernel) (by decide +kernel), ⟨by decide +kernel, by decide +kernel, by decide +kernel⟩, by decide +kernel, by decide⟩
theorem im_X0_forget : Cond.instanceMethod yX0_forget ∈ TB ∧ Cond.selects yX0_forget.cls yX0_forget yX0_forget ∈ TB := ⟨tb_at 517 (by decide +kernel) (by decide +kernel), tb_at 518 (by decide +kernel) (by decide +kernel)⟩
theorem mok_X0_decide : MOK yX0_decide cX0_decide 5 (some .int) 0 := ⟨tb_at 1175 (by decide +kernel) (by decide +kernel), tb_at 10 (by decide +kernel) (by decide +kernel), ⟨by decide +kernel, by decide +kernel, by decide +kernel⟩, by decide +kernel, by decide⟩
theorem im_X0_decide : Cond.instanceMethod yX0_decide ∈ TB ∧ Cond.selects yX0_decide.cls yX0_decide yX0_decide ∈ TB := ⟨tb_at 1173 (by decide +kernel) (by decide +kernel), tb_at 1174 (by decide +kernel) (by decide +kernel)⟩
theorem mok_X0_follow : MOK yX0_follow cX0_follow 5 (some .boolean) 1 := ⟨tb_at 1227 (by decide +kernel) (by decide +kernel), tb_at 10 (by decide +kernel) (by decide +kernel), ⟨by decide +kernel, by decide +kernel, by decide +kernel⟩, by decide +kernel, by decide⟩
theorem im_X0_follow : Cond.instanceMethod yX0_follow ∈ TB ∧ Cond.selects yX0_follow.cls yX0_follow yX0_follow ∈ TB := ⟨tb_at 1226 (by decide +kernel) (by decide +kernel), tb_sel (q := (yX0_follow, 9)) 42 (by decide +kernel) (by decide +kernel)⟩
theorem mok_X0_operationIn : MOK yX0_operationIn cX0_operationIn 2 (some .int) 1 := ⟨tb_at 1220 (by decide +kernel) (by decide +kernel), tb_at 10 (by decide +kernel) (by decide +kernel), ⟨by decide +kernel, by decide +kernel, by decide +kernel⟩, by decide +kernel, by decide⟩
theorem im_X0_operationIn : Cond.instanceMethod yX0_operationIn ∈ TB ∧ Cond.selects yX0_operationIn.cls yX0_operationIn yX0_operationIn ∈ TB := ⟨tb_at 1219 (by decide +kernel) (by decide +kernel), tb_sel (q := (yX0_operationIn, 9)) 41 (by decide +kernel) (by decide +kernel)⟩
theorem mok_X0_numberIn : MOK yX0_numberIn cX0_numberIn 3 (some .int) 2 := ⟨tb_at 1216 (by decide +kernel) (by decide +kernel), tb_at 10 (by decide +kernel) (by decide +kernel), ⟨by decide +kernel, by decide +kernel, by decide +kernel⟩, by decide +kernel, by decide⟩
theorem im_X0_numberIn : Cond.instanceMethod yX0_numberIn ∈ TB ∧ Cond.selects yX0_numberIn.cls yX0_numberIn yX0_numberIn ∈ TB := ⟨tb_at 1215 (by decide +kernel) (by decide +kernel), tb_sel (q := (yX0_numberIn, 9)) 40 (by decide +kernel) (by decide +kernel)⟩
theorem mok_X0_compile : MOK yX0_compile cX0_compile 4 none 0 := ⟨tb_at 1179 (by decide +kernel) (by decide +kernel), tb_at 10 (by decide +kernel) (by decide +kernel), ⟨by decide +kernel, by decide +kernel, by decide +kernel⟩, by decide +kernel, by decide⟩
theorem im_X0_compile : Cond.instanceMethod yX0_compile ∈ TB ∧ Cond.selects yX0_compile.cls yX0_compile yX0_compile ∈ TB := ⟨tb_at 1178 (by decide +kernel) (by decide +kernel), tb_sel (q := (yX0_compile, 9)) 34 (by decide +kernel) (by decide +kernel)⟩
theorem mok_X0_write : MOK yX0_write cX0_write 7 (some .int) 5 := ⟨tb_at 1184 (by decide +kernel) (by decide +kernel), tb_at 10 (by decide +kernel) (by decide +kernel), ⟨by decide +kernel, by decide +kernel, by decide +kernel⟩, by decide +kernel, by decide⟩
theorem im_X0_write : Cond.instanceMethod yX0_write ∈ TB ∧ Cond.selects yX0_write.cls yX0_write yX0_write ∈ TB := ⟨tb_at 1183 (by decide +kernel) (by decide +kernel), tb_sel (q := (yX0_write, 9)) 35 (by decide +kernel) (by decide +kernel)⟩
theorem mok_X0_land : MOK yX0_land cX0_land 5 none 1 := ⟨tb_at 1202 (by decide +kernel) (by decide +kernel), tb_at 10 (by decide +kernel) (by decide +kernel), ⟨by decide +kernel, by decide +kernel, by decide +kernel⟩, by decide +kernel, by decide⟩
theorem im_X0_land : Cond.instanceMethod yX0_land ∈ TB ∧ Cond.selects yX0_land.cls yX0_land yX0_land ∈ TB := ⟨tb_at 1201 (by decide +kernel) (by decide +kernel), tb_sel (q := (yX0_land, 9)) 38 (by decide +kernel) (by decide +kernel)⟩
theorem mok_X0_writePattern : MOK yX0_writePattern cX0_writePattern 8 (some .int) 4 := ⟨tb_at 1191 (by decide +kernel) (by decide +kernel), tb_at 10 (by decide +kernel) (by decide +kernel), ⟨by decide +kernel, by decide +kernel, by decide +kernel⟩, by decide +kernel, by decide⟩
theorem im_X0_writePattern : Cond.instanceMethod yX0_writePattern ∈ TB ∧ Cond.selects yX0_writePattern.cls yX0_writePattern yX0_writePattern ∈ TB := ⟨tb_at 1190 (by decide +kernel) (by decide +kernel), tb_sel (q := (yX0_writePattern, 9)) 36 (by decide +kernel) (by decide +kernel)⟩
theorem mok_X0_writePatternAndGo : MOK yX0_writePatternAndGo cX0_writePatternAndGo 5 (some .int) 3 := ⟨tb_at 1198 (by decide +kernel) (by decide +kernel), tb_at 10 (by decide +kernel) (by decide +kernel), ⟨by decide +kernel, by decide +kernel, by decide +kernel⟩, by decide +kernel, by decide⟩
theorem im_X0_writePatternAndGo : Cond.instanceMethod yX0_writePatternAndGo ∈ TB ∧ Cond.selects yX0_writePatternAndGo.cls yX0_writePatternAndGo yX0_writePatternAndGo ∈ TB := ⟨tb_at 1197 (by decide +kernel) (by decide +kernel), tb_sel (q := (yX0_writePatternAndGo, 9)) 37 (by decide +kernel) (by decide +kernel)⟩
theorem mok_X0_writeParts : MOK yX0_writeParts cX0_writeParts 8 (some .int) 4 := ⟨tb_at 1211 (by decide +kernel) (by decide +kernel), tb_at 10 (by decide +kernel) (by decide +kernel), ⟨by decide +kernel, by decide +kernel, by decide +kernel⟩, by decide +kernel, by decide⟩
theorem im_X0_writeParts : Cond.instanceMethod yX0_writeParts ∈ TB ∧ Cond.selects yX0_writeParts.cls yX0_writeParts yX0_writeParts ∈ TB := ⟨tb_at 1210 (by decide +kernel) (by decide +kernel), tb_sel (q := (yX0_writeParts, 9)) 39 (by decide +kernel) (by decide +kernel)⟩
theorem mok_X0_writeNumbers : MOK yX0_writeNumbers cX0_writeNumbers 8 (some .int) 4 := ⟨tb_at 1206 (by decide +kernel) (by decide +kernel), tb_at 10 (by decide +kernel) (by decide +kernel), ⟨by decide +kernel, by decide +kernel, by decide +kernel⟩, by decide +kernel, by decide⟩
theorem sm_X0_writeNumbers : Cond.static yX0_writeNumbers ∈ TB := tb_at 1205 (by decide +kernel) (by decide +kernel)
theorem mok_X1_init : MOK yX1_init cX1_init 4 none 3 := ⟨tb_at 151 (by decide +kernel) (by decide +kernel), tb_at 8 (by decide +kernel) (by decide +kernel), ⟨by decide +kernel, by decide +kernel, by decide +kernel⟩, by decide +kernel, by decide⟩
theorem im_X1_init : Cond.instanceMethod yX1_init ∈ TB := tb_at 150 (by decide +kernel) (by decide +kernel)
theorem mok_X1_clear : MOK yX1_clear cX1_clear 1 none 0 := ⟨tb_at 807 (by decide +kernel) (by decide +kernel), tb_at 8 (by decide +kernel) (by decide +kernel), ⟨by decide +kernel, by decide +kernel, by decide +kernel⟩, by decide +kernel, by decide⟩
theorem im_X1_clear : Cond.instanceMethod yX1_clear ∈ TB ∧ Cond.selects yX1_clear.cls yX1_clear yX1_clear ∈ TB := ⟨tb_at 805 (by decide +kernel) (by decide +kernel), tb_at 806 (by decide +kernel) (by decide +kernel)⟩
theorem mok_X1_start : MOK yX1_start cX1_start 4 none 3 := ⟨tb_at 1081 (by decide +kernel) (by decide +kernel), tb_at 8 (by decide +kernel) (by decide +kernel), ⟨by decide +kernel, by decide +kernel, by decide +kernel⟩, by decide +kernel, by decide⟩
theorem im_X1_start : Cond.instanceMethod yX1_start ∈ TB ∧ Cond.selects yX1_start.cls yX1_start yX1_start ∈ TB := ⟨tb_at 1079 (by decide +kernel) (by decide +kernel), tb_at 1080 (by decide +kernel) (by decide +kernel)⟩
theorem mok_X1_testCount : MOK yX1_testCount cX1_testCount 1 (some .int) 0 := ⟨tb_at 1402 (by decide +kernel) (by decide +kernel), tb_at 8 (by decide +kernel) (by decide +kernel), ⟨by decide +kernel, by decide +kernel, by decide +kernel⟩, by decide +kernel, by decide⟩
theorem im_X1_testCount : Cond.instanceMethod yX1_testCount ∈ TB ∧ Cond.selects yX1_testCount.cls yX1_testCount yX1_testCount ∈ TB := ⟨tb_at 1400 (by decide +kernel) (by decide +kernel), tb_at 1401 (by decide +kernel) (by decide +kernel)⟩
theorem mok_X1_viewCount : MOK yX1_viewCount cX1_viewCount 1 (some .int) 0 := ⟨tb_at 1273 (by decide +kernel) (by decide +kernel), tb_at 8 (by decide +kernel) (by decide +kernel), ⟨by decide +kernel, by decide +kernel, by decide +kernel⟩, by decide +kernel, by decide⟩
theorem im_X1_viewCount : Cond.instanceMethod yX1_viewCount ∈ TB ∧ Cond.selects yX1_viewCount.cls yX1_viewCount yX1_viewCount ∈ TB := ⟨tb_at 1271 (by decide +kernel) (by decide +kernel), tb_at 1272 (by decide +kernel) (by decide +kernel)⟩
theorem mok_X1_ranAt : MOK yX1_ranAt cX1_ranAt 2 (some .int) 1 := ⟨tb_at 1284 (by decide +kernel) (by decide +kernel), tb_at 8 (by decide +kernel) (by decide +kernel), ⟨by decide +kernel, by decide +kernel, by decide +kernel⟩, by decide +kernel, by decide⟩
theorem im_X1_ranAt : Cond.instanceMethod yX1_ranAt ∈ TB ∧ Cond.selects yX1_ranAt.cls yX1_ranAt yX1_ranAt ∈ TB := ⟨tb_at 1282 (by decide +kernel) (by decide +kernel), tb_at 1283 (by decide +kernel) (by decide +kernel)⟩
theorem mok_X1_placeOf : MOK yX1_placeOf cX1_placeOf 2 (some .int) 1 := ⟨tb_at 1161 (by decide +kernel) (by decide +kernel), tb_at 8 (by decide +kernel) (by decide +kernel), ⟨by decide +kernel, by decide +kernel, by decide +kernel⟩, by decide +kernel, by decide⟩
theorem im_X1_placeOf : Cond.instanceMethod yX1_placeOf ∈ TB ∧ Cond.selects yX1_placeOf.cls yX1_placeOf yX1_placeOf ∈ TB := ⟨tb_at 1159 (by decide +kernel) (by decide +kernel), tb_at 1160 (by decide +kernel) (by decide +kernel)⟩
theorem mok_X1_unbind : MOK yX1_unbind cX1_unbind 1 none 0 := ⟨tb_at 811 (by decide +kernel) (by decide +kernel), tb_at 8 (by decide +kernel) (by decide +kernel), ⟨by decide +kernel, by decide +kernel, by decide +kernel⟩, by decide +kernel, by decide⟩
theorem im_X1_unbind : Cond.instanceMethod yX1_unbind ∈ TB ∧ Cond.selects yX1_unbind.cls yX1_unbind yX1_unbind ∈ TB := ⟨tb_at 809 (by decide +kernel) (by decide +kernel), tb_at 810 (by decide +kernel) (by decide +kernel)⟩
theorem mok_X1_bind : MOK yX1_bind cX1_bind 3 none 2 := ⟨tb_at 1105 (by decide +kernel) (by decide +kernel), tb_at 8 (by decide +kernel) (by decide +kernel), ⟨by decide +kernel, by decide +kernel, by decide +kernel⟩, by decide +kernel, by decide⟩
theorem im_X1_bind : Cond.instanceMethod yX1_bind ∈ TB ∧ Cond.selects yX1_bind.cls yX1_bind yX1_bind ∈ TB := ⟨tb_at 1103 (by decide +kernel) (by decide +kernel), tb_at 1104 (by decide +kernel) (by decide +kernel)⟩
theorem mok_X1_countTest : MOK yX1_countTest cX1_countTest 1 none 0 := ⟨tb_at 1133 (by decide +kernel) (by decide +kernel), tb_at 8 (by decide +kernel) (by decide +kernel), ⟨by decide +kernel, by decide +kernel, by decide +kernel⟩, by decide +kernel, by decide⟩
theorem im_X1_countTest : Cond.instanceMethod yX1_countTest ∈ TB ∧ Cond.selects yX1_countTest.cls yX1_countTest yX1_countTest ∈ TB := ⟨tb_at 1131 (by decide +kernel) (by decide +kernel), tb_at 1132 (by decide +kernel) (by decide +kernel)⟩
theorem mok_X1_headAt : MOK yX1_headAt cX1_headAt 2 (some .int) 1 := ⟨tb_at 1142 (by decide +kernel) (by decide +kernel), tb_at 8 (by decide +kernel) (by decide +kernel), ⟨by decide +kernel, by decide +kernel, by decide +kernel⟩, by decide +kernel, by decide⟩
theorem im_X1_headAt : Cond.instanceMethod yX1_headAt ∈ TB ∧ Cond.selects yX1_headAt.cls yX1_headAt yX1_headAt ∈ TB := ⟨tb_at 1140 (by decide +kernel) (by decide +kernel), tb_at 1141 (by decide +kernel) (by decide +kernel)⟩
theorem mok_X1_open : MOK yX1_open cX1_open 4 none 1 := ⟨tb_at 1147 (by decide +kernel) (by decide +kernel), tb_at 8 (by decide +kernel) (by decide +kernel), ⟨by decide +kernel, by decide +kernel, by decide +kernel⟩, by decide +kernel, by decide⟩
theorem im_X1_open : Cond.instanceMethod yX1_open ∈ TB ∧ Cond.selects yX1_open.cls yX1_open yX1_open ∈ TB := ⟨tb_at 1145 (by decide +kernel) (by decide +kernel), tb_at 1146 (by decide +kernel) (by decide +kernel)⟩
theorem mok_X1_look : MOK yX1_look cX1_look 5 (some .int) 2 := ⟨tb_at 1110 (by decide +kernel) (by decide +kernel), tb_at 8 (by decide +kernel) (by decide +kernel), ⟨by decide +kernel, by decide +kernel, by decide +kernel⟩, by decide +kernel, by decide⟩
theorem im_X1_look : Cond.instanceMethod yX1_look ∈ TB ∧ Cond.selects yX1_look.cls yX1_look yX1_look ∈ TB := ⟨tb_at 1108 (by decide +kernel) (by decide +kernel), tb_at 1109 (by decide +kernel) (by decide +kernel)⟩
theorem mok_X1_guardOf : MOK yX1_guardOf cX1_guardOf 4 (some .int) 1 := ⟨tb_at 1156 (by decide +kernel) (by decide +kernel), tb_at 8 (by decide +kernel) (by decide +kernel), ⟨by decide +kernel, by decide +kernel, by decide +kernel⟩, by decide +kernel, by decide⟩
theorem im_X1_guardOf : Cond.instanceMethod yX1_guardOf ∈ TB ∧ Cond.selects yX1_guardOf.cls yX1_guardOf yX1_guardOf ∈ TB := ⟨tb_at 1154 (by decide +kernel) (by decide +kernel), tb_at 1155 (by decide +kernel) (by decide +kernel)⟩
theorem mok_X1_take : MOK yX1_take cX1_take 2 (some .int) 1 := ⟨tb_at 1166 (by decide +kernel) (by decide +kernel), tb_at 8 (by decide +kernel) (by decide +kernel), ⟨by decide +kernel, by decide +kernel, by decide +kernel⟩, by decide +kernel, by decide⟩
theorem im_X1_take : Cond.instanceMethod yX1_take ∈ TB ∧ Cond.selects yX1_take.cls yX1_take yX1_take ∈ TB := ⟨tb_at 1164 (by decide +kernel) (by decide +kernel), tb_at 1165 (by decide +kernel) (by decide +kernel)⟩
theorem mok_X1_miss : MOK yX1_miss cX1_miss 1 (some .int) 0 := ⟨tb_at 1171 (by decide +kernel) (by decide +kernel), tb_at 8 (by decide +kernel) (by decide +kernel), ⟨by decide +kernel, by decide +kernel, by decide +kernel⟩, by decide +kernel, by decide⟩
theorem im_X1_miss : Cond.instanceMethod yX1_miss ∈ TB ∧ Cond.selects yX1_miss.cls yX1_miss yX1_miss ∈ TB := ⟨tb_at 1169 (by decide +kernel) (by decide +kernel), tb_at 1170 (by decide +kernel) (by decide +kernel)⟩
theorem mok_X2_init : MOK yX2_init cX2_init 1 none 0 := ⟨tb_at 33 (by decide +kernel) (by decide +kernel), tb_at 2 (by decide +kernel) (by decide +kernel), ⟨by decide +kernel, by decide +kernel, by decide +kernel⟩, by decide +kernel, by decide⟩
theorem im_X2_init : Cond.instanceMethod yX2_init ∈ TB := tb_at 32 (by decide +kernel) (by decide +kernel)
theorem mok_X2_isType : MOK yX2_isType cX2_isType 1 (some .boolean) 1 := ⟨tb_at 384 (by decide +kernel) (by decide +kernel), tb_at 2 (by decide +kernel) (by decide +kernel), ⟨by decide +kernel, by decide +kernel, by decide +kernel⟩, by decide +kernel, by decide⟩
theorem sm_X2_isType : Cond.static yX2_isType ∈ TB := tb_at 383 (by decide +kernel) (by decide +kernel)
theorem mok_X2_isKind : MOK yX2_isKind cX2_isKind 1 (some .boolean) 1 := ⟨tb_at 484 (by decide +kernel) (by decide +kernel), tb_at 2 (by decide +kernel) (by decide +kernel), ⟨by decide +kernel, by decide +kernel, by decide +kernel⟩, by decide +kernel, by decide⟩
theorem sm_X2_isKind : Cond.static yX2_isKind ∈ TB := tb_at 483 (by decide +kernel) (by decide +kernel)
theorem mok_X2_countOf : MOK yX2_countOf cX2_countOf 2 (some .int) 1 := ⟨tb_at 489 (by decide +kernel) (by decide +kernel), tb_at 2 (by decide +kernel) (by decide +kernel), ⟨by decide +kernel, by decide +kernel, by decide +kernel⟩, by decide +kernel, by decide⟩
theorem im_X2_countOf : Cond.instanceMethod yX2_countOf ∈ TB ∧ Cond.selects yX2_countOf.cls yX2_countOf yX2_countOf ∈ TB := ⟨tb_at 487 (by decide +kernel) (by decide +kernel), tb_at 488 (by decide +kernel) (by decide +kernel)⟩
theorem mok_X2_has : MOK yX2_has cX2_has 3 (some .boolean) 2 := ⟨tb_at 597 (by decide +kernel) (by decide +kernel), tb_at 2 (by decide +kernel) (by decide +kernel), ⟨by decide +kernel, by decide +kernel, by decide +kernel⟩, by decide +kernel, by decide⟩
theorem im_X2_has : Cond.instanceMethod yX2_has ∈ TB ∧ Cond.selects yX2_has.cls yX2_has yX2_has ∈ TB := ⟨tb_at 595 (by decide +kernel) (by decide +kernel), tb_at 596 (by decide +kernel) (by decide +kernel)⟩
theorem mok_X2_fieldsOf : MOK yX2_fieldsOf cX2_fieldsOf 3 (some .int) 2 := ⟨tb_at 601 (by decide +kernel) (by decide +kernel), tb_at 2 (by decide +kernel) (by decide +kernel), ⟨by decide +kernel, by decide +kernel, by decide +kernel⟩, by decide +kernel, by decide⟩
theorem im_X2_fieldsOf : Cond.instanceMethod yX2_fieldsOf ∈ TB ∧ Cond.selects yX2_fieldsOf.cls yX2_fieldsOf yX2_fieldsOf ∈ TB := ⟨tb_at 599 (by decide +kernel) (by decide +kernel), tb_at 600 (by decide +kernel) (by decide +kernel)⟩
theorem mok_X2_fieldKind : MOK yX2_fieldKind cX2_fieldKind 5 (some .int) 3 := ⟨tb_at 615 (by decide +kernel) (by decide +kernel), tb_at 2 (by decide +kernel) (by decide +kernel), ⟨by decide +kernel, by decide +kernel, by decide +kernel⟩, by decide +kernel, by decide⟩
theorem im_X2_fieldKind : Cond.instanceMethod yX2_fieldKind ∈ TB ∧ Cond.selects yX2_fieldKind.cls yX2_fieldKind yX2_fieldKind ∈ TB := ⟨tb_at 613 (by decide +kernel) (by decide +kernel), tb_at 614 (by decide +kernel) (by decide +kernel)⟩
theorem mok_X2_extend : MOK yX2_extend cX2_extend 9 (some .int) 5 := ⟨tb_at 527 (by decide +kernel) (by decide +kernel), tb_at 2 (by decide +kernel) (by decide +kernel), ⟨by decide +kernel, by decide +kernel, by decide +kernel⟩, by decide +kernel, by decide⟩
theorem im_X2_extend : Cond.instanceMethod yX2_extend ∈ TB ∧ Cond.selects yX2_extend.cls yX2_extend yX2_extend ∈ TB := ⟨tb_at 525 (by decide +kernel) (by decide +kernel), tb_at 526 (by decide +kernel) (by decide +kernel)⟩
theorem mok_X2_headsOf : MOK yX2_headsOf cX2_headsOf 2 (some .int) 1 := ⟨tb_at 1048 (by decide +kernel) (by decide +kernel), tb_at 2 (by decide +kernel) (by decide +kernel), ⟨by decide +kernel, by decide +kernel, by decide +kernel⟩, by decide +kernel, by decide⟩
theorem im_X2_headsOf : Cond.instanceMethod yX2_headsOf ∈ TB ∧ Cond.selects yX2_headsOf.cls yX2_headsOf yX2_headsOf ∈ TB := ⟨tb_at 1046 (by decide +kernel) (by decide +kernel), tb_at 1047 (by decide +kernel) (by decide +kernel)⟩
theorem mok_X3_init : MOK yX3_init cX3_init 5 none 4 := ⟨tb_at 236 (by decide +kernel) (by decide +kernel), tb_at 11 (by decide +kernel) (by decide +kernel), ⟨by decide +kernel, by decide +kernel, by decide +kernel⟩, by decide +kernel, by decide⟩
theorem im_X3_init : Cond.instanceMethod yX3_init ∈ TB := tb_at 235 (by decide +kernel) (by decide +kernel)
theorem mok_X3_clear : MOK yX3_clear cX3_clear 1 none 0 := ⟨tb_at 926 (by decide +kernel) (by decide +kernel), tb_at 11 (by decide +kernel) (by decide +kernel), ⟨by decide +kernel, by decide +kernel, by decide +kernel⟩, by decide +kernel, by decide⟩
theorem im_X3_clear : Cond.instanceMethod yX3_clear ∈ TB ∧ Cond.selects yX3_clear.cls yX3_clear yX3_clear ∈ TB := ⟨tb_at 924 (by decide +kernel) (by decide +kernel), tb_at 925 (by decide +kernel) (by decide +kernel)⟩
theorem mok_X3_learnHead : MOK yX3_learnHead cX3_learnHead 3 none 2 := ⟨tb_at 1061 (by decide +kernel) (by decide +kernel), tb_at 11 (by decide +kernel) (by decide +kernel), ⟨by decide +kernel, by decide +kernel, by decide +kernel⟩, by decide +kernel, by decide⟩
theorem im_X3_learnHead : Cond.instanceMethod yX3_learnHead ∈ TB ∧ Cond.selects yX3_learnHead.cls yX3_learnHead yX3_learnHead ∈ TB := ⟨tb_at 1059 (by decide +kernel) (by decide +kernel), tb_at 1060 (by decide +kernel) (by decide +kernel)⟩
theorem mok_X3_learnGiven : MOK yX3_learnGiven cX3_learnGiven 4 none 3 := ⟨tb_at 1069 (by decide +kernel) (by decide +kernel), tb_at 11 (by decide +kernel) (by decide +kernel), ⟨by decide +kernel, by decide +kernel, by decide +kernel⟩, by decide +kernel, by decide⟩
theorem im_X3_learnGiven : Cond.instanceMethod yX3_learnGiven ∈ TB ∧ Cond.selects yX3_learnGiven.cls yX3_learnGiven yX3_learnGiven ∈ TB := ⟨tb_at 1067 (by decide +kernel) (by decide +kernel), tb_at 1068 (by decide +kernel) (by decide +kernel)⟩
theorem mok_X3_learnFailed : MOK yX3_learnFailed cX3_learnFailed 3 none 2 := ⟨tb_at 1077 (by decide +kernel) (by decide +kernel), tb_at 11 (by decide +kernel) (by decide +kernel), ⟨by decide +kernel, by decide +kernel, by decide +kernel⟩, by decide +kernel, by decide⟩
theorem im_X3_learnFailed : Cond.instanceMethod yX3_learnFailed ∈ TB ∧ Cond.selects yX3_learnFailed.cls yX3_learnFailed yX3_learnFailed ∈ TB := ⟨tb_at 1075 (by decide +kernel) (by decide +kernel), tb_at 1076 (by decide +kernel) (by decide +kernel)⟩
theorem mok_X3_sort : MOK yX3_sort cX3_sort 1 (some .int) 0 := ⟨tb_at 1006 (by decide +kernel) (by decide +kernel), tb_at 11 (by decide +kernel) (by decide +kernel), ⟨by decide +kernel, by decide +kernel, by decide +kernel⟩, by decide +kernel, by decide⟩
theorem im_X3_sort : Cond.instanceMethod yX3_sort ∈ TB ∧ Cond.selects yX3_sort.cls yX3_sort yX3_sort ∈ TB := ⟨tb_at 1004 (by decide +kernel) (by decide +kernel), tb_at 1005 (by decide +kernel) (by decide +kernel)⟩
theorem mok_X3_what : MOK yX3_what cX3_what 1 (some .int) 0 := ⟨tb_at 1040 (by decide +kernel) (by decide +kernel), tb_at 11 (by decide +kernel) (by decide +kernel), ⟨by decide +kernel, by decide +kernel, by decide +kernel⟩, by decide +kernel, by decide⟩
theorem im_X3_what : Cond.instanceMethod yX3_what ∈ TB ∧ Cond.selects yX3_what.cls yX3_what yX3_what ∈ TB := ⟨tb_at 1038 (by decide +kernel) (by decide +kernel), tb_at 1039 (by decide +kernel) (by decide +kernel)⟩
theorem mok_X3_which : MOK yX3_which cX3_which 1 (some .int) 0 := ⟨tb_at 1036 (by decide +kernel) (by decide +kernel), tb_at 11 (by decide +kernel) (by decide +kernel), ⟨by decide +kernel, by decide +kernel, by decide +kernel⟩, by decide +kernel, by decide⟩
theorem im_X3_which : Cond.instanceMethod yX3_which ∈ TB ∧ Cond.selects yX3_which.cls yX3_which yX3_which ∈ TB := ⟨tb_at 1034 (by decide +kernel) (by decide +kernel), tb_at 1035 (by decide +kernel) (by decide +kernel)⟩
theorem mok_X3_placeOf : MOK yX3_placeOf cX3_placeOf 2 (some .int) 1 := ⟨tb_at 1248 (by decide +kernel) (by decide +kernel), tb_at 11 (by decide +kernel) (by decide +kernel), ⟨by decide +kernel, by decide +kernel, by decide +kernel⟩, by decide +kernel, by decide⟩
theorem im_X3_placeOf : Cond.instanceMethod yX3_placeOf ∈ TB ∧ Cond.selects yX3_placeOf.cls yX3_placeOf yX3_placeOf ∈ TB := ⟨tb_at 1246 (by decide +kernel) (by decide +kernel), tb_at 1247 (by decide +kernel) (by decide +kernel)⟩
theorem mok_X3_width : MOK yX3_width cX3_width 1 (some .int) 0 := ⟨tb_at 1044 (by decide +kernel) (by decide +kernel), tb_at 11 (by decide +kernel) (by decide +kernel), ⟨by decide +kernel, by decide +kernel, by decide +kernel⟩, by decide +kernel, by decide⟩
theorem im_X3_width : Cond.instanceMethod yX3_width ∈ TB ∧ Cond.selects yX3_width.cls yX3_width yX3_width ∈ TB := ⟨tb_at 1042 (by decide +kernel) (by decide +kernel), tb_at 1043 (by decide +kernel) (by decide +kernel)⟩
theorem mok_X3_seekGuard : MOK yX3_seekGuard cX3_seekGuard 4 (some .boolean) 2 := ⟨tb_at 945 (by decide +kernel) (by decide +kernel), tb_at 11 (by decide +kernel) (by decide +kernel), ⟨by decide +kernel, by decide +kernel, by decide +kernel⟩, by decide +kernel, by decide⟩
theorem im_X3_seekGuard : Cond.instanceMethod yX3_seekGuard ∈ TB ∧ Cond.selects yX3_seekGuard.cls yX3_seekGuard yX3_seekGuard ∈ TB := ⟨tb_at 943 (by decide +kernel) (by decide +kernel), tb_at 944 (by decide +kernel) (by decide +kernel)⟩
theorem mok_X3_seek : MOK yX3_seek cX3_seek 3 none 0 := ⟨tb_at 954 (by decide +kernel) (by decide +kernel), tb_at 11 (by decide +kernel) (by decide +kernel), ⟨by decide +kernel, by decide +kernel, by decide +kernel⟩, by decide +kernel, by decide⟩
theorem im_X3_seek : Cond.instanceMethod yX3_seek ∈ TB ∧ Cond.selects yX3_seek.cls yX3_seek yX3_seek ∈ TB := ⟨tb_at 952 (by decide +kernel) (by decide +kernel), tb_at 953 (by decide +kernel) (by decide +kernel)⟩
theorem mok_X3_tryCase : MOK yX3_tryCase cX3_tryCase 4 (some .int) 1 := ⟨tb_at 963 (by decide +kernel) (by decide +kernel), tb_at 11 (by decide +kernel) (by decide +kernel), ⟨by decide +kernel, by decide +kernel, by decide +kernel⟩, by decide +kernel, by decide⟩
theorem im_X3_tryCase : Cond.instanceMethod yX3_tryCase ∈ TB ∧ Cond.selects yX3_tryCase.cls yX3_tryCase yX3_tryCase ∈ TB := ⟨tb_at 961 (by decide +kernel) (by decide +kernel), tb_at 962 (by decide +kernel) (by decide +kernel)⟩
theorem mok_X3_hasFailed : MOK yX3_hasFailed cX3_hasFailed 2 (some .boolean) 1 := ⟨tb_at 959 (by decide +kernel) (by decide +kernel), tb_at 11 (by decide +kernel) (by decide +kernel), ⟨by decide +kernel, by decide +kernel, by decide +kernel⟩, by decide +kernel, by decide⟩
theorem im_X3_hasFailed : Cond.instanceMethod yX3_hasFailed ∈ TB ∧ Cond.selects yX3_hasFailed.cls yX3_hasFailed yX3_hasFailed ∈ TB := ⟨tb_at 958 (by decide +kernel) (by decide +kernel), tb_sel (q := (yX3_hasFailed, 14)) 19 (by decide +kernel) (by decide +kernel)⟩
theorem mok_X3_setNext : MOK yX3_setNext cX3_setNext 4 none 3 := ⟨tb_at 950 (by decide +kernel) (by decide +kernel), tb_at 11 (by decide +kernel) (by decide +kernel), ⟨by decide +kernel, by decide +kernel, by decide +kernel⟩, by decide +kernel, by decide⟩
theorem im_X3_setNext : Cond.instanceMethod yX3_setNext ∈ TB ∧ Cond.selects yX3_setNext.cls yX3_setNext yX3_setNext ∈ TB := ⟨tb_at 949 (by decide +kernel) (by decide +kernel), tb_sel (q := (yX3_setNext, 14)) 18 (by decide +kernel) (by decide +kernel)⟩
theorem mok_X3_ask : MOK yX3_ask cX3_ask 4 (some .int) 3 := ⟨tb_at 980 (by decide +kernel) (by decide +kernel), tb_at 11 (by decide +kernel) (by decide +kernel), ⟨by decide +kernel, by decide +kernel, by decide +kernel⟩, by decide +kernel, by decide⟩
theorem im_X3_ask : Cond.instanceMethod yX3_ask ∈ TB ∧ Cond.selects yX3_ask.cls yX3_ask yX3_ask ∈ TB := ⟨tb_at 979 (by decide +kernel) (by decide +kernel), tb_sel (q := (yX3_ask, 14)) 21 (by decide +kernel) (by decide +kernel)⟩
theorem mok_X3_tryAt : MOK yX3_tryAt cX3_tryAt 7 (some .int) 3 := ⟨tb_at 968 (by decide +kernel) (by decide +kernel), tb_at 11 (by decide +kernel) (by decide +kernel), ⟨by decide +kernel, by decide +kernel, by decide +kernel⟩, by decide +kernel, by decide⟩
theorem im_X3_tryAt : Cond.instanceMethod yX3_tryAt ∈ TB ∧ Cond.selects yX3_tryAt.cls yX3_tryAt yX3_tryAt ∈ TB := ⟨tb_at 967 (by decide +kernel) (by decide +kernel), tb_sel (q := (yX3_tryAt, 14)) 20 (by decide +kernel) (by decide +kernel)⟩
theorem mok_X3_tryHead : MOK yX3_tryHead cX3_tryHead 8 (some .int) 3 := ⟨tb_at 988 (by decide +kernel) (by decide +kernel), tb_at 11 (by decide +kernel) (by decide +kernel), ⟨by decide +kernel, by decide +kernel, by decide +kernel⟩, by decide +kernel, by decide⟩
theorem im_X3_tryHead : Cond.instanceMethod yX3_tryHead ∈ TB ∧ Cond.selects yX3_tryHead.cls yX3_tryHead yX3_tryHead ∈ TB := ⟨tb_at 987 (by decide +kernel) (by decide +kernel), tb_sel (q := (yX3_tryHead, 14)) 22 (by decide +kernel) (by decide +kernel)⟩
theorem mok_X3_seekMost : MOK yX3_seekMost cX3_seekMost 8 none 0 := ⟨tb_at 1010 (by decide +kernel) (by decide +kernel), tb_at 11 (by decide +kernel) (by decide +kernel), ⟨by decide +kernel, by decide +kernel, by decide +kernel⟩, by decide +kernel, by decide⟩
theorem im_X3_seekMost : Cond.instanceMethod yX3_seekMost ∈ TB ∧ Cond.selects yX3_seekMost.cls yX3_seekMost yX3_seekMost ∈ TB := ⟨tb_at 1008 (by decide +kernel) (by decide +kernel), tb_at 1009 (by decide +kernel) (by decide +kernel)⟩
theorem mok_X3_need : MOK yX3_need cX3_need 6 none 4 := ⟨tb_at 1014 (by decide +kernel) (by decide +kernel), tb_at 11 (by decide +kernel) (by decide +kernel), ⟨by decide +kernel, by decide +kernel, by decide +kernel⟩, by decide +kernel, by decide⟩
theorem im_X3_need : Cond.instanceMethod yX3_need ∈ TB ∧ Cond.selects yX3_need.cls yX3_need yX3_need ∈ TB := ⟨tb_at 1013 (by decide +kernel) (by decide +kernel), tb_sel (q := (yX3_need, 14)) 23 (by decide +kernel) (by decide +kernel)⟩
theorem mok_X3_needHead : MOK yX3_needHead cX3_needHead 8 none 4 := ⟨tb_at 1018 (by decide +kernel) (by decide +kernel), tb_at 11 (by decide +kernel) (by decide +kernel), ⟨by decide +kernel, by decide +kernel, by decide +kernel⟩, by decide +kernel, by decide⟩
theorem im_X3_needHead : Cond.instanceMethod yX3_needHead ∈ TB ∧ Cond.selects yX3_needHead.cls yX3_needHead yX3_needHead ∈ TB := ⟨tb_at 1017 (by decide +kernel) (by decide +kernel), tb_sel (q := (yX3_needHead, 14)) 24 (by decide +kernel) (by decide +kernel)⟩
theorem mok_X3_markNeed : MOK yX3_markNeed cX3_markNeed 5 none 3 := ⟨tb_at 1022 (by decide +kernel) (by decide +kernel), tb_at 11 (by decide +kernel) (by decide +kernel), ⟨by decide +kernel, by decide +kernel, by decide +kernel⟩, by decide +kernel, by decide⟩
theorem im_X3_markNeed : Cond.instanceMethod yX3_markNeed ∈ TB ∧ Cond.selects yX3_markNeed.cls yX3_markNeed yX3_markNeed ∈ TB := ⟨tb_at 1021 (by decide +kernel) (by decide +kernel), tb_sel (q := (yX3_markNeed, 14)) 25 (by decide +kernel) (by decide +kernel)⟩
theorem mok_X4_init : MOK yX4_init cX4_init 1 none 0 := ⟨tb_at 132 (by decide +kernel) (by decide +kernel), tb_at 7 (by decide +kernel) (by decide +kernel), ⟨by decide +kernel, by decide +kernel, by decide +kernel⟩, by decide +kernel, by decide⟩
theorem im_X4_init : Cond.instanceMethod yX4_init ∈ TB := tb_at 131 (by decide +kernel) (by decide +kernel)
theorem mok_X4_isThere : MOK yX4_isThere cX4_isThere 1 (some .boolean) 0 := ⟨tb_at 914 (by decide +kernel) (by decide +kernel), tb_at 7 (by decide +kernel) (by decide +kernel), ⟨by decide +kernel, by decide +kernel, by decide +kernel⟩, by decide +kernel, by decide⟩
theorem im_X4_isThere : Cond.instanceMethod yX4_isThere ∈ TB ∧ Cond.selects yX4_isThere.cls yX4_isThere yX4_isThere ∈ TB := ⟨tb_at 912 (by decide +kernel) (by decide +kernel), tb_at 913 (by decide +kernel) (by decide +kernel)⟩
theorem mok_X4_columns : MOK yX4_columns cX4_columns 1 (some .int) 0 := ⟨tb_at 836 (by decide +kernel) (by decide +kernel), tb_at 7 (by decide +kernel) (by decide +kernel), ⟨by decide +kernel, by decide +kernel, by decide +kernel⟩, by decide +kernel, by decide⟩
theorem im_X4_columns : Cond.instanceMethod yX4_columns ∈ TB ∧ Cond.selects yX4_columns.cls yX4_columns yX4_columns ∈ TB := ⟨tb_at 834 (by decide +kernel) (by decide +kernel), tb_at 835 (by decide +kernel) (by decide +kernel)⟩
theorem mok_X4_hasColumn : MOK yX4_hasColumn cX4_hasColumn 2 (some .boolean) 1 := ⟨tb_at 873 (by decide +kernel) (by decide +kernel), tb_at 7 (by decide +kernel) (by decide +kernel), ⟨by decide +kernel, by decide +kernel, by decide +kernel⟩, by decide +kernel, by decide⟩
theorem im_X4_hasColumn : Cond.instanceMethod yX4_hasColumn ∈ TB ∧ Cond.selects yX4_hasColumn.cls yX4_hasColumn yX4_hasColumn ∈ TB := ⟨tb_at 871 (by decide +kernel) (by decide +kernel), tb_at 872 (by decide +kernel) (by decide +kernel)⟩
theorem mok_X4_kindOf : MOK yX4_kindOf cX4_kindOf 2 (some .int) 1 := ⟨tb_at 847 (by decide +kernel) (by decide +kernel), tb_at 7 (by decide +kernel) (by decide +kernel), ⟨by decide +kernel, by decide +kernel, by decide +kernel⟩, by decide +kernel, by decide⟩
theorem im_X4_kindOf : Cond.instanceMethod yX4_kindOf ∈ TB ∧ Cond.selects yX4_kindOf.cls yX4_kindOf yX4_kindOf ∈ TB := ⟨tb_at 845 (by decide +kernel) (by decide +kernel), tb_at 846 (by decide +kernel) (by decide +kernel)⟩
theorem mok_X4_count : MOK yX4_count cX4_count 1 (some .int) 0 := ⟨tb_at 878 (by decide +kernel) (by decide +kernel), tb_at 7 (by decide +kernel) (by decide +kernel), ⟨by decide +kernel, by decide +kernel, by decide +kernel⟩, by decide +kernel, by decide⟩
theorem im_X4_count : Cond.instanceMethod yX4_count ∈ TB ∧ Cond.selects yX4_count.cls yX4_count yX4_count ∈ TB := ⟨tb_at 876 (by decide +kernel) (by decide +kernel), tb_at 877 (by decide +kernel) (by decide +kernel)⟩
theorem mok_X4_has : MOK yX4_has cX4_has 2 (some .boolean) 1 := ⟨tb_at 828 (by decide +kernel) (by decide +kernel), tb_at 7 (by decide +kernel) (by decide +kernel), ⟨by decide +kernel, by decide +kernel, by decide +kernel⟩, by decide +kernel, by decide⟩
theorem im_X4_has : Cond.instanceMethod yX4_has ∈ TB ∧ Cond.selects yX4_has.cls yX4_has yX4_has ∈ TB := ⟨tb_at 826 (by decide +kernel) (by decide +kernel), tb_at 827 (by decide +kernel) (by decide +kernel)⟩
theorem mok_X4_get : MOK yX4_get cX4_get 3 (some .int) 2 := ⟨tb_at 840 (by decide +kernel) (by decide +kernel), tb_at 7 (by decide +kernel) (by decide +kernel), ⟨by decide +kernel, by decide +kernel, by decide +kernel⟩, by decide +kernel, by decide⟩
theorem im_X4_get : Cond.instanceMethod yX4_get ∈ TB ∧ Cond.selects yX4_get.cls yX4_get yX4_get ∈ TB := ⟨tb_at 838 (by decide +kernel) (by decide +kernel), tb_at 839 (by decide +kernel) (by decide +kernel)⟩
theorem mok_X4_set : MOK yX4_set cX4_set 4 none 3 := ⟨tb_at 862 (by decide +kernel) (by decide +kernel), tb_at 7 (by decide +kernel) (by decide +kernel), ⟨by decide +kernel, by decide +kernel, by decide +kernel⟩, by decide +kernel, by decide⟩
theorem im_X4_set : Cond.instanceMethod yX4_set ∈ TB ∧ Cond.selects yX4_set.cls yX4_set yX4_set ∈ TB := ⟨tb_at 860 (by decide +kernel) (by decide +kernel), tb_at 861 (by decide +kernel) (by decide +kernel)⟩
theorem mok_X4_start : MOK yX4_start cX4_start 7 (some .int) 4 := ⟨tb_at 815 (by decide +kernel) (by decide +kernel), tb_at 7 (by decide +kernel) (by decide +kernel), ⟨by decide +kernel, by decide +kernel, by decide +kernel⟩, by decide +kernel, by decide⟩
theorem im_X4_start : Cond.instanceMethod yX4_start ∈ TB ∧ Cond.selects yX4_start.cls yX4_start yX4_start ∈ TB := ⟨tb_at 813 (by decide +kernel) (by decide +kernel), tb_at 814 (by decide +kernel) (by decide +kernel)⟩
theorem mok_X4_append : MOK yX4_append cX4_append 7 (some .int) 4 := ⟨tb_at 1349 (by decide +kernel) (by decide +kernel), tb_at 7 (by decide +kernel) (by decide +kernel), ⟨by decide +kernel, by decide +kernel, by decide +kernel⟩, by decide +kernel, by decide⟩
theorem im_X4_append : Cond.instanceMethod yX4_append ∈ TB ∧ Cond.selects yX4_append.cls yX4_append yX4_append ∈ TB := ⟨tb_at 1347 (by decide +kernel) (by decide +kernel), tb_at 1348 (by decide +kernel) (by decide +kernel)⟩
theorem mok_X4_areAlike : MOK yX4_areAlike cX4_areAlike 5 (some .boolean) 3 := ⟨tb_at 899 (by decide +kernel) (by decide +kernel), tb_at 7 (by decide +kernel) (by decide +kernel), ⟨by decide +kernel, by decide +kernel, by decide +kernel⟩, by decide +kernel, by decide⟩
theorem im_X4_areAlike : Cond.instanceMethod yX4_areAlike ∈ TB ∧ Cond.selects yX4_areAlike.cls yX4_areAlike yX4_areAlike ∈ TB := ⟨tb_at 897 (by decide +kernel) (by decide +kernel), tb_at 898 (by decide +kernel) (by decide +kernel)⟩
theorem mok_X4_doubleCase : MOK yX4_doubleCase cX4_doubleCase 3 none 1 := ⟨tb_at 882 (by decide +kernel) (by decide +kernel), tb_at 7 (by decide +kernel) (by decide +kernel), ⟨by decide +kernel, by decide +kernel, by decide +kernel⟩, by decide +kernel, by decide⟩
theorem im_X4_doubleCase : Cond.instanceMethod yX4_doubleCase ∈ TB ∧ Cond.selects yX4_doubleCase.cls yX4_doubleCase yX4_doubleCase ∈ TB := ⟨tb_at 880 (by decide +kernel) (by decide +kernel), tb_at 881 (by decide +kernel) (by decide +kernel)⟩
theorem mok_X4_dropCase : MOK yX4_dropCase cX4_dropCase 3 none 1 := ⟨tb_at 903 (by decide +kernel) (by decide +kernel), tb_at 7 (by decide +kernel) (by decide +kernel), ⟨by decide +kernel, by decide +kernel, by decide +kernel⟩, by decide +kernel, by decide⟩
theorem im_X4_dropCase : Cond.instanceMethod yX4_dropCase ∈ TB ∧ Cond.selects yX4_dropCase.cls yX4_dropCase yX4_dropCase ∈ TB := ⟨tb_at 901 (by decide +kernel) (by decide +kernel), tb_at 902 (by decide +kernel) (by decide +kernel)⟩
theorem mok_X4_copyCase : MOK yX4_copyCase cX4_copyCase 4 none 2 := ⟨tb_at 886 (by decide +kernel) (by decide +kernel), tb_at 7 (by decide +kernel) (by decide +kernel), ⟨by decide +kernel, by decide +kernel, by decide +kernel⟩, by decide +kernel, by decide⟩
theorem im_X4_copyCase : Cond.instanceMethod yX4_copyCase ∈ TB ∧ Cond.selects yX4_copyCase.cls yX4_copyCase yX4_copyCase ∈ TB := ⟨tb_at 885 (by decide +kernel) (by decide +kernel), tb_sel (q := (yX4_copyCase, 4)) 13 (by decide +kernel) (by decide +kernel)⟩
theorem mok_X5_init : MOK yX5_init cX5_init 1 none 0 := ⟨tb_at 78 (by decide +kernel) (by decide +kernel), tb_at 5 (by decide +kernel) (by decide +kernel), ⟨by decide +kernel, by decide +kernel, by decide +kernel⟩, by decide +kernel, by decide⟩
theorem im_X5_init : Cond.instanceMethod yX5_init ∈ TB := tb_at 77 (by decide +kernel) (by decide +kernel)
theorem mok_X5_hasRoom : MOK yX5_hasRoom cX5_hasRoom 1 (some .boolean) 0 := ⟨tb_at 662 (by decide +kernel) (by decide +kernel), tb_at 5 (by decide +kernel) (by decide +kernel), ⟨by decide +kernel, by decide +kernel, by decide +kernel⟩, by decide +kernel, by decide⟩
theorem im_X5_hasRoom : Cond.instanceMethod yX5_hasRoom ∈ TB ∧ Cond.selects yX5_hasRoom.cls yX5_hasRoom yX5_hasRoom ∈ TB := ⟨tb_at 660 (by decide +kernel) (by decide +kernel), tb_at 661 (by decide +kernel) (by decide +kernel)⟩
theorem mok_X5_isThere : MOK yX5_isThere cX5_isThere 2 (some .boolean) 1 := ⟨tb_at 630 (by decide +kernel) (by decide +kernel), tb_at 5 (by decide +kernel) (by decide +kernel), ⟨by decide +kernel, by decide +kernel, by decide +kernel⟩, by decide +kernel, by decide⟩
theorem im_X5_isThere : Cond.instanceMethod yX5_isThere ∈ TB ∧ Cond.selects yX5_isThere.cls yX5_isThere yX5_isThere ∈ TB := ⟨tb_at 628 (by decide +kernel) (by decide +kernel), tb_at 629 (by decide +kernel) (by decide +kernel)⟩
theorem mok_X5_sortOf : MOK yX5_sortOf cX5_sortOf 2 (some .int) 1 := ⟨tb_at 695 (by decide +kernel) (by decide +kernel), tb_at 5 (by decide +kernel) (by decide +kernel), ⟨by decide +kernel, by decide +kernel, by decide +kernel⟩, by decide +kernel, by decide⟩
theorem im_X5_sortOf : Cond.instanceMethod yX5_sortOf ∈ TB ∧ Cond.selects yX5_sortOf.cls yX5_sortOf yX5_sortOf ∈ TB := ⟨tb_at 693 (by decide +kernel) (by decide +kernel), tb_at 694 (by decide +kernel) (by decide +kernel)⟩
theorem mok_X5_kindOf : MOK yX5_kindOf cX5_kindOf 2 (some .int) 1 := ⟨tb_at 653 (by decide +kernel) (by decide +kernel), tb_at 5 (by decide +kernel) (by decide +kernel), ⟨by decide +kernel, by decide +kernel, by decide +kernel⟩, by decide +kernel, by decide⟩
theorem im_X5_kindOf : Cond.instanceMethod yX5_kindOf ∈ TB ∧ Cond.selects yX5_kindOf.cls yX5_kindOf yX5_kindOf ∈ TB := ⟨tb_at 651 (by decide +kernel) (by decide +kernel), tb_at 652 (by decide +kernel) (by decide +kernel)⟩
theorem mok_X5_lowOf : MOK yX5_lowOf cX5_lowOf 2 (some .int) 1 := ⟨tb_at 703 (by decide +kernel) (by decide +kernel), tb_at 5 (by decide +kernel) (by decide +kernel), ⟨by decide +kernel, by decide +kernel, by decide +kernel⟩, by decide +kernel, by decide⟩
theorem im_X5_lowOf : Cond.instanceMethod yX5_lowOf ∈ TB ∧ Cond.selects yX5_lowOf.cls yX5_lowOf yX5_lowOf ∈ TB := ⟨tb_at 701 (by decide +kernel) (by decide +kernel), tb_at 702 (by decide +kernel) (by decide +kernel)⟩
theorem mok_X5_highOf : MOK yX5_highOf cX5_highOf 2 (some .int) 1 := ⟨tb_at 699 (by decide +kernel) (by decide +kernel), tb_at 5 (by decide +kernel) (by decide +kernel), ⟨by decide +kernel, by decide +kernel, by decide +kernel⟩, by decide +kernel, by decide⟩
theorem im_X5_highOf : Cond.instanceMethod yX5_highOf ∈ TB ∧ Cond.selects yX5_highOf.cls yX5_highOf yX5_highOf ∈ TB := ⟨tb_at 697 (by decide +kernel) (by decide +kernel), tb_at 698 (by decide +kernel) (by decide +kernel)⟩
theorem mok_X5_partOf : MOK yX5_partOf cX5_partOf 3 (some .int) 2 := ⟨tb_at 707 (by decide +kernel) (by decide +kernel), tb_at 5 (by decide +kernel) (by decide +kernel), ⟨by decide +kernel, by decide +kernel, by decide +kernel⟩, by decide +kernel, by decide⟩
theorem im_X5_partOf : Cond.instanceMethod yX5_partOf ∈ TB ∧ Cond.selects yX5_partOf.cls yX5_partOf yX5_partOf ∈ TB := ⟨tb_at 705 (by decide +kernel) (by decide +kernel), tb_at 706 (by decide +kernel) (by decide +kernel)⟩
theorem mok_X5_partCount : MOK yX5_partCount cX5_partCount 2 (some .int) 1 := ⟨tb_at 672 (by decide +kernel) (by decide +kernel), tb_at 5 (by decide +kernel) (by decide +kernel), ⟨by decide +kernel, by decide +kernel, by decide +kernel⟩, by decide +kernel, by decide⟩
theorem im_X5_partCount : Cond.instanceMethod yX5_partCount ∈ TB ∧ Cond.selects yX5_partCount.cls yX5_partCount yX5_partCount ∈ TB := ⟨tb_at 670 (by decide +kernel) (by decide +kernel), tb_at 671 (by decide +kernel) (by decide +kernel)⟩
theorem mok_X5_isList : MOK yX5_isList cX5_isList 2 (some .boolean) 1 := ⟨tb_at 857 (by decide +kernel) (by decide +kernel), tb_at 5 (by decide +kernel) (by decide +kernel), ⟨by decide +kernel, by decide +kernel, by decide +kernel⟩, by decide +kernel, by decide⟩
theorem im_X5_isList : Cond.instanceMethod yX5_isList ∈ TB ∧ Cond.selects yX5_isList.cls yX5_isList yX5_isList ∈ TB := ⟨tb_at 855 (by decide +kernel) (by decide +kernel), tb_at 856 (by decide +kernel) (by decide +kernel)⟩
theorem mok_X5_accepts : MOK yX5_accepts cX5_accepts 3 (some .boolean) 2 := ⟨tb_at 994 (by decide +kernel) (by decide +kernel), tb_at 5 (by decide +kernel) (by decide +kernel), ⟨by decide +kernel, by decide +kernel, by decide +kernel⟩, by decide +kernel, by decide⟩
theorem im_X5_accepts : Cond.instanceMethod yX5_accepts ∈ TB ∧ Cond.selects yX5_accepts.cls yX5_accepts yX5_accepts ∈ TB := ⟨tb_at 992 (by decide +kernel) (by decide +kernel), tb_at 993 (by decide +kernel) (by decide +kernel)⟩
theorem mok_X5_offset : MOK yX5_offset cX5_offset 3 (some .int) 2 := ⟨tb_at 998 (by decide +kernel) (by decide +kernel), tb_at 5 (by decide +kernel) (by decide +kernel), ⟨by decide +kernel, by decide +kernel, by decide +kernel⟩, by decide +kernel, by decide⟩
theorem im_X5_offset : Cond.instanceMethod yX5_offset ∈ TB ∧ Cond.selects yX5_offset.cls yX5_offset yX5_offset ∈ TB := ⟨tb_at 996 (by decide +kernel) (by decide +kernel), tb_at 997 (by decide +kernel) (by decide +kernel)⟩
theorem mok_X5_fits : MOK yX5_fits cX5_fits 3 (some .boolean) 2 := ⟨tb_at 733 (by decide +kernel) (by decide +kernel), tb_at 5 (by decide +kernel) (by decide +kernel), ⟨by decide +kernel, by decide +kernel, by decide +kernel⟩, by decide +kernel, by decide⟩
theorem im_X5_fits : Cond.instanceMethod yX5_fits ∈ TB ∧ Cond.selects yX5_fits.cls yX5_fits yX5_fits ∈ TB := ⟨tb_at 731 (by decide +kernel) (by decide +kernel), tb_at 732 (by decide +kernel) (by decide +kernel)⟩
theorem mok_X5_hasView : MOK yX5_hasView cX5_hasView 2 (some .boolean) 1 := ⟨tb_at 687 (by decide +kernel) (by decide +kernel), tb_at 5 (by decide +kernel) (by decide +kernel), ⟨by decide +kernel, by decide +kernel, by decide +kernel⟩, by decide +kernel, by decide⟩
theorem im_X5_hasView : Cond.instanceMethod yX5_hasView ∈ TB ∧ Cond.selects yX5_hasView.cls yX5_hasView yX5_hasView ∈ TB := ⟨tb_at 685 (by decide +kernel) (by decide +kernel), tb_at 686 (by decide +kernel) (by decide +kernel)⟩
theorem mok_X5_isBare : MOK yX5_isBare cX5_isBare 2 (some .boolean) 1 := ⟨tb_at 773 (by decide +kernel) (by decide +kernel), tb_at 5 (by decide +kernel) (by decide +kernel), ⟨by decide +kernel, by decide +kernel, by decide +kernel⟩, by decide +kernel, by decide⟩
theorem im_X5_isBare : Cond.instanceMethod yX5_isBare ∈ TB ∧ Cond.selects yX5_isBare.cls yX5_isBare yX5_isBare ∈ TB := ⟨tb_at 771 (by decide +kernel) (by decide +kernel), tb_at 772 (by decide +kernel) (by decide +kernel)⟩
theorem mok_X5_admits : MOK yX5_admits cX5_admits 3 (some .boolean) 2 := ⟨tb_at 984 (by decide +kernel) (by decide +kernel), tb_at 5 (by decide +kernel) (by decide +kernel), ⟨by decide +kernel, by decide +kernel, by decide +kernel⟩, by decide +kernel, by decide⟩
theorem im_X5_admits : Cond.instanceMethod yX5_admits ∈ TB ∧ Cond.selects yX5_admits.cls yX5_admits yX5_admits ∈ TB := ⟨tb_at 982 (by decide +kernel) (by decide +kernel), tb_at 983 (by decide +kernel) (by decide +kernel)⟩
theorem mok_X5_binds : MOK yX5_binds cX5_binds 3 (some .boolean) 2 := ⟨tb_at 635 (by decide +kernel) (by decide +kernel), tb_at 5 (by decide +kernel) (by decide +kernel), ⟨by decide +kernel, by decide +kernel, by decide +kernel⟩, by decide +kernel, by decide⟩
theorem im_X5_binds : Cond.instanceMethod yX5_binds ∈ TB ∧ Cond.selects yX5_binds.cls yX5_binds yX5_binds ∈ TB := ⟨tb_at 633 (by decide +kernel) (by decide +kernel), tb_at 634 (by decide +kernel) (by decide +kernel)⟩
theorem mok_X5_bindApart : MOK yX5_bindApart cX5_bindApart 7 (some .boolean) 3 := ⟨tb_at 742 (by decide +kernel) (by decide +kernel), tb_at 5 (by decide +kernel) (by decide +kernel), ⟨by decide +kernel, by decide +kernel, by decide +kernel⟩, by decide +kernel, by decide⟩
theorem im_X5_bindApart : Cond.instanceMethod yX5_bindApart ∈ TB ∧ Cond.selects yX5_bindApart.cls yX5_bindApart yX5_bindApart ∈ TB := ⟨tb_at 740 (by decide +kernel) (by decide +kernel), tb_at 741 (by decide +kernel) (by decide +kernel)⟩
theorem mok_X5_isSmall : MOK yX5_isSmall cX5_isSmall 4 (some .boolean) 3 := ⟨tb_at 645 (by decide +kernel) (by decide +kernel), tb_at 5 (by decide +kernel) (by decide +kernel), ⟨by decide +kernel, by decide +kernel, by decide +kernel⟩, by decide +kernel, by decide⟩
theorem im_X5_isSmall : Cond.instanceMethod yX5_isSmall ∈ TB ∧ Cond.selects yX5_isSmall.cls yX5_isSmall yX5_isSmall ∈ TB := ⟨tb_at 643 (by decide +kernel) (by decide +kernel), tb_at 644 (by decide +kernel) (by decide +kernel)⟩
theorem mok_X5_canBeParts : MOK yX5_canBeParts cX5_canBeParts 4 (some .boolean) 3 := ⟨tb_at 738 (by decide +kernel) (by decide +kernel), tb_at 5 (by decide +kernel) (by decide +kernel), ⟨by decide +kernel, by decide +kernel, by decide +kernel⟩, by decide +kernel, by decide⟩
theorem im_X5_canBeParts : Cond.instanceMethod yX5_canBeParts ∈ TB ∧ Cond.selects yX5_canBeParts.cls yX5_canBeParts yX5_canBeParts ∈ TB := ⟨tb_at 736 (by decide +kernel) (by decide +kernel), tb_at 737 (by decide +kernel) (by decide +kernel)⟩
theorem mok_X5_canAlternate : MOK yX5_canAlternate cX5_canAlternate 4 (some .boolean) 2 := ⟨tb_at 754 (by decide +kernel) (by decide +kernel), tb_at 5 (by decide +kernel) (by decide +kernel), ⟨by decide +kernel, by decide +kernel, by decide +kernel⟩, by decide +kernel, by decide⟩
theorem im_X5_canAlternate : Cond.instanceMethod yX5_canAlternate ∈ TB ∧ Cond.selects yX5_canAlternate.cls yX5_canAlternate yX5_canAlternate ∈ TB := ⟨tb_at 752 (by decide +kernel) (by decide +kernel), tb_at 753 (by decide +kernel) (by decide +kernel)⟩
theorem mok_X5_kindOfBoth : MOK yX5_kindOfBoth cX5_kindOfBoth 3 (some .int) 2 := ⟨tb_at 759 (by decide +kernel) (by decide +kernel), tb_at 5 (by decide +kernel) (by decide +kernel), ⟨by decide +kernel, by decide +kernel, by decide +kernel⟩, by decide +kernel, by decide⟩
theorem im_X5_kindOfBoth : Cond.instanceMethod yX5_kindOfBoth ∈ TB ∧ Cond.selects yX5_kindOfBoth.cls yX5_kindOfBoth yX5_kindOfBoth ∈ TB := ⟨tb_at 757 (by decide +kernel) (by decide +kernel), tb_at 758 (by decide +kernel) (by decide +kernel)⟩
theorem mok_X5_keep : MOK yX5_keep cX5_keep 12 (some .int) 7 := ⟨tb_at 666 (by decide +kernel) (by decide +kernel), tb_at 5 (by decide +kernel) (by decide +kernel), ⟨by decide +kernel, by decide +kernel, by decide +kernel⟩, by decide +kernel, by decide⟩
theorem im_X5_keep : Cond.instanceMethod yX5_keep ∈ TB ∧ Cond.selects yX5_keep.cls yX5_keep yX5_keep ∈ TB := ⟨tb_at 664 (by decide +kernel) (by decide +kernel), tb_at 665 (by decide +kernel) (by decide +kernel)⟩
theorem mok_X5_digitsNow : MOK yX5_digitsNow cX5_digitsNow 4 (some .int) 1 := ⟨tb_at 691 (by decide +kernel) (by decide +kernel), tb_at 5 (by decide +kernel) (by decide +kernel), ⟨by decide +kernel, by decide +kernel, by decide +kernel⟩, by decide +kernel, by decide⟩
theorem im_X5_digitsNow : Cond.instanceMethod yX5_digitsNow ∈ TB ∧ Cond.selects yX5_digitsNow.cls yX5_digitsNow yX5_digitsNow ∈ TB := ⟨tb_at 690 (by decide +kernel) (by decide +kernel), tb_sel (q := (yX5_digitsNow, 12)) 9 (by decide +kernel) (by decide +kernel)⟩
theorem mok_X5_digitsOf : MOK yX5_digitsOf cX5_digitsOf 2 (some .int) 1 := ⟨tb_at 711 (by decide +kernel) (by decide +kernel), tb_at 5 (by decide +kernel) (by decide +kernel), ⟨by decide +kernel, by decide +kernel, by decide +kernel⟩, by decide +kernel, by decide⟩
theorem im_X5_digitsOf : Cond.instanceMethod yX5_digitsOf ∈ TB ∧ Cond.selects yX5_digitsOf.cls yX5_digitsOf yX5_digitsOf ∈ TB := ⟨tb_at 710 (by decide +kernel) (by decide +kernel), tb_sel (q := (yX5_digitsOf, 12)) 10 (by decide +kernel) (by decide +kernel)⟩
theorem mok_X5_namesOf : MOK yX5_namesOf cX5_namesOf 2 (some .int) 1 := ⟨tb_at 640 (by decide +kernel) (by decide +kernel), tb_at 5 (by decide +kernel) (by decide +kernel), ⟨by decide +kernel, by decide +kernel, by decide +kernel⟩, by decide +kernel, by decide⟩
theorem im_X5_namesOf : Cond.instanceMethod yX5_namesOf ∈ TB ∧ Cond.selects yX5_namesOf.cls yX5_namesOf yX5_namesOf ∈ TB := ⟨tb_at 639 (by decide +kernel) (by decide +kernel), tb_sel (q := (yX5_namesOf, 12)) 4 (by decide +kernel) (by decide +kernel)⟩
theorem mok_X5_sizeOf : MOK yX5_sizeOf cX5_sizeOf 2 (some .int) 1 := ⟨tb_at 649 (by decide +kernel) (by decide +kernel), tb_at 5 (by decide +kernel) (by decide +kernel), ⟨by decide +kernel, by decide +kernel, by decide +kernel⟩, by decide +kernel, by decide⟩
theorem im_X5_sizeOf : Cond.instanceMethod yX5_sizeOf ∈ TB ∧ Cond.selects yX5_sizeOf.cls yX5_sizeOf yX5_sizeOf ∈ TB := ⟨tb_at 648 (by decide +kernel) (by decide +kernel), tb_sel (q := (yX5_sizeOf, 12)) 5 (by decide +kernel) (by decide +kernel)⟩
theorem mok_X5_depthOf : MOK yX5_depthOf cX5_depthOf 2 (some .int) 1 := ⟨tb_at 680 (by decide +kernel) (by decide +kernel), tb_at 5 (by decide +kernel) (by decide +kernel), ⟨by decide +kernel, by decide +kernel, by decide +kernel⟩, by decide +kernel, by decide⟩
theorem im_X5_depthOf : Cond.instanceMethod yX5_depthOf ∈ TB ∧ Cond.selects yX5_depthOf.cls yX5_depthOf yX5_depthOf ∈ TB := ⟨tb_at 679 (by decide +kernel) (by decide +kernel), tb_sel (q := (yX5_depthOf, 12)) 8 (by decide +kernel) (by decide +kernel)⟩
theorem mok_X5_deepest : MOK yX5_deepest cX5_deepest 4 (some .int) 3 := ⟨tb_at 676 (by decide +kernel) (by decide +kernel), tb_at 5 (by decide +kernel) (by decide +kernel), ⟨by decide +kernel, by decide +kernel, by decide +kernel⟩, by decide +kernel, by decide⟩
theorem im_X5_deepest : Cond.instanceMethod yX5_deepest ∈ TB ∧ Cond.selects yX5_deepest.cls yX5_deepest yX5_deepest ∈ TB := ⟨tb_at 675 (by decide +kernel) (by decide +kernel), tb_sel (q := (yX5_deepest, 12)) 7 (by decide +kernel) (by decide +kernel)⟩
theorem mok_X6_init : MOK yX6_init cX6_init 4 none 3 := ⟨tb_at 186 (by decide +kernel) (by decide +kernel), tb_at 9 (by decide +kernel) (by decide +kernel), ⟨by decide +kernel, by decide +kernel, by decide +kernel⟩, by decide +kernel, by decide⟩
theorem im_X6_init : Cond.instanceMethod yX6_init ∈ TB := tb_at 185 (by decide +kernel) (by decide +kernel)
theorem mok_X6_decide : MOK yX6_decide cX6_decide 3 (some .int) 0 := ⟨tb_at 1087 (by decide +kernel) (by decide +kernel), tb_at 9 (by decide +kernel) (by decide +kernel), ⟨by decide +kernel, by decide +kernel, by decide +kernel⟩, by decide +kernel, by decide⟩
theorem im_X6_decide : Cond.instanceMethod yX6_decide ∈ TB ∧ Cond.selects yX6_decide.cls yX6_decide yX6_decide ∈ TB := ⟨tb_at 1085 (by decide +kernel) (by decide +kernel), tb_at 1086 (by decide +kernel) (by decide +kernel)⟩
theorem mok_X6_fitsCase : MOK yX6_fitsCase cX6_fitsCase 3 (some .boolean) 1 := ⟨tb_at 1092 (by decide +kernel) (by decide +kernel), tb_at 9 (by decide +kernel) (by decide +kernel), ⟨by decide +kernel, by decide +kernel, by decide +kernel⟩, by decide +kernel, by decide⟩
theorem im_X6_fitsCase : Cond.instanceMethod yX6_fitsCase ∈ TB ∧ Cond.selects yX6_fitsCase.cls yX6_fitsCase yX6_fitsCase ∈ TB := ⟨tb_at 1091 (by decide +kernel) (by decide +kernel), tb_sel (q := (yX6_fitsCase, 3)) 30 (by decide +kernel) (by decide +kernel)⟩
theorem mok_X6_fitsAt : MOK yX6_fitsAt cX6_fitsAt 5 (some .boolean) 3 := ⟨tb_at 1099 (by decide +kernel) (by decide +kernel), tb_at 9 (by decide +kernel) (by decide +kernel), ⟨by decide +kernel, by decide +kernel, by decide +kernel⟩, by decide +kernel, by decide⟩
theorem im_X6_fitsAt : Cond.instanceMethod yX6_fitsAt ∈ TB ∧ Cond.selects yX6_fitsAt.cls yX6_fitsAt yX6_fitsAt ∈ TB := ⟨tb_at 1098 (by decide +kernel) (by decide +kernel), tb_sel (q := (yX6_fitsAt, 3)) 31 (by decide +kernel) (by decide +kernel)⟩
theorem mok_X6_fitsHead : MOK yX6_fitsHead cX6_fitsHead 7 (some .boolean) 3 := ⟨tb_at 1138 (by decide +kernel) (by decide +kernel), tb_at 9 (by decide +kernel) (by decide +kernel), ⟨by decide +kernel, by decide +kernel, by decide +kernel⟩, by decide +kernel, by decide⟩
theorem im_X6_fitsHead : Cond.instanceMethod yX6_fitsHead ∈ TB ∧ Cond.selects yX6_fitsHead.cls yX6_fitsHead yX6_fitsHead ∈ TB := ⟨tb_at 1137 (by decide +kernel) (by decide +kernel), tb_sel (q := (yX6_fitsHead, 3)) 33 (by decide +kernel) (by decide +kernel)⟩
theorem mok_X6_fitsNumber : MOK yX6_fitsNumber cX6_fitsNumber 5 (some .boolean) 5 := ⟨tb_at 1129 (by decide +kernel) (by decide +kernel), tb_at 9 (by decide +kernel) (by decide +kernel), ⟨by decide +kernel, by decide +kernel, by decide +kernel⟩, by decide +kernel, by decide⟩
theorem sm_X6_fitsNumber : Cond.static yX6_fitsNumber ∈ TB := tb_at 1128 (by decide +kernel) (by decide +kernel)
theorem mok_X7_init : MOK yX7_init cX7_init 4 none 3 := ⟨tb_at 285 (by decide +kernel) (by decide +kernel), tb_at 12 (by decide +kernel) (by decide +kernel), ⟨by decide +kernel, by decide +kernel, by decide +kernel⟩, by decide +kernel, by decide⟩
theorem im_X7_init : Cond.instanceMethod yX7_init ∈ TB := tb_at 284 (by decide +kernel) (by decide +kernel)
theorem mok_X7_forget : MOK yX7_forget cX7_forget 1 none 0 := ⟨tb_at 523 (by decide +kernel) (by decide +kernel), tb_at 12 (by decide +kernel) (by decide +kernel), ⟨by decide +kernel, by decide +kernel, by decide +kernel⟩, by decide +kernel, by decide⟩
theorem im_X7_forget : Cond.instanceMethod yX7_forget ∈ TB ∧ Cond.selects yX7_forget.cls yX7_forget yX7_forget ∈ TB := ⟨tb_at 521 (by decide +kernel) (by decide +kernel), tb_at 522 (by decide +kernel) (by decide +kernel)⟩
theorem mok_X7_nodeCount : MOK yX7_nodeCount cX7_nodeCount 1 (some .int) 0 := ⟨tb_at 1337 (by decide +kernel) (by decide +kernel), tb_at 12 (by decide +kernel) (by decide +kernel), ⟨by decide +kernel, by decide +kernel, by decide +kernel⟩, by decide +kernel, by decide⟩
theorem im_X7_nodeCount : Cond.instanceMethod yX7_nodeCount ∈ TB ∧ Cond.selects yX7_nodeCount.cls yX7_nodeCount yX7_nodeCount ∈ TB := ⟨tb_at 1335 (by decide +kernel) (by decide +kernel), tb_at 1336 (by decide +kernel) (by decide +kernel)⟩
theorem mok_X7_missedCount : MOK yX7_missedCount cX7_missedCount 1 (some .int) 0 := ⟨tb_at 1360 (by decide +kernel) (by decide +kernel), tb_at 12 (by decide +kernel) (by decide +kernel), ⟨by decide +kernel, by decide +kernel, by decide +kernel⟩, by decide +kernel, by decide⟩
theorem im_X7_missedCount : Cond.instanceMethod yX7_missedCount ∈ TB ∧ Cond.selects yX7_missedCount.cls yX7_missedCount yX7_missedCount ∈ TB := ⟨tb_at 1358 (by decide +kernel) (by decide +kernel), tb_at 1359 (by decide +kernel) (by decide +kernel)⟩
theorem mok_X7_hasLeafOf : MOK yX7_hasLeafOf cX7_hasLeafOf 2 (some .boolean) 1 := ⟨tb_at 1310 (by decide +kernel) (by decide +kernel), tb_at 12 (by decide +kernel) (by decide +kernel), ⟨by decide +kernel, by decide +kernel, by decide +kernel⟩, by decide +kernel, by decide⟩
theorem im_X7_hasLeafOf : Cond.instanceMethod yX7_hasLeafOf ∈ TB ∧ Cond.selects yX7_hasLeafOf.cls yX7_hasLeafOf yX7_hasLeafOf ∈ TB := ⟨tb_at 1308 (by decide +kernel) (by decide +kernel), tb_at 1309 (by decide +kernel) (by decide +kernel)⟩
theorem mok_X7_exampleAt : MOK yX7_exampleAt cX7_exampleAt 5 (some .int) 1 := ⟨tb_at 1371 (by decide +kernel) (by decide +kernel), tb_at 12 (by decide +kernel) (by decide +kernel), ⟨by decide +kernel, by decide +kernel, by decide +kernel⟩, by decide +kernel, by decide⟩
theorem im_X7_exampleAt : Cond.instanceMethod yX7_exampleAt ∈ TB ∧ Cond.selects yX7_exampleAt.cls yX7_exampleAt yX7_exampleAt ∈ TB := ⟨tb_at 1369 (by decide +kernel) (by decide +kernel), tb_at 1370 (by decide +kernel) (by decide +kernel)⟩
theorem mok_X7_branchTo : MOK yX7_branchTo cX7_branchTo 4 (some .int) 2 := ⟨tb_at 1375 (by decide +kernel) (by decide +kernel), tb_at 12 (by decide +kernel) (by decide +kernel), ⟨by decide +kernel, by decide +kernel, by decide +kernel⟩, by decide +kernel, by decide⟩
theorem im_X7_branchTo : Cond.instanceMethod yX7_branchTo ∈ TB ∧ Cond.selects yX7_branchTo.cls yX7_branchTo yX7_branchTo ∈ TB := ⟨tb_at 1374 (by decide +kernel) (by decide +kernel), tb_sel (q := (yX7_branchTo, 15)) 49 (by decide +kernel) (by decide +kernel)⟩
theorem mok_X7_nodeBehind : MOK yX7_nodeBehind cX7_nodeBehind 3 (some .int) 2 := ⟨tb_at 1264 (by decide +kernel) (by decide +kernel), tb_at 12 (by decide +kernel) (by decide +kernel), ⟨by decide +kernel, by decide +kernel, by decide +kernel⟩, by decide +kernel, by decide⟩
theorem im_X7_nodeBehind : Cond.instanceMethod yX7_nodeBehind ∈ TB ∧ Cond.selects yX7_nodeBehind.cls yX7_nodeBehind yX7_nodeBehind ∈ TB := ⟨tb_at 1263 (by decide +kernel) (by decide +kernel), tb_sel (q := (yX7_nodeBehind, 15)) 45 (by decide +kernel) (by decide +kernel)⟩
theorem mok_X7_sortOf : MOK yX7_sortOf cX7_sortOf 2 (some .int) 1 := ⟨tb_at 937 (by decide +kernel) (by decide +kernel), tb_at 12 (by decide +kernel) (by decide +kernel), ⟨by decide +kernel, by decide +kernel, by decide +kernel⟩, by decide +kernel, by decide⟩
theorem im_X7_sortOf : Cond.instanceMethod yX7_sortOf ∈ TB ∧ Cond.selects yX7_sortOf.cls yX7_sortOf yX7_sortOf ∈ TB := ⟨tb_at 936 (by decide +kernel) (by decide +kernel), tb_sel (q := (yX7_sortOf, 15)) 16 (by decide +kernel) (by decide +kernel)⟩
theorem mok_X7_whichOf : MOK yX7_whichOf cX7_whichOf 2 (some .int) 1 := ⟨tb_at 1065 (by decide +kernel) (by decide +kernel), tb_at 12 (by decide +kernel) (by decide +kernel), ⟨by decide +kernel, by decide +kernel, by decide +kernel⟩, by decide +kernel, by decide⟩
theorem im_X7_whichOf : Cond.instanceMethod yX7_whichOf ∈ TB ∧ Cond.selects yX7_whichOf.cls yX7_whichOf yX7_whichOf ∈ TB := ⟨tb_at 1064 (by decide +kernel) (by decide +kernel), tb_sel (q := (yX7_whichOf, 15)) 29 (by decide +kernel) (by decide +kernel)⟩
theorem mok_X7_whatOf : MOK yX7_whatOf cX7_whatOf 2 (some .int) 1 := ⟨tb_at 941 (by decide +kernel) (by decide +kernel), tb_at 12 (by decide +kernel) (by decide +kernel), ⟨by decide +kernel, by decide +kernel, by decide +kernel⟩, by decide +kernel, by decide⟩
theorem im_X7_whatOf : Cond.instanceMethod yX7_whatOf ∈ TB ∧ Cond.selects yX7_whatOf.cls yX7_whatOf yX7_whatOf ∈ TB := ⟨tb_at 940 (by decide +kernel) (by decide +kernel), tb_sel (q := (yX7_whatOf, 15)) 17 (by decide +kernel) (by decide +kernel)⟩
theorem mok_X7_widthOf : MOK yX7_widthOf cX7_widthOf 3 (some .int) 1 := ⟨tb_at 1053 (by decide +kernel) (by decide +kernel), tb_at 12 (by decide +kernel) (by decide +kernel), ⟨by decide +kernel, by decide +kernel, by decide +kernel⟩, by decide +kernel, by decide⟩
theorem im_X7_widthOf : Cond.instanceMethod yX7_widthOf ∈ TB ∧ Cond.selects yX7_widthOf.cls yX7_widthOf yX7_widthOf ∈ TB := ⟨tb_at 1052 (by decide +kernel) (by decide +kernel), tb_sel (q := (yX7_widthOf, 15)) 27 (by decide +kernel) (by decide +kernel)⟩
theorem mok_X7_grow : MOK yX7_grow cX7_grow 4 (some .boolean) 0 := ⟨tb_at 922 (by decide +kernel) (by decide +kernel), tb_at 12 (by decide +kernel) (by decide +kernel), ⟨by decide +kernel, by decide +kernel, by decide +kernel⟩, by decide +kernel, by decide⟩
theorem im_X7_grow : Cond.instanceMethod yX7_grow ∈ TB ∧ Cond.selects yX7_grow.cls yX7_grow yX7_grow ∈ TB := ⟨tb_at 920 (by decide +kernel) (by decide +kernel), tb_at 921 (by decide +kernel) (by decide +kernel)⟩
theorem mok_X7_plant : MOK yX7_plant cX7_plant 4 (some .int) 2 := ⟨tb_at 931 (by decide +kernel) (by decide +kernel), tb_at 12 (by decide +kernel) (by decide +kernel), ⟨by decide +kernel, by decide +kernel, by decide +kernel⟩, by decide +kernel, by decide⟩
theorem im_X7_plant : Cond.instanceMethod yX7_plant ∈ TB ∧ Cond.selects yX7_plant.cls yX7_plant yX7_plant ∈ TB := ⟨tb_at 930 (by decide +kernel) (by decide +kernel), tb_sel (q := (yX7_plant, 15)) 15 (by decide +kernel) (by decide +kernel)⟩
theorem mok_X7_keepNext : MOK yX7_keepNext cX7_keepNext 3 none 1 := ⟨tb_at 1032 (by decide +kernel) (by decide +kernel), tb_at 12 (by decide +kernel) (by decide +kernel), ⟨by decide +kernel, by decide +kernel, by decide +kernel⟩, by decide +kernel, by decide⟩
theorem im_X7_keepNext : Cond.instanceMethod yX7_keepNext ∈ TB ∧ Cond.selects yX7_keepNext.cls yX7_keepNext yX7_keepNext ∈ TB := ⟨tb_at 1031 (by decide +kernel) (by decide +kernel), tb_sel (q := (yX7_keepNext, 15)) 26 (by decide +kernel) (by decide +kernel)⟩
theorem mok_X7_learn : MOK yX7_learn cX7_learn 4 none 2 := ⟨tb_at 1057 (by decide +kernel) (by decide +kernel), tb_at 12 (by decide +kernel) (by decide +kernel), ⟨by decide +kernel, by decide +kernel, by decide +kernel⟩, by decide +kernel, by decide⟩
theorem im_X7_learn : Cond.instanceMethod yX7_learn ∈ TB ∧ Cond.selects yX7_learn.cls yX7_learn yX7_learn ∈ TB := ⟨tb_at 1056 (by decide +kernel) (by decide +kernel), tb_sel (q := (yX7_learn, 15)) 28 (by decide +kernel) (by decide +kernel)⟩
theorem mok_X7_decide : MOK yX7_decide cX7_decide 5 (some .int) 0 := ⟨tb_at 1239 (by decide +kernel) (by decide +kernel), tb_at 12 (by decide +kernel) (by decide +kernel), ⟨by decide +kernel, by decide +kernel, by decide +kernel⟩, by decide +kernel, by decide⟩
theorem im_X7_decide : Cond.instanceMethod yX7_decide ∈ TB ∧ Cond.selects yX7_decide.cls yX7_decide yX7_decide ∈ TB := ⟨tb_at 1237 (by decide +kernel) (by decide +kernel), tb_at 1238 (by decide +kernel) (by decide +kernel)⟩
theorem mok_X7_branchTaken : MOK yX7_branchTaken cX7_branchTaken 3 (some .int) 1 := ⟨tb_at 1255 (by decide +kernel) (by decide +kernel), tb_at 12 (by decide +kernel) (by decide +kernel), ⟨by decide +kernel, by decide +kernel, by decide +kernel⟩, by decide +kernel, by decide⟩
theorem im_X7_branchTaken : Cond.instanceMethod yX7_branchTaken ∈ TB ∧ Cond.selects yX7_branchTaken.cls yX7_branchTaken yX7_branchTaken ∈ TB := ⟨tb_at 1254 (by decide +kernel) (by decide +kernel), tb_sel (q := (yX7_branchTaken, 15)) 44 (by decide +kernel) (by decide +kernel)⟩
theorem mok_X7_bindNames : MOK yX7_bindNames cX7_bindNames 3 none 1 := ⟨tb_at 1243 (by decide +kernel) (by decide +kernel), tb_at 12 (by decide +kernel) (by decide +kernel), ⟨by decide +kernel, by decide +kernel, by decide +kernel⟩, by decide +kernel, by decide⟩
theorem im_X7_bindNames : Cond.instanceMethod yX7_bindNames ∈ TB ∧ Cond.selects yX7_bindNames.cls yX7_bindNames yX7_bindNames ∈ TB := ⟨tb_at 1242 (by decide +kernel) (by decide +kernel), tb_sel (q := (yX7_bindNames, 15)) 43 (by decide +kernel) (by decide +kernel)⟩
theorem mok_X7_sharedCount : MOK yX7_sharedCount cX7_sharedCount 2 (some .int) 0 := ⟨tb_at 1321 (by decide +kernel) (by decide +kernel), tb_at 12 (by decide +kernel) (by decide +kernel), ⟨by decide +kernel, by decide +kernel, by decide +kernel⟩, by decide +kernel, by decide⟩
theorem im_X7_sharedCount : Cond.instanceMethod yX7_sharedCount ∈ TB ∧ Cond.selects yX7_sharedCount.cls yX7_sharedCount yX7_sharedCount ∈ TB := ⟨tb_at 1319 (by decide +kernel) (by decide +kernel), tb_at 1320 (by decide +kernel) (by decide +kernel)⟩
theorem mok_X7_sameAs : MOK yX7_sameAs cX7_sameAs 3 (some .int) 1 := ⟨tb_at 1325 (by decide +kernel) (by decide +kernel), tb_at 12 (by decide +kernel) (by decide +kernel), ⟨by decide +kernel, by decide +kernel, by decide +kernel⟩, by decide +kernel, by decide⟩
theorem im_X7_sameAs : Cond.instanceMethod yX7_sameAs ∈ TB ∧ Cond.selects yX7_sameAs.cls yX7_sameAs yX7_sameAs ∈ TB := ⟨tb_at 1324 (by decide +kernel) (by decide +kernel), tb_sel (q := (yX7_sameAs, 15)) 46 (by decide +kernel) (by decide +kernel)⟩
theorem mok_X7_isIdle : MOK yX7_isIdle cX7_isIdle 3 (some .boolean) 1 := ⟨tb_at 1329 (by decide +kernel) (by decide +kernel), tb_at 12 (by decide +kernel) (by decide +kernel), ⟨by decide +kernel, by decide +kernel, by decide +kernel⟩, by decide +kernel, by decide⟩
theorem im_X7_isIdle : Cond.instanceMethod yX7_isIdle ∈ TB ∧ Cond.selects yX7_isIdle.cls yX7_isIdle yX7_isIdle ∈ TB := ⟨tb_at 1328 (by decide +kernel) (by decide +kernel), tb_sel (q := (yX7_isIdle, 15)) 47 (by decide +kernel) (by decide +kernel)⟩
theorem mok_X7_areSame : MOK yX7_areSame cX7_areSame 4 (some .boolean) 2 := ⟨tb_at 1333 (by decide +kernel) (by decide +kernel), tb_at 12 (by decide +kernel) (by decide +kernel), ⟨by decide +kernel, by decide +kernel, by decide +kernel⟩, by decide +kernel, by decide⟩
theorem im_X7_areSame : Cond.instanceMethod yX7_areSame ∈ TB ∧ Cond.selects yX7_areSame.cls yX7_areSame yX7_areSame ∈ TB := ⟨tb_at 1332 (by decide +kernel) (by decide +kernel), tb_sel (q := (yX7_areSame, 15)) 48 (by decide +kernel) (by decide +kernel)⟩
theorem mok_X8_init : MOK yX8_init cX8_init 2 none 0 := ⟨tb_at 50 (by decide +kernel) (by decide +kernel), tb_at 3 (by decide +kernel) (by decide +kernel), ⟨by decide +kernel, by decide +kernel, by decide +kernel⟩, by decide +kernel, by decide⟩
theorem im_X8_init : Cond.instanceMethod yX8_init ∈ TB := tb_at 49 (by decide +kernel) (by decide +kernel)
theorem mok_X8_digit : MOK yX8_digit cX8_digit 2 (some .int) 2 := ⟨tb_at 586 (by decide +kernel) (by decide +kernel), tb_at 3 (by decide +kernel) (by decide +kernel), ⟨by decide +kernel, by decide +kernel, by decide +kernel⟩, by decide +kernel, by decide⟩
theorem sm_X8_digit : Cond.static yX8_digit ∈ TB := tb_at 585 (by decide +kernel) (by decide +kernel)
theorem mok_X8_hasRoom : MOK yX8_hasRoom cX8_hasRoom 1 (some .boolean) 0 := ⟨tb_at 547 (by decide +kernel) (by decide +kernel), tb_at 3 (by decide +kernel) (by decide +kernel), ⟨by decide +kernel, by decide +kernel, by decide +kernel⟩, by decide +kernel, by decide⟩
theorem im_X8_hasRoom : Cond.instanceMethod yX8_hasRoom ∈ TB ∧ Cond.selects yX8_hasRoom.cls yX8_hasRoom yX8_hasRoom ∈ TB := ⟨tb_at 545 (by decide +kernel) (by decide +kernel), tb_at 546 (by decide +kernel) (by decide +kernel)⟩
theorem mok_X8_isThere : MOK yX8_isThere cX8_isThere 2 (some .boolean) 1 := ⟨tb_at 611 (by decide +kernel) (by decide +kernel), tb_at 3 (by decide +kernel) (by decide +kernel), ⟨by decide +kernel, by decide +kernel, by decide +kernel⟩, by decide +kernel, by decide⟩
theorem im_X8_isThere : Cond.instanceMethod yX8_isThere ∈ TB ∧ Cond.selects yX8_isThere.cls yX8_isThere yX8_isThere ∈ TB := ⟨tb_at 609 (by decide +kernel) (by decide +kernel), tb_at 610 (by decide +kernel) (by decide +kernel)⟩
theorem mok_X8_kindOf : MOK yX8_kindOf cX8_kindOf 2 (some .int) 1 := ⟨tb_at 560 (by decide +kernel) (by decide +kernel), tb_at 3 (by decide +kernel) (by decide +kernel), ⟨by decide +kernel, by decide +kernel, by decide +kernel⟩, by decide +kernel, by decide⟩
theorem im_X8_kindOf : Cond.instanceMethod yX8_kindOf ∈ TB ∧ Cond.selects yX8_kindOf.cls yX8_kindOf yX8_kindOf ∈ TB := ⟨tb_at 558 (by decide +kernel) (by decide +kernel), tb_at 559 (by decide +kernel) (by decide +kernel)⟩
theorem mok_X8_headOf : MOK yX8_headOf cX8_headOf 2 (some .int) 1 := ⟨tb_at 567 (by decide +kernel) (by decide +kernel), tb_at 3 (by decide +kernel) (by decide +kernel), ⟨by decide +kernel, by decide +kernel, by decide +kernel⟩, by decide +kernel, by decide⟩
theorem im_X8_headOf : Cond.instanceMethod yX8_headOf ∈ TB ∧ Cond.selects yX8_headOf.cls yX8_headOf yX8_headOf ∈ TB := ⟨tb_at 565 (by decide +kernel) (by decide +kernel), tb_at 566 (by decide +kernel) (by decide +kernel)⟩
theorem mok_X8_measureOf : MOK yX8_measureOf cX8_measureOf 2 (some .int) 1 := ⟨tb_at 576 (by decide +kernel) (by decide +kernel), tb_at 3 (by decide +kernel) (by decide +kernel), ⟨by decide +kernel, by decide +kernel, by decide +kernel⟩, by decide +kernel, by decide⟩
theorem im_X8_measureOf : Cond.instanceMethod yX8_measureOf ∈ TB ∧ Cond.selects yX8_measureOf.cls yX8_measureOf yX8_measureOf ∈ TB := ⟨tb_at 574 (by decide +kernel) (by decide +kernel), tb_at 575 (by decide +kernel) (by decide +kernel)⟩
theorem mok_X8_partOf : MOK yX8_partOf cX8_partOf 3 (some .int) 2 := ⟨tb_at 571 (by decide +kernel) (by decide +kernel), tb_at 3 (by decide +kernel) (by decide +kernel), ⟨by decide +kernel, by decide +kernel, by decide +kernel⟩, by decide +kernel, by decide⟩
theorem im_X8_partOf : Cond.instanceMethod yX8_partOf ∈ TB ∧ Cond.selects yX8_partOf.cls yX8_partOf yX8_partOf ∈ TB := ⟨tb_at 569 (by decide +kernel) (by decide +kernel), tb_at 570 (by decide +kernel) (by decide +kernel)⟩
theorem mok_X8_keep : MOK yX8_keep cX8_keep 8 (some .int) 5 := ⟨tb_at 551 (by decide +kernel) (by decide +kernel), tb_at 3 (by decide +kernel) (by decide +kernel), ⟨by decide +kernel, by decide +kernel, by decide +kernel⟩, by decide +kernel, by decide⟩
theorem im_X8_keep : Cond.instanceMethod yX8_keep ∈ TB ∧ Cond.selects yX8_keep.cls yX8_keep yX8_keep ∈ TB := ⟨tb_at 549 (by decide +kernel) (by decide +kernel), tb_at 550 (by decide +kernel) (by decide +kernel)⟩
theorem mok_X8_measureNow : MOK yX8_measureNow cX8_measureNow 6 (some .int) 1 := ⟨tb_at 556 (by decide +kernel) (by decide +kernel), tb_at 3 (by decide +kernel) (by decide +kernel), ⟨by decide +kernel, by decide +kernel, by decide +kernel⟩, by decide +kernel, by decide⟩
theorem im_X8_measureNow : Cond.instanceMethod yX8_measureNow ∈ TB ∧ Cond.selects yX8_measureNow.cls yX8_measureNow yX8_measureNow ∈ TB := ⟨tb_at 555 (by decide +kernel) (by decide +kernel), tb_sel (q := (yX8_measureNow, 5)) 2 (by decide +kernel) (by decide +kernel)⟩
theorem mok_X9_init : MOK yX9_init cX9_init 2 none 0 := ⟨tb_at 121 (by decide +kernel) (by decide +kernel), tb_at 6 (by decide +kernel) (by decide +kernel), ⟨by decide +kernel, by decide +kernel, by decide +kernel⟩, by decide +kernel, by decide⟩
theorem im_X9_init : Cond.instanceMethod yX9_init ∈ TB := tb_at 120 (by decide +kernel) (by decide +kernel)
theorem mok_X9_get : MOK yX9_get cX9_get 3 (some .int) 2 := ⟨tb_at 1121 (by decide +kernel) (by decide +kernel), tb_at 6 (by decide +kernel) (by decide +kernel), ⟨by decide +kernel, by decide +kernel, by decide +kernel⟩, by decide +kernel, by decide⟩
theorem im_X9_get : Cond.instanceMethod yX9_get ∈ TB ∧ Cond.selects yX9_get.cls yX9_get yX9_get ∈ TB := ⟨tb_at 1120 (by decide +kernel) (by decide +kernel), tb_sel (q := (yX9_get, 1)) 32 (by decide +kernel) (by decide +kernel)⟩
theorem mok_X9_manyOf : MOK yX9_manyOf cX9_manyOf 2 (some .int) 1 := ⟨tb_at 795 (by decide +kernel) (by decide +kernel), tb_at 6 (by decide +kernel) (by decide +kernel), ⟨by decide +kernel, by decide +kernel, by decide +kernel⟩, by decide +kernel, by decide⟩
theorem im_X9_manyOf : Cond.instanceMethod yX9_manyOf ∈ TB ∧ Cond.selects yX9_manyOf.cls yX9_manyOf yX9_manyOf ∈ TB := ⟨tb_at 793 (by decide +kernel) (by decide +kernel), tb_at 794 (by decide +kernel) (by decide +kernel)⟩
theorem mok_X9_change : MOK yX9_change cX9_change 7 (some .int) 5 := ⟨tb_at 791 (by decide +kernel) (by decide +kernel), tb_at 6 (by decide +kernel) (by decide +kernel), ⟨by decide +kernel, by decide +kernel, by decide +kernel⟩, by decide +kernel, by decide⟩
theorem im_X9_change : Cond.instanceMethod yX9_change ∈ TB ∧ Cond.selects yX9_change.cls yX9_change yX9_change ∈ TB := ⟨tb_at 789 (by decide +kernel) (by decide +kernel), tb_at 790 (by decide +kernel) (by decide +kernel)⟩
theorem mok_X9_give : MOK yX9_give cX9_give 6 (some .int) 3 := ⟨tb_at 1117 (by decide +kernel) (by decide +kernel), tb_at 6 (by decide +kernel) (by decide +kernel), ⟨by decide +kernel, by decide +kernel, by decide +kernel⟩, by decide +kernel, by decide⟩
theorem im_X9_give : Cond.instanceMethod yX9_give ∈ TB ∧ Cond.selects yX9_give.cls yX9_give yX9_give ∈ TB := ⟨tb_at 1115 (by decide +kernel) (by decide +kernel), tb_at 1116 (by decide +kernel) (by decide +kernel)⟩
theorem mok_X10_init : MOK yX10_init cX10_init 2 none 0 := ⟨tb_at 25 (by decide +kernel) (by decide +kernel), tb_at 1 (by decide +kernel) (by decide +kernel), ⟨by decide +kernel, by decide +kernel, by decide +kernel⟩, by decide +kernel, by decide⟩
theorem im_X10_init : Cond.instanceMethod yX10_init ∈ TB := tb_at 24 (by decide +kernel) (by decide +kernel)
theorem mok_X10_constructor : MOK yX10_constructor cX10_constructor 8 (some .int) 5 := ⟨tb_at 381 (by decide +kernel) (by decide +kernel), tb_at 1 (by decide +kernel) (by decide +kernel), ⟨by decide +kernel, by decide +kernel, by decide +kernel⟩, by decide +kernel, by decide⟩
theorem im_X10_constructor : Cond.instanceMethod yX10_constructor ∈ TB ∧ Cond.selects yX10_constructor.cls yX10_constructor yX10_constructor ∈ TB := ⟨tb_at 379 (by decide +kernel) (by decide +kernel), tb_at 380 (by decide +kernel) (by decide +kernel)⟩
theorem mok_X10_num : MOK yX10_num cX10_num 2 (some .int) 1 := ⟨tb_at 540 (by decide +kernel) (by decide +kernel), tb_at 1 (by decide +kernel) (by decide +kernel), ⟨by decide +kernel, by decide +kernel, by decide +kernel⟩, by decide +kernel, by decide⟩
theorem im_X10_num : Cond.instanceMethod yX10_num ∈ TB ∧ Cond.selects yX10_num.cls yX10_num yX10_num ∈ TB := ⟨tb_at 538 (by decide +kernel) (by decide +kernel), tb_at 539 (by decide +kernel) (by decide +kernel)⟩
theorem mok_X10_seq : MOK yX10_seq cX10_seq 7 (some .int) 4 := ⟨tb_at 583 (by decide +kernel) (by decide +kernel), tb_at 1 (by decide +kernel) (by decide +kernel), ⟨by decide +kernel, by decide +kernel, by decide +kernel⟩, by decide +kernel, by decide⟩
theorem im_X10_seq : Cond.instanceMethod yX10_seq ∈ TB ∧ Cond.selects yX10_seq.cls yX10_seq yX10_seq ∈ TB := ⟨tb_at 581 (by decide +kernel) (by decide +kernel), tb_at 582 (by decide +kernel) (by decide +kernel)⟩
theorem mok_X10_data : MOK yX10_data cX10_data 10 (some .int) 5 := ⟨tb_at 593 (by decide +kernel) (by decide +kernel), tb_at 1 (by decide +kernel) (by decide +kernel), ⟨by decide +kernel, by decide +kernel, by decide +kernel⟩, by decide +kernel, by decide⟩
theorem im_X10_data : Cond.instanceMethod yX10_data ∈ TB ∧ Cond.selects yX10_data.cls yX10_data yX10_data ∈ TB := ⟨tb_at 591 (by decide +kernel) (by decide +kernel), tb_at 592 (by decide +kernel) (by decide +kernel)⟩
theorem mok_X10_any : MOK yX10_any cX10_any 1 (some .int) 0 := ⟨tb_at 1385 (by decide +kernel) (by decide +kernel), tb_at 1 (by decide +kernel) (by decide +kernel), ⟨by decide +kernel, by decide +kernel, by decide +kernel⟩, by decide +kernel, by decide⟩
theorem im_X10_any : Cond.instanceMethod yX10_any ∈ TB ∧ Cond.selects yX10_any.cls yX10_any yX10_any ∈ TB := ⟨tb_at 1383 (by decide +kernel) (by decide +kernel), tb_at 1384 (by decide +kernel) (by decide +kernel)⟩
theorem mok_X10_name : MOK yX10_name cX10_name 3 (some .int) 2 := ⟨tb_at 623 (by decide +kernel) (by decide +kernel), tb_at 1 (by decide +kernel) (by decide +kernel), ⟨by decide +kernel, by decide +kernel, by decide +kernel⟩, by decide +kernel, by decide⟩
theorem im_X10_name : Cond.instanceMethod yX10_name ∈ TB ∧ Cond.selects yX10_name.cls yX10_name yX10_name ∈ TB := ⟨tb_at 621 (by decide +kernel) (by decide +kernel), tb_at 622 (by decide +kernel) (by decide +kernel)⟩
theorem mok_X10_range : MOK yX10_range cX10_range 3 (some .int) 2 := ⟨tb_at 718 (by decide +kernel) (by decide +kernel), tb_at 1 (by decide +kernel) (by decide +kernel), ⟨by decide +kernel, by decide +kernel, by decide +kernel⟩, by decide +kernel, by decide⟩
theorem im_X10_range : Cond.instanceMethod yX10_range ∈ TB ∧ Cond.selects yX10_range.cls yX10_range yX10_range ∈ TB := ⟨tb_at 716 (by decide +kernel) (by decide +kernel), tb_at 717 (by decide +kernel) (by decide +kernel)⟩
theorem mok_X10_make : MOK yX10_make cX10_make 10 (some .int) 5 := ⟨tb_at 725 (by decide +kernel) (by decide +kernel), tb_at 1 (by decide +kernel) (by decide +kernel), ⟨by decide +kernel, by decide +kernel, by decide +kernel⟩, by decide +kernel, by decide⟩
theorem im_X10_make : Cond.instanceMethod yX10_make ∈ TB ∧ Cond.selects yX10_make.cls yX10_make yX10_make ∈ TB := ⟨tb_at 723 (by decide +kernel) (by decide +kernel), tb_at 724 (by decide +kernel) (by decide +kernel)⟩
theorem mok_X10_either : MOK yX10_either cX10_either 3 (some .int) 2 := ⟨tb_at 750 (by decide +kernel) (by decide +kernel), tb_at 1 (by decide +kernel) (by decide +kernel), ⟨by decide +kernel, by decide +kernel, by decide +kernel⟩, by decide +kernel, by decide⟩
theorem im_X10_either : Cond.instanceMethod yX10_either ∈ TB ∧ Cond.selects yX10_either.cls yX10_either yX10_either ∈ TB := ⟨tb_at 748 (by decide +kernel) (by decide +kernel), tb_at 749 (by decide +kernel) (by decide +kernel)⟩
theorem mok_X10_view : MOK yX10_view cX10_view 3 (some .int) 2 := ⟨tb_at 766 (by decide +kernel) (by decide +kernel), tb_at 1 (by decide +kernel) (by decide +kernel), ⟨by decide +kernel, by decide +kernel, by decide +kernel⟩, by decide +kernel, by decide⟩
theorem im_X10_view : Cond.instanceMethod yX10_view ∈ TB ∧ Cond.selects yX10_view.cls yX10_view yX10_view ∈ TB := ⟨tb_at 764 (by decide +kernel) (by decide +kernel), tb_at 765 (by decide +kernel) (by decide +kernel)⟩
theorem mok_X10_list : MOK yX10_list cX10_list 8 (some .int) 4 := ⟨tb_at 780 (by decide +kernel) (by decide +kernel), tb_at 1 (by decide +kernel) (by decide +kernel), ⟨by decide +kernel, by decide +kernel, by decide +kernel⟩, by decide +kernel, by decide⟩
theorem im_X10_list : Cond.instanceMethod yX10_list ∈ TB ∧ Cond.selects yX10_list.cls yX10_list yX10_list ∈ TB := ⟨tb_at 778 (by decide +kernel) (by decide +kernel), tb_at 779 (by decide +kernel) (by decide +kernel)⟩
theorem mok_X10_setView : MOK yX10_setView cX10_setView 6 (some .int) 5 := ⟨tb_at 787 (by decide +kernel) (by decide +kernel), tb_at 1 (by decide +kernel) (by decide +kernel), ⟨by decide +kernel, by decide +kernel, by decide +kernel⟩, by decide +kernel, by decide⟩
theorem im_X10_setView : Cond.instanceMethod yX10_setView ∈ TB ∧ Cond.selects yX10_setView.cls yX10_setView yX10_setView ∈ TB := ⟨tb_at 785 (by decide +kernel) (by decide +kernel), tb_at 786 (by decide +kernel) (by decide +kernel)⟩
theorem mok_X10_begin : MOK yX10_begin cX10_begin 7 (some .int) 4 := ⟨tb_at 803 (by decide +kernel) (by decide +kernel), tb_at 1 (by decide +kernel) (by decide +kernel), ⟨by decide +kernel, by decide +kernel, by decide +kernel⟩, by decide +kernel, by decide⟩
theorem im_X10_begin : Cond.instanceMethod yX10_begin ∈ TB ∧ Cond.selects yX10_begin.cls yX10_begin yX10_begin ∈ TB := ⟨tb_at 801 (by decide +kernel) (by decide +kernel), tb_at 802 (by decide +kernel) (by decide +kernel)⟩
theorem mok_X10_add : MOK yX10_add cX10_add 8 (some .int) 4 := ⟨tb_at 1344 (by decide +kernel) (by decide +kernel), tb_at 1 (by decide +kernel) (by decide +kernel), ⟨by decide +kernel, by decide +kernel, by decide +kernel⟩, by decide +kernel, by decide⟩
theorem im_X10_add : Cond.instanceMethod yX10_add ∈ TB ∧ Cond.selects yX10_add.cls yX10_add yX10_add ∈ TB := ⟨tb_at 1342 (by decide +kernel) (by decide +kernel), tb_at 1343 (by decide +kernel) (by decide +kernel)⟩
theorem mok_X10_guard : MOK yX10_guard cX10_guard 6 (some .int) 4 := ⟨tb_at 824 (by decide +kernel) (by decide +kernel), tb_at 1 (by decide +kernel) (by decide +kernel), ⟨by decide +kernel, by decide +kernel, by decide +kernel⟩, by decide +kernel, by decide⟩
theorem im_X10_guard : Cond.instanceMethod yX10_guard ∈ TB ∧ Cond.selects yX10_guard.cls yX10_guard yX10_guard ∈ TB := ⟨tb_at 822 (by decide +kernel) (by decide +kernel), tb_at 823 (by decide +kernel) (by decide +kernel)⟩
theorem mok_X10_split : MOK yX10_split cX10_split 4 (some .int) 2 := ⟨tb_at 869 (by decide +kernel) (by decide +kernel), tb_at 1 (by decide +kernel) (by decide +kernel), ⟨by decide +kernel, by decide +kernel, by decide +kernel⟩, by decide +kernel, by decide⟩
theorem im_X10_split : Cond.instanceMethod yX10_split ∈ TB ∧ Cond.selects yX10_split.cls yX10_split yX10_split ∈ TB := ⟨tb_at 867 (by decide +kernel) (by decide +kernel), tb_at 868 (by decide +kernel) (by decide +kernel)⟩
theorem mok_X10_merge : MOK yX10_merge cX10_merge 8 (some .int) 2 := ⟨tb_at 895 (by decide +kernel) (by decide +kernel), tb_at 1 (by decide +kernel) (by decide +kernel), ⟨by decide +kernel, by decide +kernel, by decide +kernel⟩, by decide +kernel, by decide⟩
theorem im_X10_merge : Cond.instanceMethod yX10_merge ∈ TB ∧ Cond.selects yX10_merge.cls yX10_merge yX10_merge ∈ TB := ⟨tb_at 893 (by decide +kernel) (by decide +kernel), tb_at 894 (by decide +kernel) (by decide +kernel)⟩
theorem mok_X10_run : MOK yX10_run cX10_run 8 (some .int) 4 := ⟨tb_at 910 (by decide +kernel) (by decide +kernel), tb_at 1 (by decide +kernel) (by decide +kernel), ⟨by decide +kernel, by decide +kernel, by decide +kernel⟩, by decide +kernel, by decide⟩
theorem im_X10_run : Cond.instanceMethod yX10_run ∈ TB ∧ Cond.selects yX10_run.cls yX10_run yX10_run ∈ TB := ⟨tb_at 908 (by decide +kernel) (by decide +kernel), tb_at 909 (by decide +kernel) (by decide +kernel)⟩
theorem mok_X10_tests : MOK yX10_tests cX10_tests 1 (some .int) 0 := ⟨tb_at 1398 (by decide +kernel) (by decide +kernel), tb_at 1 (by decide +kernel) (by decide +kernel), ⟨by decide +kernel, by decide +kernel, by decide +kernel⟩, by decide +kernel, by decide⟩
theorem im_X10_tests : Cond.instanceMethod yX10_tests ∈ TB ∧ Cond.selects yX10_tests.cls yX10_tests yX10_tests ∈ TB := ⟨tb_at 1396 (by decide +kernel) (by decide +kernel), tb_at 1397 (by decide +kernel) (by decide +kernel)⟩
theorem mok_X10_views : MOK yX10_views cX10_views 1 (some .int) 0 := ⟨tb_at 1269 (by decide +kernel) (by decide +kernel), tb_at 1 (by decide +kernel) (by decide +kernel), ⟨by decide +kernel, by decide +kernel, by decide +kernel⟩, by decide +kernel, by decide⟩
theorem im_X10_views : Cond.instanceMethod yX10_views ∈ TB ∧ Cond.selects yX10_views.cls yX10_views yX10_views ∈ TB := ⟨tb_at 1267 (by decide +kernel) (by decide +kernel), tb_at 1268 (by decide +kernel) (by decide +kernel)⟩
theorem mok_X10_viewAt : MOK yX10_viewAt cX10_viewAt 2 (some .int) 1 := ⟨tb_at 1280 (by decide +kernel) (by decide +kernel), tb_at 1 (by decide +kernel) (by decide +kernel), ⟨by decide +kernel, by decide +kernel, by decide +kernel⟩, by decide +kernel, by decide⟩
theorem im_X10_viewAt : Cond.instanceMethod yX10_viewAt ∈ TB ∧ Cond.selects yX10_viewAt.cls yX10_viewAt yX10_viewAt ∈ TB := ⟨tb_at 1278 (by decide +kernel) (by decide +kernel), tb_at 1279 (by decide +kernel) (by decide +kernel)⟩
theorem mok_X10_bound : MOK yX10_bound cX10_bound 2 (some .int) 1 := ⟨tb_at 1291 (by decide +kernel) (by decide +kernel), tb_at 1 (by decide +kernel) (by decide +kernel), ⟨by decide +kernel, by decide +kernel, by decide +kernel⟩, by decide +kernel, by decide⟩
theorem im_X10_bound : Cond.instanceMethod yX10_bound ∈ TB ∧ Cond.selects yX10_bound.cls yX10_bound yX10_bound ∈ TB := ⟨tb_at 1289 (by decide +kernel) (by decide +kernel), tb_at 1290 (by decide +kernel) (by decide +kernel)⟩
theorem mok_X10_taken : MOK yX10_taken cX10_taken 2 (some .int) 1 := ⟨tb_at 1299 (by decide +kernel) (by decide +kernel), tb_at 1 (by decide +kernel) (by decide +kernel), ⟨by decide +kernel, by decide +kernel, by decide +kernel⟩, by decide +kernel, by decide⟩
theorem im_X10_taken : Cond.instanceMethod yX10_taken ∈ TB ∧ Cond.selects yX10_taken.cls yX10_taken yX10_taken ∈ TB := ⟨tb_at 1297 (by decide +kernel) (by decide +kernel), tb_at 1298 (by decide +kernel) (by decide +kernel)⟩
theorem mok_X10_size : MOK yX10_size cX10_size 4 (some .int) 2 := ⟨tb_at 1317 (by decide +kernel) (by decide +kernel), tb_at 1 (by decide +kernel) (by decide +kernel), ⟨by decide +kernel, by decide +kernel, by decide +kernel⟩, by decide +kernel, by decide⟩
theorem im_X10_size : Cond.instanceMethod yX10_size ∈ TB ∧ Cond.selects yX10_size.cls yX10_size yX10_size ∈ TB := ⟨tb_at 1315 (by decide +kernel) (by decide +kernel), tb_at 1316 (by decide +kernel) (by decide +kernel)⟩
theorem mok_X10_missing : MOK yX10_missing cX10_missing 1 (some .int) 0 := ⟨tb_at 1356 (by decide +kernel) (by decide +kernel), tb_at 1 (by decide +kernel) (by decide +kernel), ⟨by decide +kernel, by decide +kernel, by decide +kernel⟩, by decide +kernel, by decide⟩
theorem im_X10_missing : Cond.instanceMethod yX10_missing ∈ TB ∧ Cond.selects yX10_missing.cls yX10_missing yX10_missing ∈ TB := ⟨tb_at 1354 (by decide +kernel) (by decide +kernel), tb_at 1355 (by decide +kernel) (by decide +kernel)⟩
theorem mok_X10_example : MOK yX10_example cX10_example 2 (some .int) 1 := ⟨tb_at 1367 (by decide +kernel) (by decide +kernel), tb_at 1 (by decide +kernel) (by decide +kernel), ⟨by decide +kernel, by decide +kernel, by decide +kernel⟩, by decide +kernel, by decide⟩
theorem im_X10_example : Cond.instanceMethod yX10_example ∈ TB ∧ Cond.selects yX10_example.cls yX10_example yX10_example ∈ TB := ⟨tb_at 1365 (by decide +kernel) (by decide +kernel), tb_at 1366 (by decide +kernel) (by decide +kernel)⟩
theorem mok_X10_isUsed : MOK yX10_isUsed cX10_isUsed 2 (some .boolean) 1 := ⟨tb_at 1306 (by decide +kernel) (by decide +kernel), tb_at 1 (by decide +kernel) (by decide +kernel), ⟨by decide +kernel, by decide +kernel, by decide +kernel⟩, by decide +kernel, by decide⟩
theorem im_X10_isUsed : Cond.instanceMethod yX10_isUsed ∈ TB ∧ Cond.selects yX10_isUsed.cls yX10_isUsed yX10_isUsed ∈ TB := ⟨tb_at 1304 (by decide +kernel) (by decide +kernel), tb_at 1305 (by decide +kernel) (by decide +kernel)⟩
theorem mok_X10_treeOf : MOK yX10_treeOf cX10_treeOf 2 (some (.object "Patternforge$Tree")) 1 := ⟨tb_at 918 (by decide +kernel) (by decide +kernel), tb_at 1 (by decide +kernel) (by decide +kernel), ⟨by decide +kernel, by decide +kernel, by decide +kernel⟩, by decide +kernel, by decide⟩
theorem im_X10_treeOf : Cond.instanceMethod yX10_treeOf ∈ TB ∧ Cond.selects yX10_treeOf.cls yX10_treeOf yX10_treeOf ∈ TB := ⟨tb_at 917 (by decide +kernel) (by decide +kernel), tb_sel (q := (yX10_treeOf, 10)) 14 (by decide +kernel) (by decide +kernel)⟩
theorem mok_X10_forgetEngines : MOK yX10_forgetEngines cX10_forgetEngines 1 none 0 := ⟨tb_at 515 (by decide +kernel) (by decide +kernel), tb_at 1 (by decide +kernel) (by decide +kernel), ⟨by decide +kernel, by decide +kernel, by decide +kernel⟩, by decide +kernel, by decide⟩
theorem im_X10_forgetEngines : Cond.instanceMethod yX10_forgetEngines ∈ TB ∧ Cond.selects yX10_forgetEngines.cls yX10_forgetEngines yX10_forgetEngines ∈ TB := ⟨tb_at 514 (by decide +kernel) (by decide +kernel), tb_sel (q := (yX10_forgetEngines, 10)) 1 (by decide +kernel) (by decide +kernel)⟩
theorem mok_X10_keepPattern : MOK yX10_keepPattern cX10_keepPattern 8 (some .int) 7 := ⟨tb_at 658 (by decide +kernel) (by decide +kernel), tb_at 1 (by decide +kernel) (by decide +kernel), ⟨by decide +kernel, by decide +kernel, by decide +kernel⟩, by decide +kernel, by decide⟩
theorem im_X10_keepPattern : Cond.instanceMethod yX10_keepPattern ∈ TB ∧ Cond.selects yX10_keepPattern.cls yX10_keepPattern yX10_keepPattern ∈ TB := ⟨tb_at 657 (by decide +kernel) (by decide +kernel), tb_sel (q := (yX10_keepPattern, 10)) 6 (by decide +kernel) (by decide +kernel)⟩
theorem mok_X10_bindsNumber : MOK yX10_bindsNumber cX10_bindsNumber 6 (some .boolean) 2 := ⟨tb_at 832 (by decide +kernel) (by decide +kernel), tb_at 1 (by decide +kernel) (by decide +kernel), ⟨by decide +kernel, by decide +kernel, by decide +kernel⟩, by decide +kernel, by decide⟩
theorem im_X10_bindsNumber : Cond.instanceMethod yX10_bindsNumber ∈ TB ∧ Cond.selects yX10_bindsNumber.cls yX10_bindsNumber yX10_bindsNumber ∈ TB := ⟨tb_at 831 (by decide +kernel) (by decide +kernel), tb_sel (q := (yX10_bindsNumber, 10)) 12 (by decide +kernel) (by decide +kernel)⟩
theorem mok_X10_bindsOther : MOK yX10_bindsOther cX10_bindsOther 10 (some .boolean) 6 := ⟨tb_at 850 (by decide +kernel) (by decide +kernel), tb_at 1 (by decide +kernel) (by decide +kernel), ⟨by decide +kernel, by decide +kernel, by decide +kernel⟩, by decide +kernel, by decide⟩
theorem sm_X10_bindsOther : Cond.static yX10_bindsOther ∈ TB := tb_at 849 (by decide +kernel) (by decide +kernel)
theorem mok_X10_demandValues : MOK yX10_demandValues cX10_demandValues 6 none 4 := ⟨tb_at 607 (by decide +kernel) (by decide +kernel), tb_at 1 (by decide +kernel) (by decide +kernel), ⟨by decide +kernel, by decide +kernel, by decide +kernel⟩, by decide +kernel, by decide⟩
theorem im_X10_demandValues : Cond.instanceMethod yX10_demandValues ∈ TB ∧ Cond.selects yX10_demandValues.cls yX10_demandValues yX10_demandValues ∈ TB := ⟨tb_at 606 (by decide +kernel) (by decide +kernel), tb_sel (q := (yX10_demandValues, 10)) 3 (by decide +kernel) (by decide +kernel)⟩
theorem mok_X10_demandPatterns : MOK yX10_demandPatterns cX10_demandPatterns 6 none 4 := ⟨tb_at 729 (by decide +kernel) (by decide +kernel), tb_at 1 (by decide +kernel) (by decide +kernel), ⟨by decide +kernel, by decide +kernel, by decide +kernel⟩, by decide +kernel, by decide⟩
theorem im_X10_demandPatterns : Cond.instanceMethod yX10_demandPatterns ∈ TB ∧ Cond.selects yX10_demandPatterns.cls yX10_demandPatterns yX10_demandPatterns ∈ TB := ⟨tb_at 728 (by decide +kernel) (by decide +kernel), tb_sel (q := (yX10_demandPatterns, 10)) 11 (by decide +kernel) (by decide +kernel)⟩
theorem mok_X10_demandIndex : MOK yX10_demandIndex cX10_demandIndex 1 none 1 := ⟨tb_at 390 (by decide +kernel) (by decide +kernel), tb_at 1 (by decide +kernel) (by decide +kernel), ⟨by decide +kernel, by decide +kernel, by decide +kernel⟩, by decide +kernel, by decide⟩
theorem sm_X10_demandIndex : Cond.static yX10_demandIndex ∈ TB := tb_at 389 (by decide +kernel) (by decide +kernel)
theorem mok_X10_demandArgument : MOK yX10_demandArgument cX10_demandArgument 1 none 1 := ⟨tb_at 462 (by decide +kernel) (by decide +kernel), tb_at 1 (by decide +kernel) (by decide +kernel), ⟨by decide +kernel, by decide +kernel, by decide +kernel⟩, by decide +kernel, by decide⟩
theorem sm_X10_demandArgument : Cond.static yX10_demandArgument ∈ TB := tb_at 461 (by decide +kernel) (by decide +kernel)
theorem mok_X10_demandState : MOK yX10_demandState cX10_demandState 1 none 1 := ⟨tb_at 495 (by decide +kernel) (by decide +kernel), tb_at 1 (by decide +kernel) (by decide +kernel), ⟨by decide +kernel, by decide +kernel, by decide +kernel⟩, by decide +kernel, by decide⟩
theorem sm_X10_demandState : Cond.static yX10_demandState ∈ TB := tb_at 494 (by decide +kernel) (by decide +kernel)
theorem mok_X10_isIn : MOK yX10_isIn cX10_isIn 3 (some .boolean) 3 := ⟨tb_at 387 (by decide +kernel) (by decide +kernel), tb_at 1 (by decide +kernel) (by decide +kernel), ⟨by decide +kernel, by decide +kernel, by decide +kernel⟩, by decide +kernel, by decide⟩
theorem sm_X10_isIn : Cond.static yX10_isIn ∈ TB := tb_at 386 (by decide +kernel) (by decide +kernel)
theorem mok_X10_isDigit : MOK yX10_isDigit cX10_isDigit 1 (some .boolean) 1 := ⟨tb_at 543 (by decide +kernel) (by decide +kernel), tb_at 1 (by decide +kernel) (by decide +kernel), ⟨by decide +kernel, by decide +kernel, by decide +kernel⟩, by decide +kernel, by decide⟩
theorem sm_X10_isDigit : Cond.static yX10_isDigit ∈ TB := tb_at 542 (by decide +kernel) (by decide +kernel)
theorem mok_X10_isName : MOK yX10_isName cX10_isName 1 (some .boolean) 1 := ⟨tb_at 626 (by decide +kernel) (by decide +kernel), tb_at 1 (by decide +kernel) (by decide +kernel), ⟨by decide +kernel, by decide +kernel, by decide +kernel⟩, by decide +kernel, by decide⟩
theorem sm_X10_isName : Cond.static yX10_isName ∈ TB := tb_at 625 (by decide +kernel) (by decide +kernel)
theorem mok_X10_isView : MOK yX10_isView cX10_isView 1 (some .boolean) 1 := ⟨tb_at 769 (by decide +kernel) (by decide +kernel), tb_at 1 (by decide +kernel) (by decide +kernel), ⟨by decide +kernel, by decide +kernel, by decide +kernel⟩, by decide +kernel, by decide⟩
theorem sm_X10_isView : Cond.static yX10_isView ∈ TB := tb_at 768 (by decide +kernel) (by decide +kernel)
theorem mok_X10_pick : MOK yX10_pick cX10_pick 4 (some .int) 4 := ⟨tb_at 481 (by decide +kernel) (by decide +kernel), tb_at 1 (by decide +kernel) (by decide +kernel), ⟨by decide +kernel, by decide +kernel, by decide +kernel⟩, by decide +kernel, by decide⟩
theorem sm_X10_pick : Cond.static yX10_pick ∈ TB := tb_at 480 (by decide +kernel) (by decide +kernel)
theorem mok_X10_inner : MOK yX10_inner cX10_inner 2 (some .int) 2 := ⟨tb_at 1002 (by decide +kernel) (by decide +kernel), tb_at 1 (by decide +kernel) (by decide +kernel), ⟨by decide +kernel, by decide +kernel, by decide +kernel⟩, by decide +kernel, by decide⟩
theorem sm_X10_inner : Cond.static yX10_inner ∈ TB := tb_at 1001 (by decide +kernel) (by decide +kernel)
theorem mok_X10_at : MOK yX10_at cX10_at 2 (some .int) 2 := ⟨tb_at 563 (by decide +kernel) (by decide +kernel), tb_at 1 (by decide +kernel) (by decide +kernel), ⟨by decide +kernel, by decide +kernel, by decide +kernel⟩, by decide +kernel, by decide⟩
theorem sm_X10_at : Cond.static yX10_at ∈ TB := tb_at 562 (by decide +kernel) (by decide +kernel)
theorem mok_X10_atOrZero : MOK yX10_atOrZero cX10_atOrZero 2 (some .int) 2 := ⟨tb_at 492 (by decide +kernel) (by decide +kernel), tb_at 1 (by decide +kernel) (by decide +kernel), ⟨by decide +kernel, by decide +kernel, by decide +kernel⟩, by decide +kernel, by decide⟩
theorem sm_X10_atOrZero : Cond.static yX10_atOrZero ∈ TB := tb_at 491 (by decide +kernel) (by decide +kernel)
theorem mok_X10_put : MOK yX10_put cX10_put 3 none 3 := ⟨tb_at 57 (by decide +kernel) (by decide +kernel), tb_at 1 (by decide +kernel) (by decide +kernel), ⟨by decide +kernel, by decide +kernel, by decide +kernel⟩, by decide +kernel, by decide⟩
theorem sm_X10_put : Cond.static yX10_put ∈ TB := tb_at 56 (by decide +kernel) (by decide +kernel)
theorem mok_X10_givenAt : MOK yX10_givenAt cX10_givenAt 3 (some .int) 3 := ⟨tb_at 975 (by decide +kernel) (by decide +kernel), tb_at 1 (by decide +kernel) (by decide +kernel), ⟨by decide +kernel, by decide +kernel, by decide +kernel⟩, by decide +kernel, by decide⟩
theorem sm_X10_givenAt : Cond.static yX10_givenAt ∈ TB := tb_at 974 (by decide +kernel) (by decide +kernel)
theorem mok_X10_putGiven : MOK yX10_putGiven cX10_putGiven 5 none 4 := ⟨tb_at 1072 (by decide +kernel) (by decide +kernel), tb_at 1 (by decide +kernel) (by decide +kernel), ⟨by decide +kernel, by decide +kernel, by decide +kernel⟩, by decide +kernel, by decide⟩
theorem sm_X10_putGiven : Cond.static yX10_putGiven ∈ TB := tb_at 1071 (by decide +kernel) (by decide +kernel)
theorem mok_J6_bitCount_0f7a4 : MOK yJ6_bitCount_0f7a4 cJ6_bitCount_0f7a4 1 (some .int) 1 := ⟨tb_at 1025 (by decide +kernel) (by decide +kernel), tb_at 20 (by decide +kernel) (by decide +kernel), ⟨by decide +kernel, by decide +kernel, by decide +kernel⟩, by decide +kernel, by decide⟩
theorem sm_J6_bitCount_0f7a4 : Cond.static yJ6_bitCount_0f7a4 ∈ TB := tb_at 1024 (by decide +kernel) (by decide +kernel)
theorem mok_J9_floorMod_7cf53 : MOK yJ9_floorMod_7cf53 cJ9_floorMod_7cf53 3 (some .int) 2 := ⟨tb_at 1124 (by decide +kernel) (by decide +kernel), tb_at 19 (by decide +kernel) (by decide +kernel), ⟨by decide +kernel, by decide +kernel, by decide +kernel⟩, by decide +kernel, by decide⟩
theorem sm_J9_floorMod_7cf53 : Cond.static yJ9_floorMod_7cf53 ∈ TB := tb_at 1123 (by decide +kernel) (by decide +kernel)
theorem mok_J9_max_7cf53 : MOK yJ9_max_7cf53 cJ9_max_7cf53 2 (some .int) 2 := ⟨tb_at 683 (by decide +kernel) (by decide +kernel), tb_at 19 (by decide +kernel) (by decide +kernel), ⟨by decide +kernel, by decide +kernel, by decide +kernel⟩, by decide +kernel, by decide⟩
theorem sm_J9_max_7cf53 : Cond.static yJ9_max_7cf53 ∈ TB := tb_at 682 (by decide +kernel) (by decide +kernel)
theorem mok_J7_fill_53178 : MOK yJ7_fill_53178 cJ7_fill_53178 4 none 2 := ⟨tb_at 54 (by decide +kernel) (by decide +kernel), tb_at 4 (by decide +kernel) (by decide +kernel), ⟨by decide +kernel, by decide +kernel, by decide +kernel⟩, by decide +kernel, by decide⟩
theorem sm_J7_fill_53178 : Cond.static yJ7_fill_53178 ∈ TB := tb_at 53 (by decide +kernel) (by decide +kernel)
theorem mok_L_drawn : MOK yL_drawn cL_drawn 2 (some .int) 2 := ⟨tb_at 366 (by decide +kernel) (by decide +kernel), tb_at 0 (by decide +kernel) (by decide +kernel), ⟨by decide +kernel, by decide +kernel, by decide +kernel⟩, by decide +kernel, by decide⟩
theorem sm_L_drawn : Cond.static yL_drawn ∈ TB := tb_at 365 (by decide +kernel) (by decide +kernel)
theorem sm_L_refuses : Cond.static yL_refuses ∈ TB := tb_at 370 (by decide +kernel) (by decide +kernel)
theorem sm_L_act : Cond.static yL_act ∈ TB := tb_at 1377 (by decide +kernel) (by decide +kernel)
theorem mok_L_kind : MOK yL_kind cL_kind 1 (some .int) 1 := ⟨tb_at 1388 (by decide +kernel) (by decide +kernel), tb_at 0 (by decide +kernel) (by decide +kernel), ⟨by decide +kernel, by decide +kernel, by decide +kernel⟩, by decide +kernel, by decide⟩
theorem sm_L_kind : Cond.static yL_kind ∈ TB := tb_at 1387 (by decide +kernel) (by decide +kernel)
theorem mok_L_keep : MOK yL_keep cL_keep 6 none 3 := ⟨tb_at 1391 (by decide +kernel) (by decide +kernel), tb_at 0 (by decide +kernel) (by decide +kernel), ⟨by decide +kernel, by decide +kernel, by decide +kernel⟩, by decide +kernel, by decide⟩
theorem sm_L_keep : Cond.static yL_keep ∈ TB := tb_at 1390 (by decide +kernel) (by decide +kernel)
theorem mok_L_alike : MOK yL_alike cL_alike 6 (some .boolean) 4 := ⟨tb_at 1394 (by decide +kernel) (by decide +kernel), tb_at 0 (by decide +kernel) (by decide +kernel), ⟨by decide +kernel, by decide +kernel, by decide +kernel⟩, by decide +kernel, by decide⟩
theorem sm_L_alike : Cond.static yL_alike ∈ TB := tb_at 1393 (by decide +kernel) (by decide +kernel)
theorem sm_L_agrees : Cond.static yL_agrees ∈ TB := tb_at 1404 (by decide +kernel) (by decide +kernel)
theorem ln_12_171 : Cond.methodLink (ownN 12) 171 yX10_init ∈ TB := tb_at 23 (by decide +kernel) (by decide +kernel)
theorem ln_10_9 : (ownN 10, 9, yX2_init, "Patternforge") ∈ NL := List.mem_of_getElem? (i := 0) rfl
theorem ln_10_18 : Cond.methodLink (ownN 10) 18 yX8_init ∈ TB := tb_at 48 (by decide +kernel) (by decide +kernel)
theorem ln_8_28 : Cond.methodLink (ownN 8) 28 yJ7_fill_53178 ∈ TB := tb_at 52 (by decide +kernel) (by decide +kernel)
theorem ln_8_34 : (ownN 8, 34, yX10_put, "Patternforge") ∈ NL := List.mem_of_getElem? (i := 1) rfl
theorem ln_10_25 : (ownN 10, 25, yX5_init, "Patternforge") ∈ NL := List.mem_of_getElem? (i := 2) rfl
theorem ln_10_32 : Cond.methodLink (ownN 10) 32 yX9_init ∈ TB := tb_at 119 (by decide +kernel) (by decide +kernel)
theorem ln_9_15 : (ownN 9, 15, yX10_put, "Patternforge") ∈ NL := List.mem_of_getElem? (i := 3) rfl
theorem ln_10_39 : (ownN 10, 39, yX4_init, "Patternforge") ∈ NL := List.mem_of_getElem? (i := 4) rfl
theorem ln_10_46 : Cond.methodLink (ownN 10) 46 yX1_init ∈ TB := tb_at 149 (by decide +kernel) (by decide +kernel)
theorem ln_1_43 : Cond.methodLink (ownN 1) 43 yJ7_fill_53178 ∈ TB := tb_at 153 (by decide +kernel) (by decide +kernel)
theorem ln_10_55 : Cond.methodLink (ownN 10) 55 yX6_init ∈ TB := tb_at 184 (by decide +kernel) (by decide +kernel)
theorem ln_10_64 : Cond.methodLink (ownN 10) 64 yX0_init ∈ TB := tb_at 200 (by decide +kernel) (by decide +kernel)
theorem ln_10_71 : Cond.methodLink (ownN 10) 71 yX3_init ∈ TB := tb_at 234 (by decide +kernel) (by decide +kernel)
theorem ln_10_76 : Cond.methodLink (ownN 10) 76 yX7_init ∈ TB := tb_at 283 (by decide +kernel) (by decide +kernel)
theorem ln_12_172 : Cond.methodLink (ownN 12) 172 yL_drawn ∈ TB := tb_at 364 (by decide +kernel) (by decide +kernel)
theorem ln_12_180 : Cond.methodLink (ownN 12) 180 yL_refuses ∈ TB := tb_at 369 (by decide +kernel) (by decide +kernel)
theorem ln_12_7 : Cond.methodLink (ownN 12) 7 yX10_constructor ∈ TB := tb_at 378 (by decide +kernel) (by decide +kernel)
theorem ln_10_86 : Cond.methodLink (ownN 10) 86 yX2_isType ∈ TB := tb_at 382 (by decide +kernel) (by decide +kernel)
theorem ln_2_21 : (ownN 2, 21, yX10_isIn, "Patternforge") ∈ NL := List.mem_of_getElem? (i := 5) rfl
theorem ln_10_90 : Cond.methodLink (ownN 10) 90 yX10_demandIndex ∈ TB := tb_at 388 (by decide +kernel) (by decide +kernel)
theorem ln_10_94 : Cond.methodLink (ownN 10) 94 yX10_isIn ∈ TB := tb_at 459 (by decide +kernel) (by decide +kernel)
theorem ln_10_98 : Cond.methodLink (ownN 10) 98 yX10_demandArgument ∈ TB := tb_at 460 (by decide +kernel) (by decide +kernel)
theorem ln_10_101 : Cond.methodLink (ownN 10) 101 yX10_pick ∈ TB := tb_at 479 (by decide +kernel) (by decide +kernel)
theorem ln_10_105 : Cond.methodLink (ownN 10) 105 yX2_isKind ∈ TB := tb_at 482 (by decide +kernel) (by decide +kernel)
theorem ln_2_25 : Cond.methodLink (ownN 2) 25 yX2_isType ∈ TB := tb_at 485 (by decide +kernel) (by decide +kernel)
theorem ln_10_108 : Cond.methodLink (ownN 10) 108 yX2_countOf ∈ TB := tb_at 486 (by decide +kernel) (by decide +kernel)
theorem ln_2_29 : (ownN 2, 29, yX10_atOrZero, "Patternforge") ∈ NL := List.mem_of_getElem? (i := 6) rfl
theorem ln_10_112 : Cond.methodLink (ownN 10) 112 yX10_demandState ∈ TB := tb_at 493 (by decide +kernel) (by decide +kernel)
theorem ln_10_115 : Cond.methodLink (ownN 10) 115 yX10_forgetEngines ∈ TB := tb_at 512 (by decide +kernel) (by decide +kernel)
theorem ln_10_293 : Cond.methodLink (ownN 10) 293 yX0_forget ∈ TB := tb_at 516 (by decide +kernel) (by decide +kernel)
theorem ln_10_296 : Cond.methodLink (ownN 10) 296 yX7_forget ∈ TB := tb_at 520 (by decide +kernel) (by decide +kernel)
theorem ln_10_118 : Cond.methodLink (ownN 10) 118 yX2_extend ∈ TB := tb_at 524 (by decide +kernel) (by decide +kernel)
theorem ln_2_33 : Cond.methodLink (ownN 2) 33 yX2_countOf ∈ TB := tb_at 528 (by decide +kernel) (by decide +kernel)
theorem ln_2_44 : (ownN 2, 44, yX10_put, "Patternforge") ∈ NL := List.mem_of_getElem? (i := 7) rfl
theorem ln_2_48 : (ownN 2, 48, yX10_pick, "Patternforge") ∈ NL := List.mem_of_getElem? (i := 8) rfl
theorem ln_12_22 : Cond.methodLink (ownN 12) 22 yX10_num ∈ TB := tb_at 537 (by decide +kernel) (by decide +kernel)
theorem ln_10_122 : Cond.methodLink (ownN 10) 122 yX10_isDigit ∈ TB := tb_at 541 (by decide +kernel) (by decide +kernel)
theorem ln_10_125 : Cond.methodLink (ownN 10) 125 yX8_hasRoom ∈ TB := tb_at 544 (by decide +kernel) (by decide +kernel)
theorem ln_10_129 : Cond.methodLink (ownN 10) 129 yX8_keep ∈ TB := tb_at 548 (by decide +kernel) (by decide +kernel)
theorem ln_8_46 : (ownN 8, 46, yX10_pick, "Patternforge") ∈ NL := List.mem_of_getElem? (i := 9) rfl
theorem ln_8_50 : Cond.methodLink (ownN 8) 50 yX8_measureNow ∈ TB := tb_at 553 (by decide +kernel) (by decide +kernel)
theorem ln_8_54 : Cond.methodLink (ownN 8) 54 yX8_kindOf ∈ TB := tb_at 557 (by decide +kernel) (by decide +kernel)
theorem ln_8_42 : (ownN 8, 42, yX10_at, "Patternforge") ∈ NL := List.mem_of_getElem? (i := 10) rfl
theorem ln_8_57 : Cond.methodLink (ownN 8) 57 yX8_headOf ∈ TB := tb_at 564 (by decide +kernel) (by decide +kernel)
theorem ln_8_60 : Cond.methodLink (ownN 8) 60 yX8_partOf ∈ TB := tb_at 568 (by decide +kernel) (by decide +kernel)
theorem ln_8_38 : (ownN 8, 38, yX10_isIn, "Patternforge") ∈ NL := List.mem_of_getElem? (i := 11) rfl
theorem ln_8_64 : Cond.methodLink (ownN 8) 64 yX8_measureOf ∈ TB := tb_at 573 (by decide +kernel) (by decide +kernel)
theorem ln_12_26 : Cond.methodLink (ownN 12) 26 yX10_seq ∈ TB := tb_at 580 (by decide +kernel) (by decide +kernel)
theorem ln_10_132 : Cond.methodLink (ownN 10) 132 yX8_digit ∈ TB := tb_at 584 (by decide +kernel) (by decide +kernel)
theorem ln_12_30 : Cond.methodLink (ownN 12) 30 yX10_data ∈ TB := tb_at 590 (by decide +kernel) (by decide +kernel)
theorem ln_10_136 : Cond.methodLink (ownN 10) 136 yX2_has ∈ TB := tb_at 594 (by decide +kernel) (by decide +kernel)
theorem ln_10_140 : Cond.methodLink (ownN 10) 140 yX2_fieldsOf ∈ TB := tb_at 598 (by decide +kernel) (by decide +kernel)
theorem ln_2_37 : Cond.methodLink (ownN 2) 37 yX2_has ∈ TB := tb_at 602 (by decide +kernel) (by decide +kernel)
theorem ln_2_41 : (ownN 2, 41, yX10_at, "Patternforge") ∈ NL := List.mem_of_getElem? (i := 12) rfl
theorem ln_10_144 : Cond.methodLink (ownN 10) 144 yX10_demandValues ∈ TB := tb_at 604 (by decide +kernel) (by decide +kernel)
theorem ln_10_313 : Cond.methodLink (ownN 10) 313 yX8_isThere ∈ TB := tb_at 608 (by decide +kernel) (by decide +kernel)
theorem ln_10_148 : Cond.methodLink (ownN 10) 148 yX2_fieldKind ∈ TB := tb_at 612 (by decide +kernel) (by decide +kernel)
theorem ln_10_152 : Cond.methodLink (ownN 10) 152 yX8_kindOf ∈ TB := tb_at 616 (by decide +kernel) (by decide +kernel)
theorem ln_12_37 : Cond.methodLink (ownN 12) 37 yX10_name ∈ TB := tb_at 620 (by decide +kernel) (by decide +kernel)
theorem ln_10_159 : Cond.methodLink (ownN 10) 159 yX10_isName ∈ TB := tb_at 624 (by decide +kernel) (by decide +kernel)
theorem ln_10_162 : Cond.methodLink (ownN 10) 162 yX5_isThere ∈ TB := tb_at 627 (by decide +kernel) (by decide +kernel)
theorem ln_5_49 : (ownN 5, 49, yX10_isIn, "Patternforge") ∈ NL := List.mem_of_getElem? (i := 13) rfl
theorem ln_10_165 : Cond.methodLink (ownN 10) 165 yX5_binds ∈ TB := tb_at 632 (by decide +kernel) (by decide +kernel)
theorem ln_5_70 : (ownN 5, 70, yX10_isName, "Patternforge") ∈ NL := List.mem_of_getElem? (i := 14) rfl
theorem ln_5_74 : Cond.methodLink (ownN 5) 74 yX5_namesOf ∈ TB := tb_at 637 (by decide +kernel) (by decide +kernel)
theorem ln_5_57 : (ownN 5, 57, yX10_atOrZero, "Patternforge") ∈ NL := List.mem_of_getElem? (i := 15) rfl
theorem ln_10_168 : Cond.methodLink (ownN 10) 168 yX5_isSmall ∈ TB := tb_at 642 (by decide +kernel) (by decide +kernel)
theorem ln_5_77 : Cond.methodLink (ownN 5) 77 yX5_sizeOf ∈ TB := tb_at 646 (by decide +kernel) (by decide +kernel)
theorem ln_10_171 : Cond.methodLink (ownN 10) 171 yX5_kindOf ∈ TB := tb_at 650 (by decide +kernel) (by decide +kernel)
theorem ln_5_53 : (ownN 5, 53, yX10_at, "Patternforge") ∈ NL := List.mem_of_getElem? (i := 16) rfl
theorem ln_10_155 : Cond.methodLink (ownN 10) 155 yX10_keepPattern ∈ TB := tb_at 655 (by decide +kernel) (by decide +kernel)
theorem ln_10_297 : Cond.methodLink (ownN 10) 297 yX5_hasRoom ∈ TB := tb_at 659 (by decide +kernel) (by decide +kernel)
theorem ln_10_298 : Cond.methodLink (ownN 10) 298 yX5_keep ∈ TB := tb_at 663 (by decide +kernel) (by decide +kernel)
theorem ln_5_94 : (ownN 5, 94, yX10_put, "Patternforge") ∈ NL := List.mem_of_getElem? (i := 17) rfl
theorem ln_5_98 : (ownN 5, 98, yX10_pick, "Patternforge") ∈ NL := List.mem_of_getElem? (i := 18) rfl
theorem ln_5_102 : Cond.methodLink (ownN 5) 102 yX5_partCount ∈ TB := tb_at 669 (by decide +kernel) (by decide +kernel)
theorem ln_5_86 : Cond.methodLink (ownN 5) 86 yX5_deepest ∈ TB := tb_at 673 (by decide +kernel) (by decide +kernel)
theorem ln_5_121 : Cond.methodLink (ownN 5) 121 yX5_depthOf ∈ TB := tb_at 677 (by decide +kernel) (by decide +kernel)
theorem ln_5_124 : Cond.methodLink (ownN 5) 124 yJ9_max_7cf53 ∈ TB := tb_at 681 (by decide +kernel) (by decide +kernel)
theorem ln_5_105 : Cond.methodLink (ownN 5) 105 yX5_hasView ∈ TB := tb_at 684 (by decide +kernel) (by decide +kernel)
theorem ln_5_108 : Cond.methodLink (ownN 5) 108 yX5_digitsNow ∈ TB := tb_at 688 (by decide +kernel) (by decide +kernel)
theorem ln_5_60 : Cond.methodLink (ownN 5) 60 yX5_sortOf ∈ TB := tb_at 692 (by decide +kernel) (by decide +kernel)
theorem ln_5_111 : Cond.methodLink (ownN 5) 111 yX5_highOf ∈ TB := tb_at 696 (by decide +kernel) (by decide +kernel)
theorem ln_5_114 : Cond.methodLink (ownN 5) 114 yX5_lowOf ∈ TB := tb_at 700 (by decide +kernel) (by decide +kernel)
theorem ln_5_117 : Cond.methodLink (ownN 5) 117 yX5_partOf ∈ TB := tb_at 704 (by decide +kernel) (by decide +kernel)
theorem ln_5_67 : Cond.methodLink (ownN 5) 67 yX5_digitsOf ∈ TB := tb_at 708 (by decide +kernel) (by decide +kernel)
theorem ln_12_41 : Cond.methodLink (ownN 12) 41 yX10_range ∈ TB := tb_at 715 (by decide +kernel) (by decide +kernel)
theorem ln_12_44 : Cond.methodLink (ownN 12) 44 yX10_make ∈ TB := tb_at 722 (by decide +kernel) (by decide +kernel)
theorem ln_10_172 : Cond.methodLink (ownN 10) 172 yX10_demandPatterns ∈ TB := tb_at 726 (by decide +kernel) (by decide +kernel)
theorem ln_10_175 : Cond.methodLink (ownN 10) 175 yX5_fits ∈ TB := tb_at 730 (by decide +kernel) (by decide +kernel)
theorem ln_5_64 : Cond.methodLink (ownN 5) 64 yX5_kindOf ∈ TB := tb_at 734 (by decide +kernel) (by decide +kernel)
theorem ln_10_178 : Cond.methodLink (ownN 10) 178 yX5_canBeParts ∈ TB := tb_at 735 (by decide +kernel) (by decide +kernel)
theorem ln_5_80 : Cond.methodLink (ownN 5) 80 yX5_bindApart ∈ TB := tb_at 739 (by decide +kernel) (by decide +kernel)
theorem ln_5_83 : Cond.methodLink (ownN 5) 83 yX5_isSmall ∈ TB := tb_at 743 (by decide +kernel) (by decide +kernel)
theorem ln_12_47 : Cond.methodLink (ownN 12) 47 yX10_either ∈ TB := tb_at 747 (by decide +kernel) (by decide +kernel)
theorem ln_10_181 : Cond.methodLink (ownN 10) 181 yX5_canAlternate ∈ TB := tb_at 751 (by decide +kernel) (by decide +kernel)
theorem ln_5_90 : Cond.methodLink (ownN 5) 90 yX5_fits ∈ TB := tb_at 755 (by decide +kernel) (by decide +kernel)
theorem ln_10_184 : Cond.methodLink (ownN 10) 184 yX5_kindOfBoth ∈ TB := tb_at 756 (by decide +kernel) (by decide +kernel)
theorem ln_12_50 : Cond.methodLink (ownN 12) 50 yX10_view ∈ TB := tb_at 763 (by decide +kernel) (by decide +kernel)
theorem ln_10_187 : Cond.methodLink (ownN 10) 187 yX10_isView ∈ TB := tb_at 767 (by decide +kernel) (by decide +kernel)
theorem ln_10_190 : Cond.methodLink (ownN 10) 190 yX5_isBare ∈ TB := tb_at 770 (by decide +kernel) (by decide +kernel)
theorem ln_12_53 : Cond.methodLink (ownN 12) 53 yX10_list ∈ TB := tb_at 777 (by decide +kernel) (by decide +kernel)
theorem ln_12_56 : Cond.methodLink (ownN 12) 56 yX10_setView ∈ TB := tb_at 784 (by decide +kernel) (by decide +kernel)
theorem ln_10_193 : Cond.methodLink (ownN 10) 193 yX9_change ∈ TB := tb_at 788 (by decide +kernel) (by decide +kernel)
theorem ln_9_23 : Cond.methodLink (ownN 9) 23 yX9_manyOf ∈ TB := tb_at 792 (by decide +kernel) (by decide +kernel)
theorem ln_9_19 : (ownN 9, 19, yX10_at, "Patternforge") ∈ NL := List.mem_of_getElem? (i := 19) rfl
theorem ln_12_59 : Cond.methodLink (ownN 12) 59 yX10_begin ∈ TB := tb_at 800 (by decide +kernel) (by decide +kernel)
theorem ln_10_196 : Cond.methodLink (ownN 10) 196 yX1_clear ∈ TB := tb_at 804 (by decide +kernel) (by decide +kernel)
theorem ln_1_49 : Cond.methodLink (ownN 1) 49 yX1_unbind ∈ TB := tb_at 808 (by decide +kernel) (by decide +kernel)
theorem ln_10_199 : Cond.methodLink (ownN 10) 199 yX4_start ∈ TB := tb_at 812 (by decide +kernel) (by decide +kernel)
theorem ln_4_41 : (ownN 4, 41, yX10_pick, "Patternforge") ∈ NL := List.mem_of_getElem? (i := 20) rfl
theorem ln_4_37 : (ownN 4, 37, yX10_put, "Patternforge") ∈ NL := List.mem_of_getElem? (i := 21) rfl
theorem ln_12_65 : Cond.methodLink (ownN 12) 65 yX10_guard ∈ TB := tb_at 821 (by decide +kernel) (by decide +kernel)
theorem ln_10_218 : Cond.methodLink (ownN 10) 218 yX4_has ∈ TB := tb_at 825 (by decide +kernel) (by decide +kernel)
theorem ln_10_220 : Cond.methodLink (ownN 10) 220 yX10_bindsNumber ∈ TB := tb_at 829 (by decide +kernel) (by decide +kernel)
theorem ln_10_202 : Cond.methodLink (ownN 10) 202 yX4_columns ∈ TB := tb_at 833 (by decide +kernel) (by decide +kernel)
theorem ln_10_223 : Cond.methodLink (ownN 10) 223 yX4_get ∈ TB := tb_at 837 (by decide +kernel) (by decide +kernel)
theorem ln_4_33 : Cond.methodLink (ownN 4) 33 yX4_has ∈ TB := tb_at 841 (by decide +kernel) (by decide +kernel)
theorem ln_4_25 : (ownN 4, 25, yX10_isIn, "Patternforge") ∈ NL := List.mem_of_getElem? (i := 22) rfl
theorem ln_4_29 : (ownN 4, 29, yX10_at, "Patternforge") ∈ NL := List.mem_of_getElem? (i := 23) rfl
theorem ln_10_206 : Cond.methodLink (ownN 10) 206 yX4_kindOf ∈ TB := tb_at 844 (by decide +kernel) (by decide +kernel)
theorem ln_10_300 : Cond.methodLink (ownN 10) 300 yX10_bindsOther ∈ TB := tb_at 848 (by decide +kernel) (by decide +kernel)
theorem ln_10_233 : Cond.methodLink (ownN 10) 233 yX5_sortOf ∈ TB := tb_at 851 (by decide +kernel) (by decide +kernel)
theorem ln_10_304 : Cond.methodLink (ownN 10) 304 yX5_lowOf ∈ TB := tb_at 852 (by decide +kernel) (by decide +kernel)
theorem ln_10_307 : Cond.methodLink (ownN 10) 307 yX5_partCount ∈ TB := tb_at 853 (by decide +kernel) (by decide +kernel)
theorem ln_10_310 : Cond.methodLink (ownN 10) 310 yX5_isList ∈ TB := tb_at 854 (by decide +kernel) (by decide +kernel)
theorem ln_10_243 : Cond.methodLink (ownN 10) 243 yX5_partOf ∈ TB := tb_at 858 (by decide +kernel) (by decide +kernel)
theorem ln_10_226 : Cond.methodLink (ownN 10) 226 yX4_set ∈ TB := tb_at 859 (by decide +kernel) (by decide +kernel)
theorem ln_12_68 : Cond.methodLink (ownN 12) 68 yX10_split ∈ TB := tb_at 866 (by decide +kernel) (by decide +kernel)
theorem ln_10_230 : Cond.methodLink (ownN 10) 230 yX4_hasColumn ∈ TB := tb_at 870 (by decide +kernel) (by decide +kernel)
theorem ln_10_236 : Cond.methodLink (ownN 10) 236 yX5_hasView ∈ TB := tb_at 874 (by decide +kernel) (by decide +kernel)
theorem ln_10_212 : Cond.methodLink (ownN 10) 212 yX4_count ∈ TB := tb_at 875 (by decide +kernel) (by decide +kernel)
theorem ln_10_239 : Cond.methodLink (ownN 10) 239 yX4_doubleCase ∈ TB := tb_at 879 (by decide +kernel) (by decide +kernel)
theorem ln_4_53 : Cond.methodLink (ownN 4) 53 yX4_copyCase ∈ TB := tb_at 883 (by decide +kernel) (by decide +kernel)
theorem ln_4_49 : Cond.methodLink (ownN 4) 49 yX4_get ∈ TB := tb_at 887 (by decide +kernel) (by decide +kernel)
theorem ln_4_45 : Cond.methodLink (ownN 4) 45 yX4_set ∈ TB := tb_at 888 (by decide +kernel) (by decide +kernel)
theorem ln_12_71 : Cond.methodLink (ownN 12) 71 yX10_merge ∈ TB := tb_at 892 (by decide +kernel) (by decide +kernel)
theorem ln_10_246 : Cond.methodLink (ownN 10) 246 yX4_areAlike ∈ TB := tb_at 896 (by decide +kernel) (by decide +kernel)
theorem ln_10_249 : Cond.methodLink (ownN 10) 249 yX4_dropCase ∈ TB := tb_at 900 (by decide +kernel) (by decide +kernel)
theorem ln_12_74 : Cond.methodLink (ownN 12) 74 yX10_run ∈ TB := tb_at 907 (by decide +kernel) (by decide +kernel)
theorem ln_10_210 : Cond.methodLink (ownN 10) 210 yX4_isThere ∈ TB := tb_at 911 (by decide +kernel) (by decide +kernel)
theorem ln_10_252 : Cond.methodLink (ownN 10) 252 yX10_treeOf ∈ TB := tb_at 915 (by decide +kernel) (by decide +kernel)
theorem ln_10_256 : Cond.methodLink (ownN 10) 256 yX7_grow ∈ TB := tb_at 919 (by decide +kernel) (by decide +kernel)
theorem ln_7_88 : Cond.methodLink (ownN 7) 88 yX3_clear ∈ TB := tb_at 923 (by decide +kernel) (by decide +kernel)
theorem ln_3_59 : Cond.methodLink (ownN 3) 59 yJ7_fill_53178 ∈ TB := tb_at 927 (by decide +kernel) (by decide +kernel)
theorem ln_7_91 : Cond.methodLink (ownN 7) 91 yX7_plant ∈ TB := tb_at 928 (by decide +kernel) (by decide +kernel)
theorem ln_7_94 : (ownN 7, 94, yX10_put, "Patternforge") ∈ NL := List.mem_of_getElem? (i := 24) rfl
theorem ln_7_61 : (ownN 7, 61, yX10_at, "Patternforge") ∈ NL := List.mem_of_getElem? (i := 25) rfl
theorem ln_7_65 : Cond.methodLink (ownN 7) 65 yX7_sortOf ∈ TB := tb_at 934 (by decide +kernel) (by decide +kernel)
theorem ln_7_71 : Cond.methodLink (ownN 7) 71 yX7_whatOf ∈ TB := tb_at 938 (by decide +kernel) (by decide +kernel)
theorem ln_7_102 : Cond.methodLink (ownN 7) 102 yX3_seekGuard ∈ TB := tb_at 942 (by decide +kernel) (by decide +kernel)
theorem ln_3_90 : Cond.methodLink (ownN 3) 90 yX4_get ∈ TB := tb_at 946 (by decide +kernel) (by decide +kernel)
theorem ln_3_94 : Cond.methodLink (ownN 3) 94 yX3_setNext ∈ TB := tb_at 947 (by decide +kernel) (by decide +kernel)
theorem ln_7_106 : Cond.methodLink (ownN 7) 106 yX3_seek ∈ TB := tb_at 951 (by decide +kernel) (by decide +kernel)
theorem ln_3_98 : Cond.methodLink (ownN 3) 98 yX4_count ∈ TB := tb_at 955 (by decide +kernel) (by decide +kernel)
theorem ln_3_102 : Cond.methodLink (ownN 3) 102 yX3_hasFailed ∈ TB := tb_at 956 (by decide +kernel) (by decide +kernel)
theorem ln_3_106 : Cond.methodLink (ownN 3) 106 yX3_tryCase ∈ TB := tb_at 960 (by decide +kernel) (by decide +kernel)
theorem ln_3_109 : Cond.methodLink (ownN 3) 109 yX4_columns ∈ TB := tb_at 964 (by decide +kernel) (by decide +kernel)
theorem ln_3_112 : Cond.methodLink (ownN 3) 112 yX3_tryAt ∈ TB := tb_at 965 (by decide +kernel) (by decide +kernel)
theorem ln_3_116 : Cond.methodLink (ownN 3) 116 yX5_sortOf ∈ TB := tb_at 969 (by decide +kernel) (by decide +kernel)
theorem ln_3_121 : Cond.methodLink (ownN 3) 121 yX5_lowOf ∈ TB := tb_at 970 (by decide +kernel) (by decide +kernel)
theorem ln_3_65 : (ownN 3, 65, yX10_put, "Patternforge") ∈ NL := List.mem_of_getElem? (i := 26) rfl
theorem ln_3_124 : Cond.methodLink (ownN 3) 124 yX5_partOf ∈ TB := tb_at 972 (by decide +kernel) (by decide +kernel)
theorem ln_3_127 : (ownN 3, 127, yX10_givenAt, "Patternforge") ∈ NL := List.mem_of_getElem? (i := 27) rfl
theorem ln_10_331 : Cond.methodLink (ownN 10) 331 yX10_atOrZero ∈ TB := tb_at 976 (by decide +kernel) (by decide +kernel)
theorem ln_3_131 : Cond.methodLink (ownN 3) 131 yX3_ask ∈ TB := tb_at 977 (by decide +kernel) (by decide +kernel)
theorem ln_3_134 : Cond.methodLink (ownN 3) 134 yX5_admits ∈ TB := tb_at 981 (by decide +kernel) (by decide +kernel)
theorem ln_3_138 : Cond.methodLink (ownN 3) 138 yX3_tryHead ∈ TB := tb_at 985 (by decide +kernel) (by decide +kernel)
theorem ln_3_73 : (ownN 3, 73, yX10_at, "Patternforge") ∈ NL := List.mem_of_getElem? (i := 28) rfl
theorem ln_3_141 : Cond.methodLink (ownN 3) 141 yX5_kindOf ∈ TB := tb_at 990 (by decide +kernel) (by decide +kernel)
theorem ln_3_144 : Cond.methodLink (ownN 3) 144 yX5_accepts ∈ TB := tb_at 991 (by decide +kernel) (by decide +kernel)
theorem ln_3_147 : Cond.methodLink (ownN 3) 147 yX5_offset ∈ TB := tb_at 995 (by decide +kernel) (by decide +kernel)
theorem ln_3_150 : Cond.methodLink (ownN 3) 150 yX5_partCount ∈ TB := tb_at 999 (by decide +kernel) (by decide +kernel)
theorem ln_3_153 : (ownN 3, 153, yX10_inner, "Patternforge") ∈ NL := List.mem_of_getElem? (i := 29) rfl
theorem ln_7_109 : Cond.methodLink (ownN 7) 109 yX3_sort ∈ TB := tb_at 1003 (by decide +kernel) (by decide +kernel)
theorem ln_7_113 : Cond.methodLink (ownN 7) 113 yX3_seekMost ∈ TB := tb_at 1007 (by decide +kernel) (by decide +kernel)
theorem ln_3_156 : Cond.methodLink (ownN 3) 156 yX3_need ∈ TB := tb_at 1011 (by decide +kernel) (by decide +kernel)
theorem ln_3_165 : Cond.methodLink (ownN 3) 165 yX3_needHead ∈ TB := tb_at 1015 (by decide +kernel) (by decide +kernel)
theorem ln_3_168 : Cond.methodLink (ownN 3) 168 yX3_markNeed ∈ TB := tb_at 1019 (by decide +kernel) (by decide +kernel)
theorem ln_3_160 : Cond.methodLink (ownN 3) 160 yJ6_bitCount_0f7a4 ∈ TB := tb_at 1023 (by decide +kernel) (by decide +kernel)
theorem ln_7_116 : Cond.methodLink (ownN 7) 116 yX7_keepNext ∈ TB := tb_at 1029 (by decide +kernel) (by decide +kernel)
theorem ln_7_120 : Cond.methodLink (ownN 7) 120 yX3_which ∈ TB := tb_at 1033 (by decide +kernel) (by decide +kernel)
theorem ln_7_123 : Cond.methodLink (ownN 7) 123 yX3_what ∈ TB := tb_at 1037 (by decide +kernel) (by decide +kernel)
theorem ln_7_126 : Cond.methodLink (ownN 7) 126 yX3_width ∈ TB := tb_at 1041 (by decide +kernel) (by decide +kernel)
theorem ln_3_77 : Cond.methodLink (ownN 3) 77 yX2_headsOf ∈ TB := tb_at 1045 (by decide +kernel) (by decide +kernel)
theorem ln_3_83 : Cond.methodLink (ownN 3) 83 yX9_manyOf ∈ TB := tb_at 1049 (by decide +kernel) (by decide +kernel)
theorem ln_7_78 : Cond.methodLink (ownN 7) 78 yX7_widthOf ∈ TB := tb_at 1050 (by decide +kernel) (by decide +kernel)
theorem ln_7_98 : Cond.methodLink (ownN 7) 98 yX7_learn ∈ TB := tb_at 1054 (by decide +kernel) (by decide +kernel)
theorem ln_7_129 : Cond.methodLink (ownN 7) 129 yX3_learnHead ∈ TB := tb_at 1058 (by decide +kernel) (by decide +kernel)
theorem ln_7_132 : Cond.methodLink (ownN 7) 132 yX7_whichOf ∈ TB := tb_at 1062 (by decide +kernel) (by decide +kernel)
theorem ln_7_135 : Cond.methodLink (ownN 7) 135 yX3_learnGiven ∈ TB := tb_at 1066 (by decide +kernel) (by decide +kernel)
theorem ln_3_69 : (ownN 3, 69, yX10_putGiven, "Patternforge") ∈ NL := List.mem_of_getElem? (i := 30) rfl
theorem ln_10_335 : Cond.methodLink (ownN 10) 335 yX10_put ∈ TB := tb_at 1073 (by decide +kernel) (by decide +kernel)
theorem ln_7_139 : Cond.methodLink (ownN 7) 139 yX3_learnFailed ∈ TB := tb_at 1074 (by decide +kernel) (by decide +kernel)
theorem ln_10_259 : Cond.methodLink (ownN 10) 259 yX1_start ∈ TB := tb_at 1078 (by decide +kernel) (by decide +kernel)
theorem ln_1_52 : Cond.methodLink (ownN 1) 52 yX1_clear ∈ TB := tb_at 1082 (by decide +kernel) (by decide +kernel)
theorem ln_1_55 : (ownN 1, 55, yX10_put, "Patternforge") ∈ NL := List.mem_of_getElem? (i := 31) rfl
theorem ln_10_261 : Cond.methodLink (ownN 10) 261 yX6_decide ∈ TB := tb_at 1084 (by decide +kernel) (by decide +kernel)
theorem ln_6_23 : Cond.methodLink (ownN 6) 23 yX4_count ∈ TB := tb_at 1088 (by decide +kernel) (by decide +kernel)
theorem ln_6_29 : Cond.methodLink (ownN 6) 29 yX6_fitsCase ∈ TB := tb_at 1089 (by decide +kernel) (by decide +kernel)
theorem ln_6_45 : Cond.methodLink (ownN 6) 45 yX1_unbind ∈ TB := tb_at 1093 (by decide +kernel) (by decide +kernel)
theorem ln_6_48 : Cond.methodLink (ownN 6) 48 yX4_columns ∈ TB := tb_at 1094 (by decide +kernel) (by decide +kernel)
theorem ln_6_51 : Cond.methodLink (ownN 6) 51 yX4_get ∈ TB := tb_at 1095 (by decide +kernel) (by decide +kernel)
theorem ln_6_55 : Cond.methodLink (ownN 6) 55 yX6_fitsAt ∈ TB := tb_at 1096 (by decide +kernel) (by decide +kernel)
theorem ln_6_59 : Cond.methodLink (ownN 6) 59 yX5_sortOf ∈ TB := tb_at 1100 (by decide +kernel) (by decide +kernel)
theorem ln_6_64 : Cond.methodLink (ownN 6) 64 yX5_lowOf ∈ TB := tb_at 1101 (by decide +kernel) (by decide +kernel)
theorem ln_6_67 : Cond.methodLink (ownN 6) 67 yX1_bind ∈ TB := tb_at 1102 (by decide +kernel) (by decide +kernel)
theorem ln_6_71 : Cond.methodLink (ownN 6) 71 yX5_partOf ∈ TB := tb_at 1106 (by decide +kernel) (by decide +kernel)
theorem ln_6_74 : Cond.methodLink (ownN 6) 74 yX1_look ∈ TB := tb_at 1107 (by decide +kernel) (by decide +kernel)
theorem ln_1_76 : (ownN 1, 76, yX10_givenAt, "Patternforge") ∈ NL := List.mem_of_getElem? (i := 32) rfl
theorem ln_1_59 : (ownN 1, 59, yX10_at, "Patternforge") ∈ NL := List.mem_of_getElem? (i := 33) rfl
theorem ln_1_80 : Cond.methodLink (ownN 1) 80 yX8_measureOf ∈ TB := tb_at 1113 (by decide +kernel) (by decide +kernel)
theorem ln_1_83 : Cond.methodLink (ownN 1) 83 yX9_give ∈ TB := tb_at 1114 (by decide +kernel) (by decide +kernel)
theorem ln_9_27 : Cond.methodLink (ownN 9) 27 yX9_get ∈ TB := tb_at 1118 (by decide +kernel) (by decide +kernel)
theorem ln_9_31 : Cond.methodLink (ownN 9) 31 yJ9_floorMod_7cf53 ∈ TB := tb_at 1122 (by decide +kernel) (by decide +kernel)
theorem ln_1_89 : (ownN 1, 89, yX10_putGiven, "Patternforge") ∈ NL := List.mem_of_getElem? (i := 34) rfl
theorem ln_6_77 : Cond.methodLink (ownN 6) 77 yX6_fitsNumber ∈ TB := tb_at 1127 (by decide +kernel) (by decide +kernel)
theorem ln_6_87 : Cond.methodLink (ownN 6) 87 yX1_countTest ∈ TB := tb_at 1130 (by decide +kernel) (by decide +kernel)
theorem ln_6_90 : Cond.methodLink (ownN 6) 90 yX5_accepts ∈ TB := tb_at 1134 (by decide +kernel) (by decide +kernel)
theorem ln_6_81 : Cond.methodLink (ownN 6) 81 yX6_fitsHead ∈ TB := tb_at 1135 (by decide +kernel) (by decide +kernel)
theorem ln_6_84 : Cond.methodLink (ownN 6) 84 yX1_headAt ∈ TB := tb_at 1139 (by decide +kernel) (by decide +kernel)
theorem ln_1_63 : Cond.methodLink (ownN 1) 63 yX8_headOf ∈ TB := tb_at 1143 (by decide +kernel) (by decide +kernel)
theorem ln_6_94 : Cond.methodLink (ownN 6) 94 yX1_open ∈ TB := tb_at 1144 (by decide +kernel) (by decide +kernel)
theorem ln_1_69 : (ownN 1, 69, yX10_inner, "Patternforge") ∈ NL := List.mem_of_getElem? (i := 35) rfl
theorem ln_1_73 : Cond.methodLink (ownN 1) 73 yX8_partOf ∈ TB := tb_at 1149 (by decide +kernel) (by decide +kernel)
theorem ln_6_98 : Cond.methodLink (ownN 6) 98 yX5_offset ∈ TB := tb_at 1150 (by decide +kernel) (by decide +kernel)
theorem ln_6_101 : Cond.methodLink (ownN 6) 101 yX5_partCount ∈ TB := tb_at 1151 (by decide +kernel) (by decide +kernel)
theorem ln_6_104 : (ownN 6, 104, yX10_inner, "Patternforge") ∈ NL := List.mem_of_getElem? (i := 36) rfl
theorem ln_6_33 : Cond.methodLink (ownN 6) 33 yX1_guardOf ∈ TB := tb_at 1153 (by decide +kernel) (by decide +kernel)
theorem ln_1_96 : Cond.methodLink (ownN 1) 96 yX4_get ∈ TB := tb_at 1157 (by decide +kernel) (by decide +kernel)
theorem ln_1_99 : Cond.methodLink (ownN 1) 99 yX1_placeOf ∈ TB := tb_at 1158 (by decide +kernel) (by decide +kernel)
theorem ln_1_102 : Cond.methodLink (ownN 1) 102 yX1_headAt ∈ TB := tb_at 1162 (by decide +kernel) (by decide +kernel)
theorem ln_6_39 : Cond.methodLink (ownN 6) 39 yX1_take ∈ TB := tb_at 1163 (by decide +kernel) (by decide +kernel)
theorem ln_1_105 : Cond.methodLink (ownN 1) 105 yX4_set ∈ TB := tb_at 1167 (by decide +kernel) (by decide +kernel)
theorem ln_6_42 : Cond.methodLink (ownN 6) 42 yX1_miss ∈ TB := tb_at 1168 (by decide +kernel) (by decide +kernel)
theorem ln_10_264 : Cond.methodLink (ownN 10) 264 yX0_decide ∈ TB := tb_at 1172 (by decide +kernel) (by decide +kernel)
theorem ln_0_44 : Cond.methodLink (ownN 0) 44 yX0_compile ∈ TB := tb_at 1176 (by decide +kernel) (by decide +kernel)
theorem ln_0_106 : Cond.methodLink (ownN 0) 106 yX4_count ∈ TB := tb_at 1180 (by decide +kernel) (by decide +kernel)
theorem ln_0_110 : Cond.methodLink (ownN 0) 110 yX0_write ∈ TB := tb_at 1181 (by decide +kernel) (by decide +kernel)
theorem ln_0_78 : (ownN 0, 78, yX10_put, "Patternforge") ∈ NL := List.mem_of_getElem? (i := 37) rfl
theorem ln_0_114 : Cond.methodLink (ownN 0) 114 yX4_columns ∈ TB := tb_at 1186 (by decide +kernel) (by decide +kernel)
theorem ln_0_117 : Cond.methodLink (ownN 0) 117 yX4_get ∈ TB := tb_at 1187 (by decide +kernel) (by decide +kernel)
theorem ln_0_120 : Cond.methodLink (ownN 0) 120 yX0_writePattern ∈ TB := tb_at 1188 (by decide +kernel) (by decide +kernel)
theorem ln_0_127 : Cond.methodLink (ownN 0) 127 yX5_lowOf ∈ TB := tb_at 1192 (by decide +kernel) (by decide +kernel)
theorem ln_0_132 : Cond.methodLink (ownN 0) 132 yX5_sortOf ∈ TB := tb_at 1193 (by decide +kernel) (by decide +kernel)
theorem ln_0_135 : Cond.methodLink (ownN 0) 135 yX5_partOf ∈ TB := tb_at 1194 (by decide +kernel) (by decide +kernel)
theorem ln_0_138 : Cond.methodLink (ownN 0) 138 yX0_writePatternAndGo ∈ TB := tb_at 1195 (by decide +kernel) (by decide +kernel)
theorem ln_0_124 : Cond.methodLink (ownN 0) 124 yX0_land ∈ TB := tb_at 1199 (by decide +kernel) (by decide +kernel)
theorem ln_0_67 : (ownN 0, 67, yX10_at, "Patternforge") ∈ NL := List.mem_of_getElem? (i := 38) rfl
theorem ln_0_142 : Cond.methodLink (ownN 0) 142 yX0_writeNumbers ∈ TB := tb_at 1204 (by decide +kernel) (by decide +kernel)
theorem ln_0_146 : Cond.methodLink (ownN 0) 146 yX5_highOf ∈ TB := tb_at 1207 (by decide +kernel) (by decide +kernel)
theorem ln_0_149 : Cond.methodLink (ownN 0) 149 yX0_writeParts ∈ TB := tb_at 1208 (by decide +kernel) (by decide +kernel)
theorem ln_0_152 : Cond.methodLink (ownN 0) 152 yX5_partCount ∈ TB := tb_at 1212 (by decide +kernel) (by decide +kernel)
theorem ln_0_47 : Cond.methodLink (ownN 0) 47 yX0_numberIn ∈ TB := tb_at 1213 (by decide +kernel) (by decide +kernel)
theorem ln_0_51 : Cond.methodLink (ownN 0) 51 yX0_operationIn ∈ TB := tb_at 1217 (by decide +kernel) (by decide +kernel)
theorem ln_0_55 : Cond.methodLink (ownN 0) 55 yX1_take ∈ TB := tb_at 1221 (by decide +kernel) (by decide +kernel)
theorem ln_0_60 : Cond.methodLink (ownN 0) 60 yX1_miss ∈ TB := tb_at 1222 (by decide +kernel) (by decide +kernel)
theorem ln_0_64 : Cond.methodLink (ownN 0) 64 yX1_guardOf ∈ TB := tb_at 1223 (by decide +kernel) (by decide +kernel)
theorem ln_0_71 : Cond.methodLink (ownN 0) 71 yX0_follow ∈ TB := tb_at 1224 (by decide +kernel) (by decide +kernel)
theorem ln_0_75 : Cond.methodLink (ownN 0) 75 yX1_unbind ∈ TB := tb_at 1228 (by decide +kernel) (by decide +kernel)
theorem ln_0_82 : (ownN 0, 82, yX10_inner, "Patternforge") ∈ NL := List.mem_of_getElem? (i := 39) rfl
theorem ln_0_85 : Cond.methodLink (ownN 0) 85 yX1_headAt ∈ TB := tb_at 1230 (by decide +kernel) (by decide +kernel)
theorem ln_0_88 : Cond.methodLink (ownN 0) 88 yX1_bind ∈ TB := tb_at 1231 (by decide +kernel) (by decide +kernel)
theorem ln_0_92 : Cond.methodLink (ownN 0) 92 yX1_countTest ∈ TB := tb_at 1232 (by decide +kernel) (by decide +kernel)
theorem ln_0_95 : Cond.methodLink (ownN 0) 95 yX1_open ∈ TB := tb_at 1233 (by decide +kernel) (by decide +kernel)
theorem ln_0_99 : (ownN 0, 99, yX10_isIn, "Patternforge") ∈ NL := List.mem_of_getElem? (i := 40) rfl
theorem ln_0_103 : Cond.methodLink (ownN 0) 103 yX1_look ∈ TB := tb_at 1235 (by decide +kernel) (by decide +kernel)
theorem ln_10_265 : Cond.methodLink (ownN 10) 265 yX7_decide ∈ TB := tb_at 1236 (by decide +kernel) (by decide +kernel)
theorem ln_7_143 : Cond.methodLink (ownN 7) 143 yX7_bindNames ∈ TB := tb_at 1240 (by decide +kernel) (by decide +kernel)
theorem ln_7_172 : Cond.methodLink (ownN 7) 172 yX3_tryCase ∈ TB := tb_at 1244 (by decide +kernel) (by decide +kernel)
theorem ln_7_175 : Cond.methodLink (ownN 7) 175 yX3_placeOf ∈ TB := tb_at 1245 (by decide +kernel) (by decide +kernel)
theorem ln_7_178 : Cond.methodLink (ownN 7) 178 yX1_bind ∈ TB := tb_at 1249 (by decide +kernel) (by decide +kernel)
theorem ln_7_146 : Cond.methodLink (ownN 7) 146 yX1_take ∈ TB := tb_at 1250 (by decide +kernel) (by decide +kernel)
theorem ln_7_151 : Cond.methodLink (ownN 7) 151 yX1_miss ∈ TB := tb_at 1251 (by decide +kernel) (by decide +kernel)
theorem ln_7_154 : Cond.methodLink (ownN 7) 154 yX7_branchTaken ∈ TB := tb_at 1252 (by decide +kernel) (by decide +kernel)
theorem ln_7_157 : Cond.methodLink (ownN 7) 157 yX1_guardOf ∈ TB := tb_at 1256 (by decide +kernel) (by decide +kernel)
theorem ln_7_160 : Cond.methodLink (ownN 7) 160 yX1_countTest ∈ TB := tb_at 1257 (by decide +kernel) (by decide +kernel)
theorem ln_7_163 : Cond.methodLink (ownN 7) 163 yX1_look ∈ TB := tb_at 1258 (by decide +kernel) (by decide +kernel)
theorem ln_7_166 : Cond.methodLink (ownN 7) 166 yX1_open ∈ TB := tb_at 1259 (by decide +kernel) (by decide +kernel)
theorem ln_7_169 : Cond.methodLink (ownN 7) 169 yX1_headAt ∈ TB := tb_at 1260 (by decide +kernel) (by decide +kernel)
theorem ln_7_81 : Cond.methodLink (ownN 7) 81 yX7_nodeBehind ∈ TB := tb_at 1261 (by decide +kernel) (by decide +kernel)
theorem ln_7_84 : (ownN 7, 84, yX10_isIn, "Patternforge") ∈ NL := List.mem_of_getElem? (i := 41) rfl
theorem ln_12_140 : Cond.methodLink (ownN 12) 140 yX10_views ∈ TB := tb_at 1266 (by decide +kernel) (by decide +kernel)
theorem ln_10_269 : Cond.methodLink (ownN 10) 269 yX1_viewCount ∈ TB := tb_at 1270 (by decide +kernel) (by decide +kernel)
theorem ln_12_77 : Cond.methodLink (ownN 12) 77 yX10_viewAt ∈ TB := tb_at 1277 (by decide +kernel) (by decide +kernel)
theorem ln_10_272 : Cond.methodLink (ownN 10) 272 yX1_ranAt ∈ TB := tb_at 1281 (by decide +kernel) (by decide +kernel)
theorem ln_12_80 : Cond.methodLink (ownN 12) 80 yX10_bound ∈ TB := tb_at 1288 (by decide +kernel) (by decide +kernel)
theorem ln_10_275 : Cond.methodLink (ownN 10) 275 yX1_placeOf ∈ TB := tb_at 1292 (by decide +kernel) (by decide +kernel)
theorem ln_12_83 : Cond.methodLink (ownN 12) 83 yX10_taken ∈ TB := tb_at 1296 (by decide +kernel) (by decide +kernel)
theorem ln_12_96 : Cond.methodLink (ownN 12) 96 yX10_isUsed ∈ TB := tb_at 1303 (by decide +kernel) (by decide +kernel)
theorem ln_10_290 : Cond.methodLink (ownN 10) 290 yX7_hasLeafOf ∈ TB := tb_at 1307 (by decide +kernel) (by decide +kernel)
theorem ln_12_86 : Cond.methodLink (ownN 12) 86 yX10_size ∈ TB := tb_at 1314 (by decide +kernel) (by decide +kernel)
theorem ln_10_278 : Cond.methodLink (ownN 10) 278 yX7_sharedCount ∈ TB := tb_at 1318 (by decide +kernel) (by decide +kernel)
theorem ln_7_181 : Cond.methodLink (ownN 7) 181 yX7_sameAs ∈ TB := tb_at 1322 (by decide +kernel) (by decide +kernel)
theorem ln_7_184 : Cond.methodLink (ownN 7) 184 yX7_isIdle ∈ TB := tb_at 1326 (by decide +kernel) (by decide +kernel)
theorem ln_7_188 : Cond.methodLink (ownN 7) 188 yX7_areSame ∈ TB := tb_at 1330 (by decide +kernel) (by decide +kernel)
theorem ln_10_281 : Cond.methodLink (ownN 10) 281 yX7_nodeCount ∈ TB := tb_at 1334 (by decide +kernel) (by decide +kernel)
theorem ln_12_62 : Cond.methodLink (ownN 12) 62 yX10_add ∈ TB := tb_at 1341 (by decide +kernel) (by decide +kernel)
theorem ln_10_207 : Cond.methodLink (ownN 10) 207 yX5_bindApart ∈ TB := tb_at 1345 (by decide +kernel) (by decide +kernel)
theorem ln_10_215 : Cond.methodLink (ownN 10) 215 yX4_append ∈ TB := tb_at 1346 (by decide +kernel) (by decide +kernel)
theorem ln_12_90 : Cond.methodLink (ownN 12) 90 yX10_missing ∈ TB := tb_at 1353 (by decide +kernel) (by decide +kernel)
theorem ln_10_284 : Cond.methodLink (ownN 10) 284 yX7_missedCount ∈ TB := tb_at 1357 (by decide +kernel) (by decide +kernel)
theorem ln_12_93 : Cond.methodLink (ownN 12) 93 yX10_example ∈ TB := tb_at 1364 (by decide +kernel) (by decide +kernel)
theorem ln_10_287 : Cond.methodLink (ownN 10) 287 yX7_exampleAt ∈ TB := tb_at 1368 (by decide +kernel) (by decide +kernel)
theorem ln_7_74 : Cond.methodLink (ownN 7) 74 yX7_branchTo ∈ TB := tb_at 1372 (by decide +kernel) (by decide +kernel)
theorem ln_12_176 : Cond.methodLink (ownN 12) 176 yL_act ∈ TB := tb_at 1376 (by decide +kernel) (by decide +kernel)
theorem ln_12_33 : Cond.methodLink (ownN 12) 33 yX10_any ∈ TB := tb_at 1382 (by decide +kernel) (by decide +kernel)
theorem ln_12_164 : Cond.methodLink (ownN 12) 164 yL_kind ∈ TB := tb_at 1386 (by decide +kernel) (by decide +kernel)
theorem ln_12_184 : Cond.methodLink (ownN 12) 184 yL_keep ∈ TB := tb_at 1389 (by decide +kernel) (by decide +kernel)
theorem ln_12_188 : Cond.methodLink (ownN 12) 188 yL_alike ∈ TB := tb_at 1392 (by decide +kernel) (by decide +kernel)
theorem ln_12_167 : Cond.methodLink (ownN 12) 167 yX10_tests ∈ TB := tb_at 1395 (by decide +kernel) (by decide +kernel)
theorem ln_10_266 : Cond.methodLink (ownN 10) 266 yX1_testCount ∈ TB := tb_at 1399 (by decide +kernel) (by decide +kernel)
theorem ln_12_192 : Cond.methodLink (ownN 12) 192 yL_agrees ∈ TB := tb_at 1403 (by decide +kernel) (by decide +kernel)
def LAYC : List Lay := [(10, [3, 7, 12, 24, 26, 29, 34, 35, 45, 51]), (2, [4, 5, 6]), (12, [4]), (12, [16]), (12, [48]), (8, [0, 8, 9, 10, 11]), (12, [50]), (12, [50]), (12, [50]), (12, [150]), (5, [0, 13, 14, 15, 16, 17, 18, 19, 20, 21, 22, 23]), (12, [60]), (12, [60]), (12, [60]), (12, [60]), (12, [180]), (12, [60]), (12, [60]), (12, [60]), (12, [60]), (12, [60]), (12, [60]), (9, [25]), (12, [12]), (4, [0, 0, 27, 28]), (12, [3]), (12, [64]), (1, [7, 24, 26, 0, 0, 30, 31, 32, 33]), (12, [469]), (12, [469]), (12, [360]), (12, [6]), (6, [12, 26, 29]), (0, [12, 26, 29, 0, 0, 0, 36, 37, 38]), (12, [1969]), (12, [1969]), (12, [5]), (3, [3, 12, 24, 26, 0, 0, 0, 0, 0, 40, 41, 42, 43, 44]), (12, [469]), (12, [469]), (12, [6]), (12, [120]), (12, [469]), (7, [39, 29, 0, 0, 0, 0, 0, 0, 0, 0, 46, 47, 48, 49, 50]), (12, [500]), (12, [500]), (12, [500]), (12, [500]), (12, [500]), (7, [39, 29, 0, 0, 0, 0, 0, 0, 0, 0, 52, 53, 54, 55, 56]), (12, [500]), (12, [500]), (12, [500]), (12, [500]), (12, [500])]
