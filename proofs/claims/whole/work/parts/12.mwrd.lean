theorem cb_m2 : (Int8.ofInt (-2)).toInt32 = (-2) := by decide
theorem cb_6 : (Int8.ofInt 6).toInt32 = 6 := by decide
theorem cb_7 : (Int8.ofInt 7).toInt32 = 7 := by decide
theorem cb_8 : (Int8.ofInt 8).toInt32 = 8 := by decide
theorem cb_9 : (Int8.ofInt 9).toInt32 = 9 := by decide
theorem cb_10 : (Int8.ofInt 10).toInt32 = 10 := by decide
theorem cb_11 : (Int8.ofInt 11).toInt32 = 11 := by decide
theorem cb_12 : (Int8.ofInt 12).toInt32 = 12 := by decide
theorem cb_13 : (Int8.ofInt 13).toInt32 = 13 := by decide
theorem cb_14 : (Int8.ofInt 14).toInt32 = 14 := by decide
theorem cb_15 : (Int8.ofInt 15).toInt32 = 15 := by decide
theorem cb_16 : (Int8.ofInt 16).toInt32 = 16 := by decide
theorem cb_18 : (Int8.ofInt 18).toInt32 = 18 := by decide
theorem cb_20 : (Int8.ofInt 20).toInt32 = 20 := by decide
theorem cb_24 : (Int8.ofInt 24).toInt32 = 24 := by decide
theorem cb_30 : (Int8.ofInt 30).toInt32 = 30 := by decide
theorem cb_32 : (Int8.ofInt 32).toInt32 = 32 := by decide
theorem cb_37 : (Int8.ofInt 37).toInt32 = 37 := by decide
theorem cb_40 : (Int8.ofInt 40).toInt32 = 40 := by decide
theorem cb_42 : (Int8.ofInt 42).toInt32 = 42 := by decide
theorem cb_43 : (Int8.ofInt 43).toInt32 = 43 := by decide
theorem cb_44 : (Int8.ofInt 44).toInt32 = 44 := by decide
theorem cb_45 : (Int8.ofInt 45).toInt32 = 45 := by decide
theorem cb_47 : (Int8.ofInt 47).toInt32 = 47 := by decide
theorem cb_48 : (Int8.ofInt 48).toInt32 = 48 := by decide
theorem cb_52 : (Int8.ofInt 52).toInt32 = 52 := by decide
theorem cb_56 : (Int8.ofInt 56).toInt32 = 56 := by decide
theorem cb_57 : (Int8.ofInt 57).toInt32 = 57 := by decide
theorem cb_59 : (Int8.ofInt 59).toInt32 = 59 := by decide
theorem cb_60 : (Int8.ofInt 60).toInt32 = 60 := by decide
theorem cb_61 : (Int8.ofInt 61).toInt32 = 61 := by decide
theorem cb_62 : (Int8.ofInt 62).toInt32 = 62 := by decide
theorem cb_91 : (Int8.ofInt 91).toInt32 = 91 := by decide
theorem cb_93 : (Int8.ofInt 93).toInt32 = 93 := by decide
theorem cb_97 : (Int8.ofInt 97).toInt32 = 97 := by decide
theorem cb_99 : (Int8.ofInt 99).toInt32 = 99 := by decide
theorem cb_100 : (Int8.ofInt 100).toInt32 = 100 := by decide
theorem cb_122 : (Int8.ofInt 122).toInt32 = 122 := by decide
theorem ci_m1 : Int32.ofInt (-1) = (-1) := by decide
theorem ci_0 : Int32.ofInt 0 = 0 := by decide
theorem ci_1 : Int32.ofInt 1 = 1 := by decide
theorem ci_2 : Int32.ofInt 2 = 2 := by decide
theorem ci_3 : Int32.ofInt 3 = 3 := by decide
theorem ci_4 : Int32.ofInt 4 = 4 := by decide
theorem ci_5 : Int32.ofInt 5 = 5 := by decide
theorem cn_m8 (x : Int32) : x + Int32.ofInt (-8) = x + (-8) := by rw [show Int32.ofInt (-8) = (-8) by decide]
theorem cn_m2 (x : Int32) : x + Int32.ofInt (-2) = x + (-2) := by rw [show Int32.ofInt (-2) = (-2) by decide]
theorem cn_m1 (x : Int32) : x + Int32.ofInt (-1) = x + (-1) := by rw [show Int32.ofInt (-1) = (-1) by decide]
theorem cn_1 (x : Int32) : x + Int32.ofInt 1 = x + 1 := by rw [show Int32.ofInt 1 = 1 by decide]
theorem cs_136 : (Int16.ofInt 136).toInt32 = 136 := by decide
theorem cs_137 : (Int16.ofInt 137).toInt32 = 137 := by decide
theorem cs_255 : (Int16.ofInt 255).toInt32 = 255 := by decide
theorem cs_256 : (Int16.ofInt 256).toInt32 = 256 := by decide
theorem cs_400 : (Int16.ofInt 400).toInt32 = 400 := by decide
theorem cs_999 : (Int16.ofInt 999).toInt32 = 999 := by decide
theorem cs_2000 : (Int16.ofInt 2000).toInt32 = 2000 := by decide
theorem vi_0_13 : vp_in 0 13 := by unfold vp_in; decide
theorem vi_0_100 : vp_in 0 100 := by unfold vp_in; decide
theorem vi_0_137 : vp_in 0 137 := by unfold vp_in; decide
theorem vi_1_13 : vp_in 1 13 := by unfold vp_in; decide
theorem vi_1_100 : vp_in 1 100 := by unfold vp_in; decide
theorem vi_1_137 : vp_in 1 137 := by unfold vp_in; decide
theorem vi_2_13 : vp_in 2 13 := by unfold vp_in; decide
theorem vi_2_100 : vp_in 2 100 := by unfold vp_in; decide
theorem vi_2_137 : vp_in 2 137 := by unfold vp_in; decide
theorem vi_3_13 : vp_in 3 13 := by unfold vp_in; decide
theorem vi_3_137 : vp_in 3 137 := by unfold vp_in; decide
theorem vi_4_100 : vp_in 4 100 := by unfold vp_in; decide
theorem vi_4_137 : vp_in 4 137 := by unfold vp_in; decide
theorem vi_5_100 : vp_in 5 100 := by unfold vp_in; decide
theorem vi_5_137 : vp_in 5 137 := by unfold vp_in; decide
theorem vi_7_100 : vp_in 7 100 := by unfold vp_in; decide
theorem vi_8_13 : vp_in 8 13 := by unfold vp_in; decide
theorem vi_8_137 : vp_in 8 137 := by unfold vp_in; decide
theorem vi_9_13 : vp_in 9 13 := by unfold vp_in; decide
theorem vi_10_13 : vp_in 10 13 := by unfold vp_in; decide
theorem vi_11_13 : vp_in 11 13 := by unfold vp_in; decide
theorem vi_12_13 : vp_in 12 13 := by unfold vp_in; decide
theorem vi_136_137 : vp_in 136 137 := by unfold vp_in; decide
theorem tc_0 : (0 : Int32).toNatClampNeg = 0 := by decide
theorem tc_1 : (1 : Int32).toNatClampNeg = 1 := by decide
theorem tc_2 : (2 : Int32).toNatClampNeg = 2 := by decide
theorem tc_3 : (3 : Int32).toNatClampNeg = 3 := by decide
theorem tc_4 : (4 : Int32).toNatClampNeg = 4 := by decide
theorem tc_5 : (5 : Int32).toNatClampNeg = 5 := by decide
theorem tc_7 : (7 : Int32).toNatClampNeg = 7 := by decide
theorem tc_8 : (8 : Int32).toNatClampNeg = 8 := by decide
theorem tc_9 : (9 : Int32).toNatClampNeg = 9 := by decide
theorem tc_10 : (10 : Int32).toNatClampNeg = 10 := by decide
theorem tc_11 : (11 : Int32).toNatClampNeg = 11 := by decide
theorem tc_12 : (12 : Int32).toNatClampNeg = 12 := by decide
theorem tc_136 : (136 : Int32).toNatClampNeg = 136 := by decide
theorem qX12_7 : Cond.fieldLink RX12 7 "FrontFourModel" "tape" "[B" ∈ TG := tg_i 1302 (by decide +kernel) (by decide +kernel)
theorem qX12_13 : Cond.fieldLink RX12 13 "FrontFourModel" "sign" "[I" ∈ TG := tg_i 1305 (by decide +kernel) (by decide +kernel)
theorem qX12_17 : Cond.fieldLink RX12 17 "FrontFourModel" "length" "[I" ∈ TG := tg_i 1306 (by decide +kernel) (by decide +kernel)
theorem qX12_20 : Cond.fieldLink RX12 20 "FrontFourModel" "clause" "[I" ∈ TG := tg_i 1307 (by decide +kernel) (by decide +kernel)
theorem qX12_23 : Cond.fieldLink RX12 23 "FrontFourModel" "clauses" "[I" ∈ TG := tg_i 1308 (by decide +kernel) (by decide +kernel)
theorem qX12_26 : Cond.fieldLink RX12 26 "FrontFourModel" "read" "[I" ∈ TG := tg_i 1309 (by decide +kernel) (by decide +kernel)
theorem qX12_29 : Cond.fieldLink RX12 29 "FrontFourModel" "open" "[I" ∈ TG := tg_i 1317 (by decide +kernel) (by decide +kernel)
theorem qX12_32 : Cond.fieldLink RX12 32 "FrontFourModel" "stack" "[J" ∈ TG := tg_i 1319 (by decide +kernel) (by decide +kernel)
theorem qX12_36 : Cond.fieldLink RX12 36 "FrontFourModel" "word" "[J" ∈ TG := tg_i 1321 (by decide +kernel) (by decide +kernel)
theorem qX12_39 : Cond.fieldLink RX12 39 "FrontFourModel" "said" "[I" ∈ TG := tg_i 1322 (by decide +kernel) (by decide +kernel)
theorem qX12_42 : Cond.fieldLink RX12 42 "FrontFourModel" "wasSaid" "[I" ∈ TG := tg_i 1324 (by decide +kernel) (by decide +kernel)
theorem qX12_45 : Cond.fieldLink RX12 45 "FrontFourModel" "soon" "[I" ∈ TG := tg_i 1326 (by decide +kernel) (by decide +kernel)
theorem qX12_48 : Cond.fieldLink RX12 48 "FrontFourModel" "isDone" "[Z" ∈ TG := tg_i 1327 (by decide +kernel) (by decide +kernel)
theorem qX12_52 : Cond.fieldLink RX12 52 "FrontFourModel" "rowKind" "[I" ∈ TG := tg_i 1328 (by decide +kernel) (by decide +kernel)
theorem qX12_55 : Cond.fieldLink RX12 55 "FrontFourModel" "rowTo" "[I" ∈ TG := tg_i 1329 (by decide +kernel) (by decide +kernel)
theorem qX12_58 : Cond.fieldLink RX12 58 "FrontFourModel" "rowBegin" "[I" ∈ TG := tg_i 1330 (by decide +kernel) (by decide +kernel)
theorem qX12_61 : Cond.fieldLink RX12 61 "FrontFourModel" "many" "[I" ∈ TG := tg_i 1332 (by decide +kernel) (by decide +kernel)
theorem qX12_64 : Cond.fieldLink RX12 64 "FrontFourModel" "put" "[I" ∈ TG := tg_i 1333 (by decide +kernel) (by decide +kernel)
theorem qX12_67 : Cond.fieldLink RX12 67 "FrontFourModel" "bestPut" "[I" ∈ TG := tg_i 1334 (by decide +kernel) (by decide +kernel)
theorem qX12_70 : Cond.fieldLink RX12 70 "FrontFourModel" "wayBegin" "[I" ∈ TG := tg_i 1335 (by decide +kernel) (by decide +kernel)
theorem qX12_73 : Cond.fieldLink RX12 73 "FrontFourModel" "wayEnd" "[I" ∈ TG := tg_i 1336 (by decide +kernel) (by decide +kernel)
theorem qX12_76 : Cond.fieldLink RX12 76 "FrontFourModel" "images" "[I" ∈ TG := tg_i 1338 (by decide +kernel) (by decide +kernel)
theorem qX12_79 : Cond.fieldLink RX12 79 "FrontFourModel" "imageX" "[I" ∈ TG := tg_i 1339 (by decide +kernel) (by decide +kernel)
theorem qX12_82 : Cond.fieldLink RX12 82 "FrontFourModel" "isMade" "[Z" ∈ TG := tg_i 1340 (by decide +kernel) (by decide +kernel)
theorem qX12_85 : Cond.fieldLink RX12 85 "FrontFourModel" "taped" "I" ∈ TG := tg_i 1303 (by decide +kernel) (by decide +kernel)
theorem qX12_89 : Cond.methodLink RX12 89 yX12_four ∈ TG := tg_i 1424 (by decide +kernel) (by decide +kernel)
theorem qX12_93 : Cond.fieldLink RX12 93 "FrontFourModel" "wrong" "I" ∈ TG := tg_i 1311 (by decide +kernel) (by decide +kernel)
theorem qX12_96 : Cond.fieldLink RX12 96 "FrontFourModel" "next" "I" ∈ TG := tg_i 1310 (by decide +kernel) (by decide +kernel)
theorem qX12_99 : Cond.methodLink RX12 99 yX12_see ∈ TG := tg_i 1444 (by decide +kernel) (by decide +kernel)
theorem qX12_103 : Cond.methodLink RX12 103 yX12_isLetter ∈ TG := tg_i 1457 (by decide +kernel) (by decide +kernel)
theorem qX12_107 : Cond.methodLink RX12 107 yX12_isWord ∈ TG := tg_i 1453 (by decide +kernel) (by decide +kernel)
theorem qX12_111 : Cond.methodLink RX12 111 yX12_passWord ∈ TG := tg_i 1485 (by decide +kernel) (by decide +kernel)
theorem qX12_114 : Cond.methodLink RX12 114 yX12_isDigit ∈ TG := tg_i 1497 (by decide +kernel) (by decide +kernel)
theorem qX12_117 : Cond.methodLink RX12 117 yX12_fails ∈ TG := tg_i 1473 (by decide +kernel) (by decide +kernel)
theorem qX12_121 : Cond.fieldLink RX12 121 "FrontFourModel" "number" "I" ∈ TG := tg_i 1312 (by decide +kernel) (by decide +kernel)
theorem qX12_124 : Cond.methodLink RX12 124 yX12_in ∈ TG := tg_i 1501 (by decide +kernel) (by decide +kernel)
theorem qX12_128 : Cond.constantLong RX12 128 (491394458994) ∈ TG := tg_i 1467 (by decide +kernel) (by decide +kernel)
theorem qX12_130 : Cond.constantLong RX12 130 (1684370292) ∈ TG := tg_i 1461 (by decide +kernel) (by decide +kernel)
theorem qX12_132 : Cond.constantLong RX12 132 (427070415720) ∈ TG := tg_i 1557 (by decide +kernel) (by decide +kernel)
theorem qX12_134 : Cond.constantLong RX12 134 (126879297138276) ∈ TG := tg_i 1558 (by decide +kernel) (by decide +kernel)
theorem qX12_136 : Cond.constantLong RX12 136 (1818584692) ∈ TG := tg_i 1559 (by decide +kernel) (by decide +kernel)
theorem qX12_138 : Cond.constantLong RX12 138 (491394656372) ∈ TG := tg_i 1560 (by decide +kernel) (by decide +kernel)
theorem qX12_140 : Cond.constantLong RX12 140 (1852137842) ∈ TG := tg_i 1561 (by decide +kernel) (by decide +kernel)
theorem qX12_142 : Cond.constantLong RX12 142 (1751215220) ∈ TG := tg_i 1562 (by decide +kernel) (by decide +kernel)
theorem qX12_144 : Cond.constantLong RX12 144 (465725121651) ∈ TG := tg_i 1563 (by decide +kernel) (by decide +kernel)
theorem qX12_146 : Cond.constantLong RX12 146 (1885430629) ∈ TG := tg_i 1564 (by decide +kernel) (by decide +kernel)
theorem qX12_148 : Cond.constantLong RX12 148 (1718971500) ∈ TG := tg_i 1565 (by decide +kernel) (by decide +kernel)
theorem qX12_150 : Cond.constantLong RX12 150 (495622124659) ∈ TG := tg_i 1466 (by decide +kernel) (by decide +kernel)
theorem qX12_152 : Cond.constantLong RX12 152 (470021465444) ∈ TG := tg_i 1566 (by decide +kernel) (by decide +kernel)
theorem qX12_154 : Cond.fieldLink RX12 154 "FrontFourModel" "text" "I" ∈ TG := tg_i 1313 (by decide +kernel) (by decide +kernel)
theorem qX12_157 : Cond.fieldLink RX12 157 "FrontFourModel" "made" "I" ∈ TG := tg_i 1314 (by decide +kernel) (by decide +kernel)
theorem qX12_160 : Cond.fieldLink RX12 160 "FrontFourModel" "deep" "I" ∈ TG := tg_i 1315 (by decide +kernel) (by decide +kernel)
theorem qX12_163 : Cond.fieldLink RX12 163 "FrontFourModel" "opened" "I" ∈ TG := tg_i 1318 (by decide +kernel) (by decide +kernel)
theorem qX12_166 : Cond.methodLink RX12 166 yX12_strength ∈ TG := tg_i 1597 (by decide +kernel) (by decide +kernel)
theorem qX12_170 : Cond.methodLink RX12 170 yX12_puts ∈ TG := tg_i 1549 (by decide +kernel) (by decide +kernel)
theorem qX12_174 : Cond.constant RX12 174 (99999) ∈ TG := tg_i 1544 (by decide +kernel) (by decide +kernel)
theorem qX12_175 : Cond.methodLink RX12 175 yX12_numberHere ∈ TG := tg_i 1493 (by decide +kernel) (by decide +kernel)
theorem qX12_178 : Cond.methodLink RX12 178 yX12_makes ∈ TG := tg_i 1545 (by decide +kernel) (by decide +kernel)
theorem qX12_181 : Cond.methodLink RX12 181 yX12_wordHere ∈ TG := tg_i 1553 (by decide +kernel) (by decide +kernel)
theorem qX12_184 : Cond.methodLink RX12 184 yX12_value ∈ TG := tg_i 1540 (by decide +kernel) (by decide +kernel)
theorem qX12_188 : Cond.methodLink RX12 188 yX12_term ∈ TG := tg_i 1536 (by decide +kernel) (by decide +kernel)
theorem qX12_191 : Cond.methodLink RX12 191 yX12_sum ∈ TG := tg_i 1532 (by decide +kernel) (by decide +kernel)
theorem qX12_194 : Cond.constantLong RX12 194 (7237492) ∈ TG := tg_i 1580 (by decide +kernel) (by decide +kernel)
theorem qX12_196 : Cond.methodLink RX12 196 yX12_opens ∈ TG := tg_i 1581 (by decide +kernel) (by decide +kernel)
theorem qX12_199 : Cond.methodLink RX12 199 yX12_compare ∈ TG := tg_i 1585 (by decide +kernel) (by decide +kernel)
theorem qX12_202 : Cond.methodLink RX12 202 yX12_settles ∈ TG := tg_i 1593 (by decide +kernel) (by decide +kernel)
theorem qX12_205 : Cond.methodLink RX12 205 yX12_isInside ∈ TG := tg_i 1600 (by decide +kernel) (by decide +kernel)
theorem qX12_208 : Cond.methodLink RX12 208 yX12_fact ∈ TG := tg_i 1576 (by decide +kernel) (by decide +kernel)
theorem qX12_211 : Cond.methodLink RX12 211 yX12_closes ∈ TG := tg_i 1589 (by decide +kernel) (by decide +kernel)
theorem qX12_214 : Cond.constantLong RX12 214 (6385252) ∈ TG := tg_i 1604 (by decide +kernel) (by decide +kernel)
theorem qX12_216 : Cond.constantLong RX12 216 (28530) ∈ TG := tg_i 1605 (by decide +kernel) (by decide +kernel)
theorem qX12_218 : Cond.constantLong RX12 218 (26982) ∈ TG := tg_i 1567 (by decide +kernel) (by decide +kernel)
theorem qX12_220 : Cond.methodLink RX12 220 yX12_takesWord ∈ TG := tg_i 1568 (by decide +kernel) (by decide +kernel)
theorem qX12_223 : Cond.methodLink RX12 223 yX12_tested ∈ TG := tg_i 1572 (by decide +kernel) (by decide +kernel)
theorem qX12_226 : Cond.methodLink RX12 226 yX12_cellHere ∈ TG := tg_i 1489 (by decide +kernel) (by decide +kernel)
theorem qX12_230 : Cond.constantLong RX12 230 (500135192942) ∈ TG := tg_i 1452 (by decide +kernel) (by decide +kernel)
theorem qX12_232 : Cond.methodLink RX12 232 yX12_isTrainHere ∈ TG := tg_i 1481 (by decide +kernel) (by decide +kernel)
theorem qX12_235 : Cond.methodLink RX12 235 yX12_isDestHere ∈ TG := tg_i 1504 (by decide +kernel) (by decide +kernel)
theorem qX12_238 : Cond.constantLong RX12 238 (1937010544) ∈ TG := tg_i 1462 (by decide +kernel) (by decide +kernel)
theorem qX12_240 : Cond.methodLink RX12 240 yX12_isStopHere ∈ TG := tg_i 1508 (by decide +kernel) (by decide +kernel)
theorem qX12_243 : Cond.constantLong RX12 243 (31632341598826087) ∈ TG := tg_i 1463 (by decide +kernel) (by decide +kernel)
theorem qX12_245 : Cond.methodLink RX12 245 yX12_isOnceHere ∈ TG := tg_i 1512 (by decide +kernel) (by decide +kernel)
theorem qX12_249 : Cond.constantLong RX12 249 (1936225652) ∈ TG := tg_i 1464 (by decide +kernel) (by decide +kernel)
theorem qX12_251 : Cond.methodLink RX12 251 yX12_isShutHere ∈ TG := tg_i 1516 (by decide +kernel) (by decide +kernel)
theorem qX12_254 : Cond.constantLong RX12 254 (32776920184415609) ∈ TG := tg_i 1465 (by decide +kernel) (by decide +kernel)
theorem qX12_256 : Cond.methodLink RX12 256 yX12_isCellOfHere ∈ TG := tg_i 1520 (by decide +kernel) (by decide +kernel)
theorem qX12_260 : Cond.methodLink RX12 260 yX12_isRiderHere ∈ TG := tg_i 1524 (by decide +kernel) (by decide +kernel)
theorem qX12_263 : Cond.constantLong RX12 263 (1953459300) ∈ TG := tg_i 1468 (by decide +kernel) (by decide +kernel)
theorem qX12_265 : Cond.constantLong RX12 265 (8100956982295360109) ∈ TG := tg_i 1469 (by decide +kernel) (by decide +kernel)
theorem qX12_267 : Cond.methodLink RX12 267 yX12_isLineWord ∈ TG := tg_i 1448 (by decide +kernel) (by decide +kernel)
theorem qX12_270 : Cond.constantLong RX12 270 (115923103605861) ∈ TG := tg_i 1470 (by decide +kernel) (by decide +kernel)
theorem qX12_272 : Cond.constantLong RX12 272 (31372865427825765) ∈ TG := tg_i 1471 (by decide +kernel) (by decide +kernel)
theorem qX12_274 : Cond.constantLong RX12 274 (1937006969) ∈ TG := tg_i 1472 (by decide +kernel) (by decide +kernel)
theorem qX12_276 : Cond.fieldLink RX12 276 "FrontFourModel" "lines" "I" ∈ TG := tg_i 1316 (by decide +kernel) (by decide +kernel)
theorem qX12_279 : Cond.methodLink RX12 279 yX12_lineLineHere ∈ TG := tg_i 1477 (by decide +kernel) (by decide +kernel)
theorem qX12_282 : Cond.methodLink RX12 282 yX12_isDoingHere ∈ TG := tg_i 1528 (by decide +kernel) (by decide +kernel)
theorem qX12_285 : Cond.methodLink RX12 285 yX12_clauseHere ∈ TG := tg_i 1440 (by decide +kernel) (by decide +kernel)
theorem qX12_288 : Cond.fieldLink RX12 288 "FrontFourModel" "rules" "I" ∈ TG := tg_i 1304 (by decide +kernel) (by decide +kernel)
theorem qX12_291 : Cond.methodLink RX12 291 yX12_readsAll ∈ TG := tg_i 1436 (by decide +kernel) (by decide +kernel)
theorem qX12_294 : Cond.fieldLink RX12 294 "FrontFourModel" "undone" "I" ∈ TG := tg_i 1325 (by decide +kernel) (by decide +kernel)
theorem qX12_297 : Cond.fieldLink RX12 297 "FrontFourModel" "top" "I" ∈ TG := tg_i 1320 (by decide +kernel) (by decide +kernel)
theorem qX12_300 : Cond.methodLink RX12 300 yX12_push ∈ TG := tg_i 1762 (by decide +kernel) (by decide +kernel)
theorem qX12_304 : Cond.methodLink RX12 304 yX12_pop ∈ TG := tg_i 1766 (by decide +kernel) (by decide +kernel)
theorem qX12_308 : Cond.methodLink RX12 308 yX12_one ∈ TG := tg_i 1770 (by decide +kernel) (by decide +kernel)
theorem qX12_312 : Cond.methodLink RX12 312 yX12_riderOf ∈ TG := tg_i 1623 (by decide +kernel) (by decide +kernel)
theorem qX12_316 : Cond.methodLink RX12 316 yX12_isGoing ∈ TG := tg_i 1639 (by decide +kernel) (by decide +kernel)
theorem qX12_319 : Cond.methodLink RX12 319 yX12_isInside_ ∈ TG := tg_i 1643 (by decide +kernel) (by decide +kernel)
theorem qX12_321 : Cond.methodLink RX12 321 yX12_wayOf ∈ TG := tg_i 1650 (by decide +kernel) (by decide +kernel)
theorem qX12_324 : Cond.methodLink RX12 324 yX12_isOf ∈ TG := tg_i 1647 (by decide +kernel) (by decide +kernel)
theorem qX12_327 : Cond.methodLink RX12 327 yX12_isCoach ∈ TG := tg_i 1614 (by decide +kernel) (by decide +kernel)
theorem qX12_330 : Cond.constantLong RX12 330 (2) ∈ TG := tg_i 1618 (by decide +kernel) (by decide +kernel)
theorem qX12_332 : Cond.methodLink RX12 332 yX12_ridersIn ∈ TG := tg_i 1619 (by decide +kernel) (by decide +kernel)
theorem qX12_335 : Cond.methodLink RX12 335 yX12_isWay ∈ TG := tg_i 1631 (by decide +kernel) (by decide +kernel)
theorem qX12_338 : Cond.methodLink RX12 338 yX12_goerIn ∈ TG := tg_i 1635 (by decide +kernel) (by decide +kernel)
theorem qX12_341 : Cond.methodLink RX12 341 yX12_isRider ∈ TG := tg_i 1661 (by decide +kernel) (by decide +kernel)
theorem qX12_344 : Cond.constantLong RX12 344 (8) ∈ TG := tg_i 1665 (by decide +kernel) (by decide +kernel)
theorem qX12_346 : Cond.methodLink RX12 346 yX12_isRight ∈ TG := tg_i 1666 (by decide +kernel) (by decide +kernel)
theorem qX12_349 : Cond.methodLink RX12 349 yX12_timesOf ∈ TG := tg_i 1690 (by decide +kernel) (by decide +kernel)
theorem qX12_352 : Cond.methodLink RX12 352 yX12_timeOf ∈ TG := tg_i 1686 (by decide +kernel) (by decide +kernel)
theorem qX12_356 : Cond.methodLink RX12 356 yX12_parting ∈ TG := tg_i 1694 (by decide +kernel) (by decide +kernel)
theorem qX12_359 : Cond.methodLink RX12 359 yX12_mayInside ∈ TG := tg_i 1682 (by decide +kernel) (by decide +kernel)
theorem qX12_362 : Cond.methodLink RX12 362 yX12_canInside ∈ TG := tg_i 1678 (by decide +kernel) (by decide +kernel)
theorem qX12_365 : Cond.methodLink RX12 365 yX12_keeps ∈ TG := tg_i 1698 (by decide +kernel) (by decide +kernel)
theorem qX12_368 : Cond.methodLink RX12 368 yX12_goes ∈ TG := tg_i 1702 (by decide +kernel) (by decide +kernel)
theorem qX12_372 : Cond.methodLink RX12 372 yX12_mayOutside ∈ TG := tg_i 1710 (by decide +kernel) (by decide +kernel)
theorem qX12_375 : Cond.methodLink RX12 375 yX12_isLine ∈ TG := tg_i 1718 (by decide +kernel) (by decide +kernel)
theorem qX12_378 : Cond.constantLong RX12 378 (99) ∈ TG := tg_i 1722 (by decide +kernel) (by decide +kernel)
theorem qX12_380 : Cond.methodLink RX12 380 yX12_secondComes ∈ TG := tg_i 1723 (by decide +kernel) (by decide +kernel)
theorem qX12_383 : Cond.methodLink RX12 383 yX12_nearest ∈ TG := tg_i 1747 (by decide +kernel) (by decide +kernel)
theorem qX12_386 : Cond.methodLink RX12 386 yX12_haltAt ∈ TG := tg_i 1751 (by decide +kernel) (by decide +kernel)
theorem qX12_389 : Cond.methodLink RX12 389 yX12_bits ∈ TG := tg_i 1755 (by decide +kernel) (by decide +kernel)
theorem qX12_392 : Cond.methodLink RX12 392 yX12_reckons ∈ TG := tg_i 1758 (by decide +kernel) (by decide +kernel)
theorem qX12_396 : Cond.methodLink RX12 396 yX12_words ∈ TG := tg_i 1743 (by decide +kernel) (by decide +kernel)
theorem qX12_399 : Cond.methodLink RX12 399 yX12_doesBy ∈ TG := tg_i 1773 (by decide +kernel) (by decide +kernel)
theorem qX12_402 : Cond.methodLink RX12 402 yX12_isRule ∈ TG := tg_i 1735 (by decide +kernel) (by decide +kernel)
theorem qX12_405 : Cond.methodLink RX12 405 yX12_asks ∈ TG := tg_i 1739 (by decide +kernel) (by decide +kernel)
theorem qX12_408 : Cond.methodLink RX12 408 yX12_nextSoon ∈ TG := tg_i 1801 (by decide +kernel) (by decide +kernel)
theorem qX12_411 : Cond.methodLink RX12 411 yX12_insideFrom ∈ TG := tg_i 1805 (by decide +kernel) (by decide +kernel)
theorem qX12_415 : Cond.methodLink RX12 415 yX12_comesAt ∈ TG := tg_i 1809 (by decide +kernel) (by decide +kernel)
theorem qX12_418 : Cond.methodLink RX12 418 yX12_outsideFrom ∈ TG := tg_i 1813 (by decide +kernel) (by decide +kernel)
theorem qX12_421 : Cond.methodLink RX12 421 yX12_fillsSoon ∈ TG := tg_i 1797 (by decide +kernel) (by decide +kernel)
theorem qX12_425 : Cond.methodLink RX12 425 yX12_beginOf ∈ TG := tg_i 1785 (by decide +kernel) (by decide +kernel)
theorem qX12_428 : Cond.methodLink RX12 428 yX12_whereOf ∈ TG := tg_i 1789 (by decide +kernel) (by decide +kernel)
theorem qX12_431 : Cond.methodLink RX12 431 yX12_rightFrom ∈ TG := tg_i 1793 (by decide +kernel) (by decide +kernel)
theorem qX12_435 : Cond.methodLink RX12 435 yX12_soonestOf ∈ TG := tg_i 1781 (by decide +kernel) (by decide +kernel)
theorem qX12_438 : Cond.fieldLink RX12 438 "FrontFourModel" "rowMany" "I" ∈ TG := tg_i 1331 (by decide +kernel) (by decide +kernel)
theorem qX12_441 : Cond.methodLink RX12 441 yX12_goesOn ∈ TG := tg_i 1829 (by decide +kernel) (by decide +kernel)
theorem qX12_445 : Cond.methodLink RX12 445 yX12_steps ∈ TG := tg_i 1825 (by decide +kernel) (by decide +kernel)
theorem qX12_448 : Cond.methodLink RX12 448 yX12_fillsRow ∈ TG := tg_i 1821 (by decide +kernel) (by decide +kernel)
theorem qX12_451 : Cond.methodLink RX12 451 yX12_latestOf ∈ TG := tg_i 1837 (by decide +kernel) (by decide +kernel)
theorem qX12_454 : Cond.methodLink RX12 454 yX12_isLost ∈ TG := tg_i 1845 (by decide +kernel) (by decide +kernel)
theorem qX12_457 : Cond.methodLink RX12 457 yX12_voiceIn ∈ TG := tg_i 1853 (by decide +kernel) (by decide +kernel)
theorem qX12_460 : Cond.constantLong RX12 460 (-1) ∈ TG := tg_i 1865 (by decide +kernel) (by decide +kernel)
theorem qX12_462 : Cond.methodLink RX12 462 yX12_isOrder ∈ TG := tg_i 1866 (by decide +kernel) (by decide +kernel)
theorem qX12_465 : Cond.methodLink RX12 465 yX12_wrongAsPut ∈ TG := tg_i 1870 (by decide +kernel) (by decide +kernel)
theorem qX12_468 : Cond.methodLink RX12 468 yX12_isFirstPut ∈ TG := tg_i 1874 (by decide +kernel) (by decide +kernel)
theorem qX12_471 : Cond.methodLink RX12 471 yX12_allIn ∈ TG := tg_i 1882 (by decide +kernel) (by decide +kernel)
theorem qX12_474 : Cond.methodLink RX12 474 yX12_goesStraight ∈ TG := tg_i 1890 (by decide +kernel) (by decide +kernel)
theorem qX12_477 : Cond.constantLong RX12 477 (999) ∈ TG := tg_i 1898 (by decide +kernel) (by decide +kernel)
theorem qX12_479 : Cond.methodLink RX12 479 yX12_secondOf ∈ TG := tg_i 1911 (by decide +kernel) (by decide +kernel)
theorem qX12_482 : Cond.methodLink RX12 482 yX12_nextSeen ∈ TG := tg_i 1907 (by decide +kernel) (by decide +kernel)
theorem qX12_485 : Cond.methodLink RX12 485 yX12_canHaveBeen ∈ TG := tg_i 1903 (by decide +kernel) (by decide +kernel)
theorem qX12_488 : Cond.constantLong RX12 488 (3) ∈ TG := tg_i 1919 (by decide +kernel) (by decide +kernel)
theorem qX12_490 : Cond.fieldLink RX12 490 "FrontFourModel" "x" "I" ∈ TG := tg_i 1323 (by decide +kernel) (by decide +kernel)
theorem qX12_493 : Cond.fieldLink RX12 493 "FrontFourModel" "drawX" "J" ∈ TG := tg_i 1337 (by decide +kernel) (by decide +kernel)
theorem qX12_497 : Cond.constantLong RX12 497 (1103515245) ∈ TG := tg_i 1933 (by decide +kernel) (by decide +kernel)
theorem qX12_499 : Cond.constantLong RX12 499 (12345) ∈ TG := tg_i 1934 (by decide +kernel) (by decide +kernel)
theorem qX12_501 : Cond.constantLong RX12 501 (2147483648) ∈ TG := tg_i 1935 (by decide +kernel) (by decide +kernel)
theorem qX12_503 : Cond.constantLong RX12 503 (65536) ∈ TG := tg_i 1936 (by decide +kernel) (by decide +kernel)
theorem qX12_505 : Cond.constantLong RX12 505 (20) ∈ TG := tg_i 1928 (by decide +kernel) (by decide +kernel)
theorem qX12_507 : Cond.methodLink RX12 507 yX12_draw ∈ TG := tg_i 1929 (by decide +kernel) (by decide +kernel)
theorem msX12_in : MWs yX12_in cX12_in 6 (some .boolean) 3 := ⟨(tg_i 1502 (by decide +kernel) (by decide +kernel)), (tg_i 142 (by decide +kernel) (by decide +kernel)), (tg_i 1503 (by decide +kernel) (by decide +kernel)), by decide, by decide, by decide +kernel⟩
theorem msX12_isOf : MWs yX12_isOf cX12_isOf 2 (some .boolean) 2 := ⟨(tg_i 1648 (by decide +kernel) (by decide +kernel)), (tg_i 142 (by decide +kernel) (by decide +kernel)), (tg_i 1649 (by decide +kernel) (by decide +kernel)), by decide, by decide, by decide +kernel⟩
theorem mvX12_four : MWv yX12_four RX12 cX12_four 3 none 1 := ⟨(tg_i 1426 (by decide +kernel) (by decide +kernel)), (tg_i 42 (by decide +kernel) (by decide +kernel)), (tg_i 142 (by decide +kernel) (by decide +kernel)), (tg_i 1427 (by decide +kernel) (by decide +kernel)), rfl, by decide, by decide, by decide +kernel⟩
theorem mvX12_feed : MWv yX12_feed RX12 cX12_feed 6 (some .int) 5 := ⟨(tg_i 1421 (by decide +kernel) (by decide +kernel)), (tg_i 1422 (by decide +kernel) (by decide +kernel)), (tg_i 142 (by decide +kernel) (by decide +kernel)), (tg_i 1423 (by decide +kernel) (by decide +kernel)), rfl, by decide, by decide, by decide +kernel⟩
theorem mvX12_end : MWv yX12_end RX12 cX12_end 2 (some .int) 1 := ⟨(tg_i 1429 (by decide +kernel) (by decide +kernel)), (tg_i 1430 (by decide +kernel) (by decide +kernel)), (tg_i 142 (by decide +kernel) (by decide +kernel)), (tg_i 1431 (by decide +kernel) (by decide +kernel)), rfl, by decide, by decide, by decide +kernel⟩
theorem mvX12_fails : MWv yX12_fails RX12 cX12_fails 3 (some .boolean) 2 := ⟨(tg_i 1475 (by decide +kernel) (by decide +kernel)), (tg_i 49 (by decide +kernel) (by decide +kernel)), (tg_i 142 (by decide +kernel) (by decide +kernel)), (tg_i 1476 (by decide +kernel) (by decide +kernel)), rfl, by decide, by decide, by decide +kernel⟩
theorem mvX12_see : MWv yX12_see RX12 cX12_see 1 (some .int) 0 := ⟨(tg_i 1446 (by decide +kernel) (by decide +kernel)), (tg_i 45 (by decide +kernel) (by decide +kernel)), (tg_i 142 (by decide +kernel) (by decide +kernel)), (tg_i 1447 (by decide +kernel) (by decide +kernel)), rfl, by decide, by decide, by decide +kernel⟩
theorem mvX12_isDigit : MWv yX12_isDigit RX12 cX12_isDigit 2 (some .boolean) 1 := ⟨(tg_i 1499 (by decide +kernel) (by decide +kernel)), (tg_i 55 (by decide +kernel) (by decide +kernel)), (tg_i 142 (by decide +kernel) (by decide +kernel)), (tg_i 1500 (by decide +kernel) (by decide +kernel)), rfl, by decide, by decide, by decide +kernel⟩
theorem mvX12_isLetter : MWv yX12_isLetter RX12 cX12_isLetter 2 (some .boolean) 1 := ⟨(tg_i 1459 (by decide +kernel) (by decide +kernel)), (tg_i 48 (by decide +kernel) (by decide +kernel)), (tg_i 142 (by decide +kernel) (by decide +kernel)), (tg_i 1460 (by decide +kernel) (by decide +kernel)), rfl, by decide, by decide, by decide +kernel⟩
theorem mvX12_isWord : MWv yX12_isWord RX12 cX12_isWord 6 (some .boolean) 1 := ⟨(tg_i 1455 (by decide +kernel) (by decide +kernel)), (tg_i 47 (by decide +kernel) (by decide +kernel)), (tg_i 142 (by decide +kernel) (by decide +kernel)), (tg_i 1456 (by decide +kernel) (by decide +kernel)), rfl, by decide, by decide, by decide +kernel⟩
theorem mvX12_passWord : MWv yX12_passWord RX12 cX12_passWord 1 none 0 := ⟨(tg_i 1487 (by decide +kernel) (by decide +kernel)), (tg_i 52 (by decide +kernel) (by decide +kernel)), (tg_i 142 (by decide +kernel) (by decide +kernel)), (tg_i 1488 (by decide +kernel) (by decide +kernel)), rfl, by decide, by decide, by decide +kernel⟩
theorem mvX12_takesWord : MWv yX12_takesWord RX12 cX12_takesWord 3 (some .boolean) 1 := ⟨(tg_i 1570 (by decide +kernel) (by decide +kernel)), (tg_i 69 (by decide +kernel) (by decide +kernel)), (tg_i 142 (by decide +kernel) (by decide +kernel)), (tg_i 1571 (by decide +kernel) (by decide +kernel)), rfl, by decide, by decide, by decide +kernel⟩
theorem mvX12_numberHere : MWv yX12_numberHere RX12 cX12_numberHere 5 (some .boolean) 2 := ⟨(tg_i 1495 (by decide +kernel) (by decide +kernel)), (tg_i 54 (by decide +kernel) (by decide +kernel)), (tg_i 142 (by decide +kernel) (by decide +kernel)), (tg_i 1496 (by decide +kernel) (by decide +kernel)), rfl, by decide, by decide, by decide +kernel⟩
theorem mvX12_wordHere : MWv yX12_wordHere RX12 cX12_wordHere 1 (some .int) 0 := ⟨(tg_i 1555 (by decide +kernel) (by decide +kernel)), (tg_i 68 (by decide +kernel) (by decide +kernel)), (tg_i 142 (by decide +kernel) (by decide +kernel)), (tg_i 1556 (by decide +kernel) (by decide +kernel)), rfl, by decide, by decide, by decide +kernel⟩
theorem mvX12_puts : MWv yX12_puts RX12 cX12_puts 3 none 2 := ⟨(tg_i 1551 (by decide +kernel) (by decide +kernel)), (tg_i 67 (by decide +kernel) (by decide +kernel)), (tg_i 142 (by decide +kernel) (by decide +kernel)), (tg_i 1552 (by decide +kernel) (by decide +kernel)), rfl, by decide, by decide, by decide +kernel⟩
theorem mvX12_makes : MWv yX12_makes RX12 cX12_makes 2 (some .boolean) 1 := ⟨(tg_i 1547 (by decide +kernel) (by decide +kernel)), (tg_i 66 (by decide +kernel) (by decide +kernel)), (tg_i 142 (by decide +kernel) (by decide +kernel)), (tg_i 1548 (by decide +kernel) (by decide +kernel)), rfl, by decide, by decide, by decide +kernel⟩
theorem mvX12_opens : MWv yX12_opens RX12 cX12_opens 2 (some .boolean) 1 := ⟨(tg_i 1583 (by decide +kernel) (by decide +kernel)), (tg_i 72 (by decide +kernel) (by decide +kernel)), (tg_i 142 (by decide +kernel) (by decide +kernel)), (tg_i 1584 (by decide +kernel) (by decide +kernel)), rfl, by decide, by decide, by decide +kernel⟩
theorem msX12_strength : MWs yX12_strength cX12_strength 1 (some .int) 1 := ⟨(tg_i 1598 (by decide +kernel) (by decide +kernel)), (tg_i 142 (by decide +kernel) (by decide +kernel)), (tg_i 1599 (by decide +kernel) (by decide +kernel)), by decide, by decide, by decide +kernel⟩
theorem mvX12_settles : MWv yX12_settles RX12 cX12_settles 2 none 1 := ⟨(tg_i 1595 (by decide +kernel) (by decide +kernel)), (tg_i 75 (by decide +kernel) (by decide +kernel)), (tg_i 142 (by decide +kernel) (by decide +kernel)), (tg_i 1596 (by decide +kernel) (by decide +kernel)), rfl, by decide, by decide, by decide +kernel⟩
theorem mvX12_value : MWv yX12_value RX12 cX12_value 3 (some .boolean) 0 := ⟨(tg_i 1542 (by decide +kernel) (by decide +kernel)), (tg_i 65 (by decide +kernel) (by decide +kernel)), (tg_i 142 (by decide +kernel) (by decide +kernel)), (tg_i 1543 (by decide +kernel) (by decide +kernel)), rfl, by decide, by decide, by decide +kernel⟩
theorem mvX12_term : MWv yX12_term RX12 cX12_term 2 (some .boolean) 0 := ⟨(tg_i 1538 (by decide +kernel) (by decide +kernel)), (tg_i 64 (by decide +kernel) (by decide +kernel)), (tg_i 142 (by decide +kernel) (by decide +kernel)), (tg_i 1539 (by decide +kernel) (by decide +kernel)), rfl, by decide, by decide, by decide +kernel⟩
theorem mvX12_sum : MWv yX12_sum RX12 cX12_sum 2 (some .boolean) 0 := ⟨(tg_i 1534 (by decide +kernel) (by decide +kernel)), (tg_i 63 (by decide +kernel) (by decide +kernel)), (tg_i 142 (by decide +kernel) (by decide +kernel)), (tg_i 1535 (by decide +kernel) (by decide +kernel)), rfl, by decide, by decide, by decide +kernel⟩
theorem mvX12_compare : MWv yX12_compare RX12 cX12_compare 5 (some .boolean) 0 := ⟨(tg_i 1587 (by decide +kernel) (by decide +kernel)), (tg_i 73 (by decide +kernel) (by decide +kernel)), (tg_i 142 (by decide +kernel) (by decide +kernel)), (tg_i 1588 (by decide +kernel) (by decide +kernel)), rfl, by decide, by decide, by decide +kernel⟩
theorem mvX12_fact : MWv yX12_fact RX12 cX12_fact 3 (some .boolean) 0 := ⟨(tg_i 1578 (by decide +kernel) (by decide +kernel)), (tg_i 71 (by decide +kernel) (by decide +kernel)), (tg_i 142 (by decide +kernel) (by decide +kernel)), (tg_i 1579 (by decide +kernel) (by decide +kernel)), rfl, by decide, by decide, by decide +kernel⟩
theorem mvX12_isInside : MWv yX12_isInside RX12 cX12_isInside 2 (some .boolean) 0 := ⟨(tg_i 1602 (by decide +kernel) (by decide +kernel)), (tg_i 76 (by decide +kernel) (by decide +kernel)), (tg_i 142 (by decide +kernel) (by decide +kernel)), (tg_i 1603 (by decide +kernel) (by decide +kernel)), rfl, by decide, by decide, by decide +kernel⟩
theorem mvX12_closes : MWv yX12_closes RX12 cX12_closes 1 none 0 := ⟨(tg_i 1591 (by decide +kernel) (by decide +kernel)), (tg_i 74 (by decide +kernel) (by decide +kernel)), (tg_i 142 (by decide +kernel) (by decide +kernel)), (tg_i 1592 (by decide +kernel) (by decide +kernel)), rfl, by decide, by decide, by decide +kernel⟩
theorem mvX12_tested : MWv yX12_tested RX12 cX12_tested 3 (some .boolean) 0 := ⟨(tg_i 1574 (by decide +kernel) (by decide +kernel)), (tg_i 70 (by decide +kernel) (by decide +kernel)), (tg_i 142 (by decide +kernel) (by decide +kernel)), (tg_i 1575 (by decide +kernel) (by decide +kernel)), rfl, by decide, by decide, by decide +kernel⟩
theorem mvX12_isDoingHere : MWv yX12_isDoingHere RX12 cX12_isDoingHere 3 (some .boolean) 1 := ⟨(tg_i 1530 (by decide +kernel) (by decide +kernel)), (tg_i 62 (by decide +kernel) (by decide +kernel)), (tg_i 142 (by decide +kernel) (by decide +kernel)), (tg_i 1531 (by decide +kernel) (by decide +kernel)), rfl, by decide, by decide, by decide +kernel⟩
theorem mvX12_cellHere : MWv yX12_cellHere RX12 cX12_cellHere 4 (some .boolean) 3 := ⟨(tg_i 1491 (by decide +kernel) (by decide +kernel)), (tg_i 53 (by decide +kernel) (by decide +kernel)), (tg_i 142 (by decide +kernel) (by decide +kernel)), (tg_i 1492 (by decide +kernel) (by decide +kernel)), rfl, by decide, by decide, by decide +kernel⟩
theorem mvX12_isTrainHere : MWv yX12_isTrainHere RX12 cX12_isTrainHere 3 (some .boolean) 1 := ⟨(tg_i 1483 (by decide +kernel) (by decide +kernel)), (tg_i 51 (by decide +kernel) (by decide +kernel)), (tg_i 142 (by decide +kernel) (by decide +kernel)), (tg_i 1484 (by decide +kernel) (by decide +kernel)), rfl, by decide, by decide, by decide +kernel⟩
theorem mvX12_isDestHere : MWv yX12_isDestHere RX12 cX12_isDestHere 3 (some .boolean) 1 := ⟨(tg_i 1506 (by decide +kernel) (by decide +kernel)), (tg_i 56 (by decide +kernel) (by decide +kernel)), (tg_i 142 (by decide +kernel) (by decide +kernel)), (tg_i 1507 (by decide +kernel) (by decide +kernel)), rfl, by decide, by decide, by decide +kernel⟩
theorem mvX12_isStopHere : MWv yX12_isStopHere RX12 cX12_isStopHere 3 (some .boolean) 1 := ⟨(tg_i 1510 (by decide +kernel) (by decide +kernel)), (tg_i 57 (by decide +kernel) (by decide +kernel)), (tg_i 142 (by decide +kernel) (by decide +kernel)), (tg_i 1511 (by decide +kernel) (by decide +kernel)), rfl, by decide, by decide, by decide +kernel⟩
theorem mvX12_isOnceHere : MWv yX12_isOnceHere RX12 cX12_isOnceHere 5 (some .boolean) 4 := ⟨(tg_i 1514 (by decide +kernel) (by decide +kernel)), (tg_i 58 (by decide +kernel) (by decide +kernel)), (tg_i 142 (by decide +kernel) (by decide +kernel)), (tg_i 1515 (by decide +kernel) (by decide +kernel)), rfl, by decide, by decide, by decide +kernel⟩
theorem mvX12_isShutHere : MWv yX12_isShutHere RX12 cX12_isShutHere 1 (some .boolean) 0 := ⟨(tg_i 1518 (by decide +kernel) (by decide +kernel)), (tg_i 59 (by decide +kernel) (by decide +kernel)), (tg_i 142 (by decide +kernel) (by decide +kernel)), (tg_i 1519 (by decide +kernel) (by decide +kernel)), rfl, by decide, by decide, by decide +kernel⟩
theorem mvX12_isCellOfHere : MWv yX12_isCellOfHere RX12 cX12_isCellOfHere 6 (some .boolean) 5 := ⟨(tg_i 1522 (by decide +kernel) (by decide +kernel)), (tg_i 60 (by decide +kernel) (by decide +kernel)), (tg_i 142 (by decide +kernel) (by decide +kernel)), (tg_i 1523 (by decide +kernel) (by decide +kernel)), rfl, by decide, by decide, by decide +kernel⟩
theorem mvX12_isRiderHere : MWv yX12_isRiderHere RX12 cX12_isRiderHere 3 (some .boolean) 1 := ⟨(tg_i 1526 (by decide +kernel) (by decide +kernel)), (tg_i 61 (by decide +kernel) (by decide +kernel)), (tg_i 142 (by decide +kernel) (by decide +kernel)), (tg_i 1527 (by decide +kernel) (by decide +kernel)), rfl, by decide, by decide, by decide +kernel⟩
theorem mvX12_lineLineHere : MWv yX12_lineLineHere RX12 cX12_lineLineHere 2 (some .boolean) 1 := ⟨(tg_i 1479 (by decide +kernel) (by decide +kernel)), (tg_i 50 (by decide +kernel) (by decide +kernel)), (tg_i 142 (by decide +kernel) (by decide +kernel)), (tg_i 1480 (by decide +kernel) (by decide +kernel)), rfl, by decide, by decide, by decide +kernel⟩
theorem mvX12_isLineWord : MWv yX12_isLineWord RX12 cX12_isLineWord 2 (some .boolean) 0 := ⟨(tg_i 1450 (by decide +kernel) (by decide +kernel)), (tg_i 46 (by decide +kernel) (by decide +kernel)), (tg_i 142 (by decide +kernel) (by decide +kernel)), (tg_i 1451 (by decide +kernel) (by decide +kernel)), rfl, by decide, by decide, by decide +kernel⟩
theorem mvX12_clauseHere : MWv yX12_clauseHere RX12 cX12_clauseHere 3 (some .boolean) 0 := ⟨(tg_i 1442 (by decide +kernel) (by decide +kernel)), (tg_i 44 (by decide +kernel) (by decide +kernel)), (tg_i 142 (by decide +kernel) (by decide +kernel)), (tg_i 1443 (by decide +kernel) (by decide +kernel)), rfl, by decide, by decide, by decide +kernel⟩
theorem mvX12_readsAll : MWv yX12_readsAll RX12 cX12_readsAll 2 (some .boolean) 0 := ⟨(tg_i 1438 (by decide +kernel) (by decide +kernel)), (tg_i 43 (by decide +kernel) (by decide +kernel)), (tg_i 142 (by decide +kernel) (by decide +kernel)), (tg_i 1439 (by decide +kernel) (by decide +kernel)), rfl, by decide, by decide, by decide +kernel⟩
theorem mvX12_rule : MWv yX12_rule RX12 cX12_rule 1 (some .int) 0 := ⟨(tg_i 1433 (by decide +kernel) (by decide +kernel)), (tg_i 1434 (by decide +kernel) (by decide +kernel)), (tg_i 142 (by decide +kernel) (by decide +kernel)), (tg_i 1435 (by decide +kernel) (by decide +kernel)), rfl, by decide, by decide, by decide +kernel⟩
theorem mvX12_line : MWv yX12_line RX12 cX12_line 2 (some .int) 0 := ⟨(tg_i 1607 (by decide +kernel) (by decide +kernel)), (tg_i 1608 (by decide +kernel) (by decide +kernel)), (tg_i 142 (by decide +kernel) (by decide +kernel)), (tg_i 1609 (by decide +kernel) (by decide +kernel)), rfl, by decide, by decide, by decide +kernel⟩
theorem mvX12_isRule : MWv yX12_isRule RX12 cX12_isRule 2 (some .boolean) 1 := ⟨(tg_i 1737 (by decide +kernel) (by decide +kernel)), (tg_i 96 (by decide +kernel) (by decide +kernel)), (tg_i 142 (by decide +kernel) (by decide +kernel)), (tg_i 1738 (by decide +kernel) (by decide +kernel)), rfl, by decide, by decide, by decide +kernel⟩
theorem mvX12_push : MWv yX12_push RX12 cX12_push 3 none 1 := ⟨(tg_i 1764 (by decide +kernel) (by decide +kernel)), (tg_i 102 (by decide +kernel) (by decide +kernel)), (tg_i 142 (by decide +kernel) (by decide +kernel)), (tg_i 1765 (by decide +kernel) (by decide +kernel)), rfl, by decide, by decide, by decide +kernel⟩
theorem mvX12_pop : MWv yX12_pop RX12 cX12_pop 1 (some .long) 0 := ⟨(tg_i 1768 (by decide +kernel) (by decide +kernel)), (tg_i 103 (by decide +kernel) (by decide +kernel)), (tg_i 142 (by decide +kernel) (by decide +kernel)), (tg_i 1769 (by decide +kernel) (by decide +kernel)), rfl, by decide, by decide, by decide +kernel⟩
theorem msX12_one : MWs yX12_one cX12_one 5 (some .long) 3 := ⟨(tg_i 1771 (by decide +kernel) (by decide +kernel)), (tg_i 142 (by decide +kernel) (by decide +kernel)), (tg_i 1772 (by decide +kernel) (by decide +kernel)), by decide, by decide, by decide +kernel⟩
theorem mvX12_reckons : MWv yX12_reckons RX12 cX12_reckons 11 (some .long) 3 := ⟨(tg_i 1760 (by decide +kernel) (by decide +kernel)), (tg_i 101 (by decide +kernel) (by decide +kernel)), (tg_i 142 (by decide +kernel) (by decide +kernel)), (tg_i 1761 (by decide +kernel) (by decide +kernel)), rfl, by decide, by decide, by decide +kernel⟩
theorem mvX12_isLine : MWv yX12_isLine RX12 cX12_isLine 1 (some .boolean) 0 := ⟨(tg_i 1720 (by decide +kernel) (by decide +kernel)), (tg_i 94 (by decide +kernel) (by decide +kernel)), (tg_i 142 (by decide +kernel) (by decide +kernel)), (tg_i 1721 (by decide +kernel) (by decide +kernel)), rfl, by decide, by decide, by decide +kernel⟩
theorem mvX12_isCoach : MWv yX12_isCoach RX12 cX12_isCoach 2 (some .boolean) 1 := ⟨(tg_i 1616 (by decide +kernel) (by decide +kernel)), (tg_i 77 (by decide +kernel) (by decide +kernel)), (tg_i 142 (by decide +kernel) (by decide +kernel)), (tg_i 1617 (by decide +kernel) (by decide +kernel)), rfl, by decide, by decide, by decide +kernel⟩
theorem mvX12_isWay : MWv yX12_isWay RX12 cX12_isWay 2 (some .boolean) 1 := ⟨(tg_i 1633 (by decide +kernel) (by decide +kernel)), (tg_i 80 (by decide +kernel) (by decide +kernel)), (tg_i 142 (by decide +kernel) (by decide +kernel)), (tg_i 1634 (by decide +kernel) (by decide +kernel)), rfl, by decide, by decide, by decide +kernel⟩
theorem mvX12_isRider : MWv yX12_isRider RX12 cX12_isRider 2 (some .boolean) 1 := ⟨(tg_i 1663 (by decide +kernel) (by decide +kernel)), (tg_i 84 (by decide +kernel) (by decide +kernel)), (tg_i 142 (by decide +kernel) (by decide +kernel)), (tg_i 1664 (by decide +kernel) (by decide +kernel)), rfl, by decide, by decide, by decide +kernel⟩
theorem mvX12_riderOf : MWv yX12_riderOf RX12 cX12_riderOf 3 (some .int) 2 := ⟨(tg_i 1625 (by decide +kernel) (by decide +kernel)), (tg_i 79 (by decide +kernel) (by decide +kernel)), (tg_i 142 (by decide +kernel) (by decide +kernel)), (tg_i 1626 (by decide +kernel) (by decide +kernel)), rfl, by decide, by decide, by decide +kernel⟩
theorem mvX12_isGoing : MWv yX12_isGoing RX12 cX12_isGoing 2 (some .boolean) 1 := ⟨(tg_i 1641 (by decide +kernel) (by decide +kernel)), (tg_i 82 (by decide +kernel) (by decide +kernel)), (tg_i 142 (by decide +kernel) (by decide +kernel)), (tg_i 1642 (by decide +kernel) (by decide +kernel)), rfl, by decide, by decide, by decide +kernel⟩
theorem mvX12_parting : MWv yX12_parting RX12 cX12_parting 1 (some .int) 0 := ⟨(tg_i 1696 (by decide +kernel) (by decide +kernel)), (tg_i 90 (by decide +kernel) (by decide +kernel)), (tg_i 142 (by decide +kernel) (by decide +kernel)), (tg_i 1697 (by decide +kernel) (by decide +kernel)), rfl, by decide, by decide, by decide +kernel⟩
theorem mvX12_isRight : MWv yX12_isRight RX12 cX12_isRight 3 (some .boolean) 2 := ⟨(tg_i 1668 (by decide +kernel) (by decide +kernel)), (tg_i 85 (by decide +kernel) (by decide +kernel)), (tg_i 142 (by decide +kernel) (by decide +kernel)), (tg_i 1669 (by decide +kernel) (by decide +kernel)), rfl, by decide, by decide, by decide +kernel⟩
theorem mvX12_ridersIn : MWv yX12_ridersIn RX12 cX12_ridersIn 4 (some .int) 1 := ⟨(tg_i 1621 (by decide +kernel) (by decide +kernel)), (tg_i 78 (by decide +kernel) (by decide +kernel)), (tg_i 142 (by decide +kernel) (by decide +kernel)), (tg_i 1622 (by decide +kernel) (by decide +kernel)), rfl, by decide, by decide, by decide +kernel⟩
theorem msX12_bits : MWs yX12_bits cX12_bits 3 (some .int) 1 := ⟨(tg_i 1756 (by decide +kernel) (by decide +kernel)), (tg_i 142 (by decide +kernel) (by decide +kernel)), (tg_i 1757 (by decide +kernel) (by decide +kernel)), by decide, by decide, by decide +kernel⟩
theorem msX12_wayOf : MWs yX12_wayOf cX12_wayOf 2 (some .int) 2 := ⟨(tg_i 1651 (by decide +kernel) (by decide +kernel)), (tg_i 142 (by decide +kernel) (by decide +kernel)), (tg_i 1652 (by decide +kernel) (by decide +kernel)), by decide, by decide, by decide +kernel⟩
theorem mvX12_isInside_ : MWv yX12_isInside_ RX12 cX12_isInside_ 2 (some .boolean) 1 := ⟨(tg_i 1645 (by decide +kernel) (by decide +kernel)), (tg_i 83 (by decide +kernel) (by decide +kernel)), (tg_i 142 (by decide +kernel) (by decide +kernel)), (tg_i 1646 (by decide +kernel) (by decide +kernel)), rfl, by decide, by decide, by decide +kernel⟩
theorem mvX12_goerIn : MWv yX12_goerIn RX12 cX12_goerIn 3 (some .int) 1 := ⟨(tg_i 1637 (by decide +kernel) (by decide +kernel)), (tg_i 81 (by decide +kernel) (by decide +kernel)), (tg_i 142 (by decide +kernel) (by decide +kernel)), (tg_i 1638 (by decide +kernel) (by decide +kernel)), rfl, by decide, by decide, by decide +kernel⟩
theorem mvX12_coach : MWv yX12_coach RX12 cX12_coach 3 (some .int) 2 := ⟨(tg_i 1611 (by decide +kernel) (by decide +kernel)), (tg_i 1612 (by decide +kernel) (by decide +kernel)), (tg_i 142 (by decide +kernel) (by decide +kernel)), (tg_i 1613 (by decide +kernel) (by decide +kernel)), rfl, by decide, by decide, by decide +kernel⟩
theorem mvX12_way : MWv yX12_way RX12 cX12_way 3 (some .int) 2 := ⟨(tg_i 1628 (by decide +kernel) (by decide +kernel)), (tg_i 1629 (by decide +kernel) (by decide +kernel)), (tg_i 142 (by decide +kernel) (by decide +kernel)), (tg_i 1630 (by decide +kernel) (by decide +kernel)), rfl, by decide, by decide, by decide +kernel⟩
theorem mvX12_stop : MWv yX12_stop RX12 cX12_stop 3 (some .int) 2 := ⟨(tg_i 1654 (by decide +kernel) (by decide +kernel)), (tg_i 1655 (by decide +kernel) (by decide +kernel)), (tg_i 142 (by decide +kernel) (by decide +kernel)), (tg_i 1656 (by decide +kernel) (by decide +kernel)), rfl, by decide, by decide, by decide +kernel⟩
theorem mvX12_rider : MWv yX12_rider RX12 cX12_rider 3 (some .int) 2 := ⟨(tg_i 1658 (by decide +kernel) (by decide +kernel)), (tg_i 1659 (by decide +kernel) (by decide +kernel)), (tg_i 142 (by decide +kernel) (by decide +kernel)), (tg_i 1660 (by decide +kernel) (by decide +kernel)), rfl, by decide, by decide, by decide +kernel⟩
theorem mvX12_haltAt : MWv yX12_haltAt RX12 cX12_haltAt 3 (some .int) 1 := ⟨(tg_i 1753 (by decide +kernel) (by decide +kernel)), (tg_i 100 (by decide +kernel) (by decide +kernel)), (tg_i 142 (by decide +kernel) (by decide +kernel)), (tg_i 1754 (by decide +kernel) (by decide +kernel)), rfl, by decide, by decide, by decide +kernel⟩
theorem mvX12_timesOf : MWv yX12_timesOf RX12 cX12_timesOf 3 (some .int) 1 := ⟨(tg_i 1692 (by decide +kernel) (by decide +kernel)), (tg_i 89 (by decide +kernel) (by decide +kernel)), (tg_i 142 (by decide +kernel) (by decide +kernel)), (tg_i 1693 (by decide +kernel) (by decide +kernel)), rfl, by decide, by decide, by decide +kernel⟩
theorem mvX12_timeOf : MWv yX12_timeOf RX12 cX12_timeOf 6 (some .int) 4 := ⟨(tg_i 1688 (by decide +kernel) (by decide +kernel)), (tg_i 88 (by decide +kernel) (by decide +kernel)), (tg_i 142 (by decide +kernel) (by decide +kernel)), (tg_i 1689 (by decide +kernel) (by decide +kernel)), rfl, by decide, by decide, by decide +kernel⟩
theorem mvX12_mayInside : MWv yX12_mayInside RX12 cX12_mayInside 6 (some .boolean) 4 := ⟨(tg_i 1684 (by decide +kernel) (by decide +kernel)), (tg_i 87 (by decide +kernel) (by decide +kernel)), (tg_i 142 (by decide +kernel) (by decide +kernel)), (tg_i 1685 (by decide +kernel) (by decide +kernel)), rfl, by decide, by decide, by decide +kernel⟩
theorem mvX12_mayOutside : MWv yX12_mayOutside RX12 cX12_mayOutside 7 (some .boolean) 4 := ⟨(tg_i 1712 (by decide +kernel) (by decide +kernel)), (tg_i 93 (by decide +kernel) (by decide +kernel)), (tg_i 142 (by decide +kernel) (by decide +kernel)), (tg_i 1713 (by decide +kernel) (by decide +kernel)), rfl, by decide, by decide, by decide +kernel⟩
theorem mvX12_insideFrom : MWv yX12_insideFrom RX12 cX12_insideFrom 7 (some .int) 4 := ⟨(tg_i 1807 (by decide +kernel) (by decide +kernel)), (tg_i 111 (by decide +kernel) (by decide +kernel)), (tg_i 142 (by decide +kernel) (by decide +kernel)), (tg_i 1808 (by decide +kernel) (by decide +kernel)), rfl, by decide, by decide, by decide +kernel⟩
theorem mvX12_outsideFrom : MWv yX12_outsideFrom RX12 cX12_outsideFrom 8 (some .int) 4 := ⟨(tg_i 1815 (by decide +kernel) (by decide +kernel)), (tg_i 113 (by decide +kernel) (by decide +kernel)), (tg_i 142 (by decide +kernel) (by decide +kernel)), (tg_i 1816 (by decide +kernel) (by decide +kernel)), rfl, by decide, by decide, by decide +kernel⟩
theorem mvX12_keeps : MWv yX12_keeps RX12 cX12_keeps 2 none 0 := ⟨(tg_i 1700 (by decide +kernel) (by decide +kernel)), (tg_i 91 (by decide +kernel) (by decide +kernel)), (tg_i 142 (by decide +kernel) (by decide +kernel)), (tg_i 1701 (by decide +kernel) (by decide +kernel)), rfl, by decide, by decide, by decide +kernel⟩
theorem mvX12_undo : MWv yX12_undo RX12 cX12_undo 2 (some .int) 0 := ⟨(tg_i 1671 (by decide +kernel) (by decide +kernel)), (tg_i 1672 (by decide +kernel) (by decide +kernel)), (tg_i 142 (by decide +kernel) (by decide +kernel)), (tg_i 1673 (by decide +kernel) (by decide +kernel)), rfl, by decide, by decide, by decide +kernel⟩
theorem mvX12_goes : MWv yX12_goes RX12 cX12_goes 5 none 3 := ⟨(tg_i 1704 (by decide +kernel) (by decide +kernel)), (tg_i 92 (by decide +kernel) (by decide +kernel)), (tg_i 142 (by decide +kernel) (by decide +kernel)), (tg_i 1705 (by decide +kernel) (by decide +kernel)), rfl, by decide, by decide, by decide +kernel⟩
theorem mvX12_canInside : MWv yX12_canInside RX12 cX12_canInside 4 (some .boolean) 2 := ⟨(tg_i 1680 (by decide +kernel) (by decide +kernel)), (tg_i 86 (by decide +kernel) (by decide +kernel)), (tg_i 142 (by decide +kernel) (by decide +kernel)), (tg_i 1681 (by decide +kernel) (by decide +kernel)), rfl, by decide, by decide, by decide +kernel⟩
theorem mvX12_inside : MWv yX12_inside RX12 cX12_inside 4 (some .int) 2 := ⟨(tg_i 1675 (by decide +kernel) (by decide +kernel)), (tg_i 1676 (by decide +kernel) (by decide +kernel)), (tg_i 142 (by decide +kernel) (by decide +kernel)), (tg_i 1677 (by decide +kernel) (by decide +kernel)), rfl, by decide, by decide, by decide +kernel⟩
theorem mvX12_outside : MWv yX12_outside RX12 cX12_outside 3 (some .int) 2 := ⟨(tg_i 1707 (by decide +kernel) (by decide +kernel)), (tg_i 1708 (by decide +kernel) (by decide +kernel)), (tg_i 142 (by decide +kernel) (by decide +kernel)), (tg_i 1709 (by decide +kernel) (by decide +kernel)), rfl, by decide, by decide, by decide +kernel⟩
theorem mvX12_secondComes : MWv yX12_secondComes RX12 cX12_secondComes 3 none 0 := ⟨(tg_i 1725 (by decide +kernel) (by decide +kernel)), (tg_i 95 (by decide +kernel) (by decide +kernel)), (tg_i 142 (by decide +kernel) (by decide +kernel)), (tg_i 1726 (by decide +kernel) (by decide +kernel)), rfl, by decide, by decide, by decide +kernel⟩
theorem mvX12_pass : MWv yX12_pass RX12 cX12_pass 3 (some .int) 1 := ⟨(tg_i 1715 (by decide +kernel) (by decide +kernel)), (tg_i 1716 (by decide +kernel) (by decide +kernel)), (tg_i 142 (by decide +kernel) (by decide +kernel)), (tg_i 1717 (by decide +kernel) (by decide +kernel)), rfl, by decide, by decide, by decide +kernel⟩
theorem mvX12_shut : MWv yX12_shut RX12 cX12_shut 3 (some .boolean) 2 := ⟨(tg_i 1728 (by decide +kernel) (by decide +kernel)), (tg_i 1729 (by decide +kernel) (by decide +kernel)), (tg_i 142 (by decide +kernel) (by decide +kernel)), (tg_i 1730 (by decide +kernel) (by decide +kernel)), rfl, by decide, by decide, by decide +kernel⟩
theorem mvX12_nearest : MWv yX12_nearest RX12 cX12_nearest 7 (some .int) 1 := ⟨(tg_i 1749 (by decide +kernel) (by decide +kernel)), (tg_i 99 (by decide +kernel) (by decide +kernel)), (tg_i 142 (by decide +kernel) (by decide +kernel)), (tg_i 1750 (by decide +kernel) (by decide +kernel)), rfl, by decide, by decide, by decide +kernel⟩
theorem mvX12_words : MWv yX12_words RX12 cX12_words 5 none 1 := ⟨(tg_i 1745 (by decide +kernel) (by decide +kernel)), (tg_i 98 (by decide +kernel) (by decide +kernel)), (tg_i 142 (by decide +kernel) (by decide +kernel)), (tg_i 1746 (by decide +kernel) (by decide +kernel)), rfl, by decide, by decide, by decide +kernel⟩
theorem mvX12_doesBy : MWv yX12_doesBy RX12 cX12_doesBy 8 (some .boolean) 3 := ⟨(tg_i 1775 (by decide +kernel) (by decide +kernel)), (tg_i 104 (by decide +kernel) (by decide +kernel)), (tg_i 142 (by decide +kernel) (by decide +kernel)), (tg_i 1776 (by decide +kernel) (by decide +kernel)), rfl, by decide, by decide, by decide +kernel⟩
theorem mvX12_asks : MWv yX12_asks RX12 cX12_asks 6 none 2 := ⟨(tg_i 1741 (by decide +kernel) (by decide +kernel)), (tg_i 97 (by decide +kernel) (by decide +kernel)), (tg_i 142 (by decide +kernel) (by decide +kernel)), (tg_i 1742 (by decide +kernel) (by decide +kernel)), rfl, by decide, by decide, by decide +kernel⟩
theorem mvX12_run : MWv yX12_run RX12 cX12_run 5 (some .int) 2 := ⟨(tg_i 1732 (by decide +kernel) (by decide +kernel)), (tg_i 1733 (by decide +kernel) (by decide +kernel)), (tg_i 142 (by decide +kernel) (by decide +kernel)), (tg_i 1734 (by decide +kernel) (by decide +kernel)), rfl, by decide, by decide, by decide +kernel⟩
theorem mvX12_nextSoon : MWv yX12_nextSoon RX12 cX12_nextSoon 3 (some .int) 0 := ⟨(tg_i 1803 (by decide +kernel) (by decide +kernel)), (tg_i 110 (by decide +kernel) (by decide +kernel)), (tg_i 142 (by decide +kernel) (by decide +kernel)), (tg_i 1804 (by decide +kernel) (by decide +kernel)), rfl, by decide, by decide, by decide +kernel⟩
theorem mvX12_comesAt : MWv yX12_comesAt RX12 cX12_comesAt 3 none 2 := ⟨(tg_i 1811 (by decide +kernel) (by decide +kernel)), (tg_i 112 (by decide +kernel) (by decide +kernel)), (tg_i 142 (by decide +kernel) (by decide +kernel)), (tg_i 1812 (by decide +kernel) (by decide +kernel)), rfl, by decide, by decide, by decide +kernel⟩
theorem mvX12_fillsSoon : MWv yX12_fillsSoon RX12 cX12_fillsSoon 7 none 3 := ⟨(tg_i 1799 (by decide +kernel) (by decide +kernel)), (tg_i 109 (by decide +kernel) (by decide +kernel)), (tg_i 142 (by decide +kernel) (by decide +kernel)), (tg_i 1800 (by decide +kernel) (by decide +kernel)), rfl, by decide, by decide, by decide +kernel⟩
theorem mvX12_rightFrom : MWv yX12_rightFrom RX12 cX12_rightFrom 6 (some .int) 3 := ⟨(tg_i 1795 (by decide +kernel) (by decide +kernel)), (tg_i 108 (by decide +kernel) (by decide +kernel)), (tg_i 142 (by decide +kernel) (by decide +kernel)), (tg_i 1796 (by decide +kernel) (by decide +kernel)), rfl, by decide, by decide, by decide +kernel⟩
theorem mvX12_whereOf : MWv yX12_whereOf RX12 cX12_whereOf 2 (some .int) 1 := ⟨(tg_i 1791 (by decide +kernel) (by decide +kernel)), (tg_i 107 (by decide +kernel) (by decide +kernel)), (tg_i 142 (by decide +kernel) (by decide +kernel)), (tg_i 1792 (by decide +kernel) (by decide +kernel)), rfl, by decide, by decide, by decide +kernel⟩
theorem mvX12_beginOf : MWv yX12_beginOf RX12 cX12_beginOf 4 (some .int) 2 := ⟨(tg_i 1787 (by decide +kernel) (by decide +kernel)), (tg_i 106 (by decide +kernel) (by decide +kernel)), (tg_i 142 (by decide +kernel) (by decide +kernel)), (tg_i 1788 (by decide +kernel) (by decide +kernel)), rfl, by decide, by decide, by decide +kernel⟩
theorem mvX12_soonestOf : MWv yX12_soonestOf RX12 cX12_soonestOf 3 (some .int) 1 := ⟨(tg_i 1783 (by decide +kernel) (by decide +kernel)), (tg_i 105 (by decide +kernel) (by decide +kernel)), (tg_i 142 (by decide +kernel) (by decide +kernel)), (tg_i 1784 (by decide +kernel) (by decide +kernel)), rfl, by decide, by decide, by decide +kernel⟩
theorem mvX12_soonest : MWv yX12_soonest RX12 cX12_soonest 3 (some .int) 1 := ⟨(tg_i 1778 (by decide +kernel) (by decide +kernel)), (tg_i 1779 (by decide +kernel) (by decide +kernel)), (tg_i 142 (by decide +kernel) (by decide +kernel)), (tg_i 1780 (by decide +kernel) (by decide +kernel)), rfl, by decide, by decide, by decide +kernel⟩
theorem mvX12_goesOn : MWv yX12_goesOn RX12 cX12_goesOn 9 (some .boolean) 6 := ⟨(tg_i 1831 (by decide +kernel) (by decide +kernel)), (tg_i 116 (by decide +kernel) (by decide +kernel)), (tg_i 142 (by decide +kernel) (by decide +kernel)), (tg_i 1832 (by decide +kernel) (by decide +kernel)), rfl, by decide, by decide, by decide +kernel⟩
theorem mvX12_steps : MWv yX12_steps RX12 cX12_steps 6 (some .boolean) 4 := ⟨(tg_i 1827 (by decide +kernel) (by decide +kernel)), (tg_i 115 (by decide +kernel) (by decide +kernel)), (tg_i 142 (by decide +kernel) (by decide +kernel)), (tg_i 1828 (by decide +kernel) (by decide +kernel)), rfl, by decide, by decide, by decide +kernel⟩
theorem mvX12_fillsRow : MWv yX12_fillsRow RX12 cX12_fillsRow 6 (some .boolean) 1 := ⟨(tg_i 1823 (by decide +kernel) (by decide +kernel)), (tg_i 114 (by decide +kernel) (by decide +kernel)), (tg_i 142 (by decide +kernel) (by decide +kernel)), (tg_i 1824 (by decide +kernel) (by decide +kernel)), rfl, by decide, by decide, by decide +kernel⟩
theorem mvX12_row : MWv yX12_row RX12 cX12_row 4 (some .int) 3 := ⟨(tg_i 1818 (by decide +kernel) (by decide +kernel)), (tg_i 1819 (by decide +kernel) (by decide +kernel)), (tg_i 142 (by decide +kernel) (by decide +kernel)), (tg_i 1820 (by decide +kernel) (by decide +kernel)), rfl, by decide, by decide, by decide +kernel⟩
theorem mvX12_latestOf : MWv yX12_latestOf RX12 cX12_latestOf 4 (some .int) 1 := ⟨(tg_i 1839 (by decide +kernel) (by decide +kernel)), (tg_i 117 (by decide +kernel) (by decide +kernel)), (tg_i 142 (by decide +kernel) (by decide +kernel)), (tg_i 1840 (by decide +kernel) (by decide +kernel)), rfl, by decide, by decide, by decide +kernel⟩
theorem mvX12_latest : MWv yX12_latest RX12 cX12_latest 3 (some .int) 1 := ⟨(tg_i 1834 (by decide +kernel) (by decide +kernel)), (tg_i 1835 (by decide +kernel) (by decide +kernel)), (tg_i 142 (by decide +kernel) (by decide +kernel)), (tg_i 1836 (by decide +kernel) (by decide +kernel)), rfl, by decide, by decide, by decide +kernel⟩
theorem mvX12_isLost : MWv yX12_isLost RX12 cX12_isLost 5 (some .boolean) 2 := ⟨(tg_i 1847 (by decide +kernel) (by decide +kernel)), (tg_i 118 (by decide +kernel) (by decide +kernel)), (tg_i 142 (by decide +kernel) (by decide +kernel)), (tg_i 1848 (by decide +kernel) (by decide +kernel)), rfl, by decide, by decide, by decide +kernel⟩
theorem mvX12_lost : MWv yX12_lost RX12 cX12_lost 3 (some .int) 0 := ⟨(tg_i 1842 (by decide +kernel) (by decide +kernel)), (tg_i 1843 (by decide +kernel) (by decide +kernel)), (tg_i 142 (by decide +kernel) (by decide +kernel)), (tg_i 1844 (by decide +kernel) (by decide +kernel)), rfl, by decide, by decide, by decide +kernel⟩
theorem mvX12_voiceIn : MWv yX12_voiceIn RX12 cX12_voiceIn 5 (some .int) 1 := ⟨(tg_i 1855 (by decide +kernel) (by decide +kernel)), (tg_i 119 (by decide +kernel) (by decide +kernel)), (tg_i 142 (by decide +kernel) (by decide +kernel)), (tg_i 1856 (by decide +kernel) (by decide +kernel)), rfl, by decide, by decide, by decide +kernel⟩
theorem mvX12_voice : MWv yX12_voice RX12 cX12_voice 3 (some .int) 1 := ⟨(tg_i 1850 (by decide +kernel) (by decide +kernel)), (tg_i 1851 (by decide +kernel) (by decide +kernel)), (tg_i 142 (by decide +kernel) (by decide +kernel)), (tg_i 1852 (by decide +kernel) (by decide +kernel)), rfl, by decide, by decide, by decide +kernel⟩
theorem mvX12_voices : MWv yX12_voices RX12 cX12_voices 3 (some .int) 0 := ⟨(tg_i 1858 (by decide +kernel) (by decide +kernel)), (tg_i 1859 (by decide +kernel) (by decide +kernel)), (tg_i 142 (by decide +kernel) (by decide +kernel)), (tg_i 1860 (by decide +kernel) (by decide +kernel)), rfl, by decide, by decide, by decide +kernel⟩
theorem mvX12_wrongAsPut : MWv yX12_wrongAsPut RX12 cX12_wrongAsPut 3 (some .int) 0 := ⟨(tg_i 1872 (by decide +kernel) (by decide +kernel)), (tg_i 121 (by decide +kernel) (by decide +kernel)), (tg_i 142 (by decide +kernel) (by decide +kernel)), (tg_i 1873 (by decide +kernel) (by decide +kernel)), rfl, by decide, by decide, by decide +kernel⟩
theorem mvX12_isOrder : MWv yX12_isOrder RX12 cX12_isOrder 7 (some .boolean) 1 := ⟨(tg_i 1868 (by decide +kernel) (by decide +kernel)), (tg_i 120 (by decide +kernel) (by decide +kernel)), (tg_i 142 (by decide +kernel) (by decide +kernel)), (tg_i 1869 (by decide +kernel) (by decide +kernel)), rfl, by decide, by decide, by decide +kernel⟩
theorem mvX12_isFirstPut : MWv yX12_isFirstPut RX12 cX12_isFirstPut 2 (some .boolean) 0 := ⟨(tg_i 1876 (by decide +kernel) (by decide +kernel)), (tg_i 122 (by decide +kernel) (by decide +kernel)), (tg_i 142 (by decide +kernel) (by decide +kernel)), (tg_i 1877 (by decide +kernel) (by decide +kernel)), rfl, by decide, by decide, by decide +kernel⟩
theorem mvX12_put : MWv yX12_put RX12 cX12_put 6 (some .int) 1 := ⟨(tg_i 1862 (by decide +kernel) (by decide +kernel)), (tg_i 1863 (by decide +kernel) (by decide +kernel)), (tg_i 142 (by decide +kernel) (by decide +kernel)), (tg_i 1864 (by decide +kernel) (by decide +kernel)), rfl, by decide, by decide, by decide +kernel⟩
theorem mvX12_allIn : MWv yX12_allIn RX12 cX12_allIn 6 (some .int) 2 := ⟨(tg_i 1884 (by decide +kernel) (by decide +kernel)), (tg_i 123 (by decide +kernel) (by decide +kernel)), (tg_i 142 (by decide +kernel) (by decide +kernel)), (tg_i 1885 (by decide +kernel) (by decide +kernel)), rfl, by decide, by decide, by decide +kernel⟩
theorem mvX12_family : MWv yX12_family RX12 cX12_family 8 (some .int) 2 := ⟨(tg_i 1879 (by decide +kernel) (by decide +kernel)), (tg_i 1880 (by decide +kernel) (by decide +kernel)), (tg_i 142 (by decide +kernel) (by decide +kernel)), (tg_i 1881 (by decide +kernel) (by decide +kernel)), rfl, by decide, by decide, by decide +kernel⟩
theorem mvX12_goesStraight : MWv yX12_goesStraight RX12 cX12_goesStraight 8 none 3 := ⟨(tg_i 1892 (by decide +kernel) (by decide +kernel)), (tg_i 124 (by decide +kernel) (by decide +kernel)), (tg_i 142 (by decide +kernel) (by decide +kernel)), (tg_i 1893 (by decide +kernel) (by decide +kernel)), rfl, by decide, by decide, by decide +kernel⟩
theorem mvX12_meet : MWv yX12_meet RX12 cX12_meet 9 (some .int) 3 := ⟨(tg_i 1887 (by decide +kernel) (by decide +kernel)), (tg_i 1888 (by decide +kernel) (by decide +kernel)), (tg_i 142 (by decide +kernel) (by decide +kernel)), (tg_i 1889 (by decide +kernel) (by decide +kernel)), rfl, by decide, by decide, by decide +kernel⟩
theorem mvX12_seen : MWv yX12_seen RX12 cX12_seen 5 (some .int) 3 := ⟨(tg_i 1895 (by decide +kernel) (by decide +kernel)), (tg_i 1896 (by decide +kernel) (by decide +kernel)), (tg_i 142 (by decide +kernel) (by decide +kernel)), (tg_i 1897 (by decide +kernel) (by decide +kernel)), rfl, by decide, by decide, by decide +kernel⟩
theorem mvX12_secondOf : MWv yX12_secondOf RX12 cX12_secondOf 2 (some .int) 1 := ⟨(tg_i 1913 (by decide +kernel) (by decide +kernel)), (tg_i 127 (by decide +kernel) (by decide +kernel)), (tg_i 142 (by decide +kernel) (by decide +kernel)), (tg_i 1914 (by decide +kernel) (by decide +kernel)), rfl, by decide, by decide, by decide +kernel⟩
theorem mvX12_nextSeen : MWv yX12_nextSeen RX12 cX12_nextSeen 5 (some .int) 2 := ⟨(tg_i 1909 (by decide +kernel) (by decide +kernel)), (tg_i 126 (by decide +kernel) (by decide +kernel)), (tg_i 142 (by decide +kernel) (by decide +kernel)), (tg_i 1910 (by decide +kernel) (by decide +kernel)), rfl, by decide, by decide, by decide +kernel⟩
theorem mvX12_canHaveBeen : MWv yX12_canHaveBeen RX12 cX12_canHaveBeen 7 (some .boolean) 2 := ⟨(tg_i 1905 (by decide +kernel) (by decide +kernel)), (tg_i 125 (by decide +kernel) (by decide +kernel)), (tg_i 142 (by decide +kernel) (by decide +kernel)), (tg_i 1906 (by decide +kernel) (by decide +kernel)), rfl, by decide, by decide, by decide +kernel⟩
theorem mvX12_gotIn : MWv yX12_gotIn RX12 cX12_gotIn 4 (some .int) 1 := ⟨(tg_i 1900 (by decide +kernel) (by decide +kernel)), (tg_i 1901 (by decide +kernel) (by decide +kernel)), (tg_i 142 (by decide +kernel) (by decide +kernel)), (tg_i 1902 (by decide +kernel) (by decide +kernel)), rfl, by decide, by decide, by decide +kernel⟩
theorem mvX12_sit : MWv yX12_sit RX12 cX12_sit 6 (some .int) 1 := ⟨(tg_i 1916 (by decide +kernel) (by decide +kernel)), (tg_i 1917 (by decide +kernel) (by decide +kernel)), (tg_i 142 (by decide +kernel) (by decide +kernel)), (tg_i 1918 (by decide +kernel) (by decide +kernel)), rfl, by decide, by decide, by decide +kernel⟩
theorem mvX12_seed : MWv yX12_seed RX12 cX12_seed 3 (some .int) 1 := ⟨(tg_i 1921 (by decide +kernel) (by decide +kernel)), (tg_i 1922 (by decide +kernel) (by decide +kernel)), (tg_i 142 (by decide +kernel) (by decide +kernel)), (tg_i 1923 (by decide +kernel) (by decide +kernel)), rfl, by decide, by decide, by decide +kernel⟩
theorem mvX12_draw : MWv yX12_draw RX12 cX12_draw 2 (some .int) 1 := ⟨(tg_i 1931 (by decide +kernel) (by decide +kernel)), (tg_i 128 (by decide +kernel) (by decide +kernel)), (tg_i 142 (by decide +kernel) (by decide +kernel)), (tg_i 1932 (by decide +kernel) (by decide +kernel)), rfl, by decide, by decide, by decide +kernel⟩
theorem mvX12_journeys : MWv yX12_journeys RX12 cX12_journeys 10 (some .int) 2 := ⟨(tg_i 1925 (by decide +kernel) (by decide +kernel)), (tg_i 1926 (by decide +kernel) (by decide +kernel)), (tg_i 142 (by decide +kernel) (by decide +kernel)), (tg_i 1927 (by decide +kernel) (by decide +kernel)), rfl, by decide, by decide, by decide +kernel⟩
theorem mvX12_count : MWv yX12_count RX12 cX12_count 4 (some .int) 1 := ⟨(tg_i 1938 (by decide +kernel) (by decide +kernel)), (tg_i 1939 (by decide +kernel) (by decide +kernel)), (tg_i 142 (by decide +kernel) (by decide +kernel)), (tg_i 1940 (by decide +kernel) (by decide +kernel)), rfl, by decide, by decide, by decide +kernel⟩
theorem mvX12_image : MWv yX12_image RX12 cX12_image 3 (some .int) 1 := ⟨(tg_i 1942 (by decide +kernel) (by decide +kernel)), (tg_i 1943 (by decide +kernel) (by decide +kernel)), (tg_i 142 (by decide +kernel) (by decide +kernel)), (tg_i 1944 (by decide +kernel) (by decide +kernel)), rfl, by decide, by decide, by decide +kernel⟩
theorem mvX12_back : MWv yX12_back RX12 cX12_back 3 (some .int) 1 := ⟨(tg_i 1946 (by decide +kernel) (by decide +kernel)), (tg_i 1947 (by decide +kernel) (by decide +kernel)), (tg_i 142 (by decide +kernel) (by decide +kernel)), (tg_i 1948 (by decide +kernel) (by decide +kernel)), rfl, by decide, by decide, by decide +kernel⟩
