theorem cb_m2 : (Int8.ofInt (-2)).toInt32 = (-2) := by decide
theorem cb_6 : (Int8.ofInt 6).toInt32 = 6 := by decide
theorem cb_7 : (Int8.ofInt 7).toInt32 = 7 := by decide
theorem cb_8 : (Int8.ofInt 8).toInt32 = 8 := by decide
theorem cb_9 : (Int8.ofInt 9).toInt32 = 9 := by decide
theorem cb_10 : (Int8.ofInt 10).toInt32 = 10 := by decide
theorem cb_11 : (Int8.ofInt 11).toInt32 = 11 := by decide
theorem cb_12 : (Int8.ofInt 12).toInt32 = 12 := by decide
theorem cb_13 : (Int8.ofInt 13).toInt32 = 13 := by decide
theorem cb_14 : (Int8.ofInt 14).toInt32 = 14 := by decide
theorem cb_15 : (Int8.ofInt 15).toInt32 = 15 := by decide
theorem cb_16 : (Int8.ofInt 16).toInt32 = 16 := by decide
theorem cb_17 : (Int8.ofInt 17).toInt32 = 17 := by decide
theorem cb_18 : (Int8.ofInt 18).toInt32 = 18 := by decide
theorem cb_20 : (Int8.ofInt 20).toInt32 = 20 := by decide
theorem cb_24 : (Int8.ofInt 24).toInt32 = 24 := by decide
theorem cb_30 : (Int8.ofInt 30).toInt32 = 30 := by decide
theorem cb_31 : (Int8.ofInt 31).toInt32 = 31 := by decide
theorem cb_32 : (Int8.ofInt 32).toInt32 = 32 := by decide
theorem cb_37 : (Int8.ofInt 37).toInt32 = 37 := by decide
theorem cb_40 : (Int8.ofInt 40).toInt32 = 40 := by decide
theorem cb_42 : (Int8.ofInt 42).toInt32 = 42 := by decide
theorem cb_43 : (Int8.ofInt 43).toInt32 = 43 := by decide
theorem cb_44 : (Int8.ofInt 44).toInt32 = 44 := by decide
theorem cb_45 : (Int8.ofInt 45).toInt32 = 45 := by decide
theorem cb_47 : (Int8.ofInt 47).toInt32 = 47 := by decide
theorem cb_48 : (Int8.ofInt 48).toInt32 = 48 := by decide
theorem cb_52 : (Int8.ofInt 52).toInt32 = 52 := by decide
theorem cb_56 : (Int8.ofInt 56).toInt32 = 56 := by decide
theorem cb_57 : (Int8.ofInt 57).toInt32 = 57 := by decide
theorem cb_59 : (Int8.ofInt 59).toInt32 = 59 := by decide
theorem cb_60 : (Int8.ofInt 60).toInt32 = 60 := by decide
theorem cb_61 : (Int8.ofInt 61).toInt32 = 61 := by decide
theorem cb_62 : (Int8.ofInt 62).toInt32 = 62 := by decide
theorem cb_63 : (Int8.ofInt 63).toInt32 = 63 := by decide
theorem cb_64 : (Int8.ofInt 64).toInt32 = 64 := by decide
theorem cb_91 : (Int8.ofInt 91).toInt32 = 91 := by decide
theorem cb_93 : (Int8.ofInt 93).toInt32 = 93 := by decide
theorem cb_97 : (Int8.ofInt 97).toInt32 = 97 := by decide
theorem cb_99 : (Int8.ofInt 99).toInt32 = 99 := by decide
theorem cb_100 : (Int8.ofInt 100).toInt32 = 100 := by decide
theorem cb_122 : (Int8.ofInt 122).toInt32 = 122 := by decide
theorem ci_m1 : Int32.ofInt (-1) = (-1) := by decide
theorem ci_0 : Int32.ofInt 0 = 0 := by decide
theorem ci_1 : Int32.ofInt 1 = 1 := by decide
theorem ci_2 : Int32.ofInt 2 = 2 := by decide
theorem ci_3 : Int32.ofInt 3 = 3 := by decide
theorem ci_4 : Int32.ofInt 4 = 4 := by decide
theorem ci_5 : Int32.ofInt 5 = 5 := by decide
theorem cn_m8 (x : Int32) : x + Int32.ofInt (-8) = x + (-8) := by rw [show Int32.ofInt (-8) = (-8) by decide]
theorem cn_m2 (x : Int32) : x + Int32.ofInt (-2) = x + (-2) := by rw [show Int32.ofInt (-2) = (-2) by decide]
theorem cn_m1 (x : Int32) : x + Int32.ofInt (-1) = x + (-1) := by rw [show Int32.ofInt (-1) = (-1) by decide]
theorem cn_1 (x : Int32) : x + Int32.ofInt 1 = x + 1 := by rw [show Int32.ofInt 1 = 1 by decide]
theorem cn_2 (x : Int32) : x + Int32.ofInt 2 = x + 2 := by rw [show Int32.ofInt 2 = 2 by decide]
theorem cn_6 (x : Int32) : x + Int32.ofInt 6 = x + 6 := by rw [show Int32.ofInt 6 = 6 by decide]
theorem cs_128 : (Int16.ofInt 128).toInt32 = 128 := by decide
theorem cs_136 : (Int16.ofInt 136).toInt32 = 136 := by decide
theorem cs_137 : (Int16.ofInt 137).toInt32 = 137 := by decide
theorem cs_255 : (Int16.ofInt 255).toInt32 = 255 := by decide
theorem cs_256 : (Int16.ofInt 256).toInt32 = 256 := by decide
theorem cs_316 : (Int16.ofInt 316).toInt32 = 316 := by decide
theorem cs_318 : (Int16.ofInt 318).toInt32 = 318 := by decide
theorem cs_360 : (Int16.ofInt 360).toInt32 = 360 := by decide
theorem cs_400 : (Int16.ofInt 400).toInt32 = 400 := by decide
theorem cs_401 : (Int16.ofInt 401).toInt32 = 401 := by decide
theorem cs_523 : (Int16.ofInt 523).toInt32 = 523 := by decide
theorem cs_548 : (Int16.ofInt 548).toInt32 = 548 := by decide
theorem cs_999 : (Int16.ofInt 999).toInt32 = 999 := by decide
theorem cs_1000 : (Int16.ofInt 1000).toInt32 = 1000 := by decide
theorem cs_2000 : (Int16.ofInt 2000).toInt32 = 2000 := by decide
theorem cs_2400 : (Int16.ofInt 2400).toInt32 = 2400 := by decide
theorem vi_0_13 : vp_in 0 13 := by unfold vp_in; decide
theorem vi_0_100 : vp_in 0 100 := by unfold vp_in; decide
theorem vi_0_137 : vp_in 0 137 := by unfold vp_in; decide
theorem vi_1_13 : vp_in 1 13 := by unfold vp_in; decide
theorem vi_1_100 : vp_in 1 100 := by unfold vp_in; decide
theorem vi_1_137 : vp_in 1 137 := by unfold vp_in; decide
theorem vi_2_13 : vp_in 2 13 := by unfold vp_in; decide
theorem vi_2_100 : vp_in 2 100 := by unfold vp_in; decide
theorem vi_2_137 : vp_in 2 137 := by unfold vp_in; decide
theorem vi_3_13 : vp_in 3 13 := by unfold vp_in; decide
theorem vi_3_137 : vp_in 3 137 := by unfold vp_in; decide
theorem vi_4_100 : vp_in 4 100 := by unfold vp_in; decide
theorem vi_4_137 : vp_in 4 137 := by unfold vp_in; decide
theorem vi_5_100 : vp_in 5 100 := by unfold vp_in; decide
theorem vi_5_137 : vp_in 5 137 := by unfold vp_in; decide
theorem vi_7_100 : vp_in 7 100 := by unfold vp_in; decide
theorem vi_8_13 : vp_in 8 13 := by unfold vp_in; decide
theorem vi_8_137 : vp_in 8 137 := by unfold vp_in; decide
theorem vi_9_13 : vp_in 9 13 := by unfold vp_in; decide
theorem vi_10_13 : vp_in 10 13 := by unfold vp_in; decide
theorem vi_11_13 : vp_in 11 13 := by unfold vp_in; decide
theorem vi_12_13 : vp_in 12 13 := by unfold vp_in; decide
theorem vi_136_137 : vp_in 136 137 := by unfold vp_in; decide
theorem tc_0 : (0 : Int32).toNatClampNeg = 0 := by decide
theorem tc_1 : (1 : Int32).toNatClampNeg = 1 := by decide
theorem tc_2 : (2 : Int32).toNatClampNeg = 2 := by decide
theorem tc_3 : (3 : Int32).toNatClampNeg = 3 := by decide
theorem tc_4 : (4 : Int32).toNatClampNeg = 4 := by decide
theorem tc_5 : (5 : Int32).toNatClampNeg = 5 := by decide
theorem tc_7 : (7 : Int32).toNatClampNeg = 7 := by decide
theorem tc_8 : (8 : Int32).toNatClampNeg = 8 := by decide
theorem tc_9 : (9 : Int32).toNatClampNeg = 9 := by decide
theorem tc_10 : (10 : Int32).toNatClampNeg = 10 := by decide
theorem tc_11 : (11 : Int32).toNatClampNeg = 11 := by decide
theorem tc_12 : (12 : Int32).toNatClampNeg = 12 := by decide
theorem tc_136 : (136 : Int32).toNatClampNeg = 136 := by decide
