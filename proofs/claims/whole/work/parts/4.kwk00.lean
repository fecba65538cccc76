set_option maxHeartbeats 1000000 in
set_option maxRecDepth 20000 in
theorem c_X9_clear (l : Launch) (D : va_G) (cy : Nat → ClassId) (a : Nat → Nat) (T : Sg) (T1 : Sg) (hf : f_X9_clear T = some T1) : Ct l D cy yX9_clear cX9_clear 1 none 1 200 0 0 [.ref (a 0)] (wT cy a T) none (wT cy a T1) := by
  refine Ct_v tX9_clear hX9_clear (by decide) (Nat.le_of_ble_eq_true rfl) ?_
  intro Z hZ C hR
  subst hZ
  replace C : Cx Z D cy RX9 tX9_clear 1 1 200 0 0 := C
  show Wk Z D 1 0 0 (wT cy a T) 0 [(0, .ref (a 0))] []
  unfold f_X9_clear at hf
  refine k_aload_0 C 0 rfl 0 rfl ?_
  refine k_iconst C 1 rfl ci_0 ?_
  obtain ⟨T_2, hM, hf⟩ := bnd_some hf
  refine kp9_0 (w2 := (wT cy a T_2)) C 2 rfl qX9_45 0 T_c0 (v := 0) T_n0 (T_p0_0.trans (congrArg (fun z => (wT cy a z)) hM)) ?_
  refine k_aload_0 C 3 rfl 0 rfl ?_
  refine k_iconst C 4 rfl ci_0 ?_
  obtain ⟨T_7, hM, hf⟩ := bnd_some hf
  refine kp9_1 (w2 := (wT cy a T_7)) C 5 rfl qX9_49 0 T_c0 (v := 0) T_n0 (T_p0_1.trans (congrArg (fun z => (wT cy a z)) hM)) ?_
  refine k_aload_0 C 6 rfl 0 rfl ?_
  refine k_iconst C 7 rfl ci_0 ?_
  obtain ⟨T_12, hM, hf⟩ := bnd_some hf
  refine kp9_2 (w2 := (wT cy a T_12)) C 8 rfl qX9_52 0 T_c0 (v := 0) T_n0 (T_p0_2.trans (congrArg (fun z => (wT cy a z)) hM)) ?_
  refine k_aload_0 C 9 rfl 0 rfl ?_
  refine k_iconst C 10 rfl ci_0 ?_
  obtain ⟨T_17, hM, hf⟩ := bnd_some hf
  refine kp9_3 (w2 := (wT cy a T_17)) C 11 rfl qX9_55 0 T_c0 (v := 0) T_n0 (T_p0_3.trans (congrArg (fun z => (wT cy a z)) hM)) ?_
  refine k_aload_0 C 12 rfl 0 rfl ?_
  refine k_iconst C 13 rfl ci_m1 ?_
  obtain ⟨T_22, hM, hf⟩ := bnd_some hf
  refine kp9_4 (w2 := (wT cy a T_22)) C 14 rfl qX9_58 0 T_c0 (v := (-1)) T_n0 (T_p0_4.trans (congrArg (fun z => (wT cy a z)) hM)) ?_
  refine k_aload_0 C 15 rfl 0 rfl ?_
  refine k_iconst C 16 rfl ci_4 ?_
  obtain ⟨T_27, hM, hf⟩ := bnd_some hf
  refine kp9_5 (w2 := (wT cy a T_27)) C 17 rfl qX9_61 0 T_c0 (v := 4) T_n0 (T_p0_5.trans (congrArg (fun z => (wT cy a z)) hM)) ?_
  refine k_aload_0 C 18 rfl 0 rfl ?_
  refine kg9_6 C 19 rfl qX9_9 0 T_c0 T_f0_6 ?_
  refine k_iconst C 20 rfl ci_0 ?_
  obtain ⟨T_35, hM, hf⟩ := bnd_some hf
  refine k_fill (w2 := (wT cy a T_35)) C 21 rfl qX9_64 1 T_c1 (by decide) (Nat.le_of_ble_eq_true rfl) (Nat.le_of_ble_eq_true rfl) (Nat.le_of_ble_eq_true rfl) ⟨Nat.le_refl 0, Nat.le_refl 0⟩ (T_r1.trans (congrArg (fun z => (wT cy a z)) hM)) ?_
  refine k_aload_0 C 22 rfl 0 rfl ?_
  refine kg9_7 C 23 rfl qX9_15 0 T_c0 T_f0_7 ?_
  refine k_iconst C 24 rfl ci_4 ?_
  obtain ⟨T_43, hM, hf⟩ := bnd_some hf
  refine k_fill (w2 := (wT cy a T_43)) C 25 rfl qX9_64 2 T_c2 (by decide) (Nat.le_of_ble_eq_true rfl) (Nat.le_of_ble_eq_true rfl) (Nat.le_of_ble_eq_true rfl) ⟨Nat.le_refl 0, Nat.le_refl 0⟩ (T_r2.trans (congrArg (fun z => (wT cy a z)) hM)) ?_
  refine k_aload_0 C 26 rfl 0 rfl ?_
  refine kg9_8 C 27 rfl qX9_18 0 T_c0 T_f0_8 ?_
  refine k_iconst C 28 rfl ci_0 ?_
  obtain ⟨T_51, hM, hf⟩ := bnd_some hf
  refine k_fill (w2 := (wT cy a T_51)) C 29 rfl qX9_64 3 T_c3 (by decide) (Nat.le_of_ble_eq_true rfl) (Nat.le_of_ble_eq_true rfl) (Nat.le_of_ble_eq_true rfl) ⟨Nat.le_refl 0, Nat.le_refl 0⟩ (T_r3.trans (congrArg (fun z => (wT cy a z)) hM)) ?_
  refine k_aload_0 C 30 rfl 0 rfl ?_
  refine kg9_14 C 31 rfl qX9_36 0 T_c0 T_f0_14 ?_
  refine k_iconst C 32 rfl ci_0 ?_
  obtain ⟨T_59, hM, hf⟩ := bnd_some hf
  refine k_fill (w2 := (wT cy a T_59)) C 33 rfl qX9_64 9 T_c9 (by decide) (Nat.le_of_ble_eq_true rfl) (Nat.le_of_ble_eq_true rfl) (Nat.le_of_ble_eq_true rfl) ⟨Nat.le_refl 0, Nat.le_refl 0⟩ (T_r9.trans (congrArg (fun z => (wT cy a z)) hM)) ?_
  exact k_vret (wf := (fun u => (wT cy a u))) hR 34 rfl hf
set_option maxHeartbeats 1000000 in
set_option maxRecDepth 20000 in
theorem c_X9_copyFrom (l : Launch) (D : va_G) (cy : Nat → ClassId) (a : Nat → Nat) (b : Nat → Nat) (T : Sg) (U : Sg) (T1 : Sg) (hf : f_X9_copyFrom T U = some T1) : Ct l D cy yX9_copyFrom cX9_copyFrom 2 none 1 200 0 0 [.ref (a 0), .ref (b 0)] (wTT cy a b T U) none (wTT cy a b T1 U) := by
  refine Ct_v tX9_copyFrom hX9_copyFrom (by decide) (Nat.le_of_ble_eq_true rfl) ?_
  intro Z hZ C hR
  subst hZ
  replace C : Cx Z D cy RX9 tX9_copyFrom 2 1 200 0 0 := C
  show Wk Z D 2 0 0 (wTT cy a b T U) 0 [(0, .ref (a 0)), (1, .ref (b 0))] []
  unfold f_X9_copyFrom at hf
  refine k_aload_0 C 0 rfl 0 rfl ?_
  refine k_aload_1 C 1 rfl 1 rfl ?_
  refine kg9_0 C 2 rfl qX9_45 12 T2_c12 T2_f12_0 ?_
  obtain ⟨T_5, hM, hf⟩ := bnd_some hf
  refine kp9_0 (w2 := (wTT cy a b T_5 U)) C 3 rfl qX9_45 0 T2_c0 (v := (U.1 0)) T2_n0 (T2_p0_0.trans (congrArg (fun z => (wTT cy a b z U)) hM)) ?_
  refine k_aload_0 C 4 rfl 0 rfl ?_
  refine k_aload_1 C 5 rfl 1 rfl ?_
  refine kg9_1 C 6 rfl qX9_49 12 T2_c12 T2_f12_1 ?_
  obtain ⟨T_13, hM, hf⟩ := bnd_some hf
  refine kp9_1 (w2 := (wTT cy a b T_13 U)) C 7 rfl qX9_49 0 T2_c0 (v := (U.1 1)) T2_n0 (T2_p0_1.trans (congrArg (fun z => (wTT cy a b z U)) hM)) ?_
  refine k_aload_0 C 8 rfl 0 rfl ?_
  refine k_aload_1 C 9 rfl 1 rfl ?_
  refine kg9_2 C 10 rfl qX9_52 12 T2_c12 T2_f12_2 ?_
  obtain ⟨T_21, hM, hf⟩ := bnd_some hf
  refine kp9_2 (w2 := (wTT cy a b T_21 U)) C 11 rfl qX9_52 0 T2_c0 (v := (U.1 2)) T2_n0 (T2_p0_2.trans (congrArg (fun z => (wTT cy a b z U)) hM)) ?_
  refine k_aload_0 C 12 rfl 0 rfl ?_
  refine k_aload_1 C 13 rfl 1 rfl ?_
  refine kg9_3 C 14 rfl qX9_55 12 T2_c12 T2_f12_3 ?_
  obtain ⟨T_29, hM, hf⟩ := bnd_some hf
  refine kp9_3 (w2 := (wTT cy a b T_29 U)) C 15 rfl qX9_55 0 T2_c0 (v := (U.1 3)) T2_n0 (T2_p0_3.trans (congrArg (fun z => (wTT cy a b z U)) hM)) ?_
  refine k_aload_0 C 16 rfl 0 rfl ?_
  refine k_aload_1 C 17 rfl 1 rfl ?_
  refine kg9_4 C 18 rfl qX9_58 12 T2_c12 T2_f12_4 ?_
  obtain ⟨T_37, hM, hf⟩ := bnd_some hf
  refine kp9_4 (w2 := (wTT cy a b T_37 U)) C 19 rfl qX9_58 0 T2_c0 (v := (U.1 4)) T2_n0 (T2_p0_4.trans (congrArg (fun z => (wTT cy a b z U)) hM)) ?_
  refine k_aload_0 C 20 rfl 0 rfl ?_
  refine k_aload_1 C 21 rfl 1 rfl ?_
  refine kg9_5 C 22 rfl qX9_61 12 T2_c12 T2_f12_5 ?_
  obtain ⟨T_45, hM, hf⟩ := bnd_some hf
  refine kp9_5 (w2 := (wTT cy a b T_45 U)) C 23 rfl qX9_61 0 T2_c0 (v := (U.1 5)) T2_n0 (T2_p0_5.trans (congrArg (fun z => (wTT cy a b z U)) hM)) ?_
  refine k_aload_1 C 24 rfl 1 rfl ?_
  refine kg9_6 C 25 rfl qX9_9 12 T2_c12 T2_f12_6 ?_
  refine k_iconst C 26 rfl ci_0 ?_
  refine k_aload_0 C 27 rfl 0 rfl ?_
  refine kg9_6 C 28 rfl qX9_9 0 T2_c0 T2_f0_6 ?_
  refine k_iconst C 29 rfl ci_0 ?_
  refine k_bipush C 30 rfl cb_8 ?_
  obtain ⟨T_60, hM, hf⟩ := bnd_some hf
  refine k_copy (w2 := (wTT cy a b T_60 U)) C 31 rfl qX9_70 jw_copy 13 1 T2_c13 T2_c1 8 (by decide) (by decide) (by decide) (by decide) (Nat.le_of_ble_eq_true rfl) (Nat.le_of_ble_eq_true rfl) (Nat.le_of_ble_eq_true rfl) (T2_r1.trans (congrArg (fun z => (wTT cy a b z U)) hM)) ?_
  refine k_aload_1 C 32 rfl 1 rfl ?_
  refine kg9_7 C 33 rfl qX9_15 12 T2_c12 T2_f12_7 ?_
  refine k_iconst C 34 rfl ci_0 ?_
  refine k_aload_0 C 35 rfl 0 rfl ?_
  refine kg9_7 C 36 rfl qX9_15 0 T2_c0 T2_f0_7 ?_
  refine k_iconst C 37 rfl ci_0 ?_
  refine k_bipush C 38 rfl cb_8 ?_
  obtain ⟨T_75, hM, hf⟩ := bnd_some hf
  refine k_copy (w2 := (wTT cy a b T_75 U)) C 39 rfl qX9_70 jw_copy 14 2 T2_c14 T2_c2 8 (by decide) (by decide) (by decide) (by decide) (Nat.le_of_ble_eq_true rfl) (Nat.le_of_ble_eq_true rfl) (Nat.le_of_ble_eq_true rfl) (T2_r2.trans (congrArg (fun z => (wTT cy a b z U)) hM)) ?_
  refine k_aload_1 C 40 rfl 1 rfl ?_
  refine kg9_8 C 41 rfl qX9_18 12 T2_c12 T2_f12_8 ?_
  refine k_iconst C 42 rfl ci_0 ?_
  refine k_aload_0 C 43 rfl 0 rfl ?_
  refine kg9_8 C 44 rfl qX9_18 0 T2_c0 T2_f0_8 ?_
  refine k_iconst C 45 rfl ci_0 ?_
  refine k_bipush C 46 rfl cb_8 ?_
  obtain ⟨T_90, hM, hf⟩ := bnd_some hf
  refine k_copy (w2 := (wTT cy a b T_90 U)) C 47 rfl qX9_70 jw_copy 15 3 T2_c15 T2_c3 8 (by decide) (by decide) (by decide) (by decide) (Nat.le_of_ble_eq_true rfl) (Nat.le_of_ble_eq_true rfl) (Nat.le_of_ble_eq_true rfl) (T2_r3.trans (congrArg (fun z => (wTT cy a b z U)) hM)) ?_
  refine k_aload_1 C 48 rfl 1 rfl ?_
  refine kg9_9 C 49 rfl qX9_21 12 T2_c12 T2_f12_9 ?_
  refine k_iconst C 50 rfl ci_0 ?_
  refine k_aload_0 C 51 rfl 0 rfl ?_
  refine kg9_9 C 52 rfl qX9_21 0 T2_c0 T2_f0_9 ?_
  refine k_iconst C 53 rfl ci_0 ?_
  refine k_bipush C 54 rfl cb_6 ?_
  obtain ⟨T_105, hM, hf⟩ := bnd_some hf
  refine k_copy (w2 := (wTT cy a b T_105 U)) C 55 rfl qX9_70 jw_copy 16 4 T2_c16 T2_c4 6 (by decide) (by decide) (by decide) (by decide) (Nat.le_of_ble_eq_true rfl) (Nat.le_of_ble_eq_true rfl) (Nat.le_of_ble_eq_true rfl) (T2_r4.trans (congrArg (fun z => (wTT cy a b z U)) hM)) ?_
  refine k_aload_1 C 56 rfl 1 rfl ?_
  refine kg9_10 C 57 rfl qX9_24 12 T2_c12 T2_f12_10 ?_
  refine k_iconst C 58 rfl ci_0 ?_
  refine k_aload_0 C 59 rfl 0 rfl ?_
  refine kg9_10 C 60 rfl qX9_24 0 T2_c0 T2_f0_10 ?_
  refine k_iconst C 61 rfl ci_0 ?_
  refine k_bipush C 62 rfl cb_6 ?_
  obtain ⟨T_120, hM, hf⟩ := bnd_some hf
  refine k_copy (w2 := (wTT cy a b T_120 U)) C 63 rfl qX9_70 jw_copy 17 5 T2_c17 T2_c5 6 (by decide) (by decide) (by decide) (by decide) (Nat.le_of_ble_eq_true rfl) (Nat.le_of_ble_eq_true rfl) (Nat.le_of_ble_eq_true rfl) (T2_r5.trans (congrArg (fun z => (wTT cy a b z U)) hM)) ?_
  refine k_aload_1 C 64 rfl 1 rfl ?_
  refine kg9_11 C 65 rfl qX9_27 12 T2_c12 T2_f12_11 ?_
  refine k_iconst C 66 rfl ci_0 ?_
  refine k_aload_0 C 67 rfl 0 rfl ?_
  refine kg9_11 C 68 rfl qX9_27 0 T2_c0 T2_f0_11 ?_
  refine k_iconst C 69 rfl ci_0 ?_
  refine k_bipush C 70 rfl cb_6 ?_
  obtain ⟨T_135, hM, hf⟩ := bnd_some hf
  refine k_copy (w2 := (wTT cy a b T_135 U)) C 71 rfl qX9_70 jw_copy 18 6 T2_c18 T2_c6 6 (by decide) (by decide) (by decide) (by decide) (Nat.le_of_ble_eq_true rfl) (Nat.le_of_ble_eq_true rfl) (Nat.le_of_ble_eq_true rfl) (T2_r6.trans (congrArg (fun z => (wTT cy a b z U)) hM)) ?_
  refine k_aload_1 C 72 rfl 1 rfl ?_
  refine kg9_12 C 73 rfl qX9_30 12 T2_c12 T2_f12_12 ?_
  refine k_iconst C 74 rfl ci_0 ?_
  refine k_aload_0 C 75 rfl 0 rfl ?_
  refine kg9_12 C 76 rfl qX9_30 0 T2_c0 T2_f0_12 ?_
  refine k_iconst C 77 rfl ci_0 ?_
  refine k_bipush C 78 rfl cb_6 ?_
  obtain ⟨T_150, hM, hf⟩ := bnd_some hf
  refine k_copy (w2 := (wTT cy a b T_150 U)) C 79 rfl qX9_70 jw_copy 19 7 T2_c19 T2_c7 6 (by decide) (by decide) (by decide) (by decide) (Nat.le_of_ble_eq_true rfl) (Nat.le_of_ble_eq_true rfl) (Nat.le_of_ble_eq_true rfl) (T2_r7.trans (congrArg (fun z => (wTT cy a b z U)) hM)) ?_
  refine k_aload_1 C 80 rfl 1 rfl ?_
  refine kg9_13 C 81 rfl qX9_33 12 T2_c12 T2_f12_13 ?_
  refine k_iconst C 82 rfl ci_0 ?_
  refine k_aload_0 C 83 rfl 0 rfl ?_
  refine kg9_13 C 84 rfl qX9_33 0 T2_c0 T2_f0_13 ?_
  refine k_iconst C 85 rfl ci_0 ?_
  refine k_bipush C 86 rfl cb_6 ?_
  obtain ⟨T_165, hM, hf⟩ := bnd_some hf
  refine k_copy (w2 := (wTT cy a b T_165 U)) C 87 rfl qX9_70 jw_copy 20 8 T2_c20 T2_c8 6 (by decide) (by decide) (by decide) (by decide) (Nat.le_of_ble_eq_true rfl) (Nat.le_of_ble_eq_true rfl) (Nat.le_of_ble_eq_true rfl) (T2_r8.trans (congrArg (fun z => (wTT cy a b z U)) hM)) ?_
  refine k_aload_1 C 88 rfl 1 rfl ?_
  refine kg9_14 C 89 rfl qX9_36 12 T2_c12 T2_f12_14 ?_
  refine k_iconst C 90 rfl ci_0 ?_
  refine k_aload_0 C 91 rfl 0 rfl ?_
  refine kg9_14 C 92 rfl qX9_36 0 T2_c0 T2_f0_14 ?_
  refine k_iconst C 93 rfl ci_0 ?_
  refine k_bipush C 94 rfl cb_6 ?_
  obtain ⟨T_180, hM, hf⟩ := bnd_some hf
  refine k_copy (w2 := (wTT cy a b T_180 U)) C 95 rfl qX9_70 jw_copy 21 9 T2_c21 T2_c9 6 (by decide) (by decide) (by decide) (by decide) (Nat.le_of_ble_eq_true rfl) (Nat.le_of_ble_eq_true rfl) (Nat.le_of_ble_eq_true rfl) (T2_r9.trans (congrArg (fun z => (wTT cy a b z U)) hM)) ?_
  refine k_aload_1 C 96 rfl 1 rfl ?_
  refine kg9_15 C 97 rfl qX9_39 12 T2_c12 T2_f12_15 ?_
  refine k_iconst C 98 rfl ci_0 ?_
  refine k_aload_0 C 99 rfl 0 rfl ?_
  refine kg9_15 C 100 rfl qX9_39 0 T2_c0 T2_f0_15 ?_
  refine k_iconst C 101 rfl ci_0 ?_
  refine k_bipush C 102 rfl cb_6 ?_
  obtain ⟨T_195, hM, hf⟩ := bnd_some hf
  refine k_copy (w2 := (wTT cy a b T_195 U)) C 103 rfl qX9_70 jw_copy 22 10 T2_c22 T2_c10 6 (by decide) (by decide) (by decide) (by decide) (Nat.le_of_ble_eq_true rfl) (Nat.le_of_ble_eq_true rfl) (Nat.le_of_ble_eq_true rfl) (T2_r10.trans (congrArg (fun z => (wTT cy a b z U)) hM)) ?_
  refine k_aload_1 C 104 rfl 1 rfl ?_
  refine kg9_16 C 105 rfl qX9_42 12 T2_c12 T2_f12_16 ?_
  refine k_iconst C 106 rfl ci_0 ?_
  refine k_aload_0 C 107 rfl 0 rfl ?_
  refine kg9_16 C 108 rfl qX9_42 0 T2_c0 T2_f0_16 ?_
  refine k_iconst C 109 rfl ci_0 ?_
  refine k_bipush C 110 rfl cb_6 ?_
  obtain ⟨T_210, hM, hf⟩ := bnd_some hf
  refine k_copy (w2 := (wTT cy a b T_210 U)) C 111 rfl qX9_70 jw_copy 23 11 T2_c23 T2_c11 6 (by decide) (by decide) (by decide) (by decide) (Nat.le_of_ble_eq_true rfl) (Nat.le_of_ble_eq_true rfl) (Nat.le_of_ble_eq_true rfl) (T2_r11.trans (congrArg (fun z => (wTT cy a b z U)) hM)) ?_
  exact k_vret (wf := (fun u => (wTT cy a b u U))) hR 112 rfl hf
set_option maxHeartbeats 1000000 in
set_option maxRecDepth 20000 in
theorem c_X2_clear (l : Launch) (D : va_G) (cy : Nat → ClassId) (a : Nat → Nat) (O : Sg) (O1 : Sg) (hf : f_X2_clear O = some O1) : Ct l D cy yX2_clear cX2_clear 1 none 1 200 0 0 [.ref (a 0)] (wO cy a O) none (wO cy a O1) := by
  refine Ct_v tX2_clear hX2_clear (by decide) (Nat.le_of_ble_eq_true rfl) ?_
  intro Z hZ C hR
  subst hZ
  replace C : Cx Z D cy RX2 tX2_clear 1 1 200 0 0 := C
  show Wk Z D 1 0 0 (wO cy a O) 0 [(0, .ref (a 0))] []
  unfold f_X2_clear at hf
  refine k_aload_0 C 0 rfl 0 rfl ?_
  refine k_iconst C 1 rfl ci_0 ?_
  obtain ⟨O_2, hM, hf⟩ := bnd_some hf
  refine kp2_0 (w2 := (wO cy a O_2)) C 2 rfl qX2_27 0 O_c0 (v := 0) O_n0 (O_p0_0.trans (congrArg (fun z => (wO cy a z)) hM)) ?_
  refine k_aload_0 C 3 rfl 0 rfl ?_
  refine k_iconst C 4 rfl ci_0 ?_
  obtain ⟨O_7, hM, hf⟩ := bnd_some hf
  refine kp2_1 (w2 := (wO cy a O_7)) C 5 rfl qX2_31 0 O_c0 (v := 0) O_n0 (O_p0_1.trans (congrArg (fun z => (wO cy a z)) hM)) ?_
  refine k_aload_0 C 6 rfl 0 rfl ?_
  refine kg2_2 C 7 rfl qX2_9 0 O_c0 O_f0_2 ?_
  refine k_iconst C 8 rfl ci_0 ?_
  obtain ⟨O_15, hM, hf⟩ := bnd_some hf
  refine k_fill (w2 := (wO cy a O_15)) C 9 rfl qX2_34 1 O_c1 (by decide) (Nat.le_of_ble_eq_true rfl) (Nat.le_of_ble_eq_true rfl) (Nat.le_of_ble_eq_true rfl) ⟨Nat.le_refl 0, Nat.le_refl 0⟩ (O_r1.trans (congrArg (fun z => (wO cy a z)) hM)) ?_
  refine k_aload_0 C 10 rfl 0 rfl ?_
  refine kg2_3 C 11 rfl qX2_15 0 O_c0 O_f0_3 ?_
  refine k_iconst C 12 rfl ci_m1 ?_
  obtain ⟨O_23, hM, hf⟩ := bnd_some hf
  refine k_fill (w2 := (wO cy a O_23)) C 13 rfl qX2_34 2 O_c2 (by decide) (Nat.le_of_ble_eq_true rfl) (Nat.le_of_ble_eq_true rfl) (Nat.le_of_ble_eq_true rfl) ⟨Nat.le_refl 0, Nat.le_refl 0⟩ (O_r2.trans (congrArg (fun z => (wO cy a z)) hM)) ?_
  refine k_aload_0 C 14 rfl 0 rfl ?_
  refine kg2_4 C 15 rfl qX2_18 0 O_c0 O_f0_4 ?_
  refine k_iconst C 16 rfl ci_m1 ?_
  obtain ⟨O_31, hM, hf⟩ := bnd_some hf
  refine k_fill (w2 := (wO cy a O_31)) C 17 rfl qX2_34 3 O_c3 (by decide) (Nat.le_of_ble_eq_true rfl) (Nat.le_of_ble_eq_true rfl) (Nat.le_of_ble_eq_true rfl) ⟨Nat.le_refl 0, Nat.le_refl 0⟩ (O_r3.trans (congrArg (fun z => (wO cy a z)) hM)) ?_
  refine k_aload_0 C 18 rfl 0 rfl ?_
  refine kg2_5 C 19 rfl qX2_21 0 O_c0 O_f0_5 ?_
  refine k_iconst C 20 rfl ci_m1 ?_
  obtain ⟨O_39, hM, hf⟩ := bnd_some hf
  refine k_fill (w2 := (wO cy a O_39)) C 21 rfl qX2_34 4 O_c4 (by decide) (Nat.le_of_ble_eq_true rfl) (Nat.le_of_ble_eq_true rfl) (Nat.le_of_ble_eq_true rfl) ⟨Nat.le_refl 0, Nat.le_refl 0⟩ (O_r4.trans (congrArg (fun z => (wO cy a z)) hM)) ?_
  refine k_aload_0 C 22 rfl 0 rfl ?_
  refine kg2_6 C 23 rfl qX2_24 0 O_c0 O_f0_6 ?_
  refine k_iconst C 24 rfl ci_0 ?_
  obtain ⟨O_47, hM, hf⟩ := bnd_some hf
  refine k_fill (w2 := (wO cy a O_47)) C 25 rfl qX2_34 5 O_c5 (by decide) (Nat.le_of_ble_eq_true rfl) (Nat.le_of_ble_eq_true rfl) (Nat.le_of_ble_eq_true rfl) ⟨Nat.le_refl 0, Nat.le_refl 0⟩ (O_r5.trans (congrArg (fun z => (wO cy a z)) hM)) ?_
  exact k_vret (wf := (fun u => (wO cy a u))) hR 26 rfl hf
set_option maxHeartbeats 1000000 in
set_option maxRecDepth 20000 in
theorem c_X2_copyFrom (l : Launch) (D : va_G) (cy : Nat → ClassId) (a : Nat → Nat) (b : Nat → Nat) (O : Sg) (P : Sg) (O1 : Sg) (hf : f_X2_copyFrom O P = some O1) : Ct l D cy yX2_copyFrom cX2_copyFrom 2 none 1 200 0 0 [.ref (a 0), .ref (b 0)] (wOO cy a b O P) none (wOO cy a b O1 P) := by
  refine Ct_v tX2_copyFrom hX2_copyFrom (by decide) (Nat.le_of_ble_eq_true rfl) ?_
  intro Z hZ C hR
  subst hZ
  replace C : Cx Z D cy RX2 tX2_copyFrom 2 1 200 0 0 := C
  show Wk Z D 2 0 0 (wOO cy a b O P) 0 [(0, .ref (a 0)), (1, .ref (b 0))] []
  unfold f_X2_copyFrom at hf
  refine k_aload_0 C 0 rfl 0 rfl ?_
  refine k_aload_1 C 1 rfl 1 rfl ?_
  refine kg2_0 C 2 rfl qX2_27 6 O2_c6 O2_f6_0 ?_
  obtain ⟨O_5, hM, hf⟩ := bnd_some hf
  refine kp2_0 (w2 := (wOO cy a b O_5 P)) C 3 rfl qX2_27 0 O2_c0 (v := (P.1 0)) O2_n0 (O2_p0_0.trans (congrArg (fun z => (wOO cy a b z P)) hM)) ?_
  refine k_aload_0 C 4 rfl 0 rfl ?_
  refine k_aload_1 C 5 rfl 1 rfl ?_
  refine kg2_1 C 6 rfl qX2_31 6 O2_c6 O2_f6_1 ?_
  obtain ⟨O_13, hM, hf⟩ := bnd_some hf
  refine kp2_1 (w2 := (wOO cy a b O_13 P)) C 7 rfl qX2_31 0 O2_c0 (v := (P.1 1)) O2_n0 (O2_p0_1.trans (congrArg (fun z => (wOO cy a b z P)) hM)) ?_
  refine k_aload_1 C 8 rfl 1 rfl ?_
  refine kg2_2 C 9 rfl qX2_9 6 O2_c6 O2_f6_2 ?_
  refine k_iconst C 10 rfl ci_0 ?_
  refine k_aload_0 C 11 rfl 0 rfl ?_
  refine kg2_2 C 12 rfl qX2_9 0 O2_c0 O2_f0_2 ?_
  refine k_iconst C 13 rfl ci_0 ?_
  refine k_bipush C 14 rfl cb_6 ?_
  obtain ⟨O_28, hM, hf⟩ := bnd_some hf
  refine k_copy (w2 := (wOO cy a b O_28 P)) C 15 rfl qX2_40 jw_copy 7 1 O2_c7 O2_c1 6 (by decide) (by decide) (by decide) (by decide) (Nat.le_of_ble_eq_true rfl) (Nat.le_of_ble_eq_true rfl) (Nat.le_of_ble_eq_true rfl) (O2_r1.trans (congrArg (fun z => (wOO cy a b z P)) hM)) ?_
  refine k_aload_1 C 16 rfl 1 rfl ?_
  refine kg2_3 C 17 rfl qX2_15 6 O2_c6 O2_f6_3 ?_
  refine k_iconst C 18 rfl ci_0 ?_
  refine k_aload_0 C 19 rfl 0 rfl ?_
  refine kg2_3 C 20 rfl qX2_15 0 O2_c0 O2_f0_3 ?_
  refine k_iconst C 21 rfl ci_0 ?_
  refine k_bipush C 22 rfl cb_6 ?_
  obtain ⟨O_43, hM, hf⟩ := bnd_some hf
  refine k_copy (w2 := (wOO cy a b O_43 P)) C 23 rfl qX2_40 jw_copy 8 2 O2_c8 O2_c2 6 (by decide) (by decide) (by decide) (by decide) (Nat.le_of_ble_eq_true rfl) (Nat.le_of_ble_eq_true rfl) (Nat.le_of_ble_eq_true rfl) (O2_r2.trans (congrArg (fun z => (wOO cy a b z P)) hM)) ?_
  refine k_aload_1 C 24 rfl 1 rfl ?_
  refine kg2_4 C 25 rfl qX2_18 6 O2_c6 O2_f6_4 ?_
  refine k_iconst C 26 rfl ci_0 ?_
  refine k_aload_0 C 27 rfl 0 rfl ?_
  refine kg2_4 C 28 rfl qX2_18 0 O2_c0 O2_f0_4 ?_
  refine k_iconst C 29 rfl ci_0 ?_
  refine k_bipush C 30 rfl cb_6 ?_
  obtain ⟨O_58, hM, hf⟩ := bnd_some hf
  refine k_copy (w2 := (wOO cy a b O_58 P)) C 31 rfl qX2_40 jw_copy 9 3 O2_c9 O2_c3 6 (by decide) (by decide) (by decide) (by decide) (Nat.le_of_ble_eq_true rfl) (Nat.le_of_ble_eq_true rfl) (Nat.le_of_ble_eq_true rfl) (O2_r3.trans (congrArg (fun z => (wOO cy a b z P)) hM)) ?_
  refine k_aload_1 C 32 rfl 1 rfl ?_
  refine kg2_5 C 33 rfl qX2_21 6 O2_c6 O2_f6_5 ?_
  refine k_iconst C 34 rfl ci_0 ?_
  refine k_aload_0 C 35 rfl 0 rfl ?_
  refine kg2_5 C 36 rfl qX2_21 0 O2_c0 O2_f0_5 ?_
  refine k_iconst C 37 rfl ci_0 ?_
  refine k_bipush C 38 rfl cb_6 ?_
  obtain ⟨O_73, hM, hf⟩ := bnd_some hf
  refine k_copy (w2 := (wOO cy a b O_73 P)) C 39 rfl qX2_40 jw_copy 10 4 O2_c10 O2_c4 6 (by decide) (by decide) (by decide) (by decide) (Nat.le_of_ble_eq_true rfl) (Nat.le_of_ble_eq_true rfl) (Nat.le_of_ble_eq_true rfl) (O2_r4.trans (congrArg (fun z => (wOO cy a b z P)) hM)) ?_
  refine k_aload_1 C 40 rfl 1 rfl ?_
  refine kg2_6 C 41 rfl qX2_24 6 O2_c6 O2_f6_6 ?_
  refine k_iconst C 42 rfl ci_0 ?_
  refine k_aload_0 C 43 rfl 0 rfl ?_
  refine kg2_6 C 44 rfl qX2_24 0 O2_c0 O2_f0_6 ?_
  refine k_iconst C 45 rfl ci_0 ?_
  refine k_bipush C 46 rfl cb_6 ?_
  obtain ⟨O_88, hM, hf⟩ := bnd_some hf
  refine k_copy (w2 := (wOO cy a b O_88 P)) C 47 rfl qX2_40 jw_copy 11 5 O2_c11 O2_c5 6 (by decide) (by decide) (by decide) (by decide) (Nat.le_of_ble_eq_true rfl) (Nat.le_of_ble_eq_true rfl) (Nat.le_of_ble_eq_true rfl) (O2_r5.trans (congrArg (fun z => (wOO cy a b z P)) hM)) ?_
  exact k_vret (wf := (fun u => (wOO cy a b u P))) hR 48 rfl hf
set_option maxHeartbeats 1000000 in
set_option maxRecDepth 20000 in
theorem c_X7_add (l : Launch) (D : va_G) (cy : Nat → ClassId) (a : Nat → Nat) (E : Sg) (p1 : Int32) (p2 : Int32) (p3 : Int32) (r : Bool) (E1 : Sg) (hf : f_X7_add E p1 p2 p3 = some (r, E1)) : Ct l D cy yX7_add cX7_add 5 (some .boolean) 0 0 0 0 [.ref (a 0), .int p1, .int p2, .int p3] (wE cy a E) (some (.int (bI r))) (wE cy a E1) := by
  refine Ct_z tX7_add hX7_add (by decide) (Nat.le_of_ble_eq_true rfl) ?_
  intro Z hZ C hR
  subst hZ
  replace C : Cx Z D cy RX7 tX7_add 5 0 0 0 0 := C
  show Wk Z D 5 0 0 (wE cy a E) 0 [(0, .ref (a 0)), (1, .int p1), (2, .int p2), (3, .int p3)] []
  unfold f_X7_add at hf
  have hb89 : ∀ (x4 : Int32) (E : Sg), f_X7_add_b89 p1 p2 p3 x4 E = some (r, E1) → Wk Z D 5 0 0 (wE cy a E) 89 [(0, .ref (a 0)), (1, .int p1), (2, .int p2), (3, .int p3), (4, .int x4)] [] := by
    intro x4 E hf
    unfold f_X7_add_b89 at hf
    refine k_aload_0 C 51 rfl 0 rfl ?_
    refine kg7_1 C 52 rfl qX7_9 0 E_c0 E_f0_1 ?_
    refine k_iload C 53 rfl 4 rfl ?_
    refine k_iload_1 C 54 rfl 1 rfl ?_
    obtain ⟨i96, hi, hin, hf⟩ := ixd_some hf
    obtain ⟨E_96, hM, hf⟩ := bnd_some hf
    refine k_iast (w2 := (wE cy a E_96)) C 55 rfl 1 E_c1 hin hi (E_s1.trans (congrArg (fun z => (wE cy a z)) hM)) ?_
    refine k_aload_0 C 56 rfl 0 rfl ?_
    refine kg7_2 C 57 rfl qX7_15 0 E_c0 E_f0_2 ?_
    refine k_iload C 58 rfl 4 rfl ?_
    refine k_iload_2 C 59 rfl 2 rfl ?_
    obtain ⟨i104, hi, hin, hf⟩ := ixd_some hf
    obtain ⟨E_104, hM, hf⟩ := bnd_some hf
    refine k_iast (w2 := (wE cy a E_104)) C 60 rfl 2 E_c2 hin hi (E_s2.trans (congrArg (fun z => (wE cy a z)) hM)) ?_
    refine k_aload_0 C 61 rfl 0 rfl ?_
    refine kg7_3 C 62 rfl qX7_18 0 E_c0 E_f0_3 ?_
    refine k_iload C 63 rfl 4 rfl ?_
    refine k_iload_3 C 64 rfl 3 rfl ?_
    obtain ⟨i112, hi, hin, hf⟩ := ixd_some hf
    obtain ⟨E_112, hM, hf⟩ := bnd_some hf
    refine k_iast (w2 := (wE cy a E_112)) C 65 rfl 3 E_c3 hin hi (E_s3.trans (congrArg (fun z => (wE cy a z)) hM)) ?_
    refine k_aload_0 C 66 rfl 0 rfl ?_
    refine k_dup C 67 rfl rfl ?_
    refine kg7_0 C 68 rfl qX7_21 0 E_c0 E_f0_0 ?_
    refine k_iconst C 69 rfl ci_1 ?_
    refine k_iadd C 70 rfl ?_
    obtain ⟨E_120, hM, hf⟩ := bnd_some hf
    refine kp7_0 (w2 := (wE cy a E_120)) C 71 rfl qX7_21 0 E_c0 (v := ((E_112.1 0) + 1)) E_n0 (E_p0_0.trans (congrArg (fun z => (wE cy a z)) hM)) ?_
    refine k_iconst C 72 rfl ci_1 ?_
    exact k_zret (wf := (fun u => (wE cy a u))) hR 73 rfl hf
  have hq17 : ∀ (k17 : Int32 → Sg → Option (Bool × Sg)), (∀ (x4 : Int32) (E : Sg), k17 x4 E = some (r, E1) → Wk Z D 5 0 0 (wE cy a E) 17 [(0, .ref (a 0)), (1, .int p1), (2, .int p2), (3, .int p3), (4, .int x4)] []) → ∀ (x4 : Int32) (E : Sg), f_X7_add_b17 p1 p2 p3 k17 x4 E = some (r, E1) → Wk Z D 5 0 0 (wE cy a E) 17 [(0, .ref (a 0)), (1, .int p1), (2, .int p2), (3, .int p3), (4, .int x4)] [] := by
    intro k17 hk17 x4 E hf
    unfold f_X7_add_b17 at hf
    refine k_iload C 9 rfl 4 rfl ?_
    refine k_if_le C 10 rfl 89 (by decide) (fun hc => ?_) (fun hc => ?_)
    · replace hf := if_t hf hc
      exact k_sub [0, 1, 2, 3, 4] rfl (hb89 x4 E hf)
    · replace hf := if_f hf hc
      refine k_aload_0 C 11 rfl 0 rfl ?_
      refine kg7_3 C 12 rfl qX7_18 0 E_c0 E_f0_3 ?_
      refine k_iload C 13 rfl 4 rfl ?_
      refine k_iconst C 14 rfl ci_1 ?_
      refine k_isub C 15 rfl ?_
      obtain ⟨i30, hi, hin, hf⟩ := ixd_some hf
      refine k_iald C 16 rfl 3 E_c3 hin hi ?_
      refine k_iload_3 C 17 rfl 3 rfl ?_
      refine k_icmp_le C 18 rfl 89 (by decide) (fun hc => ?_) (fun hc => ?_)
      · replace hf := if_t hf hc
        exact k_sub [0, 1, 2, 3, 4] rfl (hb89 x4 E hf)
      · replace hf := if_f hf hc
        refine k_aload_0 C 19 rfl 0 rfl ?_
        refine kg7_1 C 20 rfl qX7_9 0 E_c0 E_f0_1 ?_
        refine k_iload C 21 rfl 4 rfl ?_
        refine k_aload_0 C 22 rfl 0 rfl ?_
        refine kg7_1 C 23 rfl qX7_9 0 E_c0 E_f0_1 ?_
        refine k_iload C 24 rfl 4 rfl ?_
        refine k_iconst C 25 rfl ci_1 ?_
        refine k_isub C 26 rfl ?_
        obtain ⟨i49, hi, hin, hf⟩ := ixd_some hf
        refine k_iald C 27 rfl 1 E_c1 hin hi ?_
        obtain ⟨i50, hi, hin, hf⟩ := ixd_some hf
        obtain ⟨E_50, hM, hf⟩ := bnd_some hf
        refine k_iast (w2 := (wE cy a E_50)) C 28 rfl 1 E_c1 hin hi (E_s1.trans (congrArg (fun z => (wE cy a z)) hM)) ?_
        refine k_aload_0 C 29 rfl 0 rfl ?_
        refine kg7_2 C 30 rfl qX7_15 0 E_c0 E_f0_2 ?_
        refine k_iload C 31 rfl 4 rfl ?_
        refine k_aload_0 C 32 rfl 0 rfl ?_
        refine kg7_2 C 33 rfl qX7_15 0 E_c0 E_f0_2 ?_
        refine k_iload C 34 rfl 4 rfl ?_
        refine k_iconst C 35 rfl ci_1 ?_
        refine k_isub C 36 rfl ?_
        obtain ⟨i65, hi, hin, hf⟩ := ixd_some hf
        refine k_iald C 37 rfl 2 E_c2 hin hi ?_
        obtain ⟨i66, hi, hin, hf⟩ := ixd_some hf
        obtain ⟨E_66, hM, hf⟩ := bnd_some hf
        refine k_iast (w2 := (wE cy a E_66)) C 38 rfl 2 E_c2 hin hi (E_s2.trans (congrArg (fun z => (wE cy a z)) hM)) ?_
        refine k_aload_0 C 39 rfl 0 rfl ?_
        refine kg7_3 C 40 rfl qX7_18 0 E_c0 E_f0_3 ?_
        refine k_iload C 41 rfl 4 rfl ?_
        refine k_aload_0 C 42 rfl 0 rfl ?_
        refine kg7_3 C 43 rfl qX7_18 0 E_c0 E_f0_3 ?_
        refine k_iload C 44 rfl 4 rfl ?_
        refine k_iconst C 45 rfl ci_1 ?_
        refine k_isub C 46 rfl ?_
        obtain ⟨i81, hi, hin, hf⟩ := ixd_some hf
        refine k_iald C 47 rfl 3 E_c3 hin hi ?_
        obtain ⟨i82, hi, hin, hf⟩ := ixd_some hf
        obtain ⟨E_82, hM, hf⟩ := bnd_some hf
        refine k_iast (w2 := (wE cy a E_82)) C 48 rfl 3 E_c3 hin hi (E_s3.trans (congrArg (fun z => (wE cy a z)) hM)) ?_
        obtain ⟨x4_83, hx, hf⟩ := bnd_some hf
        refine k_iinc C 49 rfl 4 rfl ((cn_m1 _).trans hx) (by decide) rfl ?_
        refine k_sub (lv2 := [(0, .ref (a 0)), (1, .int p1), (2, .int p2), (3, .int p3), (4, .int x4_83)]) [1, 2, 3, 4, 0] rfl ?_
        refine k_goto C 50 rfl 17 (by decide) ?_
        exact k_sub [0, 1, 2, 3, 4] rfl (hk17 x4_83 E_82 hf)
  have hb17 := flW2 hq17
  refine k_aload_0 C 0 rfl 0 rfl ?_
  refine kg7_0 C 1 rfl qX7_21 0 E_c0 E_f0_0 ?_
  refine k_bipush C 2 rfl cb_12 ?_
  refine k_icmp_lt C 3 rfl 11 (by decide) (fun hc => ?_) (fun hc => ?_)
  · replace hf := if_t hf hc
    refine k_aload_0 C 6 rfl 0 rfl ?_
    refine kg7_0 C 7 rfl qX7_21 0 E_c0 E_f0_0 ?_
    obtain ⟨x4_15, hx, hf⟩ := bnd_some hf
    refine k_topi hx ?_
    refine k_istore C 8 rfl (by decide) rfl ?_
    refine k_sub (lv2 := [(0, .ref (a 0)), (1, .int p1), (2, .int p2), (3, .int p3), (4, .int x4_15)]) [1, 2, 3, 4, 0] rfl ?_
    exact k_sub [0, 1, 2, 3, 4] rfl (hb17 FU x4_15 E hf)
  · replace hf := if_f hf hc
    refine k_iconst C 4 rfl ci_0 ?_
    exact k_zret (wf := (fun u => (wE cy a u))) hR 5 rfl hf
set_option maxHeartbeats 1000000 in
set_option maxRecDepth 20000 in
theorem c_X7_copyFrom (l : Launch) (D : va_G) (cy : Nat → ClassId) (a : Nat → Nat) (b : Nat → Nat) (E : Sg) (F : Sg) (E1 : Sg) (hf : f_X7_copyFrom E F = some E1) : Ct l D cy yX7_copyFrom cX7_copyFrom 2 none 1 200 0 0 [.ref (a 0), .ref (b 0)] (wEE cy a b E F) none (wEE cy a b E1 F) := by
  refine Ct_v tX7_copyFrom hX7_copyFrom (by decide) (Nat.le_of_ble_eq_true rfl) ?_
  intro Z hZ C hR
  subst hZ
  replace C : Cx Z D cy RX7 tX7_copyFrom 2 1 200 0 0 := C
  show Wk Z D 2 0 0 (wEE cy a b E F) 0 [(0, .ref (a 0)), (1, .ref (b 0))] []
  unfold f_X7_copyFrom at hf
  refine k_aload_0 C 0 rfl 0 rfl ?_
  refine k_aload_1 C 1 rfl 1 rfl ?_
  refine kg7_0 C 2 rfl qX7_21 4 E2_c4 E2_f4_0 ?_
  obtain ⟨E_5, hM, hf⟩ := bnd_some hf
  refine kp7_0 (w2 := (wEE cy a b E_5 F)) C 3 rfl qX7_21 0 E2_c0 (v := (F.1 0)) E2_n0 (E2_p0_0.trans (congrArg (fun z => (wEE cy a b z F)) hM)) ?_
  refine k_aload_1 C 4 rfl 1 rfl ?_
  refine kg7_1 C 5 rfl qX7_9 4 E2_c4 E2_f4_1 ?_
  refine k_iconst C 6 rfl ci_0 ?_
  refine k_aload_0 C 7 rfl 0 rfl ?_
  refine kg7_1 C 8 rfl qX7_9 0 E2_c0 E2_f0_1 ?_
  refine k_iconst C 9 rfl ci_0 ?_
  refine k_bipush C 10 rfl cb_12 ?_
  obtain ⟨E_20, hM, hf⟩ := bnd_some hf
  refine k_copy (w2 := (wEE cy a b E_20 F)) C 11 rfl qX7_25 jw_copy 5 1 E2_c5 E2_c1 12 (by decide) (by decide) (by decide) (by decide) (Nat.le_of_ble_eq_true rfl) (Nat.le_of_ble_eq_true rfl) (Nat.le_of_ble_eq_true rfl) (E2_r1.trans (congrArg (fun z => (wEE cy a b z F)) hM)) ?_
  refine k_aload_1 C 12 rfl 1 rfl ?_
  refine kg7_2 C 13 rfl qX7_15 4 E2_c4 E2_f4_2 ?_
  refine k_iconst C 14 rfl ci_0 ?_
  refine k_aload_0 C 15 rfl 0 rfl ?_
  refine kg7_2 C 16 rfl qX7_15 0 E2_c0 E2_f0_2 ?_
  refine k_iconst C 17 rfl ci_0 ?_
  refine k_bipush C 18 rfl cb_12 ?_
  obtain ⟨E_35, hM, hf⟩ := bnd_some hf
  refine k_copy (w2 := (wEE cy a b E_35 F)) C 19 rfl qX7_25 jw_copy 6 2 E2_c6 E2_c2 12 (by decide) (by decide) (by decide) (by decide) (Nat.le_of_ble_eq_true rfl) (Nat.le_of_ble_eq_true rfl) (Nat.le_of_ble_eq_true rfl) (E2_r2.trans (congrArg (fun z => (wEE cy a b z F)) hM)) ?_
  refine k_aload_1 C 20 rfl 1 rfl ?_
  refine kg7_3 C 21 rfl qX7_18 4 E2_c4 E2_f4_3 ?_
  refine k_iconst C 22 rfl ci_0 ?_
  refine k_aload_0 C 23 rfl 0 rfl ?_
  refine kg7_3 C 24 rfl qX7_18 0 E2_c0 E2_f0_3 ?_
  refine k_iconst C 25 rfl ci_0 ?_
  refine k_bipush C 26 rfl cb_12 ?_
  obtain ⟨E_50, hM, hf⟩ := bnd_some hf
  refine k_copy (w2 := (wEE cy a b E_50 F)) C 27 rfl qX7_25 jw_copy 7 3 E2_c7 E2_c3 12 (by decide) (by decide) (by decide) (by decide) (Nat.le_of_ble_eq_true rfl) (Nat.le_of_ble_eq_true rfl) (Nat.le_of_ble_eq_true rfl) (E2_r3.trans (congrArg (fun z => (wEE cy a b z F)) hM)) ?_
  exact k_vret (wf := (fun u => (wEE cy a b u F))) hR 28 rfl hf
set_option maxHeartbeats 1000000 in
set_option maxRecDepth 20000 in
theorem c_X10_clear (l : Launch) (D : va_G) (cy : Nat → ClassId) (a : Nat → Nat) (T : Sg) (O : Sg) (E : Sg) (X : Sg) (T1 : Sg) (O1 : Sg) (hf : f_X10_clear T O = some (T1, O1)) : Ct l D cy yX10_clear cX10_clear 1 none 2 220 0 0 [.ref (a 0)] (wW cy a T O E X) none (wW cy a T1 O1 E X) := by
  refine Ct_v tX10_clear hX10_clear (by decide) (Nat.le_of_ble_eq_true rfl) ?_
  intro Z hZ C hR
  subst hZ
  replace C : Cx Z D cy RX10 tX10_clear 1 2 220 0 0 := C
  show Wk Z D 1 0 0 (wW cy a T O E X) 0 [(0, .ref (a 0))] []
  unfold f_X10_clear at hf
  refine k_aload_0 C 0 rfl 0 rfl ?_
  refine kg10_0 C 1 rfl qX10_12 0 W_c0 W_f0_0 ?_
  obtain ⟨T_4, h5, hf⟩ := ob1_some hf
  refine k_callV (X := (wW cy a T O E X).take 1) (Y := (wW cy a T O E X).drop 13) (w2 := (wW cy a T_4 O E X)) C 2 (c_X9_clear Z.2.1 D cy (fun i => a (1 + i)) T T_4 h5) rfl qX10_35 mvX9_clear 0 9 T_c0 rfl rfl rfl rfl rfl (Nat.le_of_ble_eq_true rfl) ⟨Nat.le_of_ble_eq_true rfl, Nat.le_of_ble_eq_true rfl, Nat.le_refl 0, Nat.le_refl 0⟩ ?_
  refine k_aload_0 C 3 rfl 0 rfl ?_
  refine kg10_1 C 4 rfl qX10_21 0 W_c0 W_f0_1 ?_
  obtain ⟨O_11, h5, hf⟩ := ob1_some hf
  refine k_callV (X := (wW cy a T_4 O E X).take 13) (Y := (wW cy a T_4 O E X).drop 19) (w2 := (wW cy a T_4 O_11 E X)) C 5 (c_X2_clear Z.2.1 D cy (fun i => a (13 + i)) O O_11 h5) rfl qX10_36 mvX2_clear 0 2 O_c0 rfl rfl rfl rfl rfl (Nat.le_of_ble_eq_true rfl) ⟨Nat.le_of_ble_eq_true rfl, Nat.le_of_ble_eq_true rfl, Nat.le_refl 0, Nat.le_refl 0⟩ ?_
  exact k_vret (wf := (fun u => (wW cy a u.1 u.2 E X))) hR 6 rfl hf
set_option maxHeartbeats 1000000 in
set_option maxRecDepth 20000 in
theorem c_X10_copyFrom (l : Launch) (D : va_G) (cy : Nat → ClassId) (a : Nat → Nat) (b : Nat → Nat) (T : Sg) (O : Sg) (E : Sg) (X : Sg) (U : Sg) (P : Sg) (F : Sg) (Y : Sg) (T1 : Sg) (O1 : Sg) (E1 : Sg) (X1 : Sg) (hf : f_X10_copyFrom T O E X U P F Y = some (T1, O1, E1, X1)) : Ct l D cy yX10_copyFrom cX10_copyFrom 2 none 2 221 0 0 [.ref (a 0), .ref (b 0)] (wWW cy a b T O E X U P F Y) none (wWW cy a b T1 O1 E1 X1 U P F Y) := by
  refine Ct_v tX10_copyFrom hX10_copyFrom (by decide) (Nat.le_of_ble_eq_true rfl) ?_
  intro Z hZ C hR
  subst hZ
  replace C : Cx Z D cy RX10 tX10_copyFrom 2 2 221 0 0 := C
  show Wk Z D 2 0 0 (wWW cy a b T O E X U P F Y) 0 [(0, .ref (a 0)), (1, .ref (b 0))] []
  unfold f_X10_copyFrom at hf
  refine k_aload_0 C 0 rfl 0 rfl ?_
  refine kg10_0 C 1 rfl qX10_12 0 W2_c0 W2_f0_0 ?_
  refine k_aload_1 C 2 rfl 1 rfl ?_
  refine kg10_0 C 3 rfl qX10_12 23 W2_c23 W2_f23_0 ?_
  obtain ⟨T_8, h5, hf⟩ := ob1_some hf
  refine k_re (w2 := (wTT cy (fun i => a (1 + i)) (fun i => b (1 + i)) T U) ++ (List.filterMap (fun i => (wWW cy a b T O E X U P F Y)[i]?) [0, 13, 14, 15, 16, 17, 18, 19, 20, 21, 22, 23, 36, 37, 38, 39, 40, 41, 42, 43, 44, 45])) [1, 2, 3, 4, 5, 6, 7, 8, 9, 10, 11, 12, 24, 25, 26, 27, 28, 29, 30, 31, 32, 33, 34, 35, 0, 13, 14, 15, 16, 17, 18, 19, 20, 21, 22, 23, 36, 37, 38, 39, 40, 41, 42, 43, 44, 45] (by decide) rfl rfl ?_
  refine k_callV (X := []) (Y := (List.filterMap (fun i => (wWW cy a b T O E X U P F Y)[i]?) [0, 13, 14, 15, 16, 17, 18, 19, 20, 21, 22, 23, 36, 37, 38, 39, 40, 41, 42, 43, 44, 45])) (w2 := (wTT cy (fun i => a (1 + i)) (fun i => b (1 + i)) T_8 U) ++ (List.filterMap (fun i => (wWW cy a b T O E X U P F Y)[i]?) [0, 13, 14, 15, 16, 17, 18, 19, 20, 21, 22, 23, 36, 37, 38, 39, 40, 41, 42, 43, 44, 45])) C 4 (c_X9_copyFrom Z.2.1 D cy (fun i => a (1 + i)) (fun i => b (1 + i)) T U T_8 h5) rfl qX10_37 mvX9_copyFrom 0 9 T2_c0 rfl rfl rfl rfl rfl (Nat.le_of_ble_eq_true rfl) ⟨Nat.le_of_ble_eq_true rfl, Nat.le_of_ble_eq_true rfl, Nat.le_refl 0, Nat.le_refl 0⟩ ?_
  refine k_re (w2 := (wWW cy a b T_8 O E X U P F Y)) [24, 0, 1, 2, 3, 4, 5, 6, 7, 8, 9, 10, 11, 25, 26, 27, 28, 29, 30, 31, 32, 33, 34, 35, 12, 13, 14, 15, 16, 17, 18, 19, 20, 21, 22, 23, 36, 37, 38, 39, 40, 41, 42, 43, 44, 45] (by decide) rfl rfl ?_
  refine k_aload_0 C 5 rfl 0 rfl ?_
  refine kg10_1 C 6 rfl qX10_21 0 W2_c0 W2_f0_1 ?_
  refine k_aload_1 C 7 rfl 1 rfl ?_
  refine kg10_1 C 8 rfl qX10_21 23 W2_c23 W2_f23_1 ?_
  obtain ⟨O_19, h5, hf⟩ := ob1_some hf
  refine k_re (w2 := (wOO cy (fun i => a (13 + i)) (fun i => b (13 + i)) O P) ++ (List.filterMap (fun i => (wWW cy a b T_8 O E X U P F Y)[i]?) [0, 1, 2, 3, 4, 5, 6, 7, 8, 9, 10, 11, 12, 19, 20, 21, 22, 23, 24, 25, 26, 27, 28, 29, 30, 31, 32, 33, 34, 35, 42, 43, 44, 45])) [13, 14, 15, 16, 17, 18, 36, 37, 38, 39, 40, 41, 0, 1, 2, 3, 4, 5, 6, 7, 8, 9, 10, 11, 12, 19, 20, 21, 22, 23, 24, 25, 26, 27, 28, 29, 30, 31, 32, 33, 34, 35, 42, 43, 44, 45] (by decide) rfl rfl ?_
  refine k_callV (X := []) (Y := (List.filterMap (fun i => (wWW cy a b T_8 O E X U P F Y)[i]?) [0, 1, 2, 3, 4, 5, 6, 7, 8, 9, 10, 11, 12, 19, 20, 21, 22, 23, 24, 25, 26, 27, 28, 29, 30, 31, 32, 33, 34, 35, 42, 43, 44, 45])) (w2 := (wOO cy (fun i => a (13 + i)) (fun i => b (13 + i)) O_19 P) ++ (List.filterMap (fun i => (wWW cy a b T_8 O E X U P F Y)[i]?) [0, 1, 2, 3, 4, 5, 6, 7, 8, 9, 10, 11, 12, 19, 20, 21, 22, 23, 24, 25, 26, 27, 28, 29, 30, 31, 32, 33, 34, 35, 42, 43, 44, 45])) C 9 (c_X2_copyFrom Z.2.1 D cy (fun i => a (13 + i)) (fun i => b (13 + i)) O P O_19 h5) rfl qX10_41 mvX2_copyFrom 0 2 O2_c0 rfl rfl rfl rfl rfl (Nat.le_of_ble_eq_true rfl) ⟨Nat.le_of_ble_eq_true rfl, Nat.le_of_ble_eq_true rfl, Nat.le_refl 0, Nat.le_refl 0⟩ ?_
  refine k_re (w2 := (wWW cy a b T_8 O_19 E X U P F Y)) [12, 13, 14, 15, 16, 17, 18, 19, 20, 21, 22, 23, 24, 0, 1, 2, 3, 4, 5, 25, 26, 27, 28, 29, 30, 31, 32, 33, 34, 35, 36, 37, 38, 39, 40, 41, 6, 7, 8, 9, 10, 11, 42, 43, 44, 45] (by decide) rfl rfl ?_
  refine k_aload_0 C 10 rfl 0 rfl ?_
  refine kg10_2 C 11 rfl qX10_28 0 W2_c0 W2_f0_2 ?_
  refine k_aload_1 C 12 rfl 1 rfl ?_
  refine kg10_2 C 13 rfl qX10_28 23 W2_c23 W2_f23_2 ?_
  obtain ⟨E_30, h5, hf⟩ := ob1_some hf
  refine k_re (w2 := (wEE cy (fun i => a (19 + i)) (fun i => b (19 + i)) E F) ++ (List.filterMap (fun i => (wWW cy a b T_8 O_19 E X U P F Y)[i]?) [0, 1, 2, 3, 4, 5, 6, 7, 8, 9, 10, 11, 12, 13, 14, 15, 16, 17, 18, 23, 24, 25, 26, 27, 28, 29, 30, 31, 32, 33, 34, 35, 36, 37, 38, 39, 40, 41])) [19, 20, 21, 22, 42, 43, 44, 45, 0, 1, 2, 3, 4, 5, 6, 7, 8, 9, 10, 11, 12, 13, 14, 15, 16, 17, 18, 23, 24, 25, 26, 27, 28, 29, 30, 31, 32, 33, 34, 35, 36, 37, 38, 39, 40, 41] (by decide) rfl rfl ?_
  refine k_callV (X := []) (Y := (List.filterMap (fun i => (wWW cy a b T_8 O_19 E X U P F Y)[i]?) [0, 1, 2, 3, 4, 5, 6, 7, 8, 9, 10, 11, 12, 13, 14, 15, 16, 17, 18, 23, 24, 25, 26, 27, 28, 29, 30, 31, 32, 33, 34, 35, 36, 37, 38, 39, 40, 41])) (w2 := (wEE cy (fun i => a (19 + i)) (fun i => b (19 + i)) E_30 F) ++ (List.filterMap (fun i => (wWW cy a b T_8 O_19 E X U P F Y)[i]?) [0, 1, 2, 3, 4, 5, 6, 7, 8, 9, 10, 11, 12, 13, 14, 15, 16, 17, 18, 23, 24, 25, 26, 27, 28, 29, 30, 31, 32, 33, 34, 35, 36, 37, 38, 39, 40, 41])) C 14 (c_X7_copyFrom Z.2.1 D cy (fun i => a (19 + i)) (fun i => b (19 + i)) E F E_30 h5) rfl qX10_44 mvX7_copyFrom 0 7 E2_c0 rfl rfl rfl rfl rfl (Nat.le_of_ble_eq_true rfl) ⟨Nat.le_of_ble_eq_true rfl, Nat.le_of_ble_eq_true rfl, Nat.le_refl 0, Nat.le_refl 0⟩ ?_
  refine k_re (w2 := (wWW cy a b T_8 O_19 E_30 X U P F Y)) [8, 9, 10, 11, 12, 13, 14, 15, 16, 17, 18, 19, 20, 21, 22, 23, 24, 25, 26, 0, 1, 2, 3, 27, 28, 29, 30, 31, 32, 33, 34, 35, 36, 37, 38, 39, 40, 41, 42, 43, 44, 45, 4, 5, 6, 7] (by decide) rfl rfl ?_
  refine k_aload_0 C 15 rfl 0 rfl ?_
  refine k_aload_1 C 16 rfl 1 rfl ?_
  refine kg10_3 C 17 rfl qX10_47 23 W2_c23 W2_f23_3 ?_
  obtain ⟨X_38, hM, hf⟩ := bnd_some hf
  refine kp10_3 (w2 := (wWW cy a b T_8 O_19 E_30 X_38 U P F Y)) C 18 rfl qX10_47 0 W2_c0 (v := (Y.1 3)) W2_n0 (W2_p0_3.trans (congrArg (fun z => (wWW cy a b T_8 O_19 E_30 z U P F Y)) hM)) ?_
  exact k_vret (wf := (fun u => (wWW cy a b u.1 u.2.1 u.2.2.1 u.2.2.2 U P F Y))) hR 19 rfl hf
set_option maxHeartbeats 1000000 in
set_option maxRecDepth 20000 in
theorem c_X10_hasLine (l : Launch) (D : va_G) (cy : Nat → ClassId) (a : Nat → Nat) (T : Sg) (O : Sg) (E : Sg) (X : Sg) (r : Bool) (hf : f_X10_hasLine T = some r) : Ct l D cy yX10_hasLine cX10_hasLine 1 (some .boolean) 0 0 0 0 [.ref (a 0)] (wW cy a T O E X) (some (.int (bI r))) (wW cy a T O E X) := by
  refine Ct_z tX10_hasLine hX10_hasLine (by decide) (Nat.le_of_ble_eq_true rfl) ?_
  intro Z hZ C hR
  subst hZ
  replace C : Cx Z D cy RX10 tX10_hasLine 1 0 0 0 0 := C
  show Wk Z D 1 0 0 (wW cy a T O E X) 0 [(0, .ref (a 0))] []
  unfold f_X10_hasLine at hf
  refine k_aload_0 C 0 rfl 0 rfl ?_
  refine kg10_0 C 1 rfl qX10_12 0 W_c0 W_f0_0 ?_
  refine kg9_0 C 2 rfl qX10_51 1 W_c1 W_f1_0 ?_
  refine k_if_le C 3 rfl 14 (by decide) (fun hc => ?_) (fun hc => ?_)
  · replace hf := if_t hf hc
    refine k_iconst C 6 rfl ci_0 ?_
    exact k_zretP hR 7 rfl hf
  · replace hf := if_f hf hc
    refine k_iconst C 4 rfl ci_1 ?_
    refine k_goto C 5 rfl 15 (by decide) ?_
    exact k_zretP hR 7 rfl hf
set_option maxHeartbeats 1000000 in
set_option maxRecDepth 20000 in
theorem c_X10_hasCoach (l : Launch) (D : va_G) (cy : Nat → ClassId) (a : Nat → Nat) (T : Sg) (O : Sg) (E : Sg) (X : Sg) (p1 : Int32) (r : Bool) (hf : f_X10_hasCoach T p1 = some r) : Ct l D cy yX10_hasCoach cX10_hasCoach 2 (some .boolean) 0 0 0 0 [.ref (a 0), .int p1] (wW cy a T O E X) (some (.int (bI r))) (wW cy a T O E X) := by
  refine Ct_z tX10_hasCoach hX10_hasCoach (by decide) (Nat.le_of_ble_eq_true rfl) ?_
  intro Z hZ C hR
  subst hZ
  replace C : Cx Z D cy RX10 tX10_hasCoach 2 0 0 0 0 := C
  show Wk Z D 2 0 0 (wW cy a T O E X) 0 [(0, .ref (a 0)), (1, .int p1)] []
  unfold f_X10_hasCoach at hf
  have hb19 : f_X10_hasCoach_b19 T p1 = some r → Wk Z D 2 0 0 (wW cy a T O E X) 19 [] [] := by
    intro  hf
    unfold f_X10_hasCoach_b19 at hf
    refine k_iconst C 9 rfl ci_0 ?_
    exact k_zretP hR 10 rfl hf
  refine k_iload_1 C 0 rfl 1 rfl ?_
  refine k_if_lt C 1 rfl 19 (by decide) (fun hc => ?_) (fun hc => ?_)
  · replace hf := if_t hf hc
    exact k_sub [] rfl (hb19  hf)
  · replace hf := if_f hf hc
    refine k_iload_1 C 2 rfl 1 rfl ?_
    refine k_aload_0 C 3 rfl 0 rfl ?_
    refine kg10_0 C 4 rfl qX10_12 0 W_c0 W_f0_0 ?_
    refine kg9_0 C 5 rfl qX10_51 1 W_c1 W_f1_0 ?_
    refine k_icmp_ge C 6 rfl 19 (by decide) (fun hc => ?_) (fun hc => ?_)
    · replace hf := if_t hf hc
      exact k_sub [] rfl (hb19  hf)
    · replace hf := if_f hf hc
      refine k_iconst C 7 rfl ci_1 ?_
      refine k_goto C 8 rfl 20 (by decide) ?_
      exact k_zretP hR 10 rfl hf
set_option maxHeartbeats 1000000 in
set_option maxRecDepth 20000 in
theorem c_X10_hasWay (l : Launch) (D : va_G) (cy : Nat → ClassId) (a : Nat → Nat) (T : Sg) (O : Sg) (E : Sg) (X : Sg) (p1 : Int32) (r : Bool) (hf : f_X10_hasWay T p1 = some r) : Ct l D cy yX10_hasWay cX10_hasWay 2 (some .boolean) 0 0 0 0 [.ref (a 0), .int p1] (wW cy a T O E X) (some (.int (bI r))) (wW cy a T O E X) := by
  refine Ct_z tX10_hasWay hX10_hasWay (by decide) (Nat.le_of_ble_eq_true rfl) ?_
  intro Z hZ C hR
  subst hZ
  replace C : Cx Z D cy RX10 tX10_hasWay 2 0 0 0 0 := C
  show Wk Z D 2 0 0 (wW cy a T O E X) 0 [(0, .ref (a 0)), (1, .int p1)] []
  unfold f_X10_hasWay at hf
  have hb21 : f_X10_hasWay_b21 T p1 = some r → Wk Z D 2 0 0 (wW cy a T O E X) 21 [] [] := by
    intro  hf
    unfold f_X10_hasWay_b21 at hf
    refine k_iconst C 11 rfl ci_0 ?_
    exact k_zretP hR 12 rfl hf
  refine k_iload_1 C 0 rfl 1 rfl ?_
  refine k_if_lt C 1 rfl 21 (by decide) (fun hc => ?_) (fun hc => ?_)
  · replace hf := if_t hf hc
    exact k_sub [] rfl (hb21  hf)
  · replace hf := if_f hf hc
    refine k_iload_1 C 2 rfl 1 rfl ?_
    refine k_aload_0 C 3 rfl 0 rfl ?_
    refine kg10_0 C 4 rfl qX10_12 0 W_c0 W_f0_0 ?_
    refine kg9_0 C 5 rfl qX10_51 1 W_c1 W_f1_0 ?_
    refine k_iconst C 6 rfl ci_1 ?_
    refine k_isub C 7 rfl ?_
    refine k_icmp_ge C 8 rfl 21 (by decide) (fun hc => ?_) (fun hc => ?_)
    · replace hf := if_t hf hc
      exact k_sub [] rfl (hb21  hf)
    · replace hf := if_f hf hc
      refine k_iconst C 9 rfl ci_1 ?_
      refine k_goto C 10 rfl 22 (by decide) ?_
      exact k_zretP hR 12 rfl hf
set_option maxHeartbeats 1000000 in
set_option maxRecDepth 20000 in
theorem c_X10_hasRider (l : Launch) (D : va_G) (cy : Nat → ClassId) (a : Nat → Nat) (T : Sg) (O : Sg) (E : Sg) (X : Sg) (p1 : Int32) (r : Bool) (hf : f_X10_hasRider T p1 = some r) : Ct l D cy yX10_hasRider cX10_hasRider 2 (some .boolean) 0 0 0 0 [.ref (a 0), .int p1] (wW cy a T O E X) (some (.int (bI r))) (wW cy a T O E X) := by
  refine Ct_z tX10_hasRider hX10_hasRider (by decide) (Nat.le_of_ble_eq_true rfl) ?_
  intro Z hZ C hR
  subst hZ
  replace C : Cx Z D cy RX10 tX10_hasRider 2 0 0 0 0 := C
  show Wk Z D 2 0 0 (wW cy a T O E X) 0 [(0, .ref (a 0)), (1, .int p1)] []
  unfold f_X10_hasRider at hf
  have hb19 : f_X10_hasRider_b19 T p1 = some r → Wk Z D 2 0 0 (wW cy a T O E X) 19 [] [] := by
    intro  hf
    unfold f_X10_hasRider_b19 at hf
    refine k_iconst C 9 rfl ci_0 ?_
    exact k_zretP hR 10 rfl hf
  refine k_iload_1 C 0 rfl 1 rfl ?_
  refine k_if_lt C 1 rfl 19 (by decide) (fun hc => ?_) (fun hc => ?_)
  · replace hf := if_t hf hc
    exact k_sub [] rfl (hb19  hf)
  · replace hf := if_f hf hc
    refine k_iload_1 C 2 rfl 1 rfl ?_
    refine k_aload_0 C 3 rfl 0 rfl ?_
    refine kg10_0 C 4 rfl qX10_12 0 W_c0 W_f0_0 ?_
    refine kg9_2 C 5 rfl qX10_54 1 W_c1 W_f1_2 ?_
    refine k_icmp_ge C 6 rfl 19 (by decide) (fun hc => ?_) (fun hc => ?_)
    · replace hf := if_t hf hc
      exact k_sub [] rfl (hb19  hf)
    · replace hf := if_f hf hc
      refine k_iconst C 7 rfl ci_1 ?_
      refine k_goto C 8 rfl 20 (by decide) ?_
      exact k_zretP hR 10 rfl hf
set_option maxHeartbeats 1000000 in
set_option maxRecDepth 20000 in
theorem c_X10_haltingStop (l : Launch) (D : va_G) (cy : Nat → ClassId) (a : Nat → Nat) (T : Sg) (O : Sg) (E : Sg) (X : Sg) (r : Int32) (hf : f_X10_haltingStop T O = some r) : Ct l D cy yX10_haltingStop cX10_haltingStop 2 (some .int) 0 0 0 0 [.ref (a 0)] (wW cy a T O E X) (some (.int r)) (wW cy a T O E X) := by
  refine Ct_i tX10_haltingStop hX10_haltingStop (by decide) (Nat.le_of_ble_eq_true rfl) ?_
  intro Z hZ C hR
  subst hZ
  replace C : Cx Z D cy RX10 tX10_haltingStop 2 0 0 0 0 := C
  show Wk Z D 2 0 0 (wW cy a T O E X) 0 [(0, .ref (a 0))] []
  unfold f_X10_haltingStop at hf
  have hq2 : ∀ (k2 : Int32 → Option (Int32)), (∀ (x1 : Int32), k2 x1 = some r → Wk Z D 2 0 0 (wW cy a T O E X) 2 [(0, .ref (a 0)), (1, .int x1)] []) → ∀ (x1 : Int32), f_X10_haltingStop_b2 T O k2 x1 = some r → Wk Z D 2 0 0 (wW cy a T O E X) 2 [(0, .ref (a 0)), (1, .int x1)] [] := by
    intro k2 hk2 x1 hf
    unfold f_X10_haltingStop_b2 at hf
    have hb53 : ∀ (x1 : Int32), f_X10_haltingStop_b53 T O k2 x1 = some r → Wk Z D 2 0 0 (wW cy a T O E X) 53 [(0, .ref (a 0)), (1, .int x1)] [] := by
      intro x1 hf
      unfold f_X10_haltingStop_b53 at hf
      obtain ⟨x1_53, hx, hf⟩ := bnd_some hf
      refine k_iinc C 27 rfl 1 rfl ((cn_1 _).trans hx) (by decide) rfl ?_
      refine k_sub (lv2 := [(0, .ref (a 0)), (1, .int x1_53)]) [1, 0] rfl ?_
      refine k_goto C 28 rfl 2 (by decide) ?_
      exact k_sub [0, 1] rfl (hk2 x1_53 hf)
    refine k_iload_1 C 2 rfl 1 rfl ?_
    refine k_aload_0 C 3 rfl 0 rfl ?_
    refine kg10_0 C 4 rfl qX10_12 0 W_c0 W_f0_0 ?_
    refine kg9_1 C 5 rfl qX10_57 1 W_c1 W_f1_1 ?_
    refine k_icmp_ge C 6 rfl 59 (by decide) (fun hc => ?_) (fun hc => ?_)
    · replace hf := if_t hf hc
      refine k_iconst C 29 rfl ci_m1 ?_
      exact k_iretP hR 30 rfl hf
    · replace hf := if_f hf hc
      refine k_aload_0 C 7 rfl 0 rfl ?_
      refine kg10_0 C 8 rfl qX10_12 0 W_c0 W_f0_0 ?_
      refine kg9_9 C 9 rfl qX10_60 1 W_c1 W_f1_9 ?_
      refine k_iload_1 C 10 rfl 1 rfl ?_
      obtain ⟨i21, hi, hin, hf⟩ := ixd_some hf
      refine k_iald C 11 rfl 5 W_c5 hin hi ?_
      refine k_aload_0 C 12 rfl 0 rfl ?_
      refine kg10_1 C 13 rfl qX10_21 0 W_c0 W_f0_1 ?_
      refine kg2_0 C 14 rfl qX10_64 13 W_c13 W_f13_0 ?_
      refine k_icmp_gt C 15 rfl 53 (by decide) (fun hc => ?_) (fun hc => ?_)
      · replace hf := if_t hf hc
        exact k_sub [0, 1] rfl (hb53 x1 hf)
      · replace hf := if_f hf hc
        refine k_aload_0 C 16 rfl 0 rfl ?_
        refine kg10_1 C 17 rfl qX10_21 0 W_c0 W_f0_1 ?_
        refine kg2_0 C 18 rfl qX10_64 13 W_c13 W_f13_0 ?_
        refine k_aload_0 C 19 rfl 0 rfl ?_
        refine kg10_0 C 20 rfl qX10_12 0 W_c0 W_f0_0 ?_
        refine kg9_10 C 21 rfl qX10_67 1 W_c1 W_f1_10 ?_
        refine k_iload_1 C 22 rfl 1 rfl ?_
        obtain ⟨i47, hi, hin, hf⟩ := ixd_some hf
        refine k_iald C 23 rfl 6 W_c6 hin hi ?_
        refine k_icmp_gt C 24 rfl 53 (by decide) (fun hc => ?_) (fun hc => ?_)
        · replace hf := if_t hf hc
          exact k_sub [0, 1] rfl (hb53 x1 hf)
        · replace hf := if_f hf hc
          refine k_iload_1 C 25 rfl 1 rfl ?_
          exact k_iretP hR 26 rfl hf
  have hb2 := flW1 hq2
  refine k_iconst C 0 rfl ci_0 ?_
  refine k_istore_1 C 1 rfl (by decide) rfl ?_
  refine k_sub (lv2 := [(0, .ref (a 0)), (1, .int 0)]) [1, 0] rfl ?_
  exact k_sub [0, 1] rfl (hb2 FU 0 hf)
set_option maxHeartbeats 1000000 in
set_option maxRecDepth 20000 in
theorem c_X10_isShut (l : Launch) (D : va_G) (cy : Nat → ClassId) (a : Nat → Nat) (T : Sg) (O : Sg) (E : Sg) (X : Sg) (p1 : Int32) (r : Bool) (hf : f_X10_isShut O p1 = some r) : Ct l D cy yX10_isShut cX10_isShut 2 (some .boolean) 0 0 0 0 [.ref (a 0), .int p1] (wW cy a T O E X) (some (.int (bI r))) (wW cy a T O E X) := by
  refine Ct_z tX10_isShut hX10_isShut (by decide) (Nat.le_of_ble_eq_true rfl) ?_
  intro Z hZ C hR
  subst hZ
  replace C : Cx Z D cy RX10 tX10_isShut 2 0 0 0 0 := C
  show Wk Z D 2 0 0 (wW cy a T O E X) 0 [(0, .ref (a 0)), (1, .int p1)] []
  unfold f_X10_isShut at hf
  refine k_aload_0 C 0 rfl 0 rfl ?_
  refine kg10_1 C 1 rfl qX10_21 0 W_c0 W_f0_1 ?_
  refine kg2_1 C 2 rfl qX10_70 13 W_c13 W_f13_1 ?_
  refine k_iconst C 3 rfl ci_1 ?_
  refine k_iload_1 C 4 rfl 1 rfl ?_
  refine k_ishl C 5 rfl ?_
  refine k_iand C 6 rfl ?_
  refine k_if_eq C 7 rfl 18 (by decide) (fun hc => ?_) (fun hc => ?_)
  · replace hf := if_t hf hc
    refine k_iconst C 10 rfl ci_0 ?_
    exact k_zretP hR 11 rfl hf
  · replace hf := if_f hf hc
    refine k_iconst C 8 rfl ci_1 ?_
    refine k_goto C 9 rfl 19 (by decide) ?_
    exact k_zretP hR 11 rfl hf
set_option maxHeartbeats 1000000 in
set_option maxRecDepth 20000 in
theorem c_X10_isRight (l : Launch) (D : va_G) (cy : Nat → ClassId) (a : Nat → Nat) (T : Sg) (O : Sg) (E : Sg) (X : Sg) (p1 : Int32) (p2 : Int32) (r : Bool) (hf : f_X10_isRight T p1 p2 = some r) : Ct l D cy yX10_isRight cX10_isRight 3 (some .boolean) 0 0 0 0 [.ref (a 0), .int p1, .int p2] (wW cy a T O E X) (some (.int (bI r))) (wW cy a T O E X) := by
  refine Ct_z tX10_isRight hX10_isRight (by decide) (Nat.le_of_ble_eq_true rfl) ?_
  intro Z hZ C hR
  subst hZ
  replace C : Cx Z D cy RX10 tX10_isRight 3 0 0 0 0 := C
  show Wk Z D 3 0 0 (wW cy a T O E X) 0 [(0, .ref (a 0)), (1, .int p1), (2, .int p2)] []
  unfold f_X10_isRight at hf
  refine k_aload_0 C 0 rfl 0 rfl ?_
  refine kg10_0 C 1 rfl qX10_12 0 W_c0 W_f0_0 ?_
  refine kg9_6 C 2 rfl qX10_73 1 W_c1 W_f1_6 ?_
  refine k_iload_2 C 3 rfl 2 rfl ?_
  obtain ⟨i8, hi, hin, hf⟩ := ixd_some hf
  refine k_iald C 4 rfl 2 W_c2 hin hi ?_
  refine k_aload_0 C 5 rfl 0 rfl ?_
  refine kg10_0 C 6 rfl qX10_12 0 W_c0 W_f0_0 ?_
  refine kg9_11 C 7 rfl qX10_76 1 W_c1 W_f1_11 ?_
  refine k_iload_1 C 8 rfl 1 rfl ?_
  obtain ⟨i17, hi, hin, hf⟩ := ixd_some hf
  refine k_iald C 9 rfl 7 W_c7 hin hi ?_
  refine k_icmp_ne C 10 rfl 25 (by decide) (fun hc => ?_) (fun hc => ?_)
  · replace hf := if_f hf hc
    refine k_iconst C 13 rfl ci_0 ?_
    exact k_zretP hR 14 rfl hf
  · replace hf := if_t hf hc
    refine k_iconst C 11 rfl ci_1 ?_
    refine k_goto C 12 rfl 26 (by decide) ?_
    exact k_zretP hR 14 rfl hf
set_option maxHeartbeats 1000000 in
set_option maxRecDepth 20000 in
theorem c_X10_isGoing (l : Launch) (D : va_G) (cy : Nat → ClassId) (a : Nat → Nat) (T : Sg) (O : Sg) (E : Sg) (X : Sg) (p1 : Int32) (r : Bool) (hf : f_X10_isGoing O p1 = some r) : Ct l D cy yX10_isGoing cX10_isGoing 2 (some .boolean) 0 0 0 0 [.ref (a 0), .int p1] (wW cy a T O E X) (some (.int (bI r))) (wW cy a T O E X) := by
  refine Ct_z tX10_isGoing hX10_isGoing (by decide) (Nat.le_of_ble_eq_true rfl) ?_
  intro Z hZ C hR
  subst hZ
  replace C : Cx Z D cy RX10 tX10_isGoing 2 0 0 0 0 := C
  show Wk Z D 2 0 0 (wW cy a T O E X) 0 [(0, .ref (a 0)), (1, .int p1)] []
  unfold f_X10_isGoing at hf
  refine k_aload_0 C 0 rfl 0 rfl ?_
  refine kg10_1 C 1 rfl qX10_21 0 W_c0 W_f0_1 ?_
  refine kg2_3 C 2 rfl qX10_79 13 W_c13 W_f13_3 ?_
  refine k_iload_1 C 3 rfl 1 rfl ?_
  obtain ⟨i8, hi, hin, hf⟩ := ixd_some hf
  refine k_iald C 4 rfl 15 W_c15 hin hi ?_
  refine k_iconst C 5 rfl ci_m1 ?_
  refine k_icmp_eq C 6 rfl 17 (by decide) (fun hc => ?_) (fun hc => ?_)
  · replace hf := if_t hf hc
    refine k_iconst C 9 rfl ci_0 ?_
    exact k_zretP hR 10 rfl hf
  · replace hf := if_f hf hc
    refine k_iconst C 7 rfl ci_1 ?_
    refine k_goto C 8 rfl 18 (by decide) ?_
    exact k_zretP hR 10 rfl hf
set_option maxHeartbeats 1000000 in
set_option maxRecDepth 20000 in
theorem c_X10_placeOf (l : Launch) (D : va_G) (cy : Nat → ClassId) (a : Nat → Nat) (T : Sg) (O : Sg) (E : Sg) (X : Sg) (p1 : Int32) (r : Int32) (hf : f_X10_placeOf O p1 = some r) : Ct l D cy yX10_placeOf cX10_placeOf 2 (some .int) 1 21 0 0 [.ref (a 0), .int p1] (wW cy a T O E X) (some (.int r)) (wW cy a T O E X) := by
  refine Ct_i tX10_placeOf hX10_placeOf (by decide) (Nat.le_of_ble_eq_true rfl) ?_
  intro Z hZ C hR
  subst hZ
  replace C : Cx Z D cy RX10 tX10_placeOf 2 1 21 0 0 := C
  show Wk Z D 2 0 0 (wW cy a T O E X) 0 [(0, .ref (a 0)), (1, .int p1)] []
  unfold f_X10_placeOf at hf
  refine k_aload_0 C 0 rfl 0 rfl ?_
  refine k_iload_1 C 1 rfl 1 rfl ?_
  obtain ⟨r2, h5, hf⟩ := ob1_some hf
  refine k_callW C 2 (c_X10_isGoing Z.2.1 D cy a T O E X p1 r2 h5) rfl qX10_82 mvX10_isGoing 0 10 W_c0 rfl rfl rfl (Nat.le_of_ble_eq_true rfl) ⟨Nat.le_of_ble_eq_true rfl, Nat.le_of_ble_eq_true rfl, Nat.le_refl 0, Nat.le_refl 0⟩ ?_
  refine k_if_eq C 3 rfl 20 (by decide) (fun hc => ?_) (fun hc => ?_)
  · replace hf := if_t hf hc
    refine k_aload_0 C 10 rfl 0 rfl ?_
    refine kg10_1 C 11 rfl qX10_21 0 W_c0 W_f0_1 ?_
    refine kg2_2 C 12 rfl qX10_86 13 W_c13 W_f13_2 ?_
    refine k_iload_1 C 13 rfl 1 rfl ?_
    obtain ⟨i28, hi, hin, hf⟩ := ixd_some hf
    refine k_iald C 14 rfl 14 W_c14 hin hi ?_
    exact k_iretP hR 15 rfl hf
  · replace hf := if_f hf hc
    refine k_aload_0 C 4 rfl 0 rfl ?_
    refine kg10_1 C 5 rfl qX10_21 0 W_c0 W_f0_1 ?_
    refine kg2_3 C 6 rfl qX10_79 13 W_c13 W_f13_3 ?_
    refine k_iload_1 C 7 rfl 1 rfl ?_
    obtain ⟨i16, hi, hin, hf⟩ := ixd_some hf
    refine k_iald C 8 rfl 15 W_c15 hin hi ?_
    refine k_goto C 9 rfl 29 (by decide) ?_
    exact k_iretP hR 15 rfl hf
set_option maxHeartbeats 1000000 in
set_option maxRecDepth 20000 in
theorem c_X10_ridersIn (l : Launch) (D : va_G) (cy : Nat → ClassId) (a : Nat → Nat) (T : Sg) (O : Sg) (E : Sg) (X : Sg) (p1 : Int32) (r : Int32) (hf : f_X10_ridersIn T O p1 = some r) : Ct l D cy yX10_ridersIn cX10_ridersIn 4 (some .int) 0 0 0 0 [.ref (a 0), .int p1] (wW cy a T O E X) (some (.int r)) (wW cy a T O E X) := by
  refine Ct_i tX10_ridersIn hX10_ridersIn (by decide) (Nat.le_of_ble_eq_true rfl) ?_
  intro Z hZ C hR
  subst hZ
  replace C : Cx Z D cy RX10 tX10_ridersIn 4 0 0 0 0 := C
  show Wk Z D 4 0 0 (wW cy a T O E X) 0 [(0, .ref (a 0)), (1, .int p1)] []
  unfold f_X10_ridersIn at hf
  have hq4 : ∀ (k4 : Int32 → Int32 → Option (Int32)), (∀ (x2 : Int32) (x3 : Int32), k4 x2 x3 = some r → Wk Z D 4 0 0 (wW cy a T O E X) 4 [(0, .ref (a 0)), (1, .int p1), (2, .int x2), (3, .int x3)] []) → ∀ (x2 : Int32) (x3 : Int32), f_X10_ridersIn_b4 T O p1 k4 x2 x3 = some r → Wk Z D 4 0 0 (wW cy a T O E X) 4 [(0, .ref (a 0)), (1, .int p1), (2, .int x2), (3, .int x3)] [] := by
    intro k4 hk4 x2 x3 hf
    unfold f_X10_ridersIn_b4 at hf
    have hb34 : ∀ (x2 : Int32) (x3 : Int32), f_X10_ridersIn_b34 T O p1 k4 x2 x3 = some r → Wk Z D 4 0 0 (wW cy a T O E X) 34 [(0, .ref (a 0)), (1, .int p1), (2, .int x2), (3, .int x3)] [] := by
      intro x2 x3 hf
      unfold f_X10_ridersIn_b34 at hf
      obtain ⟨x3_34, hx, hf⟩ := bnd_some hf
      refine k_iinc C 22 rfl 3 rfl ((cn_1 _).trans hx) (by decide) rfl ?_
      refine k_sub (lv2 := [(0, .ref (a 0)), (1, .int p1), (2, .int x2), (3, .int x3_34)]) [1, 2, 3, 0] rfl ?_
      refine k_goto C 23 rfl 4 (by decide) ?_
      exact k_sub [0, 1, 2, 3] rfl (hk4 x2 x3_34 hf)
    refine k_iload_3 C 4 rfl 3 rfl ?_
    refine k_aload_0 C 5 rfl 0 rfl ?_
    refine kg10_0 C 6 rfl qX10_12 0 W_c0 W_f0_0 ?_
    refine kg9_2 C 7 rfl qX10_54 1 W_c1 W_f1_2 ?_
    refine k_icmp_ge C 8 rfl 40 (by decide) (fun hc => ?_) (fun hc => ?_)
    · replace hf := if_t hf hc
      refine k_iload_2 C 24 rfl 2 rfl ?_
      exact k_iretP hR 25 rfl hf
    · replace hf := if_f hf hc
      refine k_aload_0 C 9 rfl 0 rfl ?_
      refine kg10_1 C 10 rfl qX10_21 0 W_c0 W_f0_1 ?_
      refine kg2_2 C 11 rfl qX10_86 13 W_c13 W_f13_2 ?_
      refine k_iload_3 C 12 rfl 3 rfl ?_
      obtain ⟨i23, hi, hin, hf⟩ := ixd_some hf
      refine k_iald C 13 rfl 14 W_c14 hin hi ?_
      refine k_iload_1 C 14 rfl 1 rfl ?_
      refine k_icmp_ne C 15 rfl 34 (by decide) (fun hc => ?_) (fun hc => ?_)
      · replace hf := if_f hf hc
        exact k_sub [0, 1, 2, 3] rfl (hb34 x2 x3 hf)
      · replace hf := if_t hf hc
        refine k_iload_2 C 16 rfl 2 rfl ?_
        refine k_iconst C 17 rfl ci_1 ?_
        refine k_iload_3 C 18 rfl 3 rfl ?_
        refine k_ishl C 19 rfl ?_
        refine k_ior C 20 rfl ?_
        obtain ⟨x2_33, hx, hf⟩ := bnd_some hf
        refine k_topi hx ?_
        refine k_istore_2 C 21 rfl (by decide) rfl ?_
        refine k_sub (lv2 := [(0, .ref (a 0)), (1, .int p1), (2, .int x2_33), (3, .int x3)]) [1, 2, 0, 3] rfl ?_
        exact k_sub [0, 1, 2, 3] rfl (hb34 x2_33 x3 hf)
  have hb4 := flW2 hq4
  refine k_iconst C 0 rfl ci_0 ?_
  refine k_istore_2 C 1 rfl (by decide) rfl ?_
  refine k_sub (lv2 := [(0, .ref (a 0)), (1, .int p1), (2, .int 0)]) [1, 2, 0] rfl ?_
  refine k_iconst C 2 rfl ci_0 ?_
  refine k_istore_3 C 3 rfl (by decide) rfl ?_
  refine k_sub (lv2 := [(0, .ref (a 0)), (1, .int p1), (2, .int 0), (3, .int 0)]) [1, 2, 3, 0] rfl ?_
  exact k_sub [0, 1, 2, 3] rfl (hb4 FU 0 0 hf)
set_option maxHeartbeats 1000000 in
set_option maxRecDepth 20000 in
theorem c_X10_goerThrough (l : Launch) (D : va_G) (cy : Nat → ClassId) (a : Nat → Nat) (T : Sg) (O : Sg) (E : Sg) (X : Sg) (p1 : Int32) (r : Int32) (hf : f_X10_goerThrough T O p1 = some r) : Ct l D cy yX10_goerThrough cX10_goerThrough 3 (some .int) 0 0 0 0 [.ref (a 0), .int p1] (wW cy a T O E X) (some (.int r)) (wW cy a T O E X) := by
  refine Ct_i tX10_goerThrough hX10_goerThrough (by decide) (Nat.le_of_ble_eq_true rfl) ?_
  intro Z hZ C hR
  subst hZ
  replace C : Cx Z D cy RX10 tX10_goerThrough 3 0 0 0 0 := C
  show Wk Z D 3 0 0 (wW cy a T O E X) 0 [(0, .ref (a 0)), (1, .int p1)] []
  unfold f_X10_goerThrough at hf
  have hq2 : ∀ (k2 : Int32 → Option (Int32)), (∀ (x2 : Int32), k2 x2 = some r → Wk Z D 3 0 0 (wW cy a T O E X) 2 [(0, .ref (a 0)), (1, .int p1), (2, .int x2)] []) → ∀ (x2 : Int32), f_X10_goerThrough_b2 T O p1 k2 x2 = some r → Wk Z D 3 0 0 (wW cy a T O E X) 2 [(0, .ref (a 0)), (1, .int p1), (2, .int x2)] [] := by
    intro k2 hk2 x2 hf
    unfold f_X10_goerThrough_b2 at hf
    refine k_iload_2 C 2 rfl 2 rfl ?_
    refine k_aload_0 C 3 rfl 0 rfl ?_
    refine kg10_0 C 4 rfl qX10_12 0 W_c0 W_f0_0 ?_
    refine kg9_2 C 5 rfl qX10_54 1 W_c1 W_f1_2 ?_
    refine k_icmp_ge C 6 rfl 34 (by decide) (fun hc => ?_) (fun hc => ?_)
    · replace hf := if_t hf hc
      refine k_iconst C 18 rfl ci_m1 ?_
      exact k_iretP hR 19 rfl hf
    · replace hf := if_f hf hc
      refine k_aload_0 C 7 rfl 0 rfl ?_
      refine kg10_1 C 8 rfl qX10_21 0 W_c0 W_f0_1 ?_
      refine kg2_5 C 9 rfl qX10_89 13 W_c13 W_f13_5 ?_
      refine k_iload_2 C 10 rfl 2 rfl ?_
      obtain ⟨i21, hi, hin, hf⟩ := ixd_some hf
      refine k_iald C 11 rfl 17 W_c17 hin hi ?_
      refine k_iload_1 C 12 rfl 1 rfl ?_
      refine k_icmp_ne C 13 rfl 28 (by decide) (fun hc => ?_) (fun hc => ?_)
      · replace hf := if_f hf hc
        obtain ⟨x2_28, hx, hf⟩ := bnd_some hf
        refine k_iinc C 16 rfl 2 rfl ((cn_1 _).trans hx) (by decide) rfl ?_
        refine k_sub (lv2 := [(0, .ref (a 0)), (1, .int p1), (2, .int x2_28)]) [1, 2, 0] rfl ?_
        refine k_goto C 17 rfl 2 (by decide) ?_
        exact k_sub [0, 1, 2] rfl (hk2 x2_28 hf)
      · replace hf := if_t hf hc
        refine k_iload_2 C 14 rfl 2 rfl ?_
        exact k_iretP hR 15 rfl hf
  have hb2 := flW1 hq2
  refine k_iconst C 0 rfl ci_0 ?_
  refine k_istore_2 C 1 rfl (by decide) rfl ?_
  refine k_sub (lv2 := [(0, .ref (a 0)), (1, .int p1), (2, .int 0)]) [1, 2, 0] rfl ?_
  exact k_sub [0, 1, 2] rfl (hb2 FU 0 hf)
set_option maxHeartbeats 1000000 in
set_option maxRecDepth 20000 in
theorem c_X10_goers (l : Launch) (D : va_G) (cy : Nat → ClassId) (a : Nat → Nat) (T : Sg) (O : Sg) (E : Sg) (X : Sg) (r : Int32) (hf : f_X10_goers T O = some r) : Ct l D cy yX10_goers cX10_goers 3 (some .int) 1 21 0 0 [.ref (a 0)] (wW cy a T O E X) (some (.int r)) (wW cy a T O E X) := by
  refine Ct_i tX10_goers hX10_goers (by decide) (Nat.le_of_ble_eq_true rfl) ?_
  intro Z hZ C hR
  subst hZ
  replace C : Cx Z D cy RX10 tX10_goers 3 1 21 0 0 := C
  show Wk Z D 3 0 0 (wW cy a T O E X) 0 [(0, .ref (a 0))] []
  unfold f_X10_goers at hf
  have hq4 : ∀ (k4 : Int32 → Int32 → Option (Int32)), (∀ (x1 : Int32) (x2 : Int32), k4 x1 x2 = some r → Wk Z D 3 0 0 (wW cy a T O E X) 4 [(0, .ref (a 0)), (1, .int x1), (2, .int x2)] []) → ∀ (x1 : Int32) (x2 : Int32), f_X10_goers_b4 T O k4 x1 x2 = some r → Wk Z D 3 0 0 (wW cy a T O E X) 4 [(0, .ref (a 0)), (1, .int x1), (2, .int x2)] [] := by
    intro k4 hk4 x1 x2 hf
    unfold f_X10_goers_b4 at hf
    have hb26 : ∀ (x1 : Int32) (x2 : Int32), f_X10_goers_b26 T O k4 x1 x2 = some r → Wk Z D 3 0 0 (wW cy a T O E X) 26 [(0, .ref (a 0)), (1, .int x1), (2, .int x2)] [] := by
      intro x1 x2 hf
      unfold f_X10_goers_b26 at hf
      obtain ⟨x2_26, hx, hf⟩ := bnd_some hf
      refine k_iinc C 14 rfl 2 rfl ((cn_1 _).trans hx) (by decide) rfl ?_
      refine k_sub (lv2 := [(0, .ref (a 0)), (1, .int x1), (2, .int x2_26)]) [1, 2, 0] rfl ?_
      refine k_goto C 15 rfl 4 (by decide) ?_
      exact k_sub [0, 1, 2] rfl (hk4 x1 x2_26 hf)
    refine k_iload_2 C 4 rfl 2 rfl ?_
    refine k_aload_0 C 5 rfl 0 rfl ?_
    refine kg10_0 C 6 rfl qX10_12 0 W_c0 W_f0_0 ?_
    refine kg9_2 C 7 rfl qX10_54 1 W_c1 W_f1_2 ?_
    refine k_icmp_ge C 8 rfl 32 (by decide) (fun hc => ?_) (fun hc => ?_)
    · replace hf := if_t hf hc
      refine k_iload_1 C 16 rfl 1 rfl ?_
      exact k_iretP hR 17 rfl hf
    · replace hf := if_f hf hc
      refine k_aload_0 C 9 rfl 0 rfl ?_
      refine k_iload_2 C 10 rfl 2 rfl ?_
      obtain ⟨r17, h5, hf⟩ := ob1_some hf
      refine k_callW C 11 (c_X10_isGoing Z.2.1 D cy a T O E X x2 r17 h5) rfl qX10_82 mvX10_isGoing 0 10 W_c0 rfl rfl rfl (Nat.le_of_ble_eq_true rfl) ⟨Nat.le_of_ble_eq_true rfl, Nat.le_of_ble_eq_true rfl, Nat.le_refl 0, Nat.le_refl 0⟩ ?_
      refine k_if_eq C 12 rfl 26 (by decide) (fun hc => ?_) (fun hc => ?_)
      · replace hf := if_t hf hc
        exact k_sub [0, 1, 2] rfl (hb26 x1 x2 hf)
      · replace hf := if_f hf hc
        obtain ⟨x1_23, hx, hf⟩ := bnd_some hf
        refine k_iinc C 13 rfl 1 rfl ((cn_1 _).trans hx) (by decide) rfl ?_
        refine k_sub (lv2 := [(0, .ref (a 0)), (1, .int x1_23), (2, .int x2)]) [1, 0, 2] rfl ?_
        exact k_sub [0, 1, 2] rfl (hb26 x1_23 x2 hf)
  have hb4 := flW2 hq4
  refine k_iconst C 0 rfl ci_0 ?_
  refine k_istore_1 C 1 rfl (by decide) rfl ?_
  refine k_sub (lv2 := [(0, .ref (a 0)), (1, .int 0)]) [1, 0] rfl ?_
  refine k_iconst C 2 rfl ci_0 ?_
  refine k_istore_2 C 3 rfl (by decide) rfl ?_
  refine k_sub (lv2 := [(0, .ref (a 0)), (1, .int 0), (2, .int 0)]) [1, 2, 0] rfl ?_
  exact k_sub [0, 1, 2] rfl (hb4 FU 0 0 hf)
set_option maxHeartbeats 1000000 in
set_option maxRecDepth 20000 in
theorem c_X10_ridersWhoAreRight (l : Launch) (D : va_G) (cy : Nat → ClassId) (a : Nat → Nat) (T : Sg) (O : Sg) (E : Sg) (X : Sg) (r : Int32) (hf : f_X10_ridersWhoAreRight T O = some r) : Ct l D cy yX10_ridersWhoAreRight cX10_ridersWhoAreRight 3 (some .int) 1 22 0 0 [.ref (a 0)] (wW cy a T O E X) (some (.int r)) (wW cy a T O E X) := by
  refine Ct_i tX10_ridersWhoAreRight hX10_ridersWhoAreRight (by decide) (Nat.le_of_ble_eq_true rfl) ?_
  intro Z hZ C hR
  subst hZ
  replace C : Cx Z D cy RX10 tX10_ridersWhoAreRight 3 1 22 0 0 := C
  show Wk Z D 3 0 0 (wW cy a T O E X) 0 [(0, .ref (a 0))] []
  unfold f_X10_ridersWhoAreRight at hf
  have hq4 : ∀ (k4 : Int32 → Int32 → Option (Int32)), (∀ (x1 : Int32) (x2 : Int32), k4 x1 x2 = some r → Wk Z D 3 0 0 (wW cy a T O E X) 4 [(0, .ref (a 0)), (1, .int x1), (2, .int x2)] []) → ∀ (x1 : Int32) (x2 : Int32), f_X10_ridersWhoAreRight_b4 T O k4 x1 x2 = some r → Wk Z D 3 0 0 (wW cy a T O E X) 4 [(0, .ref (a 0)), (1, .int x1), (2, .int x2)] [] := by
    intro k4 hk4 x1 x2 hf
    unfold f_X10_ridersWhoAreRight_b4 at hf
    have hb35 : ∀ (x1 : Int32) (x2 : Int32), f_X10_ridersWhoAreRight_b35 T O k4 x1 x2 = some r → Wk Z D 3 0 0 (wW cy a T O E X) 35 [(0, .ref (a 0)), (1, .int x1), (2, .int x2)] [] := by
      intro x1 x2 hf
      unfold f_X10_ridersWhoAreRight_b35 at hf
      obtain ⟨x2_35, hx, hf⟩ := bnd_some hf
      refine k_iinc C 19 rfl 2 rfl ((cn_1 _).trans hx) (by decide) rfl ?_
      refine k_sub (lv2 := [(0, .ref (a 0)), (1, .int x1), (2, .int x2_35)]) [1, 2, 0] rfl ?_
      refine k_goto C 20 rfl 4 (by decide) ?_
      exact k_sub [0, 1, 2] rfl (hk4 x1 x2_35 hf)
    refine k_iload_2 C 4 rfl 2 rfl ?_
    refine k_aload_0 C 5 rfl 0 rfl ?_
    refine kg10_0 C 6 rfl qX10_12 0 W_c0 W_f0_0 ?_
    refine kg9_2 C 7 rfl qX10_54 1 W_c1 W_f1_2 ?_
    refine k_icmp_ge C 8 rfl 41 (by decide) (fun hc => ?_) (fun hc => ?_)
    · replace hf := if_t hf hc
      refine k_iload_1 C 21 rfl 1 rfl ?_
      exact k_iretP hR 22 rfl hf
    · replace hf := if_f hf hc
      refine k_aload_0 C 9 rfl 0 rfl ?_
      refine k_iload_2 C 10 rfl 2 rfl ?_
      refine k_aload_0 C 11 rfl 0 rfl ?_
      refine kg10_1 C 12 rfl qX10_21 0 W_c0 W_f0_1 ?_
      refine kg2_2 C 13 rfl qX10_86 13 W_c13 W_f13_2 ?_
      refine k_iload_2 C 14 rfl 2 rfl ?_
      obtain ⟨i25, hi, hin, hf⟩ := ixd_some hf
      refine k_iald C 15 rfl 14 W_c14 hin hi ?_
      obtain ⟨r26, h5, hf⟩ := ob1_some hf
      refine k_callW C 16 (c_X10_isRight Z.2.1 D cy a T O E X x2 (O.2.1 2 i25) r26 h5) rfl qX10_92 mvX10_isRight 0 10 W_c0 rfl rfl rfl (Nat.le_of_ble_eq_true rfl) ⟨Nat.le_of_ble_eq_true rfl, Nat.le_of_ble_eq_true rfl, Nat.le_refl 0, Nat.le_refl 0⟩ ?_
      refine k_if_eq C 17 rfl 35 (by decide) (fun hc => ?_) (fun hc => ?_)
      · replace hf := if_t hf hc
        exact k_sub [0, 1, 2] rfl (hb35 x1 x2 hf)
      · replace hf := if_f hf hc
        obtain ⟨x1_32, hx, hf⟩ := bnd_some hf
        refine k_iinc C 18 rfl 1 rfl ((cn_1 _).trans hx) (by decide) rfl ?_
        refine k_sub (lv2 := [(0, .ref (a 0)), (1, .int x1_32), (2, .int x2)]) [1, 0, 2] rfl ?_
        exact k_sub [0, 1, 2] rfl (hb35 x1_32 x2 hf)
  have hb4 := flW2 hq4
  refine k_iconst C 0 rfl ci_0 ?_
  refine k_istore_1 C 1 rfl (by decide) rfl ?_
  refine k_sub (lv2 := [(0, .ref (a 0)), (1, .int 0)]) [1, 0] rfl ?_
  refine k_iconst C 2 rfl ci_0 ?_
  refine k_istore_2 C 3 rfl (by decide) rfl ?_
  refine k_sub (lv2 := [(0, .ref (a 0)), (1, .int 0), (2, .int 0)]) [1, 2, 0] rfl ?_
  exact k_sub [0, 1, 2] rfl (hb4 FU 0 0 hf)
set_option maxHeartbeats 1000000 in
set_option maxRecDepth 20000 in
theorem c_X10_insideBegin (l : Launch) (D : va_G) (cy : Nat → ClassId) (a : Nat → Nat) (T : Sg) (O : Sg) (E : Sg) (X : Sg) (p1 : Int32) (p2 : Int32) (p3 : Int32) (p4 : Int32) (r : Int32) (hf : f_X10_insideBegin T O p1 p2 p3 p4 = some r) : Ct l D cy yX10_insideBegin cX10_insideBegin 8 (some .int) 1 200 0 0 [.ref (a 0), .int p1, .int p2, .int p3, .int p4] (wW cy a T O E X) (some (.int r)) (wW cy a T O E X) := by
  refine Ct_i tX10_insideBegin hX10_insideBegin (by decide) (Nat.le_of_ble_eq_true rfl) ?_
  intro Z hZ C hR
  subst hZ
  replace C : Cx Z D cy RX10 tX10_insideBegin 8 1 200 0 0 := C
  show Wk Z D 8 0 0 (wW cy a T O E X) 0 [(0, .ref (a 0)), (1, .int p1), (2, .int p2), (3, .int p3), (4, .int p4)] []
  unfold f_X10_insideBegin at hf
  have hb94 : ∀ (x6 : Int32), f_X10_insideBegin_b94 T O p1 p2 p3 p4 x6 = some r → Wk Z D 8 0 0 (wW cy a T O E X) 94 [(6, .int x6)] [] := by
    intro x6 hf
    unfold f_X10_insideBegin_b94 at hf
    refine k_iload C 48 rfl 0 rfl ?_
    exact k_iretP hR 49 rfl hf
  have hb62 : ∀ (x6 : Int32) (s0 : Int32), f_X10_insideBegin_b62 T O p1 p2 p3 p4 x6 s0 = some r → Wk Z D 8 0 0 (wW cy a T O E X) 62 [(0, .ref (a 0)), (1, .int p1), (6, .int x6)] [.int s0] := by
    intro x6 s0 hf
    unfold f_X10_insideBegin_b62 at hf
    refine k_istore C 32 rfl (by decide) rfl ?_
    refine k_sub (lv2 := [(0, .ref (a 0)), (1, .int p1), (6, .int x6), (7, .int s0)]) [1, 2, 3, 0] rfl ?_
    refine k_iload C 33 rfl 3 rfl ?_
    refine k_if_eq C 34 rfl 94 (by decide) (fun hc => ?_) (fun hc => ?_)
    · replace hf := if_t hf hc
      exact k_sub [2] rfl (hb94 x6 hf)
    · replace hf := if_f hf hc
      refine k_iload C 35 rfl 2 rfl ?_
      refine k_aload_0 C 36 rfl 0 rfl ?_
      refine kg10_0 C 37 rfl qX10_12 0 W_c0 W_f0_0 ?_
      refine kg9_15 C 38 rfl qX10_112 1 W_c1 W_f1_15 ?_
      refine k_iload_1 C 39 rfl 1 rfl ?_
      obtain ⟨i79, hi, hin, hf⟩ := ixd_some hf
      refine k_iald C 40 rfl 11 W_c11 hin hi ?_
      refine k_iadd C 41 rfl ?_
      refine k_aload_0 C 42 rfl 0 rfl ?_
      refine kg10_0 C 43 rfl qX10_12 0 W_c0 W_f0_0 ?_
      refine kg9_4 C 44 rfl qX10_115 1 W_c1 W_f1_4 ?_
      refine k_icmp_le C 45 rfl 94 (by decide) (fun hc => ?_) (fun hc => ?_)
      · replace hf := if_t hf hc
        exact k_sub [2] rfl (hb94 x6 hf)
      · replace hf := if_f hf hc
        refine k_ldc C 46 rfl qX10_105 ?_
        exact k_iretP hR 47 rfl hf
  refine k_iload_2 C 0 rfl 2 rfl ?_
  refine k_iload_3 C 1 rfl 3 rfl ?_
  refine k_mmin C 2 rfl qX10_96 jw_min (Nat.le_of_ble_eq_true rfl) (Nat.le_of_ble_eq_true rfl) (Nat.le_of_ble_eq_true rfl) ⟨Nat.le_refl 0, Nat.le_refl 0⟩ ?_
  obtain ⟨x5_5, hx, hf⟩ := bnd_some hf
  refine k_topi hx ?_
  refine k_istore C 3 rfl (by decide) rfl ?_
  refine k_sub (lv2 := [(0, .ref (a 0)), (1, .int p1), (2, .int p2), (3, .int p3), (4, .int p4), (5, .int x5_5)]) [1, 2, 3, 4, 5, 0] rfl ?_
  refine k_aload_0 C 4 rfl 0 rfl ?_
  refine k_iload C 5 rfl 5 rfl ?_
  obtain ⟨r10, h5, hf⟩ := ob1_some hf
  refine k_callW C 6 (c_X10_isShut Z.2.1 D cy a T O E X x5_5 r10 h5) rfl qX10_102 mvX10_isShut 0 10 W_c0 rfl rfl rfl (Nat.le_of_ble_eq_true rfl) ⟨Nat.le_of_ble_eq_true rfl, Nat.le_of_ble_eq_true rfl, Nat.le_refl 0, Nat.le_refl 0⟩ ?_
  refine k_if_eq C 7 rfl 19 (by decide) (fun hc => ?_) (fun hc => ?_)
  · replace hf := if_t hf hc
    refine k_iload C 10 rfl 4 rfl ?_
    refine k_aload_0 C 11 rfl 0 rfl ?_
    refine kg10_0 C 12 rfl qX10_12 0 W_c0 W_f0_0 ?_
    refine kg9_8 C 13 rfl qX10_106 1 W_c1 W_f1_8 ?_
    refine k_iload C 14 rfl 5 rfl ?_
    obtain ⟨i30, hi, hin, hf⟩ := ixd_some hf
    refine k_iald C 15 rfl 4 W_c4 hin hi ?_
    refine k_mmax C 16 rfl qX10_109 jw_max (Nat.le_of_ble_eq_true rfl) (Nat.le_of_ble_eq_true rfl) (Nat.le_of_ble_eq_true rfl) ⟨Nat.le_refl 0, Nat.le_refl 0⟩ ?_
    obtain ⟨x6_34, hx, hf⟩ := bnd_some hf
    refine k_topi hx ?_
    refine k_istore C 17 rfl (by decide) rfl ?_
    refine k_sub (lv2 := [(0, .ref (a 0)), (1, .int p1), (2, .int p2), (3, .int p3), (4, .int p4), (5, .int x5_5), (6, .int x6_34)]) [1, 2, 3, 4, 5, 6, 0] rfl ?_
    refine k_aload_0 C 18 rfl 0 rfl ?_
    refine kg10_0 C 19 rfl qX10_12 0 W_c0 W_f0_0 ?_
    refine kg9_6 C 20 rfl qX10_73 1 W_c1 W_f1_6 ?_
    refine k_iload_2 C 21 rfl 2 rfl ?_
    obtain ⟨i44, hi, hin, hf⟩ := ixd_some hf
    refine k_iald C 22 rfl 2 W_c2 hin hi ?_
    refine k_aload_0 C 23 rfl 0 rfl ?_
    refine kg10_0 C 24 rfl qX10_12 0 W_c0 W_f0_0 ?_
    refine kg9_6 C 25 rfl qX10_73 1 W_c1 W_f1_6 ?_
    refine k_iload_3 C 26 rfl 3 rfl ?_
    obtain ⟨i53, hi, hin, hf⟩ := ixd_some hf
    refine k_iald C 27 rfl 2 W_c2 hin hi ?_
    refine k_icmp_eq C 28 rfl 61 (by decide) (fun hc => ?_) (fun hc => ?_)
    · replace hf := if_t hf hc
      refine k_iconst C 31 rfl ci_0 ?_
      exact k_sub [0, 1, 6] rfl (hb62 x6_34 0 hf)
    · replace hf := if_f hf hc
      refine k_iconst C 29 rfl ci_1 ?_
      refine k_goto C 30 rfl 62 (by decide) ?_
      exact k_sub [0, 1, 6] rfl (hb62 x6_34 1 hf)
  · replace hf := if_f hf hc
    refine k_ldc C 8 rfl qX10_105 ?_
    exact k_iretP hR 9 rfl hf
set_option maxHeartbeats 1000000 in
set_option maxRecDepth 20000 in
theorem c_X10_insideLatest (l : Launch) (D : va_G) (cy : Nat → ClassId) (a : Nat → Nat) (T : Sg) (O : Sg) (E : Sg) (X : Sg) (p1 : Int32) (p2 : Int32) (p3 : Int32) (p4 : Int32) (r : Int32) (hf : f_X10_insideLatest T O p1 p2 p3 p4 = some r) : Ct l D cy yX10_insideLatest cX10_insideLatest 7 (some .int) 1 200 0 0 [.ref (a 0), .int p1, .int p2, .int p3, .int p4] (wW cy a T O E X) (some (.int r)) (wW cy a T O E X) := by
  refine Ct_i tX10_insideLatest hX10_insideLatest (by decide) (Nat.le_of_ble_eq_true rfl) ?_
  intro Z hZ C hR
  subst hZ
  replace C : Cx Z D cy RX10 tX10_insideLatest 7 1 200 0 0 := C
  show Wk Z D 7 0 0 (wW cy a T O E X) 0 [(0, .ref (a 0)), (1, .int p1), (2, .int p2), (3, .int p3), (4, .int p4)] []
  unfold f_X10_insideLatest at hf
  have hb55 : f_X10_insideLatest_b55 T O p1 p2 p3 p4 = some r → Wk Z D 7 0 0 (wW cy a T O E X) 55 [] [] := by
    intro  hf
    unfold f_X10_insideLatest_b55 at hf
    refine k_iconst C 27 rfl ci_m1 ?_
    refine k_goto C 28 rfl 61 (by decide) ?_
    exact k_iretP hR 30 rfl hf
  refine k_iload_2 C 0 rfl 2 rfl ?_
  refine k_iload_3 C 1 rfl 3 rfl ?_
  refine k_mmin C 2 rfl qX10_96 jw_min (Nat.le_of_ble_eq_true rfl) (Nat.le_of_ble_eq_true rfl) (Nat.le_of_ble_eq_true rfl) ⟨Nat.le_refl 0, Nat.le_refl 0⟩ ?_
  obtain ⟨x5_5, hx, hf⟩ := bnd_some hf
  refine k_topi hx ?_
  refine k_istore C 3 rfl (by decide) rfl ?_
  refine k_sub (lv2 := [(0, .ref (a 0)), (1, .int p1), (2, .int p2), (3, .int p3), (4, .int p4), (5, .int x5_5)]) [1, 2, 3, 4, 5, 0] rfl ?_
  refine k_iload C 4 rfl 4 rfl ?_
  refine k_aload_0 C 5 rfl 0 rfl ?_
  refine kg10_0 C 6 rfl qX10_12 0 W_c0 W_f0_0 ?_
  refine kg9_4 C 7 rfl qX10_115 1 W_c1 W_f1_4 ?_
  refine k_mmin C 8 rfl qX10_96 jw_min (Nat.le_of_ble_eq_true rfl) (Nat.le_of_ble_eq_true rfl) (Nat.le_of_ble_eq_true rfl) ⟨Nat.le_refl 0, Nat.le_refl 0⟩ ?_
  refine k_aload_0 C 9 rfl 0 rfl ?_
  refine kg10_0 C 10 rfl qX10_12 0 W_c0 W_f0_0 ?_
  refine kg9_15 C 11 rfl qX10_112 1 W_c1 W_f1_15 ?_
  refine k_iload_1 C 12 rfl 1 rfl ?_
  obtain ⟨i27, hi, hin, hf⟩ := ixd_some hf
  refine k_iald C 13 rfl 11 W_c11 hin hi ?_
  refine k_isub C 14 rfl ?_
  obtain ⟨x6_29, hx, hf⟩ := bnd_some hf
  refine k_topi hx ?_
  refine k_istore C 15 rfl (by decide) rfl ?_
  refine k_sub (lv2 := [(0, .ref (a 0)), (1, .int p1), (2, .int p2), (3, .int p3), (4, .int p4), (5, .int x5_5), (6, .int x6_29)]) [1, 2, 3, 4, 5, 6, 0] rfl ?_
  refine k_aload_0 C 16 rfl 0 rfl ?_
  refine k_iload C 17 rfl 5 rfl ?_
  obtain ⟨r34, h5, hf⟩ := ob1_some hf
  refine k_callW C 18 (c_X10_isShut Z.2.1 D cy a T O E X x5_5 r34 h5) rfl qX10_102 mvX10_isShut 0 10 W_c0 rfl rfl rfl (Nat.le_of_ble_eq_true rfl) ⟨Nat.le_of_ble_eq_true rfl, Nat.le_of_ble_eq_true rfl, Nat.le_refl 0, Nat.le_refl 0⟩ ?_
  refine k_if_ne C 19 rfl 55 (by decide) (fun hc => ?_) (fun hc => ?_)
  · replace hf := if_f hf hc
    exact k_sub [] rfl (hb55  hf)
  · replace hf := if_t hf hc
    refine k_iload C 20 rfl 6 rfl ?_
    refine k_aload_0 C 21 rfl 0 rfl ?_
    refine kg10_0 C 22 rfl qX10_12 0 W_c0 W_f0_0 ?_
    refine kg9_8 C 23 rfl qX10_106 1 W_c1 W_f1_8 ?_
    refine k_iload C 24 rfl 5 rfl ?_
    obtain ⟨i51, hi, hin, hf⟩ := ixd_some hf
    refine k_iald C 25 rfl 4 W_c4 hin hi ?_
    refine k_icmp_ge C 26 rfl 59 (by decide) (fun hc => ?_) (fun hc => ?_)
    · replace hf := if_t hf hc
      refine k_iload C 29 rfl 6 rfl ?_
      exact k_iretP hR 30 rfl hf
    · replace hf := if_f hf hc
      exact k_sub [] rfl (hb55  hf)
set_option maxHeartbeats 1000000 in
set_option maxRecDepth 20000 in
theorem c_X10_outsideSeconds (l : Launch) (D : va_G) (cy : Nat → ClassId) (a : Nat → Nat) (T : Sg) (O : Sg) (E : Sg) (X : Sg) (p1 : Int32) (p2 : Int32) (p3 : Int32) (r : Int32) (hf : f_X10_outsideSeconds T p1 p2 p3 = some r) : Ct l D cy yX10_outsideSeconds cX10_outsideSeconds 4 (some .int) 1 200 0 0 [.ref (a 0), .int p1, .int p2, .int p3] (wW cy a T O E X) (some (.int r)) (wW cy a T O E X) := by
  refine Ct_i tX10_outsideSeconds hX10_outsideSeconds (by decide) (Nat.le_of_ble_eq_true rfl) ?_
  intro Z hZ C hR
  subst hZ
  replace C : Cx Z D cy RX10 tX10_outsideSeconds 4 1 200 0 0 := C
  show Wk Z D 4 0 0 (wW cy a T O E X) 0 [(0, .ref (a 0)), (1, .int p1), (2, .int p2), (3, .int p3)] []
  unfold f_X10_outsideSeconds at hf
  refine k_iload_3 C 0 rfl 3 rfl ?_
  refine k_iload_2 C 1 rfl 2 rfl ?_
  refine k_isub C 2 rfl ?_
  refine k_mabs C 3 rfl qX10_118 jw_abs (Nat.le_of_ble_eq_true rfl) (Nat.le_of_ble_eq_true rfl) (Nat.le_of_ble_eq_true rfl) ⟨Nat.le_refl 0, Nat.le_refl 0⟩ ?_
  refine k_aload_0 C 4 rfl 0 rfl ?_
  refine kg10_0 C 5 rfl qX10_12 0 W_c0 W_f0_0 ?_
  refine kg9_16 C 6 rfl qX10_122 1 W_c1 W_f1_16 ?_
  refine k_iload_1 C 7 rfl 1 rfl ?_
  obtain ⟨i14, hi, hin, hf⟩ := ixd_some hf
  refine k_iald C 8 rfl 12 W_c12 hin hi ?_
  refine k_imul C 9 rfl ?_
  exact k_iretP hR 10 rfl hf
set_option maxHeartbeats 1000000 in
set_option maxRecDepth 20000 in
theorem c_X10_outsideBegin (l : Launch) (D : va_G) (cy : Nat → ClassId) (a : Nat → Nat) (T : Sg) (O : Sg) (E : Sg) (X : Sg) (p1 : Int32) (p2 : Int32) (r : Int32) (hf : f_X10_outsideBegin T p1 p2 = some r) : Ct l D cy yX10_outsideBegin cX10_outsideBegin 5 (some .int) 1 200 0 0 [.ref (a 0), .int p1, .int p2] (wW cy a T O E X) (some (.int r)) (wW cy a T O E X) := by
  refine Ct_i tX10_outsideBegin hX10_outsideBegin (by decide) (Nat.le_of_ble_eq_true rfl) ?_
  intro Z hZ C hR
  subst hZ
  replace C : Cx Z D cy RX10 tX10_outsideBegin 5 1 200 0 0 := C
  show Wk Z D 5 0 0 (wW cy a T O E X) 0 [(0, .ref (a 0)), (1, .int p1), (2, .int p2)] []
  unfold f_X10_outsideBegin at hf
  have hq2 : ∀ (k2 : Int32 → Option (Int32)), (∀ (x3 : Int32), k2 x3 = some r → Wk Z D 5 0 0 (wW cy a T O E X) 2 [(0, .ref (a 0)), (1, .int p1), (2, .int p2), (3, .int x3)] []) → ∀ (x3 : Int32), f_X10_outsideBegin_b2 T p1 p2 k2 x3 = some r → Wk Z D 5 0 0 (wW cy a T O E X) 2 [(0, .ref (a 0)), (1, .int p1), (2, .int p2), (3, .int x3)] [] := by
    intro k2 hk2 x3 hf
    unfold f_X10_outsideBegin_b2 at hf
    refine k_iload_3 C 2 rfl 3 rfl ?_
    refine k_aload_0 C 3 rfl 0 rfl ?_
    refine kg10_0 C 4 rfl qX10_12 0 W_c0 W_f0_0 ?_
    refine kg9_3 C 5 rfl qX10_125 1 W_c1 W_f1_3 ?_
    refine k_icmp_gt C 6 rfl 53 (by decide) (fun hc => ?_) (fun hc => ?_)
    · replace hf := if_t hf hc
      refine k_ldc C 28 rfl qX10_105 ?_
      exact k_iretP hR 29 rfl hf
    · replace hf := if_f hf hc
      refine k_iload_2 C 7 rfl 2 rfl ?_
      refine k_aload_0 C 8 rfl 0 rfl ?_
      refine kg10_0 C 9 rfl qX10_12 0 W_c0 W_f0_0 ?_
      refine kg9_9 C 10 rfl qX10_60 1 W_c1 W_f1_9 ?_
      refine k_iload_3 C 11 rfl 3 rfl ?_
      obtain ⟨i22, hi, hin, hf⟩ := ixd_some hf
      refine k_iald C 12 rfl 5 W_c5 hin hi ?_
      refine k_mmax C 13 rfl qX10_109 jw_max (Nat.le_of_ble_eq_true rfl) (Nat.le_of_ble_eq_true rfl) (Nat.le_of_ble_eq_true rfl) ⟨Nat.le_refl 0, Nat.le_refl 0⟩ ?_
      obtain ⟨x4_26, hx, hf⟩ := bnd_some hf
      refine k_topi hx ?_
      refine k_istore C 14 rfl (by decide) rfl ?_
      refine k_sub (lv2 := [(0, .ref (a 0)), (1, .int p1), (2, .int p2), (3, .int x3), (4, .int x4_26)]) [1, 2, 3, 4, 0] rfl ?_
      refine k_iload C 15 rfl 4 rfl ?_
      refine k_iload_1 C 16 rfl 1 rfl ?_
      refine k_iadd C 17 rfl ?_
      refine k_aload_0 C 18 rfl 0 rfl ?_
      refine kg10_0 C 19 rfl qX10_12 0 W_c0 W_f0_0 ?_
      refine kg9_10 C 20 rfl qX10_67 1 W_c1 W_f1_10 ?_
      refine k_iload_3 C 21 rfl 3 rfl ?_
      obtain ⟨i40, hi, hin, hf⟩ := ixd_some hf
      refine k_iald C 22 rfl 6 W_c6 hin hi ?_
      refine k_icmp_gt C 23 rfl 47 (by decide) (fun hc => ?_) (fun hc => ?_)
      · replace hf := if_t hf hc
        obtain ⟨x3_47, hx, hf⟩ := bnd_some hf
        refine k_iinc C 26 rfl 3 rfl ((cn_1 _).trans hx) (by decide) rfl ?_
        refine k_sub (lv2 := [(0, .ref (a 0)), (1, .int p1), (2, .int p2), (3, .int x3_47), (4, .int x4_26)]) [1, 2, 3, 0, 4] rfl ?_
        refine k_goto C 27 rfl 2 (by decide) ?_
        exact k_sub [0, 1, 2, 3] rfl (hk2 x3_47 hf)
      · replace hf := if_f hf hc
        refine k_iload C 24 rfl 4 rfl ?_
        exact k_iretP hR 25 rfl hf
  have hb2 := flW1 hq2
  refine k_iconst C 0 rfl ci_0 ?_
  refine k_istore_3 C 1 rfl (by decide) rfl ?_
  refine k_sub (lv2 := [(0, .ref (a 0)), (1, .int p1), (2, .int p2), (3, .int 0)]) [1, 2, 3, 0] rfl ?_
  exact k_sub [0, 1, 2, 3] rfl (hb2 FU 0 hf)
set_option maxHeartbeats 1000000 in
set_option maxRecDepth 20000 in
theorem c_X10_outsideLatest (l : Launch) (D : va_G) (cy : Nat → ClassId) (a : Nat → Nat) (T : Sg) (O : Sg) (E : Sg) (X : Sg) (p1 : Int32) (p2 : Int32) (r : Int32) (hf : f_X10_outsideLatest T p1 p2 = some r) : Ct l D cy yX10_outsideLatest cX10_outsideLatest 5 (some .int) 1 200 0 0 [.ref (a 0), .int p1, .int p2] (wW cy a T O E X) (some (.int r)) (wW cy a T O E X) := by
  refine Ct_i tX10_outsideLatest hX10_outsideLatest (by decide) (Nat.le_of_ble_eq_true rfl) ?_
  intro Z hZ C hR
  subst hZ
  replace C : Cx Z D cy RX10 tX10_outsideLatest 5 1 200 0 0 := C
  show Wk Z D 5 0 0 (wW cy a T O E X) 0 [(0, .ref (a 0)), (1, .int p1), (2, .int p2)] []
  unfold f_X10_outsideLatest at hf
  have hq8 : ∀ (k8 : Int32 → Option (Int32)), (∀ (x3 : Int32), k8 x3 = some r → Wk Z D 5 0 0 (wW cy a T O E X) 8 [(0, .ref (a 0)), (1, .int p1), (2, .int p2), (3, .int x3)] []) → ∀ (x3 : Int32), f_X10_outsideLatest_b8 T p1 p2 k8 x3 = some r → Wk Z D 5 0 0 (wW cy a T O E X) 8 [(0, .ref (a 0)), (1, .int p1), (2, .int p2), (3, .int x3)] [] := by
    intro k8 hk8 x3 hf
    unfold f_X10_outsideLatest_b8 at hf
    refine k_iload_3 C 4 rfl 3 rfl ?_
    refine k_if_lt C 5 rfl 52 (by decide) (fun hc => ?_) (fun hc => ?_)
    · replace hf := if_t hf hc
      refine k_iconst C 27 rfl ci_m1 ?_
      exact k_iretP hR 28 rfl hf
    · replace hf := if_f hf hc
      refine k_iload_2 C 6 rfl 2 rfl ?_
      refine k_aload_0 C 7 rfl 0 rfl ?_
      refine kg10_0 C 8 rfl qX10_12 0 W_c0 W_f0_0 ?_
      refine kg9_10 C 9 rfl qX10_67 1 W_c1 W_f1_10 ?_
      refine k_iload_3 C 10 rfl 3 rfl ?_
      obtain ⟨i21, hi, hin, hf⟩ := ixd_some hf
      refine k_iald C 11 rfl 6 W_c6 hin hi ?_
      refine k_mmin C 12 rfl qX10_96 jw_min (Nat.le_of_ble_eq_true rfl) (Nat.le_of_ble_eq_true rfl) (Nat.le_of_ble_eq_true rfl) ⟨Nat.le_refl 0, Nat.le_refl 0⟩ ?_
      refine k_iload_1 C 13 rfl 1 rfl ?_
      refine k_isub C 14 rfl ?_
      obtain ⟨x4_27, hx, hf⟩ := bnd_some hf
      refine k_topi hx ?_
      refine k_istore C 15 rfl (by decide) rfl ?_
      refine k_sub (lv2 := [(0, .ref (a 0)), (1, .int p1), (2, .int p2), (3, .int x3), (4, .int x4_27)]) [1, 2, 3, 4, 0] rfl ?_
      refine k_iload C 16 rfl 4 rfl ?_
      refine k_aload_0 C 17 rfl 0 rfl ?_
      refine kg10_0 C 18 rfl qX10_12 0 W_c0 W_f0_0 ?_
      refine kg9_9 C 19 rfl qX10_60 1 W_c1 W_f1_9 ?_
      refine k_iload_3 C 20 rfl 3 rfl ?_
      obtain ⟨i39, hi, hin, hf⟩ := ixd_some hf
      refine k_iald C 21 rfl 5 W_c5 hin hi ?_
      refine k_icmp_lt C 22 rfl 46 (by decide) (fun hc => ?_) (fun hc => ?_)
      · replace hf := if_t hf hc
        obtain ⟨x3_46, hx, hf⟩ := bnd_some hf
        refine k_iinc C 25 rfl 3 rfl ((cn_m1 _).trans hx) (by decide) rfl ?_
        refine k_sub (lv2 := [(0, .ref (a 0)), (1, .int p1), (2, .int p2), (3, .int x3_46), (4, .int x4_27)]) [1, 2, 3, 0, 4] rfl ?_
        refine k_goto C 26 rfl 8 (by decide) ?_
        exact k_sub [0, 1, 2, 3] rfl (hk8 x3_46 hf)
      · replace hf := if_f hf hc
        refine k_iload C 23 rfl 4 rfl ?_
        exact k_iretP hR 24 rfl hf
  have hb8 := flW1 hq8
  refine k_aload_0 C 0 rfl 0 rfl ?_
  refine kg10_0 C 1 rfl qX10_12 0 W_c0 W_f0_0 ?_
  refine kg9_3 C 2 rfl qX10_125 1 W_c1 W_f1_3 ?_
  obtain ⟨x3_7, hx, hf⟩ := bnd_some hf
  refine k_topi hx ?_
  refine k_istore_3 C 3 rfl (by decide) rfl ?_
  refine k_sub (lv2 := [(0, .ref (a 0)), (1, .int p1), (2, .int p2), (3, .int x3_7)]) [1, 2, 3, 0] rfl ?_
  exact k_sub [0, 1, 2, 3] rfl (hb8 FU x3_7 hf)
