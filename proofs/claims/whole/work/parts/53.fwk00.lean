set_option maxHeartbeats 1000000 in
set_option maxRecDepth 20000 in
theorem c_X11_feed (l : Launch) (D : va_G) (cy : Nat → ClassId) (fa : Nat → Nat) (ha : Nat → Nat) (kr : Nat → Nat) (rk : Nat → Nat) (lr : Nat → Nat) (tx : Nat → Nat) (da : Nat → Nat) (sr : Nat → Nat) (a : Nat → Nat) (F : Sg) (Q : Sg) (T : Sg) (O : Sg) (E : Sg) (X : Sg) (Td : Sg) (Od : Sg) (Ed : Sg) (Xd : Sg) (L : Sg) (K : Sg) (N : Sg) (S : Sg) (H : Sg) (p1 : Int32) (p2 : Int32) (p3 : Int32) (p4 : Int32) (p5 : Int32) (r : Int32) (Q1 : Sg) (hf : f_X11_feed Q p1 p2 p3 p4 p5 = some (r, Q1)) : Ct l D cy yX11_feed cX11_feed 6 (some .int) 1 22 0 0 [.ref (fa 0), .int p1, .int p2, .int p3, .int p4, .int p5] (wF cy fa ha kr rk lr tx da sr a F Q T O E X Td Od Ed Xd L K N S H) (some (.int r)) (wF cy fa ha kr rk lr tx da sr a F Q1 T O E X Td Od Ed Xd L K N S H) := by
  refine Ct_i tX11_feed hX11_feed (by decide) (Nat.le_of_ble_eq_true rfl) ?_
  intro Z hZ C hR
  subst hZ
  replace C : Cx Z D cy RX11 tX11_feed 6 1 22 0 0 := C
  show Wk Z D 6 0 0 (wF cy fa ha kr rk lr tx da sr a F Q T O E X Td Od Ed Xd L K N S H) 0 [(0, .ref (fa 0)), (1, .int p1), (2, .int p2), (3, .int p3), (4, .int p4), (5, .int p5)] []
  unfold f_X11_feed at hf
  refine k_aload_0 C 0 rfl 0 rfl ?_
  refine kg11_0 C 1 rfl qX11_12 0 F_c0 F_f0_0 ?_
  refine kg8_1 C 2 rfl qX11_85 11 F_c11 F_f11_1 ?_
  refine k_bipush C 3 rfl cb_20 ?_
  refine k_iadd C 4 rfl ?_
  refine k_sipush C 5 rfl cs_400 ?_
  refine k_icmp_le C 6 rfl 18 (by decide) (fun hc => ?_) (fun hc => ?_)
  · replace hf := if_t hf hc
    refine k_aload_0 C 9 rfl 0 rfl ?_
    refine kg11_0 C 10 rfl qX11_12 0 F_c0 F_f0_0 ?_
    refine k_iload_1 C 11 rfl 1 rfl ?_
    obtain ⟨Q_23, h5, hf⟩ := ob1_some hf
    refine k_callV (X := (wF cy fa ha kr rk lr tx da sr a F Q T O E X Td Od Ed Xd L K N S H).take 11) (Y := (wF cy fa ha kr rk lr tx da sr a F Q T O E X Td Od Ed Xd L K N S H).drop 16) (w2 := (wF cy fa ha kr rk lr tx da sr a F Q_23 T O E X Td Od Ed Xd L K N S H)) C 12 (c_X8_append Z.2.1 D cy tx Q p1 Q_23 h5) rfl qX11_88 mvX8_append 0 8 Q_c0 rfl rfl rfl rfl rfl (Nat.le_of_ble_eq_true rfl) ⟨Nat.le_of_ble_eq_true rfl, Nat.le_of_ble_eq_true rfl, Nat.le_refl 0, Nat.le_refl 0⟩ ?_
    refine k_aload_0 C 13 rfl 0 rfl ?_
    refine kg11_0 C 14 rfl qX11_12 0 F_c0 F_f0_0 ?_
    refine k_iload_2 C 15 rfl 2 rfl ?_
    obtain ⟨Q_31, h5, hf⟩ := ob1_some hf
    refine k_callV (X := (wF cy fa ha kr rk lr tx da sr a F Q_23 T O E X Td Od Ed Xd L K N S H).take 11) (Y := (wF cy fa ha kr rk lr tx da sr a F Q_23 T O E X Td Od Ed Xd L K N S H).drop 16) (w2 := (wF cy fa ha kr rk lr tx da sr a F Q_31 T O E X Td Od Ed Xd L K N S H)) C 16 (c_X8_append Z.2.1 D cy tx Q_23 p2 Q_31 h5) rfl qX11_88 mvX8_append 0 8 Q_c0 rfl rfl rfl rfl rfl (Nat.le_of_ble_eq_true rfl) ⟨Nat.le_of_ble_eq_true rfl, Nat.le_of_ble_eq_true rfl, Nat.le_refl 0, Nat.le_refl 0⟩ ?_
    refine k_aload_0 C 17 rfl 0 rfl ?_
    refine kg11_0 C 18 rfl qX11_12 0 F_c0 F_f0_0 ?_
    refine k_iload_3 C 19 rfl 3 rfl ?_
    obtain ⟨Q_39, h5, hf⟩ := ob1_some hf
    refine k_callV (X := (wF cy fa ha kr rk lr tx da sr a F Q_31 T O E X Td Od Ed Xd L K N S H).take 11) (Y := (wF cy fa ha kr rk lr tx da sr a F Q_31 T O E X Td Od Ed Xd L K N S H).drop 16) (w2 := (wF cy fa ha kr rk lr tx da sr a F Q_39 T O E X Td Od Ed Xd L K N S H)) C 20 (c_X8_append Z.2.1 D cy tx Q_31 p3 Q_39 h5) rfl qX11_88 mvX8_append 0 8 Q_c0 rfl rfl rfl rfl rfl (Nat.le_of_ble_eq_true rfl) ⟨Nat.le_of_ble_eq_true rfl, Nat.le_of_ble_eq_true rfl, Nat.le_refl 0, Nat.le_refl 0⟩ ?_
    refine k_aload_0 C 21 rfl 0 rfl ?_
    refine kg11_0 C 22 rfl qX11_12 0 F_c0 F_f0_0 ?_
    refine k_iload C 23 rfl 4 rfl ?_
    obtain ⟨Q_48, h5, hf⟩ := ob1_some hf
    refine k_callV (X := (wF cy fa ha kr rk lr tx da sr a F Q_39 T O E X Td Od Ed Xd L K N S H).take 11) (Y := (wF cy fa ha kr rk lr tx da sr a F Q_39 T O E X Td Od Ed Xd L K N S H).drop 16) (w2 := (wF cy fa ha kr rk lr tx da sr a F Q_48 T O E X Td Od Ed Xd L K N S H)) C 24 (c_X8_append Z.2.1 D cy tx Q_39 p4 Q_48 h5) rfl qX11_88 mvX8_append 0 8 Q_c0 rfl rfl rfl rfl rfl (Nat.le_of_ble_eq_true rfl) ⟨Nat.le_of_ble_eq_true rfl, Nat.le_of_ble_eq_true rfl, Nat.le_refl 0, Nat.le_refl 0⟩ ?_
    refine k_aload_0 C 25 rfl 0 rfl ?_
    refine kg11_0 C 26 rfl qX11_12 0 F_c0 F_f0_0 ?_
    refine k_iload C 27 rfl 5 rfl ?_
    obtain ⟨Q_57, h5, hf⟩ := ob1_some hf
    refine k_callV (X := (wF cy fa ha kr rk lr tx da sr a F Q_48 T O E X Td Od Ed Xd L K N S H).take 11) (Y := (wF cy fa ha kr rk lr tx da sr a F Q_48 T O E X Td Od Ed Xd L K N S H).drop 16) (w2 := (wF cy fa ha kr rk lr tx da sr a F Q_57 T O E X Td Od Ed Xd L K N S H)) C 28 (c_X8_append Z.2.1 D cy tx Q_48 p5 Q_57 h5) rfl qX11_88 mvX8_append 0 8 Q_c0 rfl rfl rfl rfl rfl (Nat.le_of_ble_eq_true rfl) ⟨Nat.le_of_ble_eq_true rfl, Nat.le_of_ble_eq_true rfl, Nat.le_refl 0, Nat.le_refl 0⟩ ?_
    refine k_aload_0 C 29 rfl 0 rfl ?_
    refine kg11_0 C 30 rfl qX11_12 0 F_c0 F_f0_0 ?_
    refine kg8_1 C 31 rfl qX11_85 11 F_c11 F_f11_1 ?_
    exact k_iret (wf := (fun u => (wF cy fa ha kr rk lr tx da sr a F u T O E X Td Od Ed Xd L K N S H))) hR 32 rfl hf
  · replace hf := if_f hf hc
    refine k_iconst C 7 rfl ci_m1 ?_
    exact k_iret (wf := (fun u => (wF cy fa ha kr rk lr tx da sr a F u T O E X Td Od Ed Xd L K N S H))) hR 8 rfl hf
set_option maxHeartbeats 1000000 in
set_option maxRecDepth 20000 in
theorem c_X11_end (l : Launch) (D : va_G) (cy : Nat → ClassId) (fa : Nat → Nat) (ha : Nat → Nat) (kr : Nat → Nat) (rk : Nat → Nat) (lr : Nat → Nat) (tx : Nat → Nat) (da : Nat → Nat) (sr : Nat → Nat) (a : Nat → Nat) (F : Sg) (Q : Sg) (T : Sg) (O : Sg) (E : Sg) (X : Sg) (Td : Sg) (Od : Sg) (Ed : Sg) (Xd : Sg) (L : Sg) (K : Sg) (N : Sg) (S : Sg) (H : Sg) (p1 : Int32) (r : Int32) (Q1 : Sg) (hf : f_X11_end Q p1 = some (r, Q1)) : Ct l D cy yX11_end cX11_end 2 (some .int) 0 0 0 0 [.ref (fa 0), .int p1] (wF cy fa ha kr rk lr tx da sr a F Q T O E X Td Od Ed Xd L K N S H) (some (.int r)) (wF cy fa ha kr rk lr tx da sr a F Q1 T O E X Td Od Ed Xd L K N S H) := by
  refine Ct_i tX11_end hX11_end (by decide) (Nat.le_of_ble_eq_true rfl) ?_
  intro Z hZ C hR
  subst hZ
  replace C : Cx Z D cy RX11 tX11_end 2 0 0 0 0 := C
  show Wk Z D 2 0 0 (wF cy fa ha kr rk lr tx da sr a F Q T O E X Td Od Ed Xd L K N S H) 0 [(0, .ref (fa 0)), (1, .int p1)] []
  unfold f_X11_end at hf
  have hb15 : ∀ (Q : Sg), f_X11_end_b15 p1 Q = some (r, Q1) → Wk Z D 2 0 0 (wF cy fa ha kr rk lr tx da sr a F Q T O E X Td Od Ed Xd L K N S H) 15 [] [] := by
    intro Q hf
    unfold f_X11_end_b15 at hf
    refine k_iconst C 7 rfl ci_m1 ?_
    exact k_iret (wf := (fun u => (wF cy fa ha kr rk lr tx da sr a F u T O E X Td Od Ed Xd L K N S H))) hR 8 rfl hf
  refine k_iload_1 C 0 rfl 1 rfl ?_
  refine k_if_lt C 1 rfl 15 (by decide) (fun hc => ?_) (fun hc => ?_)
  · replace hf := if_t hf hc
    exact k_sub [] rfl (hb15 Q hf)
  · replace hf := if_f hf hc
    refine k_iload_1 C 2 rfl 1 rfl ?_
    refine k_aload_0 C 3 rfl 0 rfl ?_
    refine kg11_0 C 4 rfl qX11_12 0 F_c0 F_f0_0 ?_
    refine kg8_1 C 5 rfl qX11_85 11 F_c11 F_f11_1 ?_
    refine k_icmp_le C 6 rfl 17 (by decide) (fun hc => ?_) (fun hc => ?_)
    · replace hf := if_t hf hc
      refine k_aload_0 C 9 rfl 0 rfl ?_
      refine kg11_0 C 10 rfl qX11_12 0 F_c0 F_f0_0 ?_
      refine k_iload_1 C 11 rfl 1 rfl ?_
      obtain ⟨Q_22, hM, hf⟩ := bnd_some hf
      refine kp8_1 (w2 := (wF cy fa ha kr rk lr tx da sr a F Q_22 T O E X Td Od Ed Xd L K N S H)) C 12 rfl qX11_85 11 F_c11 (v := p1) F_n11 (F_p11_1.trans (congrArg (fun z => (wF cy fa ha kr rk lr tx da sr a F z T O E X Td Od Ed Xd L K N S H)) hM)) ?_
      refine k_iload_1 C 13 rfl 1 rfl ?_
      exact k_iret (wf := (fun u => (wF cy fa ha kr rk lr tx da sr a F u T O E X Td Od Ed Xd L K N S H))) hR 14 rfl hf
    · replace hf := if_f hf hc
      exact k_sub [] rfl (hb15 Q hf)
set_option maxHeartbeats 1000000 in
set_option maxRecDepth 20000 in
theorem c_X11_line (l : Launch) (D : va_G) (cy : Nat → ClassId) (fa : Nat → Nat) (ha : Nat → Nat) (kr : Nat → Nat) (rk : Nat → Nat) (lr : Nat → Nat) (tx : Nat → Nat) (da : Nat → Nat) (sr : Nat → Nat) (a : Nat → Nat) (F : Sg) (Q : Sg) (T : Sg) (O : Sg) (E : Sg) (X : Sg) (Td : Sg) (Od : Sg) (Ed : Sg) (Xd : Sg) (L : Sg) (K : Sg) (N : Sg) (S : Sg) (H : Sg) (r : Int32) (Q1 : Sg) (T1 : Sg) (O1 : Sg) (E1 : Sg) (Td1 : Sg) (Od1 : Sg) (L1 : Sg) (H1 : Sg) (hf : f_X11_line Q T O E Td Od L H = some (r, Q1, T1, O1, E1, Td1, Od1, L1, H1)) : Ct l D cy yX11_line cX11_line 2 (some .int) 10 297 0 0 [.ref (fa 0)] (wF cy fa ha kr rk lr tx da sr a F Q T O E X Td Od Ed Xd L K N S H) (some (.int r)) (wF cy fa ha kr rk lr tx da sr a F Q1 T1 O1 E1 X Td1 Od1 Ed Xd L1 K N S H1) := by
  refine Ct_i tX11_line hX11_line (by decide) (Nat.le_of_ble_eq_true rfl) ?_
  intro Z hZ C hR
  subst hZ
  replace C : Cx Z D cy RX11 tX11_line 2 10 297 0 0 := C
  show Wk Z D 2 0 0 (wF cy fa ha kr rk lr tx da sr a F Q T O E X Td Od Ed Xd L K N S H) 0 [(0, .ref (fa 0))] []
  unfold f_X11_line at hf
  refine k_aload_0 C 0 rfl 0 rfl ?_
  refine kg11_8 C 1 rfl qX11_56 0 F_c0 F_f0_8 ?_
  obtain ⟨r4, L_4, Q_4, Td_4, Od_4, h5, hf⟩ := ob5_some hf
  refine k_callV (X := (wF cy fa ha kr rk lr tx da sr a F Q T O E X Td Od Ed Xd L K N S H).take 10) (Y := (wF cy fa ha kr rk lr tx da sr a F Q T O E X Td Od Ed Xd L K N S H).drop 39) (w2 := (wF cy fa ha kr rk lr tx da sr a F Q_4 T O E X Td_4 Od_4 Ed Xd L_4 K N S H)) C 2 (c_X1_read Z.2.1 D cy lr tx da L Q Td Od Ed Xd r4 L_4 Q_4 Td_4 Od_4 h5) rfl qX11_92 mvX1_read 0 1 LR_c0 rfl rfl rfl rfl rfl (Nat.le_of_ble_eq_true rfl) ⟨Nat.le_of_ble_eq_true rfl, Nat.le_of_ble_eq_true rfl, Nat.le_refl 0, Nat.le_refl 0⟩ ?_
  refine k_istore_1 C 3 rfl (by decide) rfl ?_
  refine k_sub (lv2 := [(0, .ref (fa 0)), (1, .int (bI r4))]) [1, 0] rfl ?_
  refine k_aload_0 C 4 rfl 0 rfl ?_
  refine kg11_0 C 5 rfl qX11_12 0 F_c0 F_f0_0 ?_
  refine k_iconst C 6 rfl ci_0 ?_
  obtain ⟨Q_13, hM, hf⟩ := bnd_some hf
  refine kp8_1 (w2 := (wF cy fa ha kr rk lr tx da sr a F Q_13 T O E X Td_4 Od_4 Ed Xd L_4 K N S H)) C 7 rfl qX11_85 11 F_c11 (v := 0) F_n11 (F_p11_1.trans (congrArg (fun z => (wF cy fa ha kr rk lr tx da sr a F z T O E X Td_4 Od_4 Ed Xd L_4 K N S H)) hM)) ?_
  refine k_iload_1 C 8 rfl 1 rfl ?_
  refine k_if_ne C 9 rfl 31 (by decide) (fun hc => ?_) (fun hc => ?_)
  · replace hf := if_f hf hc
    refine k_aload_0 C 16 rfl 0 rfl ?_
    refine kg11_1 C 17 rfl qX11_19 0 F_c0 F_f0_1 ?_
    refine kg10_0 C 18 rfl qX11_99 47 F_c47 F_f47_0 ?_
    refine k_aload_0 C 19 rfl 0 rfl ?_
    refine kg11_2 C 20 rfl qX11_23 0 F_c0 F_f0_2 ?_
    refine kg10_0 C 21 rfl qX11_99 16 F_c16 F_f16_0 ?_
    obtain ⟨T_45, h5, hf⟩ := ob1_some hf
    refine k_re (w2 := (wTT cy (fun i => a (1 + i)) (fun i => da (1 + i)) T Td_4) ++ (List.filterMap (fun i => (wF cy fa ha kr rk lr tx da sr a F Q_13 T O E X Td_4 Od_4 Ed Xd L_4 K N S H)[i]?) [0, 1, 2, 3, 4, 5, 6, 7, 8, 9, 10, 11, 12, 13, 14, 15, 16, 29, 30, 31, 32, 33, 34, 35, 36, 37, 38, 39, 40, 41, 42, 43, 44, 45, 46, 47, 60, 61, 62, 63, 64, 65, 66, 67, 68, 69])) [48, 49, 50, 51, 52, 53, 54, 55, 56, 57, 58, 59, 17, 18, 19, 20, 21, 22, 23, 24, 25, 26, 27, 28, 0, 1, 2, 3, 4, 5, 6, 7, 8, 9, 10, 11, 12, 13, 14, 15, 16, 29, 30, 31, 32, 33, 34, 35, 36, 37, 38, 39, 40, 41, 42, 43, 44, 45, 46, 47, 60, 61, 62, 63, 64, 65, 66, 67, 68, 69] (by decide) rfl rfl ?_
    refine k_callV (X := []) (Y := (List.filterMap (fun i => (wF cy fa ha kr rk lr tx da sr a F Q_13 T O E X Td_4 Od_4 Ed Xd L_4 K N S H)[i]?) [0, 1, 2, 3, 4, 5, 6, 7, 8, 9, 10, 11, 12, 13, 14, 15, 16, 29, 30, 31, 32, 33, 34, 35, 36, 37, 38, 39, 40, 41, 42, 43, 44, 45, 46, 47, 60, 61, 62, 63, 64, 65, 66, 67, 68, 69])) (w2 := (wTT cy (fun i => a (1 + i)) (fun i => da (1 + i)) T_45 Td_4) ++ (List.filterMap (fun i => (wF cy fa ha kr rk lr tx da sr a F Q_13 T O E X Td_4 Od_4 Ed Xd L_4 K N S H)[i]?) [0, 1, 2, 3, 4, 5, 6, 7, 8, 9, 10, 11, 12, 13, 14, 15, 16, 29, 30, 31, 32, 33, 34, 35, 36, 37, 38, 39, 40, 41, 42, 43, 44, 45, 46, 47, 60, 61, 62, 63, 64, 65, 66, 67, 68, 69])) C 22 (c_X9_copyFrom Z.2.1 D cy (fun i => a (1 + i)) (fun i => da (1 + i)) T Td_4 T_45 h5) rfl qX11_103 mvX9_copyFrom 0 9 T2_c0 rfl rfl rfl rfl rfl (Nat.le_of_ble_eq_true rfl) ⟨Nat.le_of_ble_eq_true rfl, Nat.le_of_ble_eq_true rfl, Nat.le_refl 0, Nat.le_refl 0⟩ ?_
    refine k_re (w2 := (wF cy fa ha kr rk lr tx da sr a F Q_13 T_45 O E X Td_4 Od_4 Ed Xd L_4 K N S H)) [24, 25, 26, 27, 28, 29, 30, 31, 32, 33, 34, 35, 36, 37, 38, 39, 40, 12, 13, 14, 15, 16, 17, 18, 19, 20, 21, 22, 23, 41, 42, 43, 44, 45, 46, 47, 48, 49, 50, 51, 52, 53, 54, 55, 56, 57, 58, 59, 0, 1, 2, 3, 4, 5, 6, 7, 8, 9, 10, 11, 60, 61, 62, 63, 64, 65, 66, 67, 68, 69] (by decide) rfl rfl ?_
    refine k_aload_0 C 23 rfl 0 rfl ?_
    refine kg11_1 C 24 rfl qX11_19 0 F_c0 F_f0_1 ?_
    refine kg10_1 C 25 rfl qX11_109 47 F_c47 F_f47_1 ?_
    refine k_aload_0 C 26 rfl 0 rfl ?_
    refine kg11_2 C 27 rfl qX11_23 0 F_c0 F_f0_2 ?_
    refine kg10_1 C 28 rfl qX11_109 16 F_c16 F_f16_1 ?_
    obtain ⟨O_62, h5, hf⟩ := ob1_some hf
    refine k_re (w2 := (wOO cy (fun i => a (13 + i)) (fun i => da (13 + i)) O Od_4) ++ (List.filterMap (fun i => (wF cy fa ha kr rk lr tx da sr a F Q_13 T_45 O E X Td_4 Od_4 Ed Xd L_4 K N S H)[i]?) [0, 1, 2, 3, 4, 5, 6, 7, 8, 9, 10, 11, 12, 13, 14, 15, 16, 17, 18, 19, 20, 21, 22, 23, 24, 25, 26, 27, 28, 35, 36, 37, 38, 39, 40, 41, 42, 43, 44, 45, 46, 47, 48, 49, 50, 51, 52, 53, 54, 55, 56, 57, 58, 59, 66, 67, 68, 69])) [60, 61, 62, 63, 64, 65, 29, 30, 31, 32, 33, 34, 0, 1, 2, 3, 4, 5, 6, 7, 8, 9, 10, 11, 12, 13, 14, 15, 16, 17, 18, 19, 20, 21, 22, 23, 24, 25, 26, 27, 28, 35, 36, 37, 38, 39, 40, 41, 42, 43, 44, 45, 46, 47, 48, 49, 50, 51, 52, 53, 54, 55, 56, 57, 58, 59, 66, 67, 68, 69] (by decide) rfl rfl ?_
    refine k_callV (X := []) (Y := (List.filterMap (fun i => (wF cy fa ha kr rk lr tx da sr a F Q_13 T_45 O E X Td_4 Od_4 Ed Xd L_4 K N S H)[i]?) [0, 1, 2, 3, 4, 5, 6, 7, 8, 9, 10, 11, 12, 13, 14, 15, 16, 17, 18, 19, 20, 21, 22, 23, 24, 25, 26, 27, 28, 35, 36, 37, 38, 39, 40, 41, 42, 43, 44, 45, 46, 47, 48, 49, 50, 51, 52, 53, 54, 55, 56, 57, 58, 59, 66, 67, 68, 69])) (w2 := (wOO cy (fun i => a (13 + i)) (fun i => da (13 + i)) O_62 Od_4) ++ (List.filterMap (fun i => (wF cy fa ha kr rk lr tx da sr a F Q_13 T_45 O E X Td_4 Od_4 Ed Xd L_4 K N S H)[i]?) [0, 1, 2, 3, 4, 5, 6, 7, 8, 9, 10, 11, 12, 13, 14, 15, 16, 17, 18, 19, 20, 21, 22, 23, 24, 25, 26, 27, 28, 35, 36, 37, 38, 39, 40, 41, 42, 43, 44, 45, 46, 47, 48, 49, 50, 51, 52, 53, 54, 55, 56, 57, 58, 59, 66, 67, 68, 69])) C 29 (c_X2_copyFrom Z.2.1 D cy (fun i => a (13 + i)) (fun i => da (13 + i)) O Od_4 O_62 h5) rfl qX11_113 mvX2_copyFrom 0 2 O2_c0 rfl rfl rfl rfl rfl (Nat.le_of_ble_eq_true rfl) ⟨Nat.le_of_ble_eq_true rfl, Nat.le_of_ble_eq_true rfl, Nat.le_refl 0, Nat.le_refl 0⟩ ?_
    refine k_re (w2 := (wF cy fa ha kr rk lr tx da sr a F Q_13 T_45 O_62 E X Td_4 Od_4 Ed Xd L_4 K N S H)) [12, 13, 14, 15, 16, 17, 18, 19, 20, 21, 22, 23, 24, 25, 26, 27, 28, 29, 30, 31, 32, 33, 34, 35, 36, 37, 38, 39, 40, 6, 7, 8, 9, 10, 11, 41, 42, 43, 44, 45, 46, 47, 48, 49, 50, 51, 52, 53, 54, 55, 56, 57, 58, 59, 60, 61, 62, 63, 64, 65, 0, 1, 2, 3, 4, 5, 66, 67, 68, 69] (by decide) rfl rfl ?_
    refine k_aload_0 C 30 rfl 0 rfl ?_
    refine kg11_1 C 31 rfl qX11_19 0 F_c0 F_f0_1 ?_
    refine kg10_2 C 32 rfl qX11_118 47 F_c47 F_f47_2 ?_
    refine k_iconst C 33 rfl ci_0 ?_
    obtain ⟨E_73, hM, hf⟩ := bnd_some hf
    refine kp7_0 (w2 := (wF cy fa ha kr rk lr tx da sr a F Q_13 T_45 O_62 E_73 X Td_4 Od_4 Ed Xd L_4 K N S H)) C 34 rfl qX11_122 66 F_c66 (v := 0) F_n66 (F_p66_0.trans (congrArg (fun z => (wF cy fa ha kr rk lr tx da sr a F Q_13 T_45 O_62 z X Td_4 Od_4 Ed Xd L_4 K N S H)) hM)) ?_
    refine k_aload_0 C 35 rfl 0 rfl ?_
    refine kg11_5 C 36 rfl qX11_37 0 F_c0 F_f0_5 ?_
    refine k_iconst C 37 rfl ci_0 ?_
    obtain ⟨H_81, hM, hf⟩ := bnd_some hf
    refine kp0_2 (w2 := (wF cy fa ha kr rk lr tx da sr a F Q_13 T_45 O_62 E_73 X Td_4 Od_4 Ed Xd L_4 K N S H_81)) C 38 rfl qX11_127 2 F_c2 (v := 0) F_n2 (F_p2_2.trans (congrArg (fun z => (wF cy fa ha kr rk lr tx da sr a F Q_13 T_45 O_62 E_73 X Td_4 Od_4 Ed Xd L_4 K N S z)) hM)) ?_
    refine k_aload_0 C 39 rfl 0 rfl ?_
    refine kg11_1 C 40 rfl qX11_19 0 F_c0 F_f0_1 ?_
    refine kg10_0 C 41 rfl qX11_99 47 F_c47 F_f47_0 ?_
    refine kg9_2 C 42 rfl qX11_128 48 F_c48 F_f48_2 ?_
    exact k_iret (wf := (fun u => (wF cy fa ha kr rk lr tx da sr a F u.1 u.2.1 u.2.2.1 u.2.2.2.1 X u.2.2.2.2.1 u.2.2.2.2.2.1 Ed Xd u.2.2.2.2.2.2.1 K N S u.2.2.2.2.2.2.2))) hR 43 rfl hf
  · replace hf := if_t hf hc
    refine k_bipush C 10 rfl cb_m2 ?_
    refine k_aload_0 C 11 rfl 0 rfl ?_
    refine kg11_0 C 12 rfl qX11_12 0 F_c0 F_f0_0 ?_
    refine kg8_2 C 13 rfl qX11_96 11 F_c11 F_f11_2 ?_
    refine k_isub C 14 rfl ?_
    exact k_iret (wf := (fun u => (wF cy fa ha kr rk lr tx da sr a F u.1 u.2.1 u.2.2.1 u.2.2.2.1 X u.2.2.2.2.1 u.2.2.2.2.2.1 Ed Xd u.2.2.2.2.2.2.1 K N S u.2.2.2.2.2.2.2))) hR 15 rfl hf
set_option maxHeartbeats 1000000 in
set_option maxRecDepth 20000 in
theorem c_X11_coach (l : Launch) (D : va_G) (cy : Nat → ClassId) (fa : Nat → Nat) (ha : Nat → Nat) (kr : Nat → Nat) (rk : Nat → Nat) (lr : Nat → Nat) (tx : Nat → Nat) (da : Nat → Nat) (sr : Nat → Nat) (a : Nat → Nat) (F : Sg) (Q : Sg) (T : Sg) (O : Sg) (E : Sg) (X : Sg) (Td : Sg) (Od : Sg) (Ed : Sg) (Xd : Sg) (L : Sg) (K : Sg) (N : Sg) (S : Sg) (H : Sg) (p1 : Int32) (p2 : Int32) (r : Int32) (hf : f_X11_coach T O p1 p2 = some r) : Ct l D cy yX11_coach cX11_coach 3 (some .int) 1 23 0 0 [.ref (fa 0), .int p1, .int p2] (wF cy fa ha kr rk lr tx da sr a F Q T O E X Td Od Ed Xd L K N S H) (some (.int r)) (wF cy fa ha kr rk lr tx da sr a F Q T O E X Td Od Ed Xd L K N S H) := by
  refine Ct_i tX11_coach hX11_coach (by decide) (Nat.le_of_ble_eq_true rfl) ?_
  intro Z hZ C hR
  subst hZ
  replace C : Cx Z D cy RX11 tX11_coach 3 1 23 0 0 := C
  show Wk Z D 3 0 0 (wF cy fa ha kr rk lr tx da sr a F Q T O E X Td Od Ed Xd L K N S H) 0 [(0, .ref (fa 0)), (1, .int p1), (2, .int p2)] []
  unfold f_X11_coach at hf
  refine k_aload_0 C 0 rfl 0 rfl ?_
  refine kg11_1 C 1 rfl qX11_19 0 F_c0 F_f0_1 ?_
  refine k_iload_1 C 2 rfl 1 rfl ?_
  obtain ⟨r5, h5, hf⟩ := ob1_some hf
  refine k_callV (X := (wF cy fa ha kr rk lr tx da sr a F Q T O E X Td Od Ed Xd L K N S H).take 47) (Y := (wF cy fa ha kr rk lr tx da sr a F Q T O E X Td Od Ed Xd L K N S H).drop 70) (w2 := (wF cy fa ha kr rk lr tx da sr a F Q T O E X Td Od Ed Xd L K N S H)) C 3 (c_X10_hasCoach Z.2.1 D cy a T O E X p1 r5 h5) rfl qX11_135 mvX10_hasCoach 0 10 W_c0 rfl rfl rfl rfl rfl (Nat.le_of_ble_eq_true rfl) ⟨Nat.le_of_ble_eq_true rfl, Nat.le_of_ble_eq_true rfl, Nat.le_refl 0, Nat.le_refl 0⟩ ?_
  refine k_if_ne C 4 rfl 13 (by decide) (fun hc => ?_) (fun hc => ?_)
  · replace hf := if_f hf hc
    refine k_iload_2 C 7 rfl 2 rfl ?_
    obtain ⟨sw14, hx, hf⟩ := bnd_some hf
    refine k_topi hx ?_
    clear hx
    by_cases hs0 : sw14 = 0
    · subst hs0
      replace hf := if_t hf rfl
      refine k_tabIn C 8 rfl 40 (by decide) (by decide) rfl (by decide) ?_
      refine k_aload_0 C 9 rfl 0 rfl ?_
      refine kg11_1 C 10 rfl qX11_19 0 F_c0 F_f0_1 ?_
      refine kg10_0 C 11 rfl qX11_99 47 F_c47 F_f47_0 ?_
      refine kg9_6 C 12 rfl qX11_139 48 F_c48 F_f48_6 ?_
      refine k_iload_1 C 13 rfl 1 rfl ?_
      obtain ⟨i51, hi, hin, hf⟩ := ixd_some hf
      refine k_iald C 14 rfl 49 F_c49 hin hi ?_
      exact k_iretP hR 15 rfl hf
    by_cases hs1 : sw14 = 1
    · subst hs1
      replace hf := if_f hf (by decide)
      replace hf := if_t hf rfl
      refine k_tabIn C 8 rfl 53 (by decide) (by decide) rfl (by decide) ?_
      refine k_aload_0 C 16 rfl 0 rfl ?_
      refine kg11_1 C 17 rfl qX11_19 0 F_c0 F_f0_1 ?_
      refine kg10_0 C 18 rfl qX11_99 47 F_c47 F_f47_0 ?_
      refine kg9_7 C 19 rfl qX11_143 48 F_c48 F_f48_7 ?_
      refine k_iload_1 C 20 rfl 1 rfl ?_
      obtain ⟨i64, hi, hin, hf⟩ := ixd_some hf
      refine k_iald C 21 rfl 50 F_c50 hin hi ?_
      exact k_iretP hR 22 rfl hf
    by_cases hs2 : sw14 = 2
    · subst hs2
      replace hf := if_f hf (by decide)
      replace hf := if_f hf (by decide)
      replace hf := if_t hf rfl
      refine k_tabIn C 8 rfl 66 (by decide) (by decide) rfl (by decide) ?_
      refine k_aload_0 C 23 rfl 0 rfl ?_
      refine kg11_1 C 24 rfl qX11_19 0 F_c0 F_f0_1 ?_
      refine k_iload_1 C 25 rfl 1 rfl ?_
      obtain ⟨r71, h5, hf⟩ := ob1_some hf
      refine k_callV (X := (wF cy fa ha kr rk lr tx da sr a F Q T O E X Td Od Ed Xd L K N S H).take 47) (Y := (wF cy fa ha kr rk lr tx da sr a F Q T O E X Td Od Ed Xd L K N S H).drop 70) (w2 := (wF cy fa ha kr rk lr tx da sr a F Q T O E X Td Od Ed Xd L K N S H)) C 26 (c_X10_ridersIn Z.2.1 D cy a T O E X p1 r71 h5) rfl qX11_146 mvX10_ridersIn 0 10 W_c0 rfl rfl rfl rfl rfl (Nat.le_of_ble_eq_true rfl) ⟨Nat.le_of_ble_eq_true rfl, Nat.le_of_ble_eq_true rfl, Nat.le_refl 0, Nat.le_refl 0⟩ ?_
      exact k_iretP hR 27 rfl hf
    replace hf := if_f hf hs0
    replace hf := if_f hf hs1
    replace hf := if_f hf hs2
    refine k_tabOut C 8 rfl 75 (sw_out [0, 1, 2] (by intro v hv; simp only [List.mem_cons, List.not_mem_nil, or_false] at hv; rcases hv with rfl | rfl | rfl <;> assumption) (by decide)) (by decide) ?_
    refine k_iconst C 28 rfl ci_m1 ?_
    exact k_iretP hR 29 rfl hf
  · replace hf := if_t hf hc
    refine k_iconst C 5 rfl ci_m1 ?_
    exact k_iretP hR 6 rfl hf
set_option maxHeartbeats 1000000 in
set_option maxRecDepth 20000 in
theorem c_X11_way (l : Launch) (D : va_G) (cy : Nat → ClassId) (fa : Nat → Nat) (ha : Nat → Nat) (kr : Nat → Nat) (rk : Nat → Nat) (lr : Nat → Nat) (tx : Nat → Nat) (da : Nat → Nat) (sr : Nat → Nat) (a : Nat → Nat) (F : Sg) (Q : Sg) (T : Sg) (O : Sg) (E : Sg) (X : Sg) (Td : Sg) (Od : Sg) (Ed : Sg) (Xd : Sg) (L : Sg) (K : Sg) (N : Sg) (S : Sg) (H : Sg) (p1 : Int32) (p2 : Int32) (r : Int32) (hf : f_X11_way T O p1 p2 = some r) : Ct l D cy yX11_way cX11_way 3 (some .int) 1 22 0 0 [.ref (fa 0), .int p1, .int p2] (wF cy fa ha kr rk lr tx da sr a F Q T O E X Td Od Ed Xd L K N S H) (some (.int r)) (wF cy fa ha kr rk lr tx da sr a F Q T O E X Td Od Ed Xd L K N S H) := by
  refine Ct_i tX11_way hX11_way (by decide) (Nat.le_of_ble_eq_true rfl) ?_
  intro Z hZ C hR
  subst hZ
  replace C : Cx Z D cy RX11 tX11_way 3 1 22 0 0 := C
  show Wk Z D 3 0 0 (wF cy fa ha kr rk lr tx da sr a F Q T O E X Td Od Ed Xd L K N S H) 0 [(0, .ref (fa 0)), (1, .int p1), (2, .int p2)] []
  unfold f_X11_way at hf
  refine k_aload_0 C 0 rfl 0 rfl ?_
  refine kg11_1 C 1 rfl qX11_19 0 F_c0 F_f0_1 ?_
  refine k_iload_1 C 2 rfl 1 rfl ?_
  obtain ⟨r5, h5, hf⟩ := ob1_some hf
  refine k_callV (X := (wF cy fa ha kr rk lr tx da sr a F Q T O E X Td Od Ed Xd L K N S H).take 47) (Y := (wF cy fa ha kr rk lr tx da sr a F Q T O E X Td Od Ed Xd L K N S H).drop 70) (w2 := (wF cy fa ha kr rk lr tx da sr a F Q T O E X Td Od Ed Xd L K N S H)) C 3 (c_X10_hasWay Z.2.1 D cy a T O E X p1 r5 h5) rfl qX11_150 mvX10_hasWay 0 10 W_c0 rfl rfl rfl rfl rfl (Nat.le_of_ble_eq_true rfl) ⟨Nat.le_of_ble_eq_true rfl, Nat.le_of_ble_eq_true rfl, Nat.le_refl 0, Nat.le_refl 0⟩ ?_
  refine k_if_ne C 4 rfl 14 (by decide) (fun hc => ?_) (fun hc => ?_)
  · replace hf := if_f hf hc
    refine k_iload_2 C 7 rfl 2 rfl ?_
    obtain ⟨sw15, hx, hf⟩ := bnd_some hf
    refine k_topi hx ?_
    clear hx
    by_cases hs0 : sw15 = 0
    · subst hs0
      replace hf := if_t hf rfl
      refine k_tabIn C 8 rfl 40 (by decide) (by decide) rfl (by decide) ?_
      refine k_aload_0 C 9 rfl 0 rfl ?_
      refine kg11_1 C 10 rfl qX11_19 0 F_c0 F_f0_1 ?_
      refine k_iload_1 C 11 rfl 1 rfl ?_
      obtain ⟨r45, h5, hf⟩ := ob1_some hf
      refine k_callV (X := (wF cy fa ha kr rk lr tx da sr a F Q T O E X Td Od Ed Xd L K N S H).take 47) (Y := (wF cy fa ha kr rk lr tx da sr a F Q T O E X Td Od Ed Xd L K N S H).drop 70) (w2 := (wF cy fa ha kr rk lr tx da sr a F Q T O E X Td Od Ed Xd L K N S H)) C 12 (c_X10_isShut Z.2.1 D cy a T O E X p1 r45 h5) rfl qX11_153 mvX10_isShut 0 10 W_c0 rfl rfl rfl rfl rfl (Nat.le_of_ble_eq_true rfl) ⟨Nat.le_of_ble_eq_true rfl, Nat.le_of_ble_eq_true rfl, Nat.le_refl 0, Nat.le_refl 0⟩ ?_
      refine k_if_eq C 13 rfl 55 (by decide) (fun hc => ?_) (fun hc => ?_)
      · replace hf := if_t hf hc
        refine k_iconst C 16 rfl ci_0 ?_
        exact k_iretP hR 17 rfl hf
      · replace hf := if_f hf hc
        refine k_iconst C 14 rfl ci_1 ?_
        refine k_goto C 15 rfl 56 (by decide) ?_
        exact k_iretP hR 17 rfl hf
    by_cases hs1 : sw15 = 1
    · subst hs1
      replace hf := if_f hf (by decide)
      replace hf := if_t hf rfl
      refine k_tabIn C 8 rfl 57 (by decide) (by decide) rfl (by decide) ?_
      refine k_aload_0 C 18 rfl 0 rfl ?_
      refine kg11_1 C 19 rfl qX11_19 0 F_c0 F_f0_1 ?_
      refine kg10_0 C 20 rfl qX11_99 47 F_c47 F_f47_0 ?_
      refine kg9_8 C 21 rfl qX11_156 48 F_c48 F_f48_8 ?_
      refine k_iload_1 C 22 rfl 1 rfl ?_
      obtain ⟨i68, hi, hin, hf⟩ := ixd_some hf
      refine k_iald C 23 rfl 51 F_c51 hin hi ?_
      exact k_iretP hR 24 rfl hf
    by_cases hs2 : sw15 = 2
    · subst hs2
      replace hf := if_f hf (by decide)
      replace hf := if_f hf (by decide)
      replace hf := if_t hf rfl
      refine k_tabIn C 8 rfl 70 (by decide) (by decide) rfl (by decide) ?_
      refine k_aload_0 C 25 rfl 0 rfl ?_
      refine kg11_1 C 26 rfl qX11_19 0 F_c0 F_f0_1 ?_
      refine k_iload_1 C 27 rfl 1 rfl ?_
      obtain ⟨r75, h5, hf⟩ := ob1_some hf
      refine k_callV (X := (wF cy fa ha kr rk lr tx da sr a F Q T O E X Td Od Ed Xd L K N S H).take 47) (Y := (wF cy fa ha kr rk lr tx da sr a F Q T O E X Td Od Ed Xd L K N S H).drop 70) (w2 := (wF cy fa ha kr rk lr tx da sr a F Q T O E X Td Od Ed Xd L K N S H)) C 28 (c_X10_goerThrough Z.2.1 D cy a T O E X p1 r75 h5) rfl qX11_159 mvX10_goerThrough 0 10 W_c0 rfl rfl rfl rfl rfl (Nat.le_of_ble_eq_true rfl) ⟨Nat.le_of_ble_eq_true rfl, Nat.le_of_ble_eq_true rfl, Nat.le_refl 0, Nat.le_refl 0⟩ ?_
      exact k_iretP hR 29 rfl hf
    replace hf := if_f hf hs0
    replace hf := if_f hf hs1
    replace hf := if_f hf hs2
    refine k_tabOut C 8 rfl 79 (sw_out [0, 1, 2] (by intro v hv; simp only [List.mem_cons, List.not_mem_nil, or_false] at hv; rcases hv with rfl | rfl | rfl <;> assumption) (by decide)) (by decide) ?_
    refine k_bipush C 30 rfl cb_m2 ?_
    exact k_iretP hR 31 rfl hf
  · replace hf := if_t hf hc
    refine k_bipush C 5 rfl cb_m2 ?_
    exact k_iretP hR 6 rfl hf
set_option maxHeartbeats 1000000 in
set_option maxRecDepth 20000 in
theorem c_X11_stop (l : Launch) (D : va_G) (cy : Nat → ClassId) (fa : Nat → Nat) (ha : Nat → Nat) (kr : Nat → Nat) (rk : Nat → Nat) (lr : Nat → Nat) (tx : Nat → Nat) (da : Nat → Nat) (sr : Nat → Nat) (a : Nat → Nat) (F : Sg) (Q : Sg) (T : Sg) (O : Sg) (E : Sg) (X : Sg) (Td : Sg) (Od : Sg) (Ed : Sg) (Xd : Sg) (L : Sg) (K : Sg) (N : Sg) (S : Sg) (H : Sg) (p1 : Int32) (p2 : Int32) (r : Int32) (hf : f_X11_stop T p1 p2 = some r) : Ct l D cy yX11_stop cX11_stop 3 (some .int) 0 0 0 0 [.ref (fa 0), .int p1, .int p2] (wF cy fa ha kr rk lr tx da sr a F Q T O E X Td Od Ed Xd L K N S H) (some (.int r)) (wF cy fa ha kr rk lr tx da sr a F Q T O E X Td Od Ed Xd L K N S H) := by
  refine Ct_i tX11_stop hX11_stop (by decide) (Nat.le_of_ble_eq_true rfl) ?_
  intro Z hZ C hR
  subst hZ
  replace C : Cx Z D cy RX11 tX11_stop 3 0 0 0 0 := C
  show Wk Z D 3 0 0 (wF cy fa ha kr rk lr tx da sr a F Q T O E X Td Od Ed Xd L K N S H) 0 [(0, .ref (fa 0)), (1, .int p1), (2, .int p2)] []
  unfold f_X11_stop at hf
  have hb18 : f_X11_stop_b18 T p1 p2 = some r → Wk Z D 3 0 0 (wF cy fa ha kr rk lr tx da sr a F Q T O E X Td Od Ed Xd L K N S H) 18 [] [] := by
    intro  hf
    unfold f_X11_stop_b18 at hf
    refine k_iconst C 8 rfl ci_m1 ?_
    exact k_iretP hR 9 rfl hf
  refine k_iload_1 C 0 rfl 1 rfl ?_
  refine k_if_lt C 1 rfl 18 (by decide) (fun hc => ?_) (fun hc => ?_)
  · replace hf := if_t hf hc
    exact k_sub [] rfl (hb18  hf)
  · replace hf := if_f hf hc
    refine k_iload_1 C 2 rfl 1 rfl ?_
    refine k_aload_0 C 3 rfl 0 rfl ?_
    refine kg11_1 C 4 rfl qX11_19 0 F_c0 F_f0_1 ?_
    refine kg10_0 C 5 rfl qX11_99 47 F_c47 F_f47_0 ?_
    refine kg9_1 C 6 rfl qX11_162 48 F_c48 F_f48_1 ?_
    refine k_icmp_lt C 7 rfl 20 (by decide) (fun hc => ?_) (fun hc => ?_)
    · replace hf := if_t hf hc
      refine k_iload_2 C 10 rfl 2 rfl ?_
      obtain ⟨sw21, hx, hf⟩ := bnd_some hf
      refine k_topi hx ?_
      clear hx
      by_cases hs0 : sw21 = 0
      · subst hs0
        replace hf := if_t hf rfl
        refine k_lookup C 11 rfl 48 (by decide) (off := 27) (by decide) (by decide) ?_
        refine k_aload_0 C 12 rfl 0 rfl ?_
        refine kg11_1 C 13 rfl qX11_19 0 F_c0 F_f0_1 ?_
        refine kg10_0 C 14 rfl qX11_99 47 F_c47 F_f47_0 ?_
        refine kg9_9 C 15 rfl qX11_165 48 F_c48 F_f48_9 ?_
        refine k_iload_1 C 16 rfl 1 rfl ?_
        obtain ⟨i59, hi, hin, hf⟩ := ixd_some hf
        refine k_iald C 17 rfl 52 F_c52 hin hi ?_
        exact k_iretP hR 18 rfl hf
      by_cases hs1 : sw21 = 1
      · subst hs1
        replace hf := if_f hf (by decide)
        replace hf := if_t hf rfl
        refine k_lookup C 11 rfl 61 (by decide) (off := 40) (by decide) (by decide) ?_
        refine k_aload_0 C 19 rfl 0 rfl ?_
        refine kg11_1 C 20 rfl qX11_19 0 F_c0 F_f0_1 ?_
        refine kg10_0 C 21 rfl qX11_99 47 F_c47 F_f47_0 ?_
        refine kg9_10 C 22 rfl qX11_168 48 F_c48 F_f48_10 ?_
        refine k_iload_1 C 23 rfl 1 rfl ?_
        obtain ⟨i72, hi, hin, hf⟩ := ixd_some hf
        refine k_iald C 24 rfl 53 F_c53 hin hi ?_
        exact k_iretP hR 25 rfl hf
      replace hf := if_f hf hs0
      replace hf := if_f hf hs1
      refine k_lookup C 11 rfl 74 (by decide) (off := 53) (lk_out (by intro q hq; simp only [List.mem_cons, List.not_mem_nil, or_false] at hq; rcases hq with rfl | rfl <;> first | exact lk_ne hs0 | exact lk_ne hs1)) (by decide) ?_
      refine k_iconst C 26 rfl ci_m1 ?_
      exact k_iretP hR 27 rfl hf
    · replace hf := if_f hf hc
      exact k_sub [] rfl (hb18  hf)
set_option maxHeartbeats 1000000 in
set_option maxRecDepth 20000 in
theorem c_X11_rider (l : Launch) (D : va_G) (cy : Nat → ClassId) (fa : Nat → Nat) (ha : Nat → Nat) (kr : Nat → Nat) (rk : Nat → Nat) (lr : Nat → Nat) (tx : Nat → Nat) (da : Nat → Nat) (sr : Nat → Nat) (a : Nat → Nat) (F : Sg) (Q : Sg) (T : Sg) (O : Sg) (E : Sg) (X : Sg) (Td : Sg) (Od : Sg) (Ed : Sg) (Xd : Sg) (L : Sg) (K : Sg) (N : Sg) (S : Sg) (H : Sg) (p1 : Int32) (p2 : Int32) (r : Int32) (hf : f_X11_rider T O p1 p2 = some r) : Ct l D cy yX11_rider cX11_rider 3 (some .int) 1 22 0 0 [.ref (fa 0), .int p1, .int p2] (wF cy fa ha kr rk lr tx da sr a F Q T O E X Td Od Ed Xd L K N S H) (some (.int r)) (wF cy fa ha kr rk lr tx da sr a F Q T O E X Td Od Ed Xd L K N S H) := by
  refine Ct_i tX11_rider hX11_rider (by decide) (Nat.le_of_ble_eq_true rfl) ?_
  intro Z hZ C hR
  subst hZ
  replace C : Cx Z D cy RX11 tX11_rider 3 1 22 0 0 := C
  show Wk Z D 3 0 0 (wF cy fa ha kr rk lr tx da sr a F Q T O E X Td Od Ed Xd L K N S H) 0 [(0, .ref (fa 0)), (1, .int p1), (2, .int p2)] []
  unfold f_X11_rider at hf
  refine k_aload_0 C 0 rfl 0 rfl ?_
  refine kg11_1 C 1 rfl qX11_19 0 F_c0 F_f0_1 ?_
  refine k_iload_1 C 2 rfl 1 rfl ?_
  obtain ⟨r5, h5, hf⟩ := ob1_some hf
  refine k_callV (X := (wF cy fa ha kr rk lr tx da sr a F Q T O E X Td Od Ed Xd L K N S H).take 47) (Y := (wF cy fa ha kr rk lr tx da sr a F Q T O E X Td Od Ed Xd L K N S H).drop 70) (w2 := (wF cy fa ha kr rk lr tx da sr a F Q T O E X Td Od Ed Xd L K N S H)) C 3 (c_X10_hasRider Z.2.1 D cy a T O E X p1 r5 h5) rfl qX11_171 mvX10_hasRider 0 10 W_c0 rfl rfl rfl rfl rfl (Nat.le_of_ble_eq_true rfl) ⟨Nat.le_of_ble_eq_true rfl, Nat.le_of_ble_eq_true rfl, Nat.le_refl 0, Nat.le_refl 0⟩ ?_
  refine k_if_ne C 4 rfl 13 (by decide) (fun hc => ?_) (fun hc => ?_)
  · replace hf := if_f hf hc
    refine k_iload_2 C 7 rfl 2 rfl ?_
    obtain ⟨sw14, hx, hf⟩ := bnd_some hf
    refine k_topi hx ?_
    clear hx
    by_cases hs0 : sw14 = 0
    · subst hs0
      replace hf := if_t hf rfl
      refine k_tabIn C 8 rfl 64 (by decide) (by decide) rfl (by decide) ?_
      refine k_aload_0 C 9 rfl 0 rfl ?_
      refine kg11_1 C 10 rfl qX11_19 0 F_c0 F_f0_1 ?_
      refine kg10_1 C 11 rfl qX11_109 47 F_c47 F_f47_1 ?_
      refine kg2_2 C 12 rfl qX11_174 60 F_c60 F_f60_2 ?_
      refine k_iload_1 C 13 rfl 1 rfl ?_
      obtain ⟨i75, hi, hin, hf⟩ := ixd_some hf
      refine k_iald C 14 rfl 61 F_c61 hin hi ?_
      exact k_iretP hR 15 rfl hf
    by_cases hs1 : sw14 = 1
    · subst hs1
      replace hf := if_f hf (by decide)
      replace hf := if_t hf rfl
      refine k_tabIn C 8 rfl 77 (by decide) (by decide) rfl (by decide) ?_
      refine k_aload_0 C 16 rfl 0 rfl ?_
      refine kg11_1 C 17 rfl qX11_19 0 F_c0 F_f0_1 ?_
      refine kg10_0 C 18 rfl qX11_99 47 F_c47 F_f47_0 ?_
      refine kg9_11 C 19 rfl qX11_177 48 F_c48 F_f48_11 ?_
      refine k_iload_1 C 20 rfl 1 rfl ?_
      obtain ⟨i88, hi, hin, hf⟩ := ixd_some hf
      refine k_iald C 21 rfl 54 F_c54 hin hi ?_
      exact k_iretP hR 22 rfl hf
    by_cases hs2 : sw14 = 2
    · subst hs2
      replace hf := if_f hf (by decide)
      replace hf := if_f hf (by decide)
      replace hf := if_t hf rfl
      refine k_tabIn C 8 rfl 90 (by decide) (by decide) rfl (by decide) ?_
      refine k_aload_0 C 23 rfl 0 rfl ?_
      refine kg11_1 C 24 rfl qX11_19 0 F_c0 F_f0_1 ?_
      refine kg10_0 C 25 rfl qX11_99 47 F_c47 F_f47_0 ?_
      refine kg9_12 C 26 rfl qX11_180 48 F_c48 F_f48_12 ?_
      refine k_iload_1 C 27 rfl 1 rfl ?_
      obtain ⟨i101, hi, hin, hf⟩ := ixd_some hf
      refine k_iald C 28 rfl 55 F_c55 hin hi ?_
      exact k_iretP hR 29 rfl hf
    by_cases hs3 : sw14 = 3
    · subst hs3
      replace hf := if_f hf (by decide)
      replace hf := if_f hf (by decide)
      replace hf := if_f hf (by decide)
      replace hf := if_t hf rfl
      refine k_tabIn C 8 rfl 103 (by decide) (by decide) rfl (by decide) ?_
      refine k_aload_0 C 30 rfl 0 rfl ?_
      refine kg11_1 C 31 rfl qX11_19 0 F_c0 F_f0_1 ?_
      refine kg10_0 C 32 rfl qX11_99 47 F_c47 F_f47_0 ?_
      refine kg9_13 C 33 rfl qX11_183 48 F_c48 F_f48_13 ?_
      refine k_iload_1 C 34 rfl 1 rfl ?_
      obtain ⟨i114, hi, hin, hf⟩ := ixd_some hf
      refine k_iald C 35 rfl 56 F_c56 hin hi ?_
      exact k_iretP hR 36 rfl hf
    by_cases hs4 : sw14 = 4
    · subst hs4
      replace hf := if_f hf (by decide)
      replace hf := if_f hf (by decide)
      replace hf := if_f hf (by decide)
      replace hf := if_f hf (by decide)
      replace hf := if_t hf rfl
      refine k_tabIn C 8 rfl 116 (by decide) (by decide) rfl (by decide) ?_
      refine k_aload_0 C 37 rfl 0 rfl ?_
      refine kg11_1 C 38 rfl qX11_19 0 F_c0 F_f0_1 ?_
      refine kg10_0 C 39 rfl qX11_99 47 F_c47 F_f47_0 ?_
      refine kg9_14 C 40 rfl qX11_186 48 F_c48 F_f48_14 ?_
      refine k_iload_1 C 41 rfl 1 rfl ?_
      obtain ⟨i127, hi, hin, hf⟩ := ixd_some hf
      refine k_iald C 42 rfl 57 F_c57 hin hi ?_
      exact k_iretP hR 43 rfl hf
    by_cases hs5 : sw14 = 5
    · subst hs5
      replace hf := if_f hf (by decide)
      replace hf := if_f hf (by decide)
      replace hf := if_f hf (by decide)
      replace hf := if_f hf (by decide)
      replace hf := if_f hf (by decide)
      replace hf := if_t hf rfl
      refine k_tabIn C 8 rfl 129 (by decide) (by decide) rfl (by decide) ?_
      refine k_aload_0 C 44 rfl 0 rfl ?_
      refine kg11_1 C 45 rfl qX11_19 0 F_c0 F_f0_1 ?_
      refine kg10_1 C 46 rfl qX11_109 47 F_c47 F_f47_1 ?_
      refine kg2_3 C 47 rfl qX11_189 60 F_c60 F_f60_3 ?_
      refine k_iload_1 C 48 rfl 1 rfl ?_
      obtain ⟨i140, hi, hin, hf⟩ := ixd_some hf
      refine k_iald C 49 rfl 62 F_c62 hin hi ?_
      exact k_iretP hR 50 rfl hf
    by_cases hs6 : sw14 = 6
    · subst hs6
      replace hf := if_f hf (by decide)
      replace hf := if_f hf (by decide)
      replace hf := if_f hf (by decide)
      replace hf := if_f hf (by decide)
      replace hf := if_f hf (by decide)
      replace hf := if_f hf (by decide)
      replace hf := if_t hf rfl
      refine k_tabIn C 8 rfl 142 (by decide) (by decide) rfl (by decide) ?_
      refine k_aload_0 C 51 rfl 0 rfl ?_
      refine kg11_1 C 52 rfl qX11_19 0 F_c0 F_f0_1 ?_
      refine kg10_1 C 53 rfl qX11_109 47 F_c47 F_f47_1 ?_
      refine kg2_4 C 54 rfl qX11_192 60 F_c60 F_f60_4 ?_
      refine k_iload_1 C 55 rfl 1 rfl ?_
      obtain ⟨i153, hi, hin, hf⟩ := ixd_some hf
      refine k_iald C 56 rfl 63 F_c63 hin hi ?_
      exact k_iretP hR 57 rfl hf
    by_cases hs7 : sw14 = 7
    · subst hs7
      replace hf := if_f hf (by decide)
      replace hf := if_f hf (by decide)
      replace hf := if_f hf (by decide)
      replace hf := if_f hf (by decide)
      replace hf := if_f hf (by decide)
      replace hf := if_f hf (by decide)
      replace hf := if_f hf (by decide)
      replace hf := if_t hf rfl
      refine k_tabIn C 8 rfl 155 (by decide) (by decide) rfl (by decide) ?_
      refine k_aload_0 C 58 rfl 0 rfl ?_
      refine kg11_1 C 59 rfl qX11_19 0 F_c0 F_f0_1 ?_
      refine kg10_1 C 60 rfl qX11_109 47 F_c47 F_f47_1 ?_
      refine kg2_6 C 61 rfl qX11_195 60 F_c60 F_f60_6 ?_
      refine k_iload_1 C 62 rfl 1 rfl ?_
      obtain ⟨i166, hi, hin, hf⟩ := ixd_some hf
      refine k_iald C 63 rfl 65 F_c65 hin hi ?_
      exact k_iretP hR 64 rfl hf
    by_cases hs8 : sw14 = 8
    · subst hs8
      replace hf := if_f hf (by decide)
      replace hf := if_f hf (by decide)
      replace hf := if_f hf (by decide)
      replace hf := if_f hf (by decide)
      replace hf := if_f hf (by decide)
      replace hf := if_f hf (by decide)
      replace hf := if_f hf (by decide)
      replace hf := if_f hf (by decide)
      replace hf := if_t hf rfl
      refine k_tabIn C 8 rfl 168 (by decide) (by decide) rfl (by decide) ?_
      refine k_aload_0 C 65 rfl 0 rfl ?_
      refine kg11_1 C 66 rfl qX11_19 0 F_c0 F_f0_1 ?_
      refine k_iload_1 C 67 rfl 1 rfl ?_
      refine k_aload_0 C 68 rfl 0 rfl ?_
      refine kg11_1 C 69 rfl qX11_19 0 F_c0 F_f0_1 ?_
      refine kg10_1 C 70 rfl qX11_109 47 F_c47 F_f47_1 ?_
      refine kg2_2 C 71 rfl qX11_174 60 F_c60 F_f60_2 ?_
      refine k_iload_1 C 72 rfl 1 rfl ?_
      obtain ⟨i184, hi, hin, hf⟩ := ixd_some hf
      refine k_iald C 73 rfl 61 F_c61 hin hi ?_
      obtain ⟨r185, h5, hf⟩ := ob1_some hf
      refine k_callV (X := (wF cy fa ha kr rk lr tx da sr a F Q T O E X Td Od Ed Xd L K N S H).take 47) (Y := (wF cy fa ha kr rk lr tx da sr a F Q T O E X Td Od Ed Xd L K N S H).drop 70) (w2 := (wF cy fa ha kr rk lr tx da sr a F Q T O E X Td Od Ed Xd L K N S H)) C 74 (c_X10_isRight Z.2.1 D cy a T O E X p1 (O.2.1 2 i184) r185 h5) rfl qX11_198 mvX10_isRight 0 10 W_c0 rfl rfl rfl rfl rfl (Nat.le_of_ble_eq_true rfl) ⟨Nat.le_of_ble_eq_true rfl, Nat.le_of_ble_eq_true rfl, Nat.le_refl 0, Nat.le_refl 0⟩ ?_
      refine k_if_eq C 75 rfl 195 (by decide) (fun hc => ?_) (fun hc => ?_)
      · replace hf := if_t hf hc
        refine k_iconst C 78 rfl ci_0 ?_
        exact k_iretP hR 79 rfl hf
      · replace hf := if_f hf hc
        refine k_iconst C 76 rfl ci_1 ?_
        refine k_goto C 77 rfl 196 (by decide) ?_
        exact k_iretP hR 79 rfl hf
    replace hf := if_f hf hs0
    replace hf := if_f hf hs1
    replace hf := if_f hf hs2
    replace hf := if_f hf hs3
    replace hf := if_f hf hs4
    replace hf := if_f hf hs5
    replace hf := if_f hf hs6
    replace hf := if_f hf hs7
    replace hf := if_f hf hs8
    refine k_tabOut C 8 rfl 197 (sw_out [0, 1, 2, 3, 4, 5, 6, 7, 8] (by intro v hv; simp only [List.mem_cons, List.not_mem_nil, or_false] at hv; rcases hv with rfl | rfl | rfl | rfl | rfl | rfl | rfl | rfl | rfl <;> assumption) (by decide)) (by decide) ?_
    refine k_iconst C 80 rfl ci_m1 ?_
    exact k_iretP hR 81 rfl hf
  · replace hf := if_t hf hc
    refine k_iconst C 5 rfl ci_m1 ?_
    exact k_iretP hR 6 rfl hf
set_option maxHeartbeats 1000000 in
set_option maxRecDepth 20000 in
theorem c_X11_soonest (l : Launch) (D : va_G) (cy : Nat → ClassId) (fa : Nat → Nat) (ha : Nat → Nat) (kr : Nat → Nat) (rk : Nat → Nat) (lr : Nat → Nat) (tx : Nat → Nat) (da : Nat → Nat) (sr : Nat → Nat) (a : Nat → Nat) (F : Sg) (Q : Sg) (T : Sg) (O : Sg) (E : Sg) (X : Sg) (Td : Sg) (Od : Sg) (Ed : Sg) (Xd : Sg) (L : Sg) (K : Sg) (N : Sg) (S : Sg) (H : Sg) (p1 : Int32) (r : Int32) (S1 : Sg) (hf : f_X11_soonest T O S p1 = some (r, S1)) : Ct l D cy yX11_soonest cX11_soonest 3 (some .int) 6 329 0 0 [.ref (fa 0), .int p1] (wF cy fa ha kr rk lr tx da sr a F Q T O E X Td Od Ed Xd L K N S H) (some (.int r)) (wF cy fa ha kr rk lr tx da sr a F Q T O E X Td Od Ed Xd L K N S1 H) := by
  refine Ct_i tX11_soonest hX11_soonest (by decide) (Nat.le_of_ble_eq_true rfl) ?_
  intro Z hZ C hR
  subst hZ
  replace C : Cx Z D cy RX11 tX11_soonest 3 6 329 0 0 := C
  show Wk Z D 3 0 0 (wF cy fa ha kr rk lr tx da sr a F Q T O E X Td Od Ed Xd L K N S H) 0 [(0, .ref (fa 0)), (1, .int p1)] []
  unfold f_X11_soonest at hf
  refine k_aload_0 C 0 rfl 0 rfl ?_
  refine kg11_1 C 1 rfl qX11_19 0 F_c0 F_f0_1 ?_
  refine k_iload_1 C 2 rfl 1 rfl ?_
  obtain ⟨r5, h5, hf⟩ := ob1_some hf
  refine k_callV (X := (wF cy fa ha kr rk lr tx da sr a F Q T O E X Td Od Ed Xd L K N S H).take 47) (Y := (wF cy fa ha kr rk lr tx da sr a F Q T O E X Td Od Ed Xd L K N S H).drop 70) (w2 := (wF cy fa ha kr rk lr tx da sr a F Q T O E X Td Od Ed Xd L K N S H)) C 3 (c_X10_hasRider Z.2.1 D cy a T O E X p1 r5 h5) rfl qX11_171 mvX10_hasRider 0 10 W_c0 rfl rfl rfl rfl rfl (Nat.le_of_ble_eq_true rfl) ⟨Nat.le_of_ble_eq_true rfl, Nat.le_of_ble_eq_true rfl, Nat.le_refl 0, Nat.le_refl 0⟩ ?_
  refine k_if_ne C 4 rfl 13 (by decide) (fun hc => ?_) (fun hc => ?_)
  · replace hf := if_f hf hc
    refine k_aload_0 C 7 rfl 0 rfl ?_
    refine kg11_11 C 8 rfl qX11_81 0 F_c0 F_f0_11 ?_
    refine k_iload_1 C 9 rfl 1 rfl ?_
    refine k_aload_0 C 10 rfl 0 rfl ?_
    refine kg11_1 C 11 rfl qX11_19 0 F_c0 F_f0_1 ?_
    refine kg10_0 C 12 rfl qX11_99 47 F_c47 F_f47_0 ?_
    refine kg9_14 C 13 rfl qX11_186 48 F_c48 F_f48_14 ?_
    refine k_iload_1 C 14 rfl 1 rfl ?_
    obtain ⟨i29, hi, hin, hf⟩ := ixd_some hf
    refine k_iald C 15 rfl 57 F_c57 hin hi ?_
    obtain ⟨r30, S_30, h5, hf⟩ := ob2_some hf
    refine k_callV (X := (wF cy fa ha kr rk lr tx da sr a F Q T O E X Td Od Ed Xd L K N S H).take 39) (Y := (wF cy fa ha kr rk lr tx da sr a F Q T O E X Td Od Ed Xd L K N S H).drop 70) (w2 := (wF cy fa ha kr rk lr tx da sr a F Q T O E X Td Od Ed Xd L K N S_30 H)) C 16 (c_X6_soonestOf Z.2.1 D cy sr a S T O E X p1 (T.2.1 14 i29) r30 S_30 h5) rfl qX11_237 mvX6_soonestOf 0 6 S_c0 rfl rfl rfl rfl rfl (Nat.le_of_ble_eq_true rfl) ⟨Nat.le_of_ble_eq_true rfl, Nat.le_of_ble_eq_true rfl, Nat.le_refl 0, Nat.le_refl 0⟩ ?_
    refine k_istore_2 C 17 rfl (by decide) rfl ?_
    refine k_sub (lv2 := [(0, .ref (fa 0)), (1, .int p1), (2, .int r30)]) [1, 2, 0] rfl ?_
    refine k_iload_2 C 18 rfl 2 rfl ?_
    refine k_ldc C 19 rfl qX11_240 ?_
    refine k_icmp_ne C 20 rfl 45 (by decide) (fun hc => ?_) (fun hc => ?_)
    · replace hf := if_f hf hc
      refine k_iload_2 C 23 rfl 2 rfl ?_
      exact k_iret (wf := (fun u => (wF cy fa ha kr rk lr tx da sr a F Q T O E X Td Od Ed Xd L K N u H))) hR 24 rfl hf
    · replace hf := if_t hf hc
      refine k_bipush C 21 rfl cb_m2 ?_
      refine k_goto C 22 rfl 46 (by decide) ?_
      exact k_iret (wf := (fun u => (wF cy fa ha kr rk lr tx da sr a F Q T O E X Td Od Ed Xd L K N u H))) hR 24 rfl hf
  · replace hf := if_t hf hc
    refine k_iconst C 5 rfl ci_m1 ?_
    exact k_iret (wf := (fun u => (wF cy fa ha kr rk lr tx da sr a F Q T O E X Td Od Ed Xd L K N u H))) hR 6 rfl hf
set_option maxHeartbeats 1000000 in
set_option maxRecDepth 20000 in
theorem c_X11_row (l : Launch) (D : va_G) (cy : Nat → ClassId) (fa : Nat → Nat) (ha : Nat → Nat) (kr : Nat → Nat) (rk : Nat → Nat) (lr : Nat → Nat) (tx : Nat → Nat) (da : Nat → Nat) (sr : Nat → Nat) (a : Nat → Nat) (F : Sg) (Q : Sg) (T : Sg) (O : Sg) (E : Sg) (X : Sg) (Td : Sg) (Od : Sg) (Ed : Sg) (Xd : Sg) (L : Sg) (K : Sg) (N : Sg) (S : Sg) (H : Sg) (p1 : Int32) (p2 : Int32) (p3 : Int32) (r : Int32) (S1 : Sg) (hf : f_X11_row T O S p1 p2 p3 = some (r, S1)) : Ct l D cy yX11_row cX11_row 4 (some .int) 7 355 0 0 [.ref (fa 0), .int p1, .int p2, .int p3] (wF cy fa ha kr rk lr tx da sr a F Q T O E X Td Od Ed Xd L K N S H) (some (.int r)) (wF cy fa ha kr rk lr tx da sr a F Q T O E X Td Od Ed Xd L K N S1 H) := by
  refine Ct_i tX11_row hX11_row (by decide) (Nat.le_of_ble_eq_true rfl) ?_
  intro Z hZ C hR
  subst hZ
  replace C : Cx Z D cy RX11 tX11_row 4 7 355 0 0 := C
  show Wk Z D 4 0 0 (wF cy fa ha kr rk lr tx da sr a F Q T O E X Td Od Ed Xd L K N S H) 0 [(0, .ref (fa 0)), (1, .int p1), (2, .int p2), (3, .int p3)] []
  unfold f_X11_row at hf
  have hb24 : ∀ (S : Sg), f_X11_row_b24 T O p1 p2 p3 S = some (r, S1) → Wk Z D 4 0 0 (wF cy fa ha kr rk lr tx da sr a F Q T O E X Td Od Ed Xd L K N S H) 24 [] [] := by
    intro S hf
    unfold f_X11_row_b24 at hf
    refine k_iconst C 12 rfl ci_m1 ?_
    exact k_iret (wf := (fun u => (wF cy fa ha kr rk lr tx da sr a F Q T O E X Td Od Ed Xd L K N u H))) hR 13 rfl hf
  refine k_aload_0 C 0 rfl 0 rfl ?_
  refine kg11_1 C 1 rfl qX11_19 0 F_c0 F_f0_1 ?_
  refine k_iload_1 C 2 rfl 1 rfl ?_
  obtain ⟨r5, h5, hf⟩ := ob1_some hf
  refine k_callV (X := (wF cy fa ha kr rk lr tx da sr a F Q T O E X Td Od Ed Xd L K N S H).take 47) (Y := (wF cy fa ha kr rk lr tx da sr a F Q T O E X Td Od Ed Xd L K N S H).drop 70) (w2 := (wF cy fa ha kr rk lr tx da sr a F Q T O E X Td Od Ed Xd L K N S H)) C 3 (c_X10_hasRider Z.2.1 D cy a T O E X p1 r5 h5) rfl qX11_171 mvX10_hasRider 0 10 W_c0 rfl rfl rfl rfl rfl (Nat.le_of_ble_eq_true rfl) ⟨Nat.le_of_ble_eq_true rfl, Nat.le_of_ble_eq_true rfl, Nat.le_refl 0, Nat.le_refl 0⟩ ?_
  refine k_if_eq C 4 rfl 24 (by decide) (fun hc => ?_) (fun hc => ?_)
  · replace hf := if_t hf hc
    exact k_sub [] rfl (hb24 S hf)
  · replace hf := if_f hf hc
    refine k_iload_2 C 5 rfl 2 rfl ?_
    refine k_if_lt C 6 rfl 24 (by decide) (fun hc => ?_) (fun hc => ?_)
    · replace hf := if_t hf hc
      exact k_sub [] rfl (hb24 S hf)
    · replace hf := if_f hf hc
      refine k_iload_3 C 7 rfl 3 rfl ?_
      refine k_if_lt C 8 rfl 24 (by decide) (fun hc => ?_) (fun hc => ?_)
      · replace hf := if_t hf hc
        exact k_sub [] rfl (hb24 S hf)
      · replace hf := if_f hf hc
        refine k_iload_3 C 9 rfl 3 rfl ?_
        refine k_iconst C 10 rfl ci_2 ?_
        refine k_icmp_le C 11 rfl 26 (by decide) (fun hc => ?_) (fun hc => ?_)
        · replace hf := if_t hf hc
          refine k_aload_0 C 14 rfl 0 rfl ?_
          refine kg11_11 C 15 rfl qX11_81 0 F_c0 F_f0_11 ?_
          refine k_iload_1 C 16 rfl 1 rfl ?_
          refine k_iload_2 C 17 rfl 2 rfl ?_
          obtain ⟨r32, S_32, h5, hf⟩ := ob2_some hf
          refine k_callV (X := (wF cy fa ha kr rk lr tx da sr a F Q T O E X Td Od Ed Xd L K N S H).take 39) (Y := (wF cy fa ha kr rk lr tx da sr a F Q T O E X Td Od Ed Xd L K N S H).drop 70) (w2 := (wF cy fa ha kr rk lr tx da sr a F Q T O E X Td Od Ed Xd L K N S_32 H)) C 18 (c_X6_findGoing Z.2.1 D cy sr a S T O E X p1 p2 r32 S_32 h5) rfl qX11_241 mvX6_findGoing 0 6 S_c0 rfl rfl rfl rfl rfl (Nat.le_of_ble_eq_true rfl) ⟨Nat.le_of_ble_eq_true rfl, Nat.le_of_ble_eq_true rfl, Nat.le_refl 0, Nat.le_refl 0⟩ ?_
          refine k_if_ne C 19 rfl 41 (by decide) (fun hc => ?_) (fun hc => ?_)
          · replace hf := if_f hf hc
            refine k_iload_3 C 22 rfl 3 rfl ?_
            refine k_if_ne C 23 rfl 61 (by decide) (fun hc => ?_) (fun hc => ?_)
            · replace hf := if_f hf hc
              refine k_iload_3 C 32 rfl 3 rfl ?_
              refine k_iconst C 33 rfl ci_1 ?_
              refine k_icmp_ne C 34 rfl 76 (by decide) (fun hc => ?_) (fun hc => ?_)
              · replace hf := if_f hf hc
                refine k_aload_0 C 39 rfl 0 rfl ?_
                refine kg11_11 C 40 rfl qX11_81 0 F_c0 F_f0_11 ?_
                refine kg6_10 C 41 rfl qX11_251 39 F_c39 F_f39_10 ?_
                exact k_iret (wf := (fun u => (wF cy fa ha kr rk lr tx da sr a F Q T O E X Td Od Ed Xd L K N u H))) hR 42 rfl hf
              · replace hf := if_t hf hc
                refine k_aload_0 C 35 rfl 0 rfl ?_
                refine kg11_11 C 36 rfl qX11_81 0 F_c0 F_f0_11 ?_
                refine kg6_9 C 37 rfl qX11_248 39 F_c39 F_f39_9 ?_
                refine k_goto C 38 rfl 83 (by decide) ?_
                exact k_iret (wf := (fun u => (wF cy fa ha kr rk lr tx da sr a F Q T O E X Td Od Ed Xd L K N u H))) hR 42 rfl hf
            · replace hf := if_t hf hc
              refine k_aload_0 C 24 rfl 0 rfl ?_
              refine kg11_11 C 25 rfl qX11_81 0 F_c0 F_f0_11 ?_
              refine kg6_8 C 26 rfl qX11_244 39 F_c39 F_f39_8 ?_
              refine k_if_eq C 27 rfl 59 (by decide) (fun hc => ?_) (fun hc => ?_)
              · replace hf := if_t hf hc
                refine k_iconst C 30 rfl ci_0 ?_
                exact k_iret (wf := (fun u => (wF cy fa ha kr rk lr tx da sr a F Q T O E X Td Od Ed Xd L K N u H))) hR 31 rfl hf
              · replace hf := if_f hf hc
                refine k_iconst C 28 rfl ci_1 ?_
                refine k_goto C 29 rfl 60 (by decide) ?_
                exact k_iret (wf := (fun u => (wF cy fa ha kr rk lr tx da sr a F Q T O E X Td Od Ed Xd L K N u H))) hR 31 rfl hf
          · replace hf := if_t hf hc
            refine k_bipush C 20 rfl cb_m2 ?_
            exact k_iret (wf := (fun u => (wF cy fa ha kr rk lr tx da sr a F Q T O E X Td Od Ed Xd L K N u H))) hR 21 rfl hf
        · replace hf := if_f hf hc
          exact k_sub [] rfl (hb24 S hf)
set_option maxHeartbeats 1000000 in
set_option maxRecDepth 20000 in
theorem c_X11_latest (l : Launch) (D : va_G) (cy : Nat → ClassId) (fa : Nat → Nat) (ha : Nat → Nat) (kr : Nat → Nat) (rk : Nat → Nat) (lr : Nat → Nat) (tx : Nat → Nat) (da : Nat → Nat) (sr : Nat → Nat) (a : Nat → Nat) (F : Sg) (Q : Sg) (T : Sg) (O : Sg) (E : Sg) (X : Sg) (Td : Sg) (Od : Sg) (Ed : Sg) (Xd : Sg) (L : Sg) (K : Sg) (N : Sg) (S : Sg) (H : Sg) (p1 : Int32) (r : Int32) (S1 : Sg) (hf : f_X11_latest T O S p1 = some (r, S1)) : Ct l D cy yX11_latest cX11_latest 3 (some .int) 6 322 0 0 [.ref (fa 0), .int p1] (wF cy fa ha kr rk lr tx da sr a F Q T O E X Td Od Ed Xd L K N S H) (some (.int r)) (wF cy fa ha kr rk lr tx da sr a F Q T O E X Td Od Ed Xd L K N S1 H) := by
  refine Ct_i tX11_latest hX11_latest (by decide) (Nat.le_of_ble_eq_true rfl) ?_
  intro Z hZ C hR
  subst hZ
  replace C : Cx Z D cy RX11 tX11_latest 3 6 322 0 0 := C
  show Wk Z D 3 0 0 (wF cy fa ha kr rk lr tx da sr a F Q T O E X Td Od Ed Xd L K N S H) 0 [(0, .ref (fa 0)), (1, .int p1)] []
  unfold f_X11_latest at hf
  refine k_aload_0 C 0 rfl 0 rfl ?_
  refine kg11_1 C 1 rfl qX11_19 0 F_c0 F_f0_1 ?_
  refine k_iload_1 C 2 rfl 1 rfl ?_
  obtain ⟨r5, h5, hf⟩ := ob1_some hf
  refine k_callV (X := (wF cy fa ha kr rk lr tx da sr a F Q T O E X Td Od Ed Xd L K N S H).take 47) (Y := (wF cy fa ha kr rk lr tx da sr a F Q T O E X Td Od Ed Xd L K N S H).drop 70) (w2 := (wF cy fa ha kr rk lr tx da sr a F Q T O E X Td Od Ed Xd L K N S H)) C 3 (c_X10_hasRider Z.2.1 D cy a T O E X p1 r5 h5) rfl qX11_171 mvX10_hasRider 0 10 W_c0 rfl rfl rfl rfl rfl (Nat.le_of_ble_eq_true rfl) ⟨Nat.le_of_ble_eq_true rfl, Nat.le_of_ble_eq_true rfl, Nat.le_refl 0, Nat.le_refl 0⟩ ?_
  refine k_if_ne C 4 rfl 13 (by decide) (fun hc => ?_) (fun hc => ?_)
  · replace hf := if_f hf hc
    refine k_aload_0 C 7 rfl 0 rfl ?_
    refine kg11_11 C 8 rfl qX11_81 0 F_c0 F_f0_11 ?_
    refine k_iload_1 C 9 rfl 1 rfl ?_
    obtain ⟨r18, S_18, h5, hf⟩ := ob2_some hf
    refine k_callV (X := (wF cy fa ha kr rk lr tx da sr a F Q T O E X Td Od Ed Xd L K N S H).take 39) (Y := (wF cy fa ha kr rk lr tx da sr a F Q T O E X Td Od Ed Xd L K N S H).drop 70) (w2 := (wF cy fa ha kr rk lr tx da sr a F Q T O E X Td Od Ed Xd L K N S_18 H)) C 10 (c_X6_latestOf Z.2.1 D cy sr a S T O E X p1 r18 S_18 h5) rfl qX11_254 mvX6_latestOf 0 6 S_c0 rfl rfl rfl rfl rfl (Nat.le_of_ble_eq_true rfl) ⟨Nat.le_of_ble_eq_true rfl, Nat.le_of_ble_eq_true rfl, Nat.le_refl 0, Nat.le_refl 0⟩ ?_
    refine k_istore_2 C 11 rfl (by decide) rfl ?_
    refine k_sub (lv2 := [(0, .ref (fa 0)), (1, .int p1), (2, .int r18)]) [1, 2, 0] rfl ?_
    refine k_iload_2 C 12 rfl 2 rfl ?_
    refine k_if_ge C 13 rfl 31 (by decide) (fun hc => ?_) (fun hc => ?_)
    · replace hf := if_t hf hc
      refine k_iload_2 C 16 rfl 2 rfl ?_
      exact k_iret (wf := (fun u => (wF cy fa ha kr rk lr tx da sr a F Q T O E X Td Od Ed Xd L K N u H))) hR 17 rfl hf
    · replace hf := if_f hf hc
      refine k_bipush C 14 rfl cb_m2 ?_
      refine k_goto C 15 rfl 32 (by decide) ?_
      exact k_iret (wf := (fun u => (wF cy fa ha kr rk lr tx da sr a F Q T O E X Td Od Ed Xd L K N u H))) hR 17 rfl hf
  · replace hf := if_t hf hc
    refine k_iconst C 5 rfl ci_m1 ?_
    exact k_iret (wf := (fun u => (wF cy fa ha kr rk lr tx da sr a F Q T O E X Td Od Ed Xd L K N u H))) hR 6 rfl hf
set_option maxHeartbeats 1000000 in
set_option maxRecDepth 20000 in
theorem c_X11_lost (l : Launch) (D : va_G) (cy : Nat → ClassId) (fa : Nat → Nat) (ha : Nat → Nat) (kr : Nat → Nat) (rk : Nat → Nat) (lr : Nat → Nat) (tx : Nat → Nat) (da : Nat → Nat) (sr : Nat → Nat) (a : Nat → Nat) (F : Sg) (Q : Sg) (T : Sg) (O : Sg) (E : Sg) (X : Sg) (Td : Sg) (Od : Sg) (Ed : Sg) (Xd : Sg) (L : Sg) (K : Sg) (N : Sg) (S : Sg) (H : Sg) (r : Int32) (S1 : Sg) (hf : f_X11_lost T O S = some (r, S1)) : Ct l D cy yX11_lost cX11_lost 3 (some .int) 6 329 0 0 [.ref (fa 0)] (wF cy fa ha kr rk lr tx da sr a F Q T O E X Td Od Ed Xd L K N S H) (some (.int r)) (wF cy fa ha kr rk lr tx da sr a F Q T O E X Td Od Ed Xd L K N S1 H) := by
  refine Ct_i tX11_lost hX11_lost (by decide) (Nat.le_of_ble_eq_true rfl) ?_
  intro Z hZ C hR
  subst hZ
  replace C : Cx Z D cy RX11 tX11_lost 3 6 329 0 0 := C
  show Wk Z D 3 0 0 (wF cy fa ha kr rk lr tx da sr a F Q T O E X Td Od Ed Xd L K N S H) 0 [(0, .ref (fa 0))] []
  unfold f_X11_lost at hf
  have hq16 : ∀ (k16 : Int32 → Int32 → Sg → Option (Int32 × Sg)), (∀ (x1 : Int32) (x2 : Int32) (S : Sg), k16 x1 x2 S = some (r, S1) → Wk Z D 3 0 0 (wF cy fa ha kr rk lr tx da sr a F Q T O E X Td Od Ed Xd L K N S H) 16 [(0, .ref (fa 0)), (1, .int x1), (2, .int x2)] []) → ∀ (x1 : Int32) (x2 : Int32) (S : Sg), f_X11_lost_b16 T O k16 x1 x2 S = some (r, S1) → Wk Z D 3 0 0 (wF cy fa ha kr rk lr tx da sr a F Q T O E X Td Od Ed Xd L K N S H) 16 [(0, .ref (fa 0)), (1, .int x1), (2, .int x2)] [] := by
    intro k16 hk16 x1 x2 S hf
    unfold f_X11_lost_b16 at hf
    have hb67 : ∀ (x1 : Int32) (x2 : Int32) (S : Sg), f_X11_lost_b67 T O k16 x1 x2 S = some (r, S1) → Wk Z D 3 0 0 (wF cy fa ha kr rk lr tx da sr a F Q T O E X Td Od Ed Xd L K N S H) 67 [(0, .ref (fa 0)), (1, .int x1), (2, .int x2)] [] := by
      intro x1 x2 S hf
      unfold f_X11_lost_b67 at hf
      obtain ⟨x2_67, hx, hf⟩ := bnd_some hf
      refine k_iinc C 37 rfl 2 rfl ((cn_1 _).trans hx) (by decide) rfl ?_
      refine k_sub (lv2 := [(0, .ref (fa 0)), (1, .int x1), (2, .int x2_67)]) [1, 2, 0] rfl ?_
      refine k_goto C 38 rfl 16 (by decide) ?_
      exact k_sub [0, 1, 2] rfl (hk16 x1 x2_67 S hf)
    refine k_iload_2 C 10 rfl 2 rfl ?_
    refine k_aload_0 C 11 rfl 0 rfl ?_
    refine kg11_1 C 12 rfl qX11_19 0 F_c0 F_f0_1 ?_
    refine kg10_0 C 13 rfl qX11_99 47 F_c47 F_f47_0 ?_
    refine kg9_2 C 14 rfl qX11_128 48 F_c48 F_f48_2 ?_
    refine k_icmp_ge C 15 rfl 73 (by decide) (fun hc => ?_) (fun hc => ?_)
    · replace hf := if_t hf hc
      refine k_iload_1 C 39 rfl 1 rfl ?_
      exact k_iret (wf := (fun u => (wF cy fa ha kr rk lr tx da sr a F Q T O E X Td Od Ed Xd L K N u H))) hR 40 rfl hf
    · replace hf := if_f hf hc
      refine k_aload_0 C 16 rfl 0 rfl ?_
      refine kg11_11 C 17 rfl qX11_81 0 F_c0 F_f0_11 ?_
      refine k_iload_2 C 18 rfl 2 rfl ?_
      refine k_aload_0 C 19 rfl 0 rfl ?_
      refine kg11_11 C 20 rfl qX11_81 0 F_c0 F_f0_11 ?_
      refine k_iload_2 C 21 rfl 2 rfl ?_
      refine k_aload_0 C 22 rfl 0 rfl ?_
      refine kg11_1 C 23 rfl qX11_19 0 F_c0 F_f0_1 ?_
      refine kg10_0 C 24 rfl qX11_99 47 F_c47 F_f47_0 ?_
      refine kg9_14 C 25 rfl qX11_186 48 F_c48 F_f48_14 ?_
      refine k_iload_2 C 26 rfl 2 rfl ?_
      obtain ⟨i51, hi, hin, hf⟩ := ixd_some hf
      refine k_iald C 27 rfl 57 F_c57 hin hi ?_
      obtain ⟨r52, S_52, h5, hf⟩ := ob2_some hf
      refine k_callV (X := (wF cy fa ha kr rk lr tx da sr a F Q T O E X Td Od Ed Xd L K N S H).take 39) (Y := (wF cy fa ha kr rk lr tx da sr a F Q T O E X Td Od Ed Xd L K N S H).drop 70) (w2 := (wF cy fa ha kr rk lr tx da sr a F Q T O E X Td Od Ed Xd L K N S_52 H)) C 28 (c_X6_soonestOf Z.2.1 D cy sr a S T O E X x2 (T.2.1 14 i51) r52 S_52 h5) rfl qX11_237 mvX6_soonestOf 0 6 S_c0 rfl rfl rfl rfl rfl (Nat.le_of_ble_eq_true rfl) ⟨Nat.le_of_ble_eq_true rfl, Nat.le_of_ble_eq_true rfl, Nat.le_refl 0, Nat.le_refl 0⟩ ?_
      obtain ⟨r55, h5, hf⟩ := ob1_some hf
      refine k_callV (X := (wF cy fa ha kr rk lr tx da sr a F Q T O E X Td Od Ed Xd L K N S_52 H).take 39) (Y := (wF cy fa ha kr rk lr tx da sr a F Q T O E X Td Od Ed Xd L K N S_52 H).drop 70) (w2 := (wF cy fa ha kr rk lr tx da sr a F Q T O E X Td Od Ed Xd L K N S_52 H)) C 29 (c_X6_isLost Z.2.1 D cy sr a S_52 T O E X x2 r52 r55 h5) rfl qX11_260 mvX6_isLost 0 6 S_c0 rfl rfl rfl rfl rfl (Nat.le_of_ble_eq_true rfl) ⟨Nat.le_of_ble_eq_true rfl, Nat.le_of_ble_eq_true rfl, Nat.le_refl 0, Nat.le_refl 0⟩ ?_
      refine k_if_eq C 30 rfl 67 (by decide) (fun hc => ?_) (fun hc => ?_)
      · replace hf := if_t hf hc
        exact k_sub [0, 1, 2] rfl (hb67 x1 x2 S_52 hf)
      · replace hf := if_f hf hc
        refine k_iload_1 C 31 rfl 1 rfl ?_
        refine k_iconst C 32 rfl ci_1 ?_
        refine k_iload_2 C 33 rfl 2 rfl ?_
        refine k_ishl C 34 rfl ?_
        refine k_ior C 35 rfl ?_
        obtain ⟨x1_66, hx, hf⟩ := bnd_some hf
        refine k_topi hx ?_
        refine k_istore_1 C 36 rfl (by decide) rfl ?_
        refine k_sub (lv2 := [(0, .ref (fa 0)), (1, .int x1_66), (2, .int x2)]) [1, 0, 2] rfl ?_
        exact k_sub [0, 1, 2] rfl (hb67 x1_66 x2 S_52 hf)
  have hb16 := flW3 hq16
  refine k_aload_0 C 0 rfl 0 rfl ?_
  refine kg11_1 C 1 rfl qX11_19 0 F_c0 F_f0_1 ?_
  obtain ⟨r4, h5, hf⟩ := ob1_some hf
  refine k_callV (X := (wF cy fa ha kr rk lr tx da sr a F Q T O E X Td Od Ed Xd L K N S H).take 47) (Y := (wF cy fa ha kr rk lr tx da sr a F Q T O E X Td Od Ed Xd L K N S H).drop 70) (w2 := (wF cy fa ha kr rk lr tx da sr a F Q T O E X Td Od Ed Xd L K N S H)) C 2 (c_X10_hasLine Z.2.1 D cy a T O E X r4 h5) rfl qX11_257 mvX10_hasLine 0 10 W_c0 rfl rfl rfl rfl rfl (Nat.le_of_ble_eq_true rfl) ⟨Nat.le_of_ble_eq_true rfl, Nat.le_of_ble_eq_true rfl, Nat.le_refl 0, Nat.le_refl 0⟩ ?_
  refine k_if_ne C 3 rfl 12 (by decide) (fun hc => ?_) (fun hc => ?_)
  · replace hf := if_f hf hc
    refine k_iconst C 6 rfl ci_0 ?_
    refine k_istore_1 C 7 rfl (by decide) rfl ?_
    refine k_sub (lv2 := [(0, .ref (fa 0)), (1, .int 0)]) [1, 0] rfl ?_
    refine k_iconst C 8 rfl ci_0 ?_
    refine k_istore_2 C 9 rfl (by decide) rfl ?_
    refine k_sub (lv2 := [(0, .ref (fa 0)), (1, .int 0), (2, .int 0)]) [1, 2, 0] rfl ?_
    exact k_sub [0, 1, 2] rfl (hb16 FU 0 0 S hf)
  · replace hf := if_t hf hc
    refine k_iconst C 4 rfl ci_m1 ?_
    exact k_iret (wf := (fun u => (wF cy fa ha kr rk lr tx da sr a F Q T O E X Td Od Ed Xd L K N u H))) hR 5 rfl hf
set_option maxHeartbeats 1000000 in
set_option maxRecDepth 20000 in
theorem c_X11_voice (l : Launch) (D : va_G) (cy : Nat → ClassId) (fa : Nat → Nat) (ha : Nat → Nat) (kr : Nat → Nat) (rk : Nat → Nat) (lr : Nat → Nat) (tx : Nat → Nat) (da : Nat → Nat) (sr : Nat → Nat) (a : Nat → Nat) (F : Sg) (Q : Sg) (T : Sg) (O : Sg) (E : Sg) (X : Sg) (Td : Sg) (Od : Sg) (Ed : Sg) (Xd : Sg) (L : Sg) (K : Sg) (N : Sg) (S : Sg) (H : Sg) (p1 : Int32) (r : Int32) (S1 : Sg) (hf : f_X11_voice T O S p1 = some (r, S1)) : Ct l D cy yX11_voice cX11_voice 3 (some .int) 7 346 0 0 [.ref (fa 0), .int p1] (wF cy fa ha kr rk lr tx da sr a F Q T O E X Td Od Ed Xd L K N S H) (some (.int r)) (wF cy fa ha kr rk lr tx da sr a F Q T O E X Td Od Ed Xd L K N S1 H) := by
  refine Ct_i tX11_voice hX11_voice (by decide) (Nat.le_of_ble_eq_true rfl) ?_
  intro Z hZ C hR
  subst hZ
  replace C : Cx Z D cy RX11 tX11_voice 3 7 346 0 0 := C
  show Wk Z D 3 0 0 (wF cy fa ha kr rk lr tx da sr a F Q T O E X Td Od Ed Xd L K N S H) 0 [(0, .ref (fa 0)), (1, .int p1)] []
  unfold f_X11_voice at hf
  refine k_aload_0 C 0 rfl 0 rfl ?_
  refine kg11_1 C 1 rfl qX11_19 0 F_c0 F_f0_1 ?_
  refine k_iload_1 C 2 rfl 1 rfl ?_
  obtain ⟨r5, h5, hf⟩ := ob1_some hf
  refine k_callV (X := (wF cy fa ha kr rk lr tx da sr a F Q T O E X Td Od Ed Xd L K N S H).take 47) (Y := (wF cy fa ha kr rk lr tx da sr a F Q T O E X Td Od Ed Xd L K N S H).drop 70) (w2 := (wF cy fa ha kr rk lr tx da sr a F Q T O E X Td Od Ed Xd L K N S H)) C 3 (c_X10_hasCoach Z.2.1 D cy a T O E X p1 r5 h5) rfl qX11_135 mvX10_hasCoach 0 10 W_c0 rfl rfl rfl rfl rfl (Nat.le_of_ble_eq_true rfl) ⟨Nat.le_of_ble_eq_true rfl, Nat.le_of_ble_eq_true rfl, Nat.le_refl 0, Nat.le_refl 0⟩ ?_
  refine k_if_ne C 4 rfl 13 (by decide) (fun hc => ?_) (fun hc => ?_)
  · replace hf := if_f hf hc
    refine k_aload_0 C 7 rfl 0 rfl ?_
    refine kg11_11 C 8 rfl qX11_81 0 F_c0 F_f0_11 ?_
    refine k_iload_1 C 9 rfl 1 rfl ?_
    obtain ⟨r18, S_18, h5, hf⟩ := ob2_some hf
    refine k_callV (X := (wF cy fa ha kr rk lr tx da sr a F Q T O E X Td Od Ed Xd L K N S H).take 39) (Y := (wF cy fa ha kr rk lr tx da sr a F Q T O E X Td Od Ed Xd L K N S H).drop 70) (w2 := (wF cy fa ha kr rk lr tx da sr a F Q T O E X Td Od Ed Xd L K N S_18 H)) C 10 (c_X6_voiceIn Z.2.1 D cy sr a S T O E X p1 r18 S_18 h5) rfl qX11_263 mvX6_voiceIn 0 6 S_c0 rfl rfl rfl rfl rfl (Nat.le_of_ble_eq_true rfl) ⟨Nat.le_of_ble_eq_true rfl, Nat.le_of_ble_eq_true rfl, Nat.le_refl 0, Nat.le_refl 0⟩ ?_
    refine k_istore_2 C 11 rfl (by decide) rfl ?_
    refine k_sub (lv2 := [(0, .ref (fa 0)), (1, .int p1), (2, .int r18)]) [1, 2, 0] rfl ?_
    refine k_iload_2 C 12 rfl 2 rfl ?_
    refine k_ldc C 13 rfl qX11_240 ?_
    refine k_icmp_ne C 14 rfl 33 (by decide) (fun hc => ?_) (fun hc => ?_)
    · replace hf := if_f hf hc
      refine k_iload_2 C 17 rfl 2 rfl ?_
      exact k_iret (wf := (fun u => (wF cy fa ha kr rk lr tx da sr a F Q T O E X Td Od Ed Xd L K N u H))) hR 18 rfl hf
    · replace hf := if_t hf hc
      refine k_bipush C 15 rfl cb_m2 ?_
      refine k_goto C 16 rfl 34 (by decide) ?_
      exact k_iret (wf := (fun u => (wF cy fa ha kr rk lr tx da sr a F Q T O E X Td Od Ed Xd L K N u H))) hR 18 rfl hf
  · replace hf := if_t hf hc
    refine k_iconst C 5 rfl ci_m1 ?_
    exact k_iret (wf := (fun u => (wF cy fa ha kr rk lr tx da sr a F Q T O E X Td Od Ed Xd L K N u H))) hR 6 rfl hf
set_option maxHeartbeats 1000000 in
set_option maxRecDepth 20000 in
theorem c_X11_voices (l : Launch) (D : va_G) (cy : Nat → ClassId) (fa : Nat → Nat) (ha : Nat → Nat) (kr : Nat → Nat) (rk : Nat → Nat) (lr : Nat → Nat) (tx : Nat → Nat) (da : Nat → Nat) (sr : Nat → Nat) (a : Nat → Nat) (F : Sg) (Q : Sg) (T : Sg) (O : Sg) (E : Sg) (X : Sg) (Td : Sg) (Od : Sg) (Ed : Sg) (Xd : Sg) (L : Sg) (K : Sg) (N : Sg) (S : Sg) (H : Sg) (r : Int32) (S1 : Sg) (hf : f_X11_voices T O S = some (r, S1)) : Ct l D cy yX11_voices cX11_voices 3 (some .int) 7 346 0 0 [.ref (fa 0)] (wF cy fa ha kr rk lr tx da sr a F Q T O E X Td Od Ed Xd L K N S H) (some (.int r)) (wF cy fa ha kr rk lr tx da sr a F Q T O E X Td Od Ed Xd L K N S1 H) := by
  refine Ct_i tX11_voices hX11_voices (by decide) (Nat.le_of_ble_eq_true rfl) ?_
  intro Z hZ C hR
  subst hZ
  replace C : Cx Z D cy RX11 tX11_voices 3 7 346 0 0 := C
  show Wk Z D 3 0 0 (wF cy fa ha kr rk lr tx da sr a F Q T O E X Td Od Ed Xd L K N S H) 0 [(0, .ref (fa 0))] []
  unfold f_X11_voices at hf
  have hq16 : ∀ (k16 : Int32 → Int32 → Sg → Option (Int32 × Sg)), (∀ (x1 : Int32) (x2 : Int32) (S : Sg), k16 x1 x2 S = some (r, S1) → Wk Z D 3 0 0 (wF cy fa ha kr rk lr tx da sr a F Q T O E X Td Od Ed Xd L K N S H) 16 [(0, .ref (fa 0)), (1, .int x1), (2, .int x2)] []) → ∀ (x1 : Int32) (x2 : Int32) (S : Sg), f_X11_voices_b16 T O k16 x1 x2 S = some (r, S1) → Wk Z D 3 0 0 (wF cy fa ha kr rk lr tx da sr a F Q T O E X Td Od Ed Xd L K N S H) 16 [(0, .ref (fa 0)), (1, .int x1), (2, .int x2)] [] := by
    intro k16 hk16 x1 x2 S hf
    unfold f_X11_voices_b16 at hf
    have hb49 : ∀ (x1 : Int32) (x2 : Int32) (S : Sg), f_X11_voices_b49 T O k16 x1 x2 S = some (r, S1) → Wk Z D 3 0 0 (wF cy fa ha kr rk lr tx da sr a F Q T O E X Td Od Ed Xd L K N S H) 49 [(0, .ref (fa 0)), (1, .int x1), (2, .int x2)] [] := by
      intro x1 x2 S hf
      unfold f_X11_voices_b49 at hf
      obtain ⟨x2_49, hx, hf⟩ := bnd_some hf
      refine k_iinc C 28 rfl 2 rfl ((cn_1 _).trans hx) (by decide) rfl ?_
      refine k_sub (lv2 := [(0, .ref (fa 0)), (1, .int x1), (2, .int x2_49)]) [1, 2, 0] rfl ?_
      refine k_goto C 29 rfl 16 (by decide) ?_
      exact k_sub [0, 1, 2] rfl (hk16 x1 x2_49 S hf)
    refine k_iload_2 C 10 rfl 2 rfl ?_
    refine k_aload_0 C 11 rfl 0 rfl ?_
    refine kg11_1 C 12 rfl qX11_19 0 F_c0 F_f0_1 ?_
    refine kg10_0 C 13 rfl qX11_99 47 F_c47 F_f47_0 ?_
    refine kg9_0 C 14 rfl qX11_266 48 F_c48 F_f48_0 ?_
    refine k_icmp_ge C 15 rfl 55 (by decide) (fun hc => ?_) (fun hc => ?_)
    · replace hf := if_t hf hc
      refine k_iload_1 C 30 rfl 1 rfl ?_
      exact k_iret (wf := (fun u => (wF cy fa ha kr rk lr tx da sr a F Q T O E X Td Od Ed Xd L K N u H))) hR 31 rfl hf
    · replace hf := if_f hf hc
      refine k_aload_0 C 16 rfl 0 rfl ?_
      refine kg11_11 C 17 rfl qX11_81 0 F_c0 F_f0_11 ?_
      refine k_iload_2 C 18 rfl 2 rfl ?_
      obtain ⟨r35, S_35, h5, hf⟩ := ob2_some hf
      refine k_callV (X := (wF cy fa ha kr rk lr tx da sr a F Q T O E X Td Od Ed Xd L K N S H).take 39) (Y := (wF cy fa ha kr rk lr tx da sr a F Q T O E X Td Od Ed Xd L K N S H).drop 70) (w2 := (wF cy fa ha kr rk lr tx da sr a F Q T O E X Td Od Ed Xd L K N S_35 H)) C 19 (c_X6_voiceIn Z.2.1 D cy sr a S T O E X x2 r35 S_35 h5) rfl qX11_263 mvX6_voiceIn 0 6 S_c0 rfl rfl rfl rfl rfl (Nat.le_of_ble_eq_true rfl) ⟨Nat.le_of_ble_eq_true rfl, Nat.le_of_ble_eq_true rfl, Nat.le_refl 0, Nat.le_refl 0⟩ ?_
      refine k_ldc C 20 rfl qX11_240 ?_
      refine k_icmp_eq C 21 rfl 49 (by decide) (fun hc => ?_) (fun hc => ?_)
      · replace hf := if_t hf hc
        exact k_sub [0, 1, 2] rfl (hb49 x1 x2 S_35 hf)
      · replace hf := if_f hf hc
        refine k_iload_1 C 22 rfl 1 rfl ?_
        refine k_iconst C 23 rfl ci_1 ?_
        refine k_iload_2 C 24 rfl 2 rfl ?_
        refine k_ishl C 25 rfl ?_
        refine k_ior C 26 rfl ?_
        obtain ⟨x1_48, hx, hf⟩ := bnd_some hf
        refine k_topi hx ?_
        refine k_istore_1 C 27 rfl (by decide) rfl ?_
        refine k_sub (lv2 := [(0, .ref (fa 0)), (1, .int x1_48), (2, .int x2)]) [1, 0, 2] rfl ?_
        exact k_sub [0, 1, 2] rfl (hb49 x1_48 x2 S_35 hf)
  have hb16 := flW3 hq16
  refine k_aload_0 C 0 rfl 0 rfl ?_
  refine kg11_1 C 1 rfl qX11_19 0 F_c0 F_f0_1 ?_
  obtain ⟨r4, h5, hf⟩ := ob1_some hf
  refine k_callV (X := (wF cy fa ha kr rk lr tx da sr a F Q T O E X Td Od Ed Xd L K N S H).take 47) (Y := (wF cy fa ha kr rk lr tx da sr a F Q T O E X Td Od Ed Xd L K N S H).drop 70) (w2 := (wF cy fa ha kr rk lr tx da sr a F Q T O E X Td Od Ed Xd L K N S H)) C 2 (c_X10_hasLine Z.2.1 D cy a T O E X r4 h5) rfl qX11_257 mvX10_hasLine 0 10 W_c0 rfl rfl rfl rfl rfl (Nat.le_of_ble_eq_true rfl) ⟨Nat.le_of_ble_eq_true rfl, Nat.le_of_ble_eq_true rfl, Nat.le_refl 0, Nat.le_refl 0⟩ ?_
  refine k_if_ne C 3 rfl 12 (by decide) (fun hc => ?_) (fun hc => ?_)
  · replace hf := if_f hf hc
    refine k_iconst C 6 rfl ci_0 ?_
    refine k_istore_1 C 7 rfl (by decide) rfl ?_
    refine k_sub (lv2 := [(0, .ref (fa 0)), (1, .int 0)]) [1, 0] rfl ?_
    refine k_iconst C 8 rfl ci_0 ?_
    refine k_istore_2 C 9 rfl (by decide) rfl ?_
    refine k_sub (lv2 := [(0, .ref (fa 0)), (1, .int 0), (2, .int 0)]) [1, 2, 0] rfl ?_
    exact k_sub [0, 1, 2] rfl (hb16 FU 0 0 S hf)
  · replace hf := if_t hf hc
    refine k_iconst C 4 rfl ci_m1 ?_
    exact k_iret (wf := (fun u => (wF cy fa ha kr rk lr tx da sr a F Q T O E X Td Od Ed Xd L K N u H))) hR 5 rfl hf
set_option maxHeartbeats 1000000 in
set_option maxRecDepth 20000 in
theorem c_X11_put (l : Launch) (D : va_G) (cy : Nat → ClassId) (fa : Nat → Nat) (ha : Nat → Nat) (kr : Nat → Nat) (rk : Nat → Nat) (lr : Nat → Nat) (tx : Nat → Nat) (da : Nat → Nat) (sr : Nat → Nat) (a : Nat → Nat) (F : Sg) (Q : Sg) (T : Sg) (O : Sg) (E : Sg) (X : Sg) (Td : Sg) (Od : Sg) (Ed : Sg) (Xd : Sg) (L : Sg) (K : Sg) (N : Sg) (S : Sg) (H : Sg) (p1 : Int32) (r : Int32) (S1 : Sg) (hf : f_X11_put T O S p1 = some (r, S1)) : Ct l D cy yX11_put cX11_put 3 (some .int) 2 223 0 0 [.ref (fa 0), .int p1] (wF cy fa ha kr rk lr tx da sr a F Q T O E X Td Od Ed Xd L K N S H) (some (.int r)) (wF cy fa ha kr rk lr tx da sr a F Q T O E X Td Od Ed Xd L K N S1 H) := by
  refine Ct_i tX11_put hX11_put (by decide) (Nat.le_of_ble_eq_true rfl) ?_
  intro Z hZ C hR
  subst hZ
  replace C : Cx Z D cy RX11 tX11_put 3 2 223 0 0 := C
  show Wk Z D 3 0 0 (wF cy fa ha kr rk lr tx da sr a F Q T O E X Td Od Ed Xd L K N S H) 0 [(0, .ref (fa 0)), (1, .int p1)] []
  unfold f_X11_put at hf
  have hb29 : ∀ (S : Sg), f_X11_put_b29 T O p1 S = some (r, S1) → Wk Z D 3 0 0 (wF cy fa ha kr rk lr tx da sr a F Q T O E X Td Od Ed Xd L K N S H) 29 [(0, .ref (fa 0)), (1, .int p1)] [] := by
    intro S hf
    unfold f_X11_put_b29 at hf
    refine k_aload_0 C 14 rfl 0 rfl ?_
    refine kg11_11 C 15 rfl qX11_81 0 F_c0 F_f0_11 ?_
    obtain ⟨r33, S_33, h5, hf⟩ := ob2_some hf
    refine k_callV (X := (wF cy fa ha kr rk lr tx da sr a F Q T O E X Td Od Ed Xd L K N S H).take 39) (Y := (wF cy fa ha kr rk lr tx da sr a F Q T O E X Td Od Ed Xd L K N S H).drop 70) (w2 := (wF cy fa ha kr rk lr tx da sr a F Q T O E X Td Od Ed Xd L K N S_33 H)) C 16 (c_X6_findOrder Z.2.1 D cy sr a S T O E X r33 S_33 h5) rfl qX11_269 mvX6_findOrder 0 6 S_c0 rfl rfl rfl rfl rfl (Nat.le_of_ble_eq_true rfl) ⟨Nat.le_of_ble_eq_true rfl, Nat.le_of_ble_eq_true rfl, Nat.le_refl 0, Nat.le_refl 0⟩ ?_
    refine k_istore_2 C 17 rfl (by decide) rfl ?_
    refine k_sub (lv2 := [(0, .ref (fa 0)), (1, .int p1), (2, .int r33)]) [1, 2, 0] rfl ?_
    refine k_iload_1 C 18 rfl 1 rfl ?_
    refine k_iconst C 19 rfl ci_m1 ?_
    refine k_icmp_ne C 20 rfl 46 (by decide) (fun hc => ?_) (fun hc => ?_)
    · replace hf := if_f hf hc
      refine k_aload_0 C 23 rfl 0 rfl ?_
      refine kg11_11 C 24 rfl qX11_81 0 F_c0 F_f0_11 ?_
      refine kg6_6 C 25 rfl qX11_273 39 F_c39 F_f39_6 ?_
      refine k_iload_1 C 26 rfl 1 rfl ?_
      obtain ⟨i54, hi, hin, hf⟩ := ixd_some hf
      refine k_iald C 27 rfl 45 F_c45 hin hi ?_
      exact k_iret (wf := (fun u => (wF cy fa ha kr rk lr tx da sr a F Q T O E X Td Od Ed Xd L K N u H))) hR 28 rfl hf
    · replace hf := if_t hf hc
      refine k_iload_2 C 21 rfl 2 rfl ?_
      refine k_goto C 22 rfl 55 (by decide) ?_
      exact k_iret (wf := (fun u => (wF cy fa ha kr rk lr tx da sr a F Q T O E X Td Od Ed Xd L K N u H))) hR 28 rfl hf
  have hb26 : ∀ (S : Sg), f_X11_put_b26 T O p1 S = some (r, S1) → Wk Z D 3 0 0 (wF cy fa ha kr rk lr tx da sr a F Q T O E X Td Od Ed Xd L K N S H) 26 [] [] := by
    intro S hf
    unfold f_X11_put_b26 at hf
    refine k_bipush C 12 rfl cb_m2 ?_
    exact k_iret (wf := (fun u => (wF cy fa ha kr rk lr tx da sr a F Q T O E X Td Od Ed Xd L K N u H))) hR 13 rfl hf
  refine k_aload_0 C 0 rfl 0 rfl ?_
  refine kg11_1 C 1 rfl qX11_19 0 F_c0 F_f0_1 ?_
  obtain ⟨r4, h5, hf⟩ := ob1_some hf
  refine k_callV (X := (wF cy fa ha kr rk lr tx da sr a F Q T O E X Td Od Ed Xd L K N S H).take 47) (Y := (wF cy fa ha kr rk lr tx da sr a F Q T O E X Td Od Ed Xd L K N S H).drop 70) (w2 := (wF cy fa ha kr rk lr tx da sr a F Q T O E X Td Od Ed Xd L K N S H)) C 2 (c_X10_hasLine Z.2.1 D cy a T O E X r4 h5) rfl qX11_257 mvX10_hasLine 0 10 W_c0 rfl rfl rfl rfl rfl (Nat.le_of_ble_eq_true rfl) ⟨Nat.le_of_ble_eq_true rfl, Nat.le_of_ble_eq_true rfl, Nat.le_refl 0, Nat.le_refl 0⟩ ?_
  refine k_if_eq C 3 rfl 26 (by decide) (fun hc => ?_) (fun hc => ?_)
  · replace hf := if_t hf hc
    exact k_sub [] rfl (hb26 S hf)
  · replace hf := if_f hf hc
    refine k_iload_1 C 4 rfl 1 rfl ?_
    refine k_iconst C 5 rfl ci_m1 ?_
    refine k_icmp_eq C 6 rfl 29 (by decide) (fun hc => ?_) (fun hc => ?_)
    · replace hf := if_t hf hc
      exact k_sub [0, 1] rfl (hb29 S hf)
    · replace hf := if_f hf hc
      refine k_aload_0 C 7 rfl 0 rfl ?_
      refine kg11_1 C 8 rfl qX11_19 0 F_c0 F_f0_1 ?_
      refine k_iload_1 C 9 rfl 1 rfl ?_
      obtain ⟨r20, h5, hf⟩ := ob1_some hf
      refine k_callV (X := (wF cy fa ha kr rk lr tx da sr a F Q T O E X Td Od Ed Xd L K N S H).take 47) (Y := (wF cy fa ha kr rk lr tx da sr a F Q T O E X Td Od Ed Xd L K N S H).drop 70) (w2 := (wF cy fa ha kr rk lr tx da sr a F Q T O E X Td Od Ed Xd L K N S H)) C 10 (c_X10_hasCoach Z.2.1 D cy a T O E X p1 r20 h5) rfl qX11_135 mvX10_hasCoach 0 10 W_c0 rfl rfl rfl rfl rfl (Nat.le_of_ble_eq_true rfl) ⟨Nat.le_of_ble_eq_true rfl, Nat.le_of_ble_eq_true rfl, Nat.le_refl 0, Nat.le_refl 0⟩ ?_
      refine k_if_ne C 11 rfl 29 (by decide) (fun hc => ?_) (fun hc => ?_)
      · replace hf := if_f hf hc
        exact k_sub [0, 1] rfl (hb29 S hf)
      · replace hf := if_t hf hc
        exact k_sub [] rfl (hb26 S hf)
set_option maxHeartbeats 1000000 in
set_option maxRecDepth 20000 in
theorem c_X11_family (l : Launch) (D : va_G) (cy : Nat → ClassId) (fa : Nat → Nat) (ha : Nat → Nat) (kr : Nat → Nat) (rk : Nat → Nat) (lr : Nat → Nat) (tx : Nat → Nat) (da : Nat → Nat) (sr : Nat → Nat) (a : Nat → Nat) (F : Sg) (Q : Sg) (T : Sg) (O : Sg) (E : Sg) (X : Sg) (Td : Sg) (Od : Sg) (Ed : Sg) (Xd : Sg) (L : Sg) (K : Sg) (N : Sg) (S : Sg) (H : Sg) (p1 : Int32) (p2 : Int32) (r : Int32) (S1 : Sg) (hf : f_X11_family T O S p1 p2 = some (r, S1)) : Ct l D cy yX11_family cX11_family 5 (some .int) 6 329 0 0 [.ref (fa 0), .int p1, .int p2] (wF cy fa ha kr rk lr tx da sr a F Q T O E X Td Od Ed Xd L K N S H) (some (.int r)) (wF cy fa ha kr rk lr tx da sr a F Q T O E X Td Od Ed Xd L K N S1 H) := by
  refine Ct_i tX11_family hX11_family (by decide) (Nat.le_of_ble_eq_true rfl) ?_
  intro Z hZ C hR
  subst hZ
  replace C : Cx Z D cy RX11 tX11_family 5 6 329 0 0 := C
  show Wk Z D 5 0 0 (wF cy fa ha kr rk lr tx da sr a F Q T O E X Td Od Ed Xd L K N S H) 0 [(0, .ref (fa 0)), (1, .int p1), (2, .int p2)] []
  unfold f_X11_family at hf
  have hb39 : ∀ (S : Sg), f_X11_family_b39 T O p1 p2 S = some (r, S1) → Wk Z D 5 0 0 (wF cy fa ha kr rk lr tx da sr a F Q T O E X Td Od Ed Xd L K N S H) 39 [] [] := by
    intro S hf
    unfold f_X11_family_b39 at hf
    refine k_iconst C 21 rfl ci_m1 ?_
    exact k_iret (wf := (fun u => (wF cy fa ha kr rk lr tx da sr a F Q T O E X Td Od Ed Xd L K N u H))) hR 22 rfl hf
  have hb25 : ∀ (s0 : Int32) (S : Sg), f_X11_family_b25 T O p1 p2 s0 S = some (r, S1) → Wk Z D 5 0 0 (wF cy fa ha kr rk lr tx da sr a F Q T O E X Td Od Ed Xd L K N S H) 25 [(0, .ref (fa 0)), (1, .int p1), (2, .int p2)] [.int s0] := by
    intro s0 S hf
    unfold f_X11_family_b25 at hf
    refine k_istore_3 C 13 rfl (by decide) rfl ?_
    refine k_sub (lv2 := [(0, .ref (fa 0)), (1, .int p1), (2, .int p2), (3, .int s0)]) [1, 2, 3, 0] rfl ?_
    refine k_iload_3 C 14 rfl 3 rfl ?_
    refine k_if_eq C 15 rfl 39 (by decide) (fun hc => ?_) (fun hc => ?_)
    · replace hf := if_t hf hc
      exact k_sub [] rfl (hb39 S hf)
    · replace hf := if_f hf hc
      refine k_iload_2 C 16 rfl 2 rfl ?_
      refine k_if_lt C 17 rfl 39 (by decide) (fun hc => ?_) (fun hc => ?_)
      · replace hf := if_t hf hc
        exact k_sub [] rfl (hb39 S hf)
      · replace hf := if_f hf hc
        refine k_iload_2 C 18 rfl 2 rfl ?_
        refine k_iconst C 19 rfl ci_1 ?_
        refine k_icmp_le C 20 rfl 41 (by decide) (fun hc => ?_) (fun hc => ?_)
        · replace hf := if_t hf hc
          refine k_aload_0 C 23 rfl 0 rfl ?_
          refine kg11_11 C 24 rfl qX11_81 0 F_c0 F_f0_11 ?_
          refine k_iload_1 C 25 rfl 1 rfl ?_
          obtain ⟨r46, S_46, h5, hf⟩ := ob2_some hf
          refine k_callV (X := (wF cy fa ha kr rk lr tx da sr a F Q T O E X Td Od Ed Xd L K N S H).take 39) (Y := (wF cy fa ha kr rk lr tx da sr a F Q T O E X Td Od Ed Xd L K N S H).drop 70) (w2 := (wF cy fa ha kr rk lr tx da sr a F Q T O E X Td Od Ed Xd L K N S_46 H)) C 26 (c_X6_familyCoach Z.2.1 D cy sr a S T O E X p1 r46 S_46 h5) rfl qX11_276 mvX6_familyCoach 0 6 S_c0 rfl rfl rfl rfl rfl (Nat.le_of_ble_eq_true rfl) ⟨Nat.le_of_ble_eq_true rfl, Nat.le_of_ble_eq_true rfl, Nat.le_refl 0, Nat.le_refl 0⟩ ?_
          refine k_istore C 27 rfl (by decide) rfl ?_
          refine k_sub (lv2 := [(0, .ref (fa 0)), (1, .int p1), (2, .int p2), (3, .int s0), (4, .int r46)]) [1, 2, 3, 4, 0] rfl ?_
          refine k_iload C 28 rfl 4 rfl ?_
          refine k_iconst C 29 rfl ci_m1 ?_
          refine k_icmp_ne C 30 rfl 60 (by decide) (fun hc => ?_) (fun hc => ?_)
          · replace hf := if_f hf hc
            refine k_iload_2 C 33 rfl 2 rfl ?_
            refine k_if_ne C 34 rfl 69 (by decide) (fun hc => ?_) (fun hc => ?_)
            · replace hf := if_f hf hc
              refine k_aload_0 C 37 rfl 0 rfl ?_
              refine kg11_11 C 38 rfl qX11_81 0 F_c0 F_f0_11 ?_
              refine kg6_3 C 39 rfl qX11_279 39 F_c39 F_f39_3 ?_
              refine k_iload C 40 rfl 4 rfl ?_
              obtain ⟨i78, hi, hin, hf⟩ := ixd_some hf
              refine k_iald C 41 rfl 42 F_c42 hin hi ?_
              exact k_iret (wf := (fun u => (wF cy fa ha kr rk lr tx da sr a F Q T O E X Td Od Ed Xd L K N u H))) hR 42 rfl hf
            · replace hf := if_t hf hc
              refine k_iload C 35 rfl 4 rfl ?_
              refine k_goto C 36 rfl 79 (by decide) ?_
              exact k_iret (wf := (fun u => (wF cy fa ha kr rk lr tx da sr a F Q T O E X Td Od Ed Xd L K N u H))) hR 42 rfl hf
          · replace hf := if_t hf hc
            refine k_bipush C 31 rfl cb_m2 ?_
            exact k_iret (wf := (fun u => (wF cy fa ha kr rk lr tx da sr a F Q T O E X Td Od Ed Xd L K N u H))) hR 32 rfl hf
        · replace hf := if_f hf hc
          exact k_sub [] rfl (hb39 S hf)
  have hb24 : ∀ (S : Sg), f_X11_family_b24 T O p1 p2 S = some (r, S1) → Wk Z D 5 0 0 (wF cy fa ha kr rk lr tx da sr a F Q T O E X Td Od Ed Xd L K N S H) 24 [(0, .ref (fa 0)), (1, .int p1), (2, .int p2)] [] := by
    intro S hf
    unfold f_X11_family_b24 at hf
    refine k_iconst C 12 rfl ci_0 ?_
    exact k_sub [0, 1, 2] rfl (hb25 0 S hf)
  refine k_iload_1 C 0 rfl 1 rfl ?_
  refine k_if_le C 1 rfl 24 (by decide) (fun hc => ?_) (fun hc => ?_)
  · replace hf := if_t hf hc
    exact k_sub [0, 1, 2] rfl (hb24 S hf)
  · replace hf := if_f hf hc
    refine k_iload_1 C 2 rfl 1 rfl ?_
    refine k_iconst C 3 rfl ci_1 ?_
    refine k_aload_0 C 4 rfl 0 rfl ?_
    refine kg11_1 C 5 rfl qX11_19 0 F_c0 F_f0_1 ?_
    refine kg10_0 C 6 rfl qX11_99 47 F_c47 F_f47_0 ?_
    refine kg9_2 C 7 rfl qX11_128 48 F_c48 F_f48_2 ?_
    refine k_ishl C 8 rfl ?_
    refine k_icmp_ge C 9 rfl 24 (by decide) (fun hc => ?_) (fun hc => ?_)
    · replace hf := if_t hf hc
      exact k_sub [0, 1, 2] rfl (hb24 S hf)
    · replace hf := if_f hf hc
      refine k_iconst C 10 rfl ci_1 ?_
      refine k_goto C 11 rfl 25 (by decide) ?_
      exact k_sub [0, 1, 2] rfl (hb25 1 S hf)
