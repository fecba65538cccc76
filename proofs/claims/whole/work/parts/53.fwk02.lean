set_option maxHeartbeats 1000000 in
set_option maxRecDepth 20000 in
theorem c_X11_isDone (l : Launch) (D : va_G) (cy : Nat → ClassId) (fa : Nat → Nat) (ha : Nat → Nat) (kr : Nat → Nat) (rk : Nat → Nat) (lr : Nat → Nat) (tx : Nat → Nat) (da : Nat → Nat) (sr : Nat → Nat) (a : Nat → Nat) (ua : Nat → Nat) (n0 : Nat) (n1 : Nat) (n2 : Nat) (n3 : Nat) (F : Sg) (Q : Sg) (T : Sg) (O : Sg) (E : Sg) (X : Sg) (Td : Sg) (Od : Sg) (Ed : Sg) (Xd : Sg) (L : Sg) (K : Sg) (N : Sg) (S : Sg) (H : Sg) (U : Sg) (p2 : Int32) (p3 : Int32) (r : Bool) (O1 : Sg) (N1 : Sg) (hf : f_X11_isDone n0 n1 n2 n3 T O N U p2 p3 = some (r, O1, N1)) : Ct l D cy yX11_isDone cX11_isDone 11 (some .boolean) 4 279 0 0 [.ref (fa 0), .ref (ua 0), .int p2, .int p3] (wFT cy fa ha kr rk lr tx da sr a ua n0 n1 n2 n3 F Q T O E X Td Od Ed Xd L K N S H U) (some (.int (bI r))) (wFT cy fa ha kr rk lr tx da sr a ua n0 n1 n2 n3 F Q T O1 E X Td Od Ed Xd L K N1 S H U) := by
  refine Ct_z tX11_isDone hX11_isDone (by decide) (Nat.le_of_ble_eq_true rfl) ?_
  intro Z hZ C hR
  subst hZ
  replace C : Cx Z D cy RX11 tX11_isDone 11 4 279 0 0 := C
  show Wk Z D 11 0 0 (wFT cy fa ha kr rk lr tx da sr a ua n0 n1 n2 n3 F Q T O E X Td Od Ed Xd L K N S H U) 0 [(0, .ref (fa 0)), (1, .ref (ua 0)), (2, .int p2), (3, .int p3)] []
  unfold f_X11_isDone at hf
  have hb182 : ∀ (x10 : Int32) (O : Sg) (N : Sg), f_X11_isDone_b182 n0 n1 n2 n3 T U p2 p3 x10 O N = some (r, O1, N1) → Wk Z D 11 0 0 (wFT cy fa ha kr rk lr tx da sr a ua n0 n1 n2 n3 F Q T O E X Td Od Ed Xd L K N S H U) 182 [(10, .int x10)] [] := by
    intro x10 O N hf
    unfold f_X11_isDone_b182 at hf
    refine k_iload C 97 rfl 0 rfl ?_
    obtain ⟨b184, hx, hf⟩ := zb_some hf
    refine k_topi hx ?_
    exact k_zret (wf := (fun u => (wFT cy fa ha kr rk lr tx da sr a ua n0 n1 n2 n3 F Q T u.1 E X Td Od Ed Xd L K u.2 S H U))) hR 98 rfl hf
  have hb152 : ∀ (s0 : Int32) (O : Sg) (N : Sg), f_X11_isDone_b152 n0 n1 n2 n3 T U p2 p3 s0 O N = some (r, O1, N1) → Wk Z D 11 0 0 (wFT cy fa ha kr rk lr tx da sr a ua n0 n1 n2 n3 F Q T O E X Td Od Ed Xd L K N S H U) 152 [(0, .ref (fa 0)), (3, .int p3)] [.int s0] := by
    intro s0 O N hf
    unfold f_X11_isDone_b152 at hf
    refine k_istore C 82 rfl (by decide) rfl ?_
    refine k_sub (lv2 := [(0, .ref (fa 0)), (3, .int p3), (9, .int s0)]) [1, 2, 0] rfl ?_
    refine k_aload_0 C 83 rfl 0 rfl ?_
    refine kg11_1 C 84 rfl qX11_19 0 FT_c0 FT_f0_1 ?_
    refine k_iload_3 C 85 rfl 1 rfl ?_
    refine k_iload C 86 rfl 2 rfl ?_
    obtain ⟨r161, h5, hf⟩ := ob1_some hf
    refine k_callV (X := (wFT cy fa ha kr rk lr tx da sr a ua n0 n1 n2 n3 F Q T O E X Td Od Ed Xd L K N S H U).take 47) (Y := (wFT cy fa ha kr rk lr tx da sr a ua n0 n1 n2 n3 F Q T O E X Td Od Ed Xd L K N S H U).drop 70) (w2 := (wFT cy fa ha kr rk lr tx da sr a ua n0 n1 n2 n3 F Q T O E X Td Od Ed Xd L K N S H U)) C 87 (c_X10_mayGoInside Z.2.1 D cy a T O E X p3 s0 r161 h5) rfl qX11_202 mvX10_mayGoInside 0 10 W_c0 rfl rfl rfl rfl rfl (Nat.le_of_ble_eq_true rfl) ⟨Nat.le_of_ble_eq_true rfl, Nat.le_of_ble_eq_true rfl, Nat.le_refl 0, Nat.le_refl 0⟩ ?_
    refine k_istore C 88 rfl (by decide) rfl ?_
    refine k_sub (lv2 := [(0, .ref (fa 0)), (3, .int p3), (9, .int s0), (10, .int (bI r161))]) [1, 2, 3, 0] rfl ?_
    refine k_iload C 89 rfl 3 rfl ?_
    refine k_if_eq C 90 rfl 182 (by decide) (fun hc => ?_) (fun hc => ?_)
    · replace hf := if_t hf hc
      exact k_sub [3] rfl (hb182 (bI r161) O N hf)
    · replace hf := if_f hf hc
      refine k_aload_0 C 91 rfl 0 rfl ?_
      refine kg11_1 C 92 rfl qX11_19 0 FT_c0 FT_f0_1 ?_
      refine k_iload_3 C 93 rfl 1 rfl ?_
      refine k_iload C 94 rfl 2 rfl ?_
      obtain ⟨r178, O_178, h5, hf⟩ := ob2_some hf
      refine k_callV (X := (wFT cy fa ha kr rk lr tx da sr a ua n0 n1 n2 n3 F Q T O E X Td Od Ed Xd L K N S H U).take 47) (Y := (wFT cy fa ha kr rk lr tx da sr a ua n0 n1 n2 n3 F Q T O E X Td Od Ed Xd L K N S H U).drop 70) (w2 := (wFT cy fa ha kr rk lr tx da sr a ua n0 n1 n2 n3 F Q T O_178 E X Td Od Ed Xd L K N S H U)) C 95 (c_X10_goInside Z.2.1 D cy a T O E X p3 s0 r178 O_178 h5) rfl qX11_208 mvX10_goInside 0 10 W_c0 rfl rfl rfl rfl rfl (Nat.le_of_ble_eq_true rfl) ⟨Nat.le_of_ble_eq_true rfl, Nat.le_of_ble_eq_true rfl, Nat.le_refl 0, Nat.le_refl 0⟩ ?_
      refine k_pop C 96 rfl rfl ?_
      exact k_sub [3] rfl (hb182 (bI r161) O_178 N hf)
  have hb131 : ∀ (x9 : Int32) (O : Sg) (N : Sg), f_X11_isDone_b131 n0 n1 n2 n3 T U p2 p3 x9 O N = some (r, O1, N1) → Wk Z D 11 0 0 (wFT cy fa ha kr rk lr tx da sr a ua n0 n1 n2 n3 F Q T O E X Td Od Ed Xd L K N S H U) 131 [(9, .int x9)] [] := by
    intro x9 O N hf
    unfold f_X11_isDone_b131 at hf
    refine k_iload C 70 rfl 0 rfl ?_
    obtain ⟨b133, hx, hf⟩ := zb_some hf
    refine k_topi hx ?_
    exact k_zret (wf := (fun u => (wFT cy fa ha kr rk lr tx da sr a ua n0 n1 n2 n3 F Q T u.1 E X Td Od Ed Xd L K u.2 S H U))) hR 71 rfl hf
  have hb89 : ∀ (O : Sg) (N : Sg), f_X11_isDone_b89 n0 n1 n2 n3 T U p2 p3 O N = some (r, O1, N1) → Wk Z D 11 0 0 (wFT cy fa ha kr rk lr tx da sr a ua n0 n1 n2 n3 F Q T O E X Td Od Ed Xd L K N S H U) 89 [] [] := by
    intro O N hf
    unfold f_X11_isDone_b89 at hf
    refine k_iconst C 48 rfl ci_0 ?_
    exact k_zret (wf := (fun u => (wFT cy fa ha kr rk lr tx da sr a ua n0 n1 n2 n3 F Q T u.1 E X Td Od Ed Xd L K u.2 S H U))) hR 49 rfl hf
  refine k_aload_1 C 0 rfl 1 rfl ?_
  refine kg4_1 C 1 rfl qX11_333 70 FT_c70 FT_f70_1 ?_
  refine k_iload_2 C 2 rfl 2 rfl ?_
  obtain ⟨i5, hi, hin, hf⟩ := ixd_some hf
  refine k_iald C 3 rfl 72 FT_c72 hin hi ?_
  obtain ⟨x4_6, hx, hf⟩ := bnd_some hf
  refine k_topi hx ?_
  refine k_istore C 4 rfl (by decide) rfl ?_
  refine k_sub (lv2 := [(0, .ref (fa 0)), (1, .ref (ua 0)), (2, .int p2), (3, .int p3), (4, .int x4_6)]) [1, 2, 3, 4, 0] rfl ?_
  refine k_iload C 5 rfl 4 rfl ?_
  refine k_bipush C 6 rfl cb_12 ?_
  refine k_icmp_ne C 7 rfl 17 (by decide) (fun hc => ?_) (fun hc => ?_)
  · replace hf := if_f hf hc
    refine k_aload_0 C 10 rfl 0 rfl ?_
    refine kg11_10 C 11 rfl qX11_74 0 FT_c0 FT_f0_10 ?_
    refine k_aload_1 C 12 rfl 1 rfl ?_
    refine kg4_0 C 13 rfl qX11_349 70 FT_c70 FT_f70_0 ?_
    refine k_aload_1 C 14 rfl 1 rfl ?_
    refine k_iload_2 C 15 rfl 2 rfl ?_
    obtain ⟨r27, h5, hf⟩ := ob1_some hf
    refine k_callV (X := (wFT cy fa ha kr rk lr tx da sr a ua n0 n1 n2 n3 F Q T O E X Td Od Ed Xd L K N S H U).take 70) (Y := (wFT cy fa ha kr rk lr tx da sr a ua n0 n1 n2 n3 F Q T O E X Td Od Ed Xd L K N S H U).drop 75) (w2 := (wFT cy fa ha kr rk lr tx da sr a ua n0 n1 n2 n3 F Q T O E X Td Od Ed Xd L K N S H U)) C 16 (c_X4_begin Z.2.1 D cy ua n0 n1 n2 n3 U p2 r27 h5) rfl qX11_356 mvX4_begin 0 4 U_c0 rfl rfl rfl rfl rfl (Nat.le_of_ble_eq_true rfl) ⟨Nat.le_of_ble_eq_true rfl, Nat.le_of_ble_eq_true rfl, Nat.le_refl 0, Nat.le_refl 0⟩ ?_
    refine k_aload_1 C 17 rfl 1 rfl ?_
    refine kg4_2 C 18 rfl qX11_343 70 FT_c70 FT_f70_2 ?_
    refine k_iload_2 C 19 rfl 2 rfl ?_
    obtain ⟨i35, hi, hin, hf⟩ := ixd_some hf
    refine k_iald C 20 rfl 73 FT_c73 hin hi ?_
    refine k_iload_3 C 21 rfl 3 rfl ?_
    obtain ⟨r37, N_37, h5, hf⟩ := ob2_some hf
    refine k_re (w2 := (wN cy rk (fun i => ua (1 + i)) a n0 N U T O E X) ++ (List.filterMap (fun i => (wFT cy fa ha kr rk lr tx da sr a ua n0 n1 n2 n3 F Q T O E X Td Od Ed Xd L K N S H U)[i]?) [0, 1, 2, 3, 4, 5, 6, 7, 10, 11, 12, 13, 14, 15, 16, 17, 18, 19, 20, 21, 22, 23, 24, 25, 26, 27, 28, 29, 30, 31, 32, 33, 34, 35, 36, 37, 38, 39, 40, 41, 42, 43, 44, 45, 46, 70, 72, 73, 74])) [8, 9, 71, 47, 48, 49, 50, 51, 52, 53, 54, 55, 56, 57, 58, 59, 60, 61, 62, 63, 64, 65, 66, 67, 68, 69, 0, 1, 2, 3, 4, 5, 6, 7, 10, 11, 12, 13, 14, 15, 16, 17, 18, 19, 20, 21, 22, 23, 24, 25, 26, 27, 28, 29, 30, 31, 32, 33, 34, 35, 36, 37, 38, 39, 40, 41, 42, 43, 44, 45, 46, 70, 72, 73, 74] (by decide) rfl rfl ?_
    refine k_callV (X := []) (Y := (List.filterMap (fun i => (wFT cy fa ha kr rk lr tx da sr a ua n0 n1 n2 n3 F Q T O E X Td Od Ed Xd L K N S H U)[i]?) [0, 1, 2, 3, 4, 5, 6, 7, 10, 11, 12, 13, 14, 15, 16, 17, 18, 19, 20, 21, 22, 23, 24, 25, 26, 27, 28, 29, 30, 31, 32, 33, 34, 35, 36, 37, 38, 39, 40, 41, 42, 43, 44, 45, 46, 70, 72, 73, 74])) (w2 := (wN cy rk (fun i => ua (1 + i)) a n0 N_37 U T O E X) ++ (List.filterMap (fun i => (wFT cy fa ha kr rk lr tx da sr a ua n0 n1 n2 n3 F Q T O E X Td Od Ed Xd L K N S H U)[i]?) [0, 1, 2, 3, 4, 5, 6, 7, 10, 11, 12, 13, 14, 15, 16, 17, 18, 19, 20, 21, 22, 23, 24, 25, 26, 27, 28, 29, 30, 31, 32, 33, 34, 35, 36, 37, 38, 39, 40, 41, 42, 43, 44, 45, 46, 70, 72, 73, 74])) C 22 (c_X3_reckon Z.2.1 D cy rk (fun i => ua (1 + i)) a n0 N U T O E X r27 (U.2.1 2 i35) p3 r37 N_37 h5) rfl qX11_352 mvX3_reckon 0 3 N_c0 rfl rfl rfl rfl rfl (Nat.le_of_ble_eq_true rfl) ⟨Nat.le_of_ble_eq_true rfl, Nat.le_of_ble_eq_true rfl, Nat.le_refl 0, Nat.le_refl 0⟩ ?_
    refine k_re (w2 := (wFT cy fa ha kr rk lr tx da sr a ua n0 n1 n2 n3 F Q T O E X Td Od Ed Xd L K N_37 S H U)) [26, 27, 28, 29, 30, 31, 32, 33, 0, 1, 34, 35, 36, 37, 38, 39, 40, 41, 42, 43, 44, 45, 46, 47, 48, 49, 50, 51, 52, 53, 54, 55, 56, 57, 58, 59, 60, 61, 62, 63, 64, 65, 66, 67, 68, 69, 70, 3, 4, 5, 6, 7, 8, 9, 10, 11, 12, 13, 14, 15, 16, 17, 18, 19, 20, 21, 22, 23, 24, 25, 71, 2, 72, 73, 74] (by decide) rfl rfl ?_
    refine k_lstore C 23 rfl (by decide) rfl ?_
    refine k_sub (lv2 := [(0, .ref (fa 0)), (1, .ref (ua 0)), (2, .int p2), (3, .int p3), (4, .int x4_6), (5, .long r37)]) [1, 2, 3, 4, 5, 0] rfl ?_
    refine k_aload_0 C 24 rfl 0 rfl ?_
    refine kg11_1 C 25 rfl qX11_19 0 FT_c0 FT_f0_1 ?_
    refine kg10_1 C 26 rfl qX11_109 47 FT_c47 FT_f47_1 ?_
    refine kg2_2 C 27 rfl qX11_174 60 FT_c60 FT_f60_2 ?_
    refine k_iload_3 C 28 rfl 3 rfl ?_
    obtain ⟨i53, hi, hin, hf⟩ := ixd_some hf
    refine k_iald C 29 rfl 61 FT_c61 hin hi ?_
    obtain ⟨x7_54, hx, hf⟩ := bnd_some hf
    refine k_topi hx ?_
    refine k_istore C 30 rfl (by decide) rfl ?_
    refine k_sub (lv2 := [(0, .ref (fa 0)), (1, .ref (ua 0)), (2, .int p2), (3, .int p3), (4, .int x4_6), (5, .long r37), (7, .int x7_54)]) [1, 2, 3, 4, 5, 6, 0] rfl ?_
    refine k_lload C 31 rfl 5 rfl ?_
    refine k_lconst0 C 32 rfl ?_
    refine k_lcmp C 33 rfl ?_
    refine k_if_lt C 34 rfl 89 (by decide) (fun hc => ?_) (fun hc => ?_)
    · replace hf := if_t hf hc
      exact k_sub [] rfl (hb89 O N_37 hf)
    · replace hf := if_f hf hc
      refine k_lload C 35 rfl 5 rfl ?_
      refine k_aload_0 C 36 rfl 0 rfl ?_
      refine kg11_1 C 37 rfl qX11_19 0 FT_c0 FT_f0_1 ?_
      refine kg10_0 C 38 rfl qX11_99 47 FT_c47 FT_f47_0 ?_
      refine kg9_0 C 39 rfl qX11_266 48 FT_c48 FT_f48_0 ?_
      refine k_i2l C 40 rfl ?_
      refine k_lcmp C 41 rfl ?_
      refine k_if_ge C 42 rfl 89 (by decide) (fun hc => ?_) (fun hc => ?_)
      · replace hf := if_t hf hc
        exact k_sub [] rfl (hb89 O N_37 hf)
      · replace hf := if_f hf hc
        refine k_lload C 43 rfl 5 rfl ?_
        refine k_iload C 44 rfl 6 rfl ?_
        refine k_i2l C 45 rfl ?_
        refine k_lcmp C 46 rfl ?_
        refine k_if_ne C 47 rfl 91 (by decide) (fun hc => ?_) (fun hc => ?_)
        · replace hf := if_f hf hc
          refine k_lload C 50 rfl 5 rfl ?_
          refine k_l2i C 51 rfl ?_
          obtain ⟨x8_94, hx, hf⟩ := bnd_some hf
          refine k_topi hx ?_
          refine k_istore C 52 rfl (by decide) rfl ?_
          refine k_sub (lv2 := [(0, .ref (fa 0)), (1, .ref (ua 0)), (2, .int p2), (3, .int p3), (4, .int x4_6), (5, .long r37), (7, .int x7_54), (8, .int x8_94)]) [1, 2, 3, 4, 5, 6, 7, 0] rfl ?_
          refine k_iload C 53 rfl 4 rfl ?_
          refine k_bipush C 54 rfl cb_11 ?_
          refine k_icmp_ne C 55 rfl 134 (by decide) (fun hc => ?_) (fun hc => ?_)
          · replace hf := if_f hf hc
            refine k_iload C 72 rfl 7 rfl ?_
            refine k_iload C 73 rfl 6 rfl ?_
            refine k_icmp_ge C 74 rfl 148 (by decide) (fun hc => ?_) (fun hc => ?_)
            · replace hf := if_t hf hc
              refine k_iload C 79 rfl 6 rfl ?_
              refine k_iconst C 80 rfl ci_1 ?_
              refine k_iadd C 81 rfl ?_
              exact k_sub [0, 3] rfl (hb152 (x7_54 + 1) O N_37 hf)
            · replace hf := if_f hf hc
              refine k_iload C 75 rfl 6 rfl ?_
              refine k_iconst C 76 rfl ci_1 ?_
              refine k_isub C 77 rfl ?_
              refine k_goto C 78 rfl 152 (by decide) ?_
              exact k_sub [0, 3] rfl (hb152 (x7_54 - 1) O N_37 hf)
          · replace hf := if_t hf hc
            refine k_aload_0 C 56 rfl 0 rfl ?_
            refine kg11_1 C 57 rfl qX11_19 0 FT_c0 FT_f0_1 ?_
            refine k_iload_3 C 58 rfl 3 rfl ?_
            refine k_iload C 59 rfl 7 rfl ?_
            obtain ⟨r110, h5, hf⟩ := ob1_some hf
            refine k_callV (X := (wFT cy fa ha kr rk lr tx da sr a ua n0 n1 n2 n3 F Q T O E X Td Od Ed Xd L K N_37 S H U).take 47) (Y := (wFT cy fa ha kr rk lr tx da sr a ua n0 n1 n2 n3 F Q T O E X Td Od Ed Xd L K N_37 S H U).drop 70) (w2 := (wFT cy fa ha kr rk lr tx da sr a ua n0 n1 n2 n3 F Q T O E X Td Od Ed Xd L K N_37 S H U)) C 60 (c_X10_mayGoOutside Z.2.1 D cy a T O E X p3 x8_94 r110 h5) rfl qX11_212 mvX10_mayGoOutside 0 10 W_c0 rfl rfl rfl rfl rfl (Nat.le_of_ble_eq_true rfl) ⟨Nat.le_of_ble_eq_true rfl, Nat.le_of_ble_eq_true rfl, Nat.le_refl 0, Nat.le_refl 0⟩ ?_
            refine k_istore C 61 rfl (by decide) rfl ?_
            refine k_sub (lv2 := [(0, .ref (fa 0)), (1, .ref (ua 0)), (2, .int p2), (3, .int p3), (4, .int x4_6), (5, .long r37), (7, .int x7_54), (8, .int x8_94), (9, .int (bI r110))]) [1, 2, 3, 4, 5, 6, 7, 8, 0] rfl ?_
            refine k_iload C 62 rfl 8 rfl ?_
            refine k_if_eq C 63 rfl 131 (by decide) (fun hc => ?_) (fun hc => ?_)
            · replace hf := if_t hf hc
              exact k_sub [8] rfl (hb131 (bI r110) O N_37 hf)
            · replace hf := if_f hf hc
              refine k_aload_0 C 64 rfl 0 rfl ?_
              refine kg11_1 C 65 rfl qX11_19 0 FT_c0 FT_f0_1 ?_
              refine k_iload_3 C 66 rfl 3 rfl ?_
              refine k_iload C 67 rfl 7 rfl ?_
              obtain ⟨r127, O_127, h5, hf⟩ := ob2_some hf
              refine k_callV (X := (wFT cy fa ha kr rk lr tx da sr a ua n0 n1 n2 n3 F Q T O E X Td Od Ed Xd L K N_37 S H U).take 47) (Y := (wFT cy fa ha kr rk lr tx da sr a ua n0 n1 n2 n3 F Q T O E X Td Od Ed Xd L K N_37 S H U).drop 70) (w2 := (wFT cy fa ha kr rk lr tx da sr a ua n0 n1 n2 n3 F Q T O_127 E X Td Od Ed Xd L K N_37 S H U)) C 68 (c_X10_goOutside Z.2.1 D cy a T O E X p3 x8_94 r127 O_127 h5) rfl qX11_215 mvX10_goOutside 0 10 W_c0 rfl rfl rfl rfl rfl (Nat.le_of_ble_eq_true rfl) ⟨Nat.le_of_ble_eq_true rfl, Nat.le_of_ble_eq_true rfl, Nat.le_refl 0, Nat.le_refl 0⟩ ?_
              refine k_pop C 69 rfl rfl ?_
              exact k_sub [8] rfl (hb131 (bI r110) O_127 N_37 hf)
        · replace hf := if_t hf hc
          exact k_sub [] rfl (hb89 O N_37 hf)
  · replace hf := if_t hf hc
    refine k_iconst C 8 rfl ci_1 ?_
    exact k_zret (wf := (fun u => (wFT cy fa ha kr rk lr tx da sr a ua n0 n1 n2 n3 F Q T u.1 E X Td Od Ed Xd L K u.2 S H U))) hR 9 rfl hf
set_option maxHeartbeats 1000000 in
set_option maxRecDepth 20000 in
theorem c_X11_takeTurn (l : Launch) (D : va_G) (cy : Nat → ClassId) (fa : Nat → Nat) (ha : Nat → Nat) (kr : Nat → Nat) (rk : Nat → Nat) (lr : Nat → Nat) (tx : Nat → Nat) (da : Nat → Nat) (sr : Nat → Nat) (a : Nat → Nat) (ua : Nat → Nat) (n0 : Nat) (n1 : Nat) (n2 : Nat) (n3 : Nat) (F : Sg) (Q : Sg) (T : Sg) (O : Sg) (E : Sg) (X : Sg) (Td : Sg) (Od : Sg) (Ed : Sg) (Xd : Sg) (L : Sg) (K : Sg) (N : Sg) (S : Sg) (H : Sg) (U : Sg) (p2 : Int32) (O1 : Sg) (N1 : Sg) (hf : f_X11_takeTurn n0 n1 n2 n3 T O N U p2 = some (O1, N1)) : Ct l D cy yX11_takeTurn cX11_takeTurn 4 none 5 309 0 0 [.ref (fa 0), .ref (ua 0), .int p2] (wFT cy fa ha kr rk lr tx da sr a ua n0 n1 n2 n3 F Q T O E X Td Od Ed Xd L K N S H U) none (wFT cy fa ha kr rk lr tx da sr a ua n0 n1 n2 n3 F Q T O1 E X Td Od Ed Xd L K N1 S H U) := by
  refine Ct_v tX11_takeTurn hX11_takeTurn (by decide) (Nat.le_of_ble_eq_true rfl) ?_
  intro Z hZ C hR
  subst hZ
  replace C : Cx Z D cy RX11 tX11_takeTurn 4 5 309 0 0 := C
  show Wk Z D 4 0 0 (wFT cy fa ha kr rk lr tx da sr a ua n0 n1 n2 n3 F Q T O E X Td Od Ed Xd L K N S H U) 0 [(0, .ref (fa 0)), (1, .ref (ua 0)), (2, .int p2)] []
  unfold f_X11_takeTurn at hf
  have hq2 : ∀ (k2 : Int32 → Sg → Sg → Option (Sg × Sg)), (∀ (x3 : Int32) (O : Sg) (N : Sg), k2 x3 O N = some (O1, N1) → Wk Z D 4 0 0 (wFT cy fa ha kr rk lr tx da sr a ua n0 n1 n2 n3 F Q T O E X Td Od Ed Xd L K N S H U) 2 [(0, .ref (fa 0)), (1, .ref (ua 0)), (2, .int p2), (3, .int x3)] []) → ∀ (x3 : Int32) (O : Sg) (N : Sg), f_X11_takeTurn_b2 n0 n1 n2 n3 T U p2 k2 x3 O N = some (O1, N1) → Wk Z D 4 0 0 (wFT cy fa ha kr rk lr tx da sr a ua n0 n1 n2 n3 F Q T O E X Td Od Ed Xd L K N S H U) 2 [(0, .ref (fa 0)), (1, .ref (ua 0)), (2, .int p2), (3, .int x3)] [] := by
    intro k2 hk2 x3 O N hf
    unfold f_X11_takeTurn_b2 at hf
    have hb32 : ∀ (x3 : Int32) (O : Sg) (N : Sg), f_X11_takeTurn_b32 n0 n1 n2 n3 T U p2 k2 x3 O N = some (O1, N1) → Wk Z D 4 0 0 (wFT cy fa ha kr rk lr tx da sr a ua n0 n1 n2 n3 F Q T O E X Td Od Ed Xd L K N S H U) 32 [(0, .ref (fa 0)), (1, .ref (ua 0)), (2, .int p2), (3, .int x3)] [] := by
      intro x3 O N hf
      unfold f_X11_takeTurn_b32 at hf
      obtain ⟨x3_32, hx, hf⟩ := bnd_some hf
      refine k_iinc C 20 rfl 3 rfl ((cn_1 _).trans hx) (by decide) rfl ?_
      refine k_sub (lv2 := [(0, .ref (fa 0)), (1, .ref (ua 0)), (2, .int p2), (3, .int x3_32)]) [1, 2, 3, 0] rfl ?_
      refine k_goto C 21 rfl 2 (by decide) ?_
      exact k_sub [0, 1, 2, 3] rfl (hk2 x3_32 O N hf)
    refine k_iload_3 C 2 rfl 3 rfl ?_
    refine k_aload_1 C 3 rfl 1 rfl ?_
    refine kg4_1 C 4 rfl qX11_333 70 FT_c70 FT_f70_1 ?_
    refine k_alen C 5 rfl 72 1 FT_c72 rfl (v := nI n1) rfl ?_
    refine k_icmp_ge C 6 rfl 38 (by decide) (fun hc => ?_) (fun hc => ?_)
    · replace hf := if_t hf hc
      exact k_vret (wf := (fun u => (wFT cy fa ha kr rk lr tx da sr a ua n0 n1 n2 n3 F Q T u.1 E X Td Od Ed Xd L K u.2 S H U))) hR 22 rfl hf
    · replace hf := if_f hf hc
      refine k_aload_0 C 7 rfl 0 rfl ?_
      refine k_aload_1 C 8 rfl 1 rfl ?_
      refine k_iload_3 C 9 rfl 3 rfl ?_
      refine k_iload_2 C 10 rfl 2 rfl ?_
      obtain ⟨r15, N_15, h5, hf⟩ := ob2_some hf
      refine k_callW C 11 (c_X11_holds Z.2.1 D cy fa ha kr rk lr tx da sr a ua n0 n1 n2 n3 F Q T O E X Td Od Ed Xd L K N S H U x3 p2 r15 N_15 h5) rfl qX11_336 mvX11_holds 0 11 FT_c0 rfl rfl rfl (Nat.le_of_ble_eq_true rfl) ⟨Nat.le_of_ble_eq_true rfl, Nat.le_of_ble_eq_true rfl, Nat.le_refl 0, Nat.le_refl 0⟩ ?_
      refine k_if_eq C 12 rfl 32 (by decide) (fun hc => ?_) (fun hc => ?_)
      · replace hf := if_t hf hc
        exact k_sub [0, 1, 2, 3] rfl (hb32 x3 O N_15 hf)
      · replace hf := if_f hf hc
        refine k_aload_0 C 13 rfl 0 rfl ?_
        refine k_aload_1 C 14 rfl 1 rfl ?_
        refine k_iload_3 C 15 rfl 3 rfl ?_
        refine k_iload_2 C 16 rfl 2 rfl ?_
        obtain ⟨r25, O_25, N_25, h5, hf⟩ := ob3_some hf
        refine k_callW C 17 (c_X11_isDone Z.2.1 D cy fa ha kr rk lr tx da sr a ua n0 n1 n2 n3 F Q T O E X Td Od Ed Xd L K N_15 S H U x3 p2 r25 O_25 N_25 h5) rfl qX11_340 mvX11_isDone 0 11 FT_c0 rfl rfl rfl (Nat.le_of_ble_eq_true rfl) ⟨Nat.le_of_ble_eq_true rfl, Nat.le_of_ble_eq_true rfl, Nat.le_refl 0, Nat.le_refl 0⟩ ?_
        refine k_if_eq C 18 rfl 32 (by decide) (fun hc => ?_) (fun hc => ?_)
        · replace hf := if_t hf hc
          exact k_sub [0, 1, 2, 3] rfl (hb32 x3 O_25 N_25 hf)
        · replace hf := if_f hf hc
          exact k_vret (wf := (fun u => (wFT cy fa ha kr rk lr tx da sr a ua n0 n1 n2 n3 F Q T u.1 E X Td Od Ed Xd L K u.2 S H U))) hR 19 rfl hf
  have hb2 := flW3 hq2
  refine k_iconst C 0 rfl ci_0 ?_
  refine k_istore_3 C 1 rfl (by decide) rfl ?_
  refine k_sub (lv2 := [(0, .ref (fa 0)), (1, .ref (ua 0)), (2, .int p2), (3, .int 0)]) [1, 2, 3, 0] rfl ?_
  exact k_sub [0, 1, 2, 3] rfl (hb2 FU 0 O N hf)
set_option maxHeartbeats 1000000 in
set_option maxRecDepth 20000 in
theorem c_X11_takeTurns (l : Launch) (D : va_G) (cy : Nat → ClassId) (fa : Nat → Nat) (ha : Nat → Nat) (kr : Nat → Nat) (rk : Nat → Nat) (lr : Nat → Nat) (tx : Nat → Nat) (da : Nat → Nat) (sr : Nat → Nat) (a : Nat → Nat) (ua : Nat → Nat) (n0 : Nat) (n1 : Nat) (n2 : Nat) (n3 : Nat) (F : Sg) (Q : Sg) (T : Sg) (O : Sg) (E : Sg) (X : Sg) (Td : Sg) (Od : Sg) (Ed : Sg) (Xd : Sg) (L : Sg) (K : Sg) (N : Sg) (S : Sg) (H : Sg) (U : Sg) (O1 : Sg) (N1 : Sg) (hf : f_X11_takeTurns n0 n1 n2 n3 T O N U = some (O1, N1)) : Ct l D cy yX11_takeTurns cX11_takeTurns 4 none 6 332 0 0 [.ref (fa 0), .ref (ua 0)] (wFT cy fa ha kr rk lr tx da sr a ua n0 n1 n2 n3 F Q T O E X Td Od Ed Xd L K N S H U) none (wFT cy fa ha kr rk lr tx da sr a ua n0 n1 n2 n3 F Q T O1 E X Td Od Ed Xd L K N1 S H U) := by
  refine Ct_v tX11_takeTurns hX11_takeTurns (by decide) (Nat.le_of_ble_eq_true rfl) ?_
  intro Z hZ C hR
  subst hZ
  replace C : Cx Z D cy RX11 tX11_takeTurns 4 6 332 0 0 := C
  show Wk Z D 4 0 0 (wFT cy fa ha kr rk lr tx da sr a ua n0 n1 n2 n3 F Q T O E X Td Od Ed Xd L K N S H U) 0 [(0, .ref (fa 0)), (1, .ref (ua 0))] []
  unfold f_X11_takeTurns at hf
  have hq7 : ∀ (k7 : Int32 → Sg → Sg → Option (Sg × Sg)), (∀ (x2 : Int32) (O : Sg) (N : Sg), k7 x2 O N = some (O1, N1) → Wk Z D 4 0 0 (wFT cy fa ha kr rk lr tx da sr a ua n0 n1 n2 n3 F Q T O E X Td Od Ed Xd L K N S H U) 7 [(0, .ref (fa 0)), (1, .ref (ua 0)), (2, .int x2)] []) → ∀ (x2 : Int32) (O : Sg) (N : Sg), f_X11_takeTurns_b7 n0 n1 n2 n3 T U k7 x2 O N = some (O1, N1) → Wk Z D 4 0 0 (wFT cy fa ha kr rk lr tx da sr a ua n0 n1 n2 n3 F Q T O E X Td Od Ed Xd L K N S H U) 7 [(0, .ref (fa 0)), (1, .ref (ua 0)), (2, .int x2)] [] := by
    intro k7 hk7 x2 O N hf
    unfold f_X11_takeTurns_b7 at hf
    have hb73 : ∀ (x2 : Int32) (O : Sg) (N : Sg), f_X11_takeTurns_b73 n0 n1 n2 n3 T U k7 x2 O N = some (O1, N1) → Wk Z D 4 0 0 (wFT cy fa ha kr rk lr tx da sr a ua n0 n1 n2 n3 F Q T O E X Td Od Ed Xd L K N S H U) 73 [(0, .ref (fa 0)), (1, .ref (ua 0)), (2, .int x2)] [] := by
      intro x2 O N hf
      unfold f_X11_takeTurns_b73 at hf
      obtain ⟨x2_73, hx, hf⟩ := bnd_some hf
      refine k_iinc C 37 rfl 2 rfl ((cn_1 _).trans hx) (by decide) rfl ?_
      refine k_sub (lv2 := [(0, .ref (fa 0)), (1, .ref (ua 0)), (2, .int x2_73)]) [1, 2, 0] rfl ?_
      refine k_goto C 38 rfl 7 (by decide) ?_
      exact k_sub [0, 1, 2] rfl (hk7 x2_73 O N hf)
    have hb51 : ∀ (x2 : Int32) (s0 : Int32) (O : Sg) (N : Sg), f_X11_takeTurns_b51 n0 n1 n2 n3 T U k7 x2 s0 O N = some (O1, N1) → Wk Z D 4 0 0 (wFT cy fa ha kr rk lr tx da sr a ua n0 n1 n2 n3 F Q T O E X Td Od Ed Xd L K N S H U) 51 [(0, .ref (fa 0)), (1, .ref (ua 0)), (2, .int x2)] [.int s0] := by
      intro x2 s0 O N hf
      unfold f_X11_takeTurns_b51 at hf
      refine k_istore_3 C 25 rfl (by decide) rfl ?_
      refine k_sub (lv2 := [(0, .ref (fa 0)), (1, .ref (ua 0)), (2, .int x2), (3, .int s0)]) [1, 2, 3, 0] rfl ?_
      refine k_iload_3 C 26 rfl 3 rfl ?_
      refine k_if_eq C 27 rfl 73 (by decide) (fun hc => ?_) (fun hc => ?_)
      · replace hf := if_t hf hc
        exact k_sub [0, 1, 2] rfl (hb73 x2 O N hf)
      · replace hf := if_f hf hc
        refine k_aload_0 C 28 rfl 0 rfl ?_
        refine kg11_1 C 29 rfl qX11_19 0 FT_c0 FT_f0_1 ?_
        refine k_iload_2 C 30 rfl 2 rfl ?_
        obtain ⟨r61, h5, hf⟩ := ob1_some hf
        refine k_callV (X := (wFT cy fa ha kr rk lr tx da sr a ua n0 n1 n2 n3 F Q T O E X Td Od Ed Xd L K N S H U).take 47) (Y := (wFT cy fa ha kr rk lr tx da sr a ua n0 n1 n2 n3 F Q T O E X Td Od Ed Xd L K N S H U).drop 70) (w2 := (wFT cy fa ha kr rk lr tx da sr a ua n0 n1 n2 n3 F Q T O E X Td Od Ed Xd L K N S H U)) C 31 (c_X10_isGoing Z.2.1 D cy a T O E X x2 r61 h5) rfl qX11_326 mvX10_isGoing 0 10 W_c0 rfl rfl rfl rfl rfl (Nat.le_of_ble_eq_true rfl) ⟨Nat.le_of_ble_eq_true rfl, Nat.le_of_ble_eq_true rfl, Nat.le_refl 0, Nat.le_refl 0⟩ ?_
        refine k_if_ne C 32 rfl 73 (by decide) (fun hc => ?_) (fun hc => ?_)
        · replace hf := if_f hf hc
          exact k_sub [0, 1, 2] rfl (hb73 x2 O N hf)
        · replace hf := if_t hf hc
          refine k_aload_0 C 33 rfl 0 rfl ?_
          refine k_aload_1 C 34 rfl 1 rfl ?_
          refine k_iload_2 C 35 rfl 2 rfl ?_
          obtain ⟨O_70, N_70, h5, hf⟩ := ob2_some hf
          refine k_callW C 36 (c_X11_takeTurn Z.2.1 D cy fa ha kr rk lr tx da sr a ua n0 n1 n2 n3 F Q T O E X Td Od Ed Xd L K N S H U x2 O_70 N_70 h5) rfl qX11_329 mvX11_takeTurn 0 11 FT_c0 rfl rfl rfl (Nat.le_of_ble_eq_true rfl) ⟨Nat.le_of_ble_eq_true rfl, Nat.le_of_ble_eq_true rfl, Nat.le_refl 0, Nat.le_refl 0⟩ ?_
          exact k_sub [0, 1, 2] rfl (hb73 x2 O_70 N_70 hf)
    refine k_iload_2 C 5 rfl 2 rfl ?_
    refine k_aload_0 C 6 rfl 0 rfl ?_
    refine kg11_1 C 7 rfl qX11_19 0 FT_c0 FT_f0_1 ?_
    refine kg10_0 C 8 rfl qX11_99 47 FT_c47 FT_f47_0 ?_
    refine kg9_2 C 9 rfl qX11_128 48 FT_c48 FT_f48_2 ?_
    refine k_icmp_ge C 10 rfl 79 (by decide) (fun hc => ?_) (fun hc => ?_)
    · replace hf := if_t hf hc
      exact k_vret (wf := (fun u => (wFT cy fa ha kr rk lr tx da sr a ua n0 n1 n2 n3 F Q T u.1 E X Td Od Ed Xd L K u.2 S H U))) hR 39 rfl hf
    · replace hf := if_f hf hc
      refine k_aload_0 C 11 rfl 0 rfl ?_
      refine kg11_1 C 12 rfl qX11_19 0 FT_c0 FT_f0_1 ?_
      refine kg10_1 C 13 rfl qX11_109 47 FT_c47 FT_f47_1 ?_
      refine kg2_0 C 14 rfl qX11_224 60 FT_c60 FT_f60_0 ?_
      refine k_aload_0 C 15 rfl 0 rfl ?_
      refine kg11_1 C 16 rfl qX11_19 0 FT_c0 FT_f0_1 ?_
      refine kg10_0 C 17 rfl qX11_99 47 FT_c47 FT_f47_0 ?_
      refine kg9_14 C 18 rfl qX11_186 48 FT_c48 FT_f48_14 ?_
      refine k_iload_2 C 19 rfl 2 rfl ?_
      obtain ⟨i42, hi, hin, hf⟩ := ixd_some hf
      refine k_iald C 20 rfl 57 FT_c57 hin hi ?_
      refine k_icmp_lt C 21 rfl 50 (by decide) (fun hc => ?_) (fun hc => ?_)
      · replace hf := if_t hf hc
        refine k_iconst C 24 rfl ci_0 ?_
        exact k_sub [0, 1, 2] rfl (hb51 x2 0 O N hf)
      · replace hf := if_f hf hc
        refine k_iconst C 22 rfl ci_1 ?_
        refine k_goto C 23 rfl 51 (by decide) ?_
        exact k_sub [0, 1, 2] rfl (hb51 x2 1 O N hf)
  have hb7 := flW3 hq7
  refine k_aload_1 C 0 rfl 1 rfl ?_
  refine k_ifnonnull C 1 rfl 5 (by decide) ?_
  refine k_iconst C 3 rfl ci_0 ?_
  refine k_istore_2 C 4 rfl (by decide) rfl ?_
  refine k_sub (lv2 := [(0, .ref (fa 0)), (1, .ref (ua 0)), (2, .int 0)]) [1, 2, 0] rfl ?_
  exact k_sub [0, 1, 2] rfl (hb7 FU 0 O N hf)
set_option maxHeartbeats 1000000 in
set_option maxRecDepth 20000 in
theorem c_X11_run (l : Launch) (D : va_G) (cy : Nat → ClassId) (fa : Nat → Nat) (ha : Nat → Nat) (kr : Nat → Nat) (rk : Nat → Nat) (lr : Nat → Nat) (tx : Nat → Nat) (da : Nat → Nat) (sr : Nat → Nat) (a : Nat → Nat) (ua : Nat → Nat) (rf : Nat → Option Nat) (n0 : Nat) (n1 : Nat) (n2 : Nat) (n3 : Nat) (j : Nat) (hsel : rf j = some (ua 0)) (F : Sg) (Q : Sg) (T : Sg) (O : Sg) (E : Sg) (X : Sg) (Td : Sg) (Od : Sg) (Ed : Sg) (Xd : Sg) (L : Sg) (K : Sg) (N : Sg) (S : Sg) (H : Sg) (U : Sg) (p1 : Int32) (p2 : Int32) (r : Int32) (O1 : Sg) (N1 : Sg) (H1 : Sg) (hf : f_X11_run n0 n1 n2 n3 j F T O N H U p1 p2 = some (r, O1, N1, H1)) : Ct l D cy yX11_run cX11_run 4 (some .int) 7 355 0 0 [.ref (fa 0), .int p1, .int p2] (wFR cy fa ha kr rk lr tx da sr a ua rf n0 n1 n2 n3 j F Q T O E X Td Od Ed Xd L K N S H U) (some (.int r)) (wFR cy fa ha kr rk lr tx da sr a ua rf n0 n1 n2 n3 j F Q T O1 E X Td Od Ed Xd L K N1 S H1 U) := by
  refine Ct_i tX11_run hX11_run (by decide) (Nat.le_of_ble_eq_true rfl) ?_
  intro Z hZ C hR
  subst hZ
  replace C : Cx Z D cy RX11 tX11_run 4 7 355 0 0 := C
  show Wk Z D 4 0 0 (wFR cy fa ha kr rk lr tx da sr a ua rf n0 n1 n2 n3 j F Q T O E X Td Od Ed Xd L K N S H U) 0 [(0, .ref (fa 0)), (1, .int p1), (2, .int p2)] []
  unfold f_X11_run at hf
  have hq32 : ∀ (k32 : Int32 → Sg → Sg → Sg → Option (Int32 × Sg × Sg × Sg)), (∀ (x3 : Int32) (O : Sg) (N : Sg) (H : Sg), k32 x3 O N H = some (r, O1, N1, H1) → Wk Z D 4 0 0 (wFR cy fa ha kr rk lr tx da sr a ua rf n0 n1 n2 n3 j F Q T O E X Td Od Ed Xd L K N S H U) 32 [(0, .ref (fa 0)), (1, .int p1), (2, .int p2), (3, .int x3)] []) → ∀ (x3 : Int32) (O : Sg) (N : Sg) (H : Sg), f_X11_run_b32 n0 n1 n2 n3 j F T U p1 p2 k32 x3 O N H = some (r, O1, N1, H1) → Wk Z D 4 0 0 (wFR cy fa ha kr rk lr tx da sr a ua rf n0 n1 n2 n3 j F Q T O E X Td Od Ed Xd L K N S H U) 32 [(0, .ref (fa 0)), (1, .int p1), (2, .int p2), (3, .int x3)] [] := by
    intro k32 hk32 x3 O N H hf
    unfold f_X11_run_b32 at hf
    refine k_iload_3 C 18 rfl 3 rfl ?_
    refine k_iload_2 C 19 rfl 2 rfl ?_
    refine k_icmp_ge C 20 rfl 61 (by decide) (fun hc => ?_) (fun hc => ?_)
    · replace hf := if_t hf hc
      refine k_aload_0 C 33 rfl 0 rfl ?_
      refine kg11_1 C 34 rfl qX11_19 0 FR_c0 FR_f0_1 ?_
      refine kg10_1 C 35 rfl qX11_109 47 FR_c47 FR_f47_1 ?_
      refine kg2_0 C 36 rfl qX11_224 60 FR_c60 FR_f60_0 ?_
      exact k_iret (wf := (fun u => (wFR cy fa ha kr rk lr tx da sr a ua rf n0 n1 n2 n3 j F Q T u.1 E X Td Od Ed Xd L K u.2.1 S u.2.2 U))) hR 37 rfl hf
    · replace hf := if_f hf hc
      refine k_aload_0 C 21 rfl 0 rfl ?_
      refine k_aload_0 C 22 rfl 0 rfl ?_
      refine kg11_6 C 23 rfl qX11_43 0 FR_c0 FR_f0_6 ?_
      refine k_iload_1 C 24 rfl 1 rfl ?_
      obtain ⟨i43, hi, hin, hf⟩ := ixd_some hf
      obtain ⟨he, hf⟩ := gE_some hf
      refine k_aald C 25 rfl 70 5 FR_c70 rfl hin (hi.trans he) hsel ?_
      obtain ⟨O_44, N_44, h5, hf⟩ := ob2_some hf
      refine k_re (w2 := (wFT cy fa ha kr rk lr tx da sr a ua n0 n1 n2 n3 F Q T O E X Td Od Ed Xd L K N S H U) ++ (List.filterMap (fun i => (wFR cy fa ha kr rk lr tx da sr a ua rf n0 n1 n2 n3 j F Q T O E X Td Od Ed Xd L K N S H U)[i]?) [70])) [0, 1, 2, 3, 4, 5, 6, 7, 8, 9, 10, 11, 12, 13, 14, 15, 16, 17, 18, 19, 20, 21, 22, 23, 24, 25, 26, 27, 28, 29, 30, 31, 32, 33, 34, 35, 36, 37, 38, 39, 40, 41, 42, 43, 44, 45, 46, 47, 48, 49, 50, 51, 52, 53, 54, 55, 56, 57, 58, 59, 60, 61, 62, 63, 64, 65, 66, 67, 68, 69, 71, 72, 73, 74, 75, 70] (by decide) rfl rfl ?_
      refine k_callV (X := []) (Y := (List.filterMap (fun i => (wFR cy fa ha kr rk lr tx da sr a ua rf n0 n1 n2 n3 j F Q T O E X Td Od Ed Xd L K N S H U)[i]?) [70])) (w2 := (wFT cy fa ha kr rk lr tx da sr a ua n0 n1 n2 n3 F Q T O_44 E X Td Od Ed Xd L K N_44 S H U) ++ (List.filterMap (fun i => (wFR cy fa ha kr rk lr tx da sr a ua rf n0 n1 n2 n3 j F Q T O E X Td Od Ed Xd L K N S H U)[i]?) [70])) C 26 (c_X11_takeTurns Z.2.1 D cy fa ha kr rk lr tx da sr a ua n0 n1 n2 n3 F Q T O E X Td Od Ed Xd L K N S H U O_44 N_44 h5) rfl qX11_233 mvX11_takeTurns 0 11 FT_c0 rfl rfl rfl rfl rfl (Nat.le_of_ble_eq_true rfl) ⟨Nat.le_of_ble_eq_true rfl, Nat.le_of_ble_eq_true rfl, Nat.le_refl 0, Nat.le_refl 0⟩ ?_
      refine k_re (w2 := (wFR cy fa ha kr rk lr tx da sr a ua rf n0 n1 n2 n3 j F Q T O_44 E X Td Od Ed Xd L K N_44 S H U)) [0, 1, 2, 3, 4, 5, 6, 7, 8, 9, 10, 11, 12, 13, 14, 15, 16, 17, 18, 19, 20, 21, 22, 23, 24, 25, 26, 27, 28, 29, 30, 31, 32, 33, 34, 35, 36, 37, 38, 39, 40, 41, 42, 43, 44, 45, 46, 47, 48, 49, 50, 51, 52, 53, 54, 55, 56, 57, 58, 59, 60, 61, 62, 63, 64, 65, 66, 67, 68, 69, 75, 70, 71, 72, 73, 74] (by decide) rfl rfl ?_
      refine k_aload_0 C 27 rfl 0 rfl ?_
      refine kg11_1 C 28 rfl qX11_19 0 FR_c0 FR_f0_1 ?_
      refine k_iconst C 29 rfl ci_1 ?_
      obtain ⟨O_52, h5, hf⟩ := ob1_some hf
      refine k_callV (X := (wFR cy fa ha kr rk lr tx da sr a ua rf n0 n1 n2 n3 j F Q T O_44 E X Td Od Ed Xd L K N_44 S H U).take 47) (Y := (wFR cy fa ha kr rk lr tx da sr a ua rf n0 n1 n2 n3 j F Q T O_44 E X Td Od Ed Xd L K N_44 S H U).drop 70) (w2 := (wFR cy fa ha kr rk lr tx da sr a ua rf n0 n1 n2 n3 j F Q T O_52 E X Td Od Ed Xd L K N_44 S H U)) C 30 (c_X10_goBy Z.2.1 D cy a T O_44 E X 1 O_52 h5) rfl qX11_221 mvX10_goBy 0 10 W_c0 rfl rfl rfl rfl rfl (Nat.le_of_ble_eq_true rfl) ⟨Nat.le_of_ble_eq_true rfl, Nat.le_of_ble_eq_true rfl, Nat.le_refl 0, Nat.le_refl 0⟩ ?_
      obtain ⟨x3_55, hx, hf⟩ := bnd_some hf
      refine k_iinc C 31 rfl 3 rfl ((cn_1 _).trans hx) (by decide) rfl ?_
      refine k_sub (lv2 := [(0, .ref (fa 0)), (1, .int p1), (2, .int p2), (3, .int x3_55)]) [1, 2, 3, 0] rfl ?_
      refine k_goto C 32 rfl 32 (by decide) ?_
      exact k_sub [0, 1, 2, 3] rfl (hk32 x3_55 O_52 N_44 H hf)
  have hb32 := flW4 hq32
  have hb20 : ∀ (O : Sg) (N : Sg) (H : Sg), f_X11_run_b20 n0 n1 n2 n3 j F T U p1 p2 O N H = some (r, O1, N1, H1) → Wk Z D 4 0 0 (wFR cy fa ha kr rk lr tx da sr a ua rf n0 n1 n2 n3 j F Q T O E X Td Od Ed Xd L K N S H U) 20 [] [] := by
    intro O N H hf
    unfold f_X11_run_b20 at hf
    refine k_iconst C 10 rfl ci_m1 ?_
    exact k_iret (wf := (fun u => (wFR cy fa ha kr rk lr tx da sr a ua rf n0 n1 n2 n3 j F Q T u.1 E X Td Od Ed Xd L K u.2.1 S u.2.2 U))) hR 11 rfl hf
  refine k_iload_1 C 0 rfl 1 rfl ?_
  refine k_if_lt C 1 rfl 20 (by decide) (fun hc => ?_) (fun hc => ?_)
  · replace hf := if_t hf hc
    exact k_sub [] rfl (hb20 O N H hf)
  · replace hf := if_f hf hc
    refine k_iload_1 C 2 rfl 1 rfl ?_
    refine k_aload_0 C 3 rfl 0 rfl ?_
    refine kg11_7 C 4 rfl qX11_47 0 FR_c0 FR_f0_7 ?_
    refine k_icmp_ge C 5 rfl 20 (by decide) (fun hc => ?_) (fun hc => ?_)
    · replace hf := if_t hf hc
      exact k_sub [] rfl (hb20 O N H hf)
    · replace hf := if_f hf hc
      refine k_aload_0 C 6 rfl 0 rfl ?_
      refine k_iload_2 C 7 rfl 2 rfl ?_
      obtain ⟨r14, h5, hf⟩ := ob1_some hf
      refine k_callV (X := (wFR cy fa ha kr rk lr tx da sr a ua rf n0 n1 n2 n3 j F Q T O E X Td Od Ed Xd L K N S H U).take 0) (Y := (wFR cy fa ha kr rk lr tx da sr a ua rf n0 n1 n2 n3 j F Q T O E X Td Od Ed Xd L K N S H U).drop 70) (w2 := (wFR cy fa ha kr rk lr tx da sr a ua rf n0 n1 n2 n3 j F Q T O E X Td Od Ed Xd L K N S H U)) C 8 (c_X11_canGoBy Z.2.1 D cy fa ha kr rk lr tx da sr a F Q T O E X Td Od Ed Xd L K N S H p2 r14 h5) rfl qX11_218 mvX11_canGoBy 0 11 F_c0 rfl rfl rfl rfl rfl (Nat.le_of_ble_eq_true rfl) ⟨Nat.le_of_ble_eq_true rfl, Nat.le_of_ble_eq_true rfl, Nat.le_refl 0, Nat.le_refl 0⟩ ?_
      refine k_if_ne C 9 rfl 22 (by decide) (fun hc => ?_) (fun hc => ?_)
      · replace hf := if_f hf hc
        refine k_aload_0 C 12 rfl 0 rfl ?_
        refine kg11_5 C 13 rfl qX11_37 0 FR_c0 FR_f0_5 ?_
        refine k_iconst C 14 rfl ci_0 ?_
        obtain ⟨H_27, hM, hf⟩ := bnd_some hf
        refine kp0_2 (w2 := (wFR cy fa ha kr rk lr tx da sr a ua rf n0 n1 n2 n3 j F Q T O E X Td Od Ed Xd L K N S H_27 U)) C 15 rfl qX11_127 2 FR_c2 (v := 0) FR_n2 (FR_p2_2.trans (congrArg (fun z => (wFR cy fa ha kr rk lr tx da sr a ua rf n0 n1 n2 n3 j F Q T O E X Td Od Ed Xd L K N S z U)) hM)) ?_
        refine k_iconst C 16 rfl ci_0 ?_
        refine k_istore_3 C 17 rfl (by decide) rfl ?_
        refine k_sub (lv2 := [(0, .ref (fa 0)), (1, .int p1), (2, .int p2), (3, .int 0)]) [1, 2, 3, 0] rfl ?_
        exact k_sub [0, 1, 2, 3] rfl (hb32 FU 0 O N H_27 hf)
      · replace hf := if_t hf hc
        exact k_sub [] rfl (hb20 O N H hf)
set_option maxHeartbeats 1000000 in
set_option maxRecDepth 20000 in
theorem c_X11_image (l : Launch) (D : va_G) (cy : Nat → ClassId) (fa : Nat → Nat) (ha : Nat → Nat) (kr : Nat → Nat) (rk : Nat → Nat) (lr : Nat → Nat) (tx : Nat → Nat) (da : Nat → Nat) (sr : Nat → Nat) (a : Nat → Nat) (za : Nat → Nat) (rf : Nat → Option Nat) (j : Nat) (hsel : rf j = some (za 0)) (F : Sg) (Q : Sg) (T : Sg) (O : Sg) (E : Sg) (X : Sg) (Td : Sg) (Od : Sg) (Ed : Sg) (Xd : Sg) (L : Sg) (K : Sg) (N : Sg) (S : Sg) (H : Sg) (Ti : Sg) (Oi : Sg) (Ei : Sg) (Xi : Sg) (p1 : Int32) (r : Int32) (F1 : Sg) (Ti1 : Sg) (Oi1 : Sg) (Ei1 : Sg) (Xi1 : Sg) (hf : f_X11_image j F T O E X Ti Oi Ei Xi p1 = some (r, F1, Ti1, Oi1, Ei1, Xi1)) : Ct l D cy yX11_image cX11_image 2 (some .int) 3 242 0 0 [.ref (fa 0), .int p1] (wFI cy fa ha kr rk lr tx da sr a za rf j F Q T O E X Td Od Ed Xd L K N S H Ti Oi Ei Xi) (some (.int r)) (wFI cy fa ha kr rk lr tx da sr a za rf j F1 Q T O E X Td Od Ed Xd L K N S H Ti1 Oi1 Ei1 Xi1) := by
  refine Ct_i tX11_image hX11_image (by decide) (Nat.le_of_ble_eq_true rfl) ?_
  intro Z hZ C hR
  subst hZ
  replace C : Cx Z D cy RX11 tX11_image 2 3 242 0 0 := C
  show Wk Z D 2 0 0 (wFI cy fa ha kr rk lr tx da sr a za rf j F Q T O E X Td Od Ed Xd L K N S H Ti Oi Ei Xi) 0 [(0, .ref (fa 0)), (1, .int p1)] []
  unfold f_X11_image at hf
  have hb9 : ∀ (F : Sg) (Ti : Sg) (Oi : Sg) (Ei : Sg) (Xi : Sg), f_X11_image_b9 j T O E X p1 F Ti Oi Ei Xi = some (r, F1, Ti1, Oi1, Ei1, Xi1) → Wk Z D 2 0 0 (wFI cy fa ha kr rk lr tx da sr a za rf j F Q T O E X Td Od Ed Xd L K N S H Ti Oi Ei Xi) 9 [] [] := by
    intro F Ti Oi Ei Xi hf
    unfold f_X11_image_b9 at hf
    refine k_iconst C 5 rfl ci_m1 ?_
    exact k_iret (wf := (fun u => (wFI cy fa ha kr rk lr tx da sr a za rf j u.1 Q T O E X Td Od Ed Xd L K N S H u.2.1 u.2.2.1 u.2.2.2.1 u.2.2.2.2))) hR 6 rfl hf
  refine k_iload_1 C 0 rfl 1 rfl ?_
  refine k_if_lt C 1 rfl 9 (by decide) (fun hc => ?_) (fun hc => ?_)
  · replace hf := if_t hf hc
    exact k_sub [] rfl (hb9 F Ti Oi Ei Xi hf)
  · replace hf := if_f hf hc
    refine k_iload_1 C 2 rfl 1 rfl ?_
    refine k_iconst C 3 rfl ci_4 ?_
    refine k_icmp_lt C 4 rfl 11 (by decide) (fun hc => ?_) (fun hc => ?_)
    · replace hf := if_t hf hc
      refine k_aload_0 C 7 rfl 0 rfl ?_
      refine kg11_3 C 8 rfl qX11_26 0 FI_c0 FI_f0_3 ?_
      refine k_iload_1 C 9 rfl 1 rfl ?_
      obtain ⟨i16, hi, hin, hf⟩ := ixd_some hf
      obtain ⟨he, hf⟩ := gE_some hf
      refine k_aald C 10 rfl 70 6 FI_c70 rfl hin (hi.trans he) hsel ?_
      refine k_aload_0 C 11 rfl 0 rfl ?_
      refine kg11_1 C 12 rfl qX11_19 0 FI_c0 FI_f0_1 ?_
      obtain ⟨Ti_21, Oi_21, Ei_21, Xi_21, h5, hf⟩ := ob4_some hf
      refine k_re (w2 := (wWW cy za a Ti Oi Ei Xi T O E X) ++ (List.filterMap (fun i => (wFI cy fa ha kr rk lr tx da sr a za rf j F Q T O E X Td Od Ed Xd L K N S H Ti Oi Ei Xi)[i]?) [0, 1, 2, 3, 4, 5, 6, 7, 8, 9, 10, 11, 12, 13, 14, 15, 16, 17, 18, 19, 20, 21, 22, 23, 24, 25, 26, 27, 28, 29, 30, 31, 32, 33, 34, 35, 36, 37, 38, 39, 40, 41, 42, 43, 44, 45, 46, 70])) [71, 72, 73, 74, 75, 76, 77, 78, 79, 80, 81, 82, 83, 84, 85, 86, 87, 88, 89, 90, 91, 92, 93, 47, 48, 49, 50, 51, 52, 53, 54, 55, 56, 57, 58, 59, 60, 61, 62, 63, 64, 65, 66, 67, 68, 69, 0, 1, 2, 3, 4, 5, 6, 7, 8, 9, 10, 11, 12, 13, 14, 15, 16, 17, 18, 19, 20, 21, 22, 23, 24, 25, 26, 27, 28, 29, 30, 31, 32, 33, 34, 35, 36, 37, 38, 39, 40, 41, 42, 43, 44, 45, 46, 70] (by decide) rfl rfl ?_
      refine k_callV (X := []) (Y := (List.filterMap (fun i => (wFI cy fa ha kr rk lr tx da sr a za rf j F Q T O E X Td Od Ed Xd L K N S H Ti Oi Ei Xi)[i]?) [0, 1, 2, 3, 4, 5, 6, 7, 8, 9, 10, 11, 12, 13, 14, 15, 16, 17, 18, 19, 20, 21, 22, 23, 24, 25, 26, 27, 28, 29, 30, 31, 32, 33, 34, 35, 36, 37, 38, 39, 40, 41, 42, 43, 44, 45, 46, 70])) (w2 := (wWW cy za a Ti_21 Oi_21 Ei_21 Xi_21 T O E X) ++ (List.filterMap (fun i => (wFI cy fa ha kr rk lr tx da sr a za rf j F Q T O E X Td Od Ed Xd L K N S H Ti Oi Ei Xi)[i]?) [0, 1, 2, 3, 4, 5, 6, 7, 8, 9, 10, 11, 12, 13, 14, 15, 16, 17, 18, 19, 20, 21, 22, 23, 24, 25, 26, 27, 28, 29, 30, 31, 32, 33, 34, 35, 36, 37, 38, 39, 40, 41, 42, 43, 44, 45, 46, 70])) C 13 (c_X10_copyFrom Z.2.1 D cy za a Ti Oi Ei Xi T O E X Ti_21 Oi_21 Ei_21 Xi_21 h5) rfl qX11_324 mvX10_copyFrom 0 10 W2_c0 rfl rfl rfl rfl rfl (Nat.le_of_ble_eq_true rfl) ⟨Nat.le_of_ble_eq_true rfl, Nat.le_of_ble_eq_true rfl, Nat.le_refl 0, Nat.le_refl 0⟩ ?_
      refine k_re (w2 := (wFI cy fa ha kr rk lr tx da sr a za rf j F Q T O E X Td Od Ed Xd L K N S H Ti_21 Oi_21 Ei_21 Xi_21)) [46, 47, 48, 49, 50, 51, 52, 53, 54, 55, 56, 57, 58, 59, 60, 61, 62, 63, 64, 65, 66, 67, 68, 69, 70, 71, 72, 73, 74, 75, 76, 77, 78, 79, 80, 81, 82, 83, 84, 85, 86, 87, 88, 89, 90, 91, 92, 23, 24, 25, 26, 27, 28, 29, 30, 31, 32, 33, 34, 35, 36, 37, 38, 39, 40, 41, 42, 43, 44, 45, 93, 0, 1, 2, 3, 4, 5, 6, 7, 8, 9, 10, 11, 12, 13, 14, 15, 16, 17, 18, 19, 20, 21, 22] (by decide) rfl rfl ?_
      refine k_aload_0 C 14 rfl 0 rfl ?_
      refine kg11_4 C 15 rfl qX11_30 0 FI_c0 FI_f0_4 ?_
      refine k_iload_1 C 16 rfl 1 rfl ?_
      refine k_iconst C 17 rfl ci_1 ?_
      obtain ⟨i30, hi, hin, hf⟩ := ixd_some hf
      obtain ⟨F_30, hM, hf⟩ := bnd_some hf
      refine k_zast (w2 := (wFI cy fa ha kr rk lr tx da sr a za rf j F_30 Q T O E X Td Od Ed Xd L K N S H Ti_21 Oi_21 Ei_21 Xi_21)) C 18 rfl 1 FI_c1 hin hi (FI_s1.trans (congrArg (fun z => (wFI cy fa ha kr rk lr tx da sr a za rf j z Q T O E X Td Od Ed Xd L K N S H Ti_21 Oi_21 Ei_21 Xi_21)) hM)) ?_
      refine k_aload_0 C 19 rfl 0 rfl ?_
      refine kg11_1 C 20 rfl qX11_19 0 FI_c0 FI_f0_1 ?_
      refine kg10_1 C 21 rfl qX11_109 47 FI_c47 FI_f47_1 ?_
      refine kg2_0 C 22 rfl qX11_224 60 FI_c60 FI_f60_0 ?_
      exact k_iret (wf := (fun u => (wFI cy fa ha kr rk lr tx da sr a za rf j u.1 Q T O E X Td Od Ed Xd L K N S H u.2.1 u.2.2.1 u.2.2.2.1 u.2.2.2.2))) hR 23 rfl hf
    · replace hf := if_f hf hc
      exact k_sub [] rfl (hb9 F Ti Oi Ei Xi hf)
set_option maxHeartbeats 1000000 in
set_option maxRecDepth 20000 in
theorem c_X11_back (l : Launch) (D : va_G) (cy : Nat → ClassId) (fa : Nat → Nat) (ha : Nat → Nat) (kr : Nat → Nat) (rk : Nat → Nat) (lr : Nat → Nat) (tx : Nat → Nat) (da : Nat → Nat) (sr : Nat → Nat) (a : Nat → Nat) (za : Nat → Nat) (rf : Nat → Option Nat) (j : Nat) (hsel : rf j = some (za 0)) (F : Sg) (Q : Sg) (T : Sg) (O : Sg) (E : Sg) (X : Sg) (Td : Sg) (Od : Sg) (Ed : Sg) (Xd : Sg) (L : Sg) (K : Sg) (N : Sg) (S : Sg) (H : Sg) (Ti : Sg) (Oi : Sg) (Ei : Sg) (Xi : Sg) (p1 : Int32) (r : Int32) (T1 : Sg) (O1 : Sg) (E1 : Sg) (X1 : Sg) (H1 : Sg) (hf : f_X11_back j F T O E X H Ti Oi Ei Xi p1 = some (r, T1, O1, E1, X1, H1)) : Ct l D cy yX11_back cX11_back 2 (some .int) 3 242 0 0 [.ref (fa 0), .int p1] (wFI cy fa ha kr rk lr tx da sr a za rf j F Q T O E X Td Od Ed Xd L K N S H Ti Oi Ei Xi) (some (.int r)) (wFI cy fa ha kr rk lr tx da sr a za rf j F Q T1 O1 E1 X1 Td Od Ed Xd L K N S H1 Ti Oi Ei Xi) := by
  refine Ct_i tX11_back hX11_back (by decide) (Nat.le_of_ble_eq_true rfl) ?_
  intro Z hZ C hR
  subst hZ
  replace C : Cx Z D cy RX11 tX11_back 2 3 242 0 0 := C
  show Wk Z D 2 0 0 (wFI cy fa ha kr rk lr tx da sr a za rf j F Q T O E X Td Od Ed Xd L K N S H Ti Oi Ei Xi) 0 [(0, .ref (fa 0)), (1, .int p1)] []
  unfold f_X11_back at hf
  have hb18 : ∀ (T : Sg) (O : Sg) (E : Sg) (X : Sg) (H : Sg), f_X11_back_b18 j F Ti Oi Ei Xi p1 T O E X H = some (r, T1, O1, E1, X1, H1) → Wk Z D 2 0 0 (wFI cy fa ha kr rk lr tx da sr a za rf j F Q T O E X Td Od Ed Xd L K N S H Ti Oi Ei Xi) 18 [] [] := by
    intro T O E X H hf
    unfold f_X11_back_b18 at hf
    refine k_iconst C 10 rfl ci_m1 ?_
    exact k_iret (wf := (fun u => (wFI cy fa ha kr rk lr tx da sr a za rf j F Q u.1 u.2.1 u.2.2.1 u.2.2.2.1 Td Od Ed Xd L K N S u.2.2.2.2 Ti Oi Ei Xi))) hR 11 rfl hf
  refine k_iload_1 C 0 rfl 1 rfl ?_
  refine k_if_lt C 1 rfl 18 (by decide) (fun hc => ?_) (fun hc => ?_)
  · replace hf := if_t hf hc
    exact k_sub [] rfl (hb18 T O E X H hf)
  · replace hf := if_f hf hc
    refine k_iload_1 C 2 rfl 1 rfl ?_
    refine k_iconst C 3 rfl ci_4 ?_
    refine k_icmp_ge C 4 rfl 18 (by decide) (fun hc => ?_) (fun hc => ?_)
    · replace hf := if_t hf hc
      exact k_sub [] rfl (hb18 T O E X H hf)
    · replace hf := if_f hf hc
      refine k_aload_0 C 5 rfl 0 rfl ?_
      refine kg11_4 C 6 rfl qX11_30 0 FI_c0 FI_f0_4 ?_
      refine k_iload_1 C 7 rfl 1 rfl ?_
      obtain ⟨i14, hi, hin, hf⟩ := ixd_some hf
      refine k_zald C 8 rfl 1 FI_c1 hin hi ?_
      refine k_if_ne C 9 rfl 20 (by decide) (fun hc => ?_) (fun hc => ?_)
      · replace hf := if_f hf hc
        refine k_aload_0 C 12 rfl 0 rfl ?_
        refine kg11_1 C 13 rfl qX11_19 0 FI_c0 FI_f0_1 ?_
        refine k_aload_0 C 14 rfl 0 rfl ?_
        refine kg11_3 C 15 rfl qX11_26 0 FI_c0 FI_f0_3 ?_
        refine k_iload_1 C 16 rfl 1 rfl ?_
        obtain ⟨i29, hi, hin, hf⟩ := ixd_some hf
        obtain ⟨he, hf⟩ := gE_some hf
        refine k_aald C 17 rfl 70 6 FI_c70 rfl hin (hi.trans he) hsel ?_
        obtain ⟨T_30, O_30, E_30, X_30, h5, hf⟩ := ob4_some hf
        refine k_re (w2 := (wWW cy a za T O E X Ti Oi Ei Xi) ++ (List.filterMap (fun i => (wFI cy fa ha kr rk lr tx da sr a za rf j F Q T O E X Td Od Ed Xd L K N S H Ti Oi Ei Xi)[i]?) [0, 1, 2, 3, 4, 5, 6, 7, 8, 9, 10, 11, 12, 13, 14, 15, 16, 17, 18, 19, 20, 21, 22, 23, 24, 25, 26, 27, 28, 29, 30, 31, 32, 33, 34, 35, 36, 37, 38, 39, 40, 41, 42, 43, 44, 45, 46, 70])) [47, 48, 49, 50, 51, 52, 53, 54, 55, 56, 57, 58, 59, 60, 61, 62, 63, 64, 65, 66, 67, 68, 69, 71, 72, 73, 74, 75, 76, 77, 78, 79, 80, 81, 82, 83, 84, 85, 86, 87, 88, 89, 90, 91, 92, 93, 0, 1, 2, 3, 4, 5, 6, 7, 8, 9, 10, 11, 12, 13, 14, 15, 16, 17, 18, 19, 20, 21, 22, 23, 24, 25, 26, 27, 28, 29, 30, 31, 32, 33, 34, 35, 36, 37, 38, 39, 40, 41, 42, 43, 44, 45, 46, 70] (by decide) rfl rfl ?_
        refine k_callV (X := []) (Y := (List.filterMap (fun i => (wFI cy fa ha kr rk lr tx da sr a za rf j F Q T O E X Td Od Ed Xd L K N S H Ti Oi Ei Xi)[i]?) [0, 1, 2, 3, 4, 5, 6, 7, 8, 9, 10, 11, 12, 13, 14, 15, 16, 17, 18, 19, 20, 21, 22, 23, 24, 25, 26, 27, 28, 29, 30, 31, 32, 33, 34, 35, 36, 37, 38, 39, 40, 41, 42, 43, 44, 45, 46, 70])) (w2 := (wWW cy a za T_30 O_30 E_30 X_30 Ti Oi Ei Xi) ++ (List.filterMap (fun i => (wFI cy fa ha kr rk lr tx da sr a za rf j F Q T O E X Td Od Ed Xd L K N S H Ti Oi Ei Xi)[i]?) [0, 1, 2, 3, 4, 5, 6, 7, 8, 9, 10, 11, 12, 13, 14, 15, 16, 17, 18, 19, 20, 21, 22, 23, 24, 25, 26, 27, 28, 29, 30, 31, 32, 33, 34, 35, 36, 37, 38, 39, 40, 41, 42, 43, 44, 45, 46, 70])) C 18 (c_X10_copyFrom Z.2.1 D cy a za T O E X Ti Oi Ei Xi T_30 O_30 E_30 X_30 h5) rfl qX11_324 mvX10_copyFrom 0 10 W2_c0 rfl rfl rfl rfl rfl (Nat.le_of_ble_eq_true rfl) ⟨Nat.le_of_ble_eq_true rfl, Nat.le_of_ble_eq_true rfl, Nat.le_refl 0, Nat.le_refl 0⟩ ?_
        refine k_re (w2 := (wFI cy fa ha kr rk lr tx da sr a za rf j F Q T_30 O_30 E_30 X_30 Td Od Ed Xd L K N S H Ti Oi Ei Xi)) [46, 47, 48, 49, 50, 51, 52, 53, 54, 55, 56, 57, 58, 59, 60, 61, 62, 63, 64, 65, 66, 67, 68, 69, 70, 71, 72, 73, 74, 75, 76, 77, 78, 79, 80, 81, 82, 83, 84, 85, 86, 87, 88, 89, 90, 91, 92, 0, 1, 2, 3, 4, 5, 6, 7, 8, 9, 10, 11, 12, 13, 14, 15, 16, 17, 18, 19, 20, 21, 22, 93, 23, 24, 25, 26, 27, 28, 29, 30, 31, 32, 33, 34, 35, 36, 37, 38, 39, 40, 41, 42, 43, 44, 45] (by decide) rfl rfl ?_
        refine k_aload_0 C 19 rfl 0 rfl ?_
        refine kg11_5 C 20 rfl qX11_37 0 FI_c0 FI_f0_5 ?_
        refine k_iconst C 21 rfl ci_0 ?_
        obtain ⟨H_38, hM, hf⟩ := bnd_some hf
        refine kp0_2 (w2 := (wFI cy fa ha kr rk lr tx da sr a za rf j F Q T_30 O_30 E_30 X_30 Td Od Ed Xd L K N S H_38 Ti Oi Ei Xi)) C 22 rfl qX11_127 2 FI_c2 (v := 0) FI_n2 (FI_p2_2.trans (congrArg (fun z => (wFI cy fa ha kr rk lr tx da sr a za rf j F Q T_30 O_30 E_30 X_30 Td Od Ed Xd L K N S z Ti Oi Ei Xi)) hM)) ?_
        refine k_aload_0 C 23 rfl 0 rfl ?_
        refine kg11_1 C 24 rfl qX11_19 0 FI_c0 FI_f0_1 ?_
        refine kg10_1 C 25 rfl qX11_109 47 FI_c47 FI_f47_1 ?_
        refine kg2_0 C 26 rfl qX11_224 60 FI_c60 FI_f60_0 ?_
        exact k_iret (wf := (fun u => (wFI cy fa ha kr rk lr tx da sr a za rf j F Q u.1 u.2.1 u.2.2.1 u.2.2.2.1 Td Od Ed Xd L K N S u.2.2.2.2 Ti Oi Ei Xi))) hR 27 rfl hf
      · replace hf := if_t hf hc
        exact k_sub [] rfl (hb18 T O E X H hf)
