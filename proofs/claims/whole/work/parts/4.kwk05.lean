set_option maxHeartbeats 1000000 in
set_option maxRecDepth 20000 in
theorem c_X6_meetingSecond (l : Launch) (D : va_G) (cy : Nat → ClassId) (c : Nat → Nat) (a : Nat → Nat) (S : Sg) (p1 : Int32) (r : Int32) (hf : f_X6_meetingSecond S p1 = some r) : Ct l D cy yX6_meetingSecond cX6_meetingSecond 2 (some .int) 1 200 0 0 [.ref (c 0), .int p1] (wS1 cy c a S) (some (.int r)) (wS1 cy c a S) := by
  refine Ct_i tX6_meetingSecond hX6_meetingSecond (by decide) (Nat.le_of_ble_eq_true rfl) ?_
  intro Z hZ C hR
  subst hZ
  replace C : Cx Z D cy RX6 tX6_meetingSecond 2 1 200 0 0 := C
  show Wk Z D 2 0 0 (wS1 cy c a S) 0 [(0, .ref (c 0)), (1, .int p1)] []
  unfold f_X6_meetingSecond at hf
  refine k_aload_0 C 0 rfl 0 rfl ?_
  refine kg6_4 C 1 rfl qX6_21 0 S1_c0 S1_f0_4 ?_
  refine k_iload_1 C 2 rfl 1 rfl ?_
  obtain ⟨i5, hi, hin, hf⟩ := ixd_some hf
  refine k_iald C 3 rfl 4 S1_c4 hin hi ?_
  refine k_aload_0 C 4 rfl 0 rfl ?_
  refine kg6_5 C 5 rfl qX6_24 0 S1_c0 S1_f0_5 ?_
  refine k_iload_1 C 6 rfl 1 rfl ?_
  obtain ⟨i11, hi, hin, hf⟩ := ixd_some hf
  refine k_iald C 7 rfl 5 S1_c5 hin hi ?_
  refine k_mmax C 8 rfl qX6_49 jw_max (Nat.le_of_ble_eq_true rfl) (Nat.le_of_ble_eq_true rfl) (Nat.le_of_ble_eq_true rfl) ⟨Nat.le_refl 0, Nat.le_refl 0⟩ ?_
  exact k_iretP hR 9 rfl hf
set_option maxHeartbeats 1000000 in
set_option maxRecDepth 20000 in
theorem c_X6_meetingWay (l : Launch) (D : va_G) (cy : Nat → ClassId) (c : Nat → Nat) (a : Nat → Nat) (S : Sg) (T : Sg) (O : Sg) (E : Sg) (X : Sg) (p1 : Int32) (p2 : Int32) (r : Int32) (S1 : Sg) (hf : f_X6_meetingWay S T O p1 p2 = some (r, S1)) : Ct l D cy yX6_meetingWay cX6_meetingWay 8 (some .int) 3 255 0 0 [.ref (c 0), .int p1, .int p2] (wS cy c a S T O E X) (some (.int r)) (wS cy c a S1 T O E X) := by
  refine Ct_i tX6_meetingWay hX6_meetingWay (by decide) (Nat.le_of_ble_eq_true rfl) ?_
  intro Z hZ C hR
  subst hZ
  replace C : Cx Z D cy RX6 tX6_meetingWay 8 3 255 0 0 := C
  show Wk Z D 8 0 0 (wS cy c a S T O E X) 0 [(0, .ref (c 0)), (1, .int p1), (2, .int p2)] []
  unfold f_X6_meetingWay at hf
  have hq64 : ∀ (k64 : Int32 → Int32 → Int32 → Sg → Option (Int32 × Sg)), (∀ (x3 : Int32) (x4 : Int32) (x5 : Int32) (S : Sg), k64 x3 x4 x5 S = some (r, S1) → Wk Z D 8 0 0 (wS cy c a S T O E X) 64 [(0, .ref (c 0)), (3, .int x3), (4, .int x4), (5, .int x5)] []) → ∀ (x3 : Int32) (x4 : Int32) (x5 : Int32) (S : Sg), f_X6_meetingWay_b64 T O p1 p2 k64 x3 x4 x5 S = some (r, S1) → Wk Z D 8 0 0 (wS cy c a S T O E X) 64 [(0, .ref (c 0)), (3, .int x3), (4, .int x4), (5, .int x5)] [] := by
    intro k64 hk64 x3 x4 x5 S hf
    unfold f_X6_meetingWay_b64 at hf
    have hb155 : ∀ (x3 : Int32) (x4 : Int32) (x5 : Int32) (S : Sg), f_X6_meetingWay_b155 T O p1 p2 k64 x3 x4 x5 S = some (r, S1) → Wk Z D 8 0 0 (wS cy c a S T O E X) 155 [(0, .ref (c 0)), (3, .int x3), (4, .int x4), (5, .int x5)] [] := by
      intro x3 x4 x5 S hf
      unfold f_X6_meetingWay_b155 at hf
      obtain ⟨x5_155, hx, hf⟩ := bnd_some hf
      refine k_iinc C 81 rfl 3 rfl ((cn_1 _).trans hx) (by decide) rfl ?_
      refine k_sub (lv2 := [(0, .ref (c 0)), (3, .int x3), (4, .int x4), (5, .int x5_155)]) [1, 2, 3, 0] rfl ?_
      refine k_goto C 82 rfl 64 (by decide) ?_
      exact k_sub [0, 1, 2, 3] rfl (hk64 x3 x4 x5_155 S hf)
    have hb110 : ∀ (x3 : Int32) (x4 : Int32) (x5 : Int32) (s0 : Int32) (S : Sg), f_X6_meetingWay_b110 T O p1 p2 k64 x3 x4 x5 s0 S = some (r, S1) → Wk Z D 8 0 0 (wS cy c a S T O E X) 110 [(0, .ref (c 0)), (3, .int x3), (4, .int x4), (5, .int x5)] [.int s0] := by
      intro x3 x4 x5 s0 S hf
      unfold f_X6_meetingWay_b110 at hf
      refine k_istore C 57 rfl (by decide) rfl ?_
      refine k_sub (lv2 := [(0, .ref (c 0)), (3, .int x3), (4, .int x4), (5, .int x5), (6, .int s0)]) [1, 2, 3, 4, 0] rfl ?_
      refine k_aload_0 C 58 rfl 0 rfl ?_
      refine kg6_4 C 59 rfl qX6_21 0 S_c0 S_f0_4 ?_
      refine k_iload C 60 rfl 3 rfl ?_
      obtain ⟨i118, hi, hin, hf⟩ := ixd_some hf
      refine k_iald C 61 rfl 4 S_c4 hin hi ?_
      refine k_iload_3 C 62 rfl 1 rfl ?_
      refine k_iadd C 63 rfl ?_
      refine k_aload_0 C 64 rfl 0 rfl ?_
      refine kg6_5 C 65 rfl qX6_24 0 S_c0 S_f0_5 ?_
      refine k_iload C 66 rfl 3 rfl ?_
      obtain ⟨i127, hi, hin, hf⟩ := ixd_some hf
      refine k_iald C 67 rfl 5 S_c5 hin hi ?_
      refine k_iload C 68 rfl 2 rfl ?_
      refine k_iadd C 69 rfl ?_
      refine k_mmin C 70 rfl qX6_99 jw_min (Nat.le_of_ble_eq_true rfl) (Nat.le_of_ble_eq_true rfl) (Nat.le_of_ble_eq_true rfl) ⟨Nat.le_refl 0, Nat.le_refl 0⟩ ?_
      obtain ⟨x7_134, hx, hf⟩ := bnd_some hf
      refine k_topi hx ?_
      refine k_istore C 71 rfl (by decide) rfl ?_
      refine k_sub (lv2 := [(0, .ref (c 0)), (3, .int x3), (4, .int x4), (5, .int x5), (6, .int s0), (7, .int x7_134)]) [1, 2, 3, 4, 5, 0] rfl ?_
      refine k_iload C 72 rfl 4 rfl ?_
      refine k_if_eq C 73 rfl 155 (by decide) (fun hc => ?_) (fun hc => ?_)
      · replace hf := if_t hf hc
        exact k_sub [0, 1, 2, 3] rfl (hb155 x3 x4 x5 S hf)
      · replace hf := if_f hf hc
        refine k_aload_0 C 74 rfl 0 rfl ?_
        refine k_iload C 75 rfl 3 rfl ?_
        obtain ⟨r144, h5, hf⟩ := ob1_some hf
        refine k_callV (X := (wS cy c a S T O E X).take 0) (Y := (wS cy c a S T O E X).drop 8) (w2 := (wS cy c a S T O E X)) C 76 (c_X6_meetingSecond Z.2.1 D cy c a S x5 r144 h5) rfl qX6_208 mvX6_meetingSecond 0 6 S1_c0 rfl rfl rfl rfl rfl (Nat.le_of_ble_eq_true rfl) ⟨Nat.le_of_ble_eq_true rfl, Nat.le_of_ble_eq_true rfl, Nat.le_refl 0, Nat.le_refl 0⟩ ?_
        refine k_iload C 77 rfl 5 rfl ?_
        refine k_icmp_ge C 78 rfl 155 (by decide) (fun hc => ?_) (fun hc => ?_)
        · replace hf := if_t hf hc
          exact k_sub [0, 1, 2, 3] rfl (hb155 x3 x4 x5 S hf)
        · replace hf := if_f hf hc
          refine k_iload C 79 rfl 3 rfl ?_
          exact k_iret (wf := (fun u => (wS cy c a u T O E X))) hR 80 rfl hf
    have hb109 : ∀ (x3 : Int32) (x4 : Int32) (x5 : Int32) (S : Sg), f_X6_meetingWay_b109 T O p1 p2 k64 x3 x4 x5 S = some (r, S1) → Wk Z D 8 0 0 (wS cy c a S T O E X) 109 [(0, .ref (c 0)), (3, .int x3), (4, .int x4), (5, .int x5)] [] := by
      intro x3 x4 x5 S hf
      unfold f_X6_meetingWay_b109 at hf
      refine k_iconst C 56 rfl ci_0 ?_
      exact k_sub [0, 1, 2, 3] rfl (hb110 x3 x4 x5 0 S hf)
    refine k_iload C 34 rfl 3 rfl ?_
    refine k_aload_0 C 35 rfl 0 rfl ?_
    refine kg6_0 C 36 rfl qX6_33 0 S_c0 S_f0_0 ?_
    refine kg10_0 C 37 rfl qX6_65 8 S_c8 S_f8_0 ?_
    refine kg9_0 C 38 rfl qX6_69 9 S_c9 S_f9_0 ?_
    refine k_iconst C 39 rfl ci_1 ?_
    refine k_isub C 40 rfl ?_
    refine k_icmp_ge C 41 rfl 161 (by decide) (fun hc => ?_) (fun hc => ?_)
    · replace hf := if_t hf hc
      refine k_iconst C 83 rfl ci_m1 ?_
      exact k_iret (wf := (fun u => (wS cy c a u T O E X))) hR 84 rfl hf
    · replace hf := if_f hf hc
      refine k_aload_0 C 42 rfl 0 rfl ?_
      refine kg6_4 C 43 rfl qX6_21 0 S_c0 S_f0_4 ?_
      refine k_iload C 44 rfl 3 rfl ?_
      obtain ⟨i87, hi, hin, hf⟩ := ixd_some hf
      refine k_iald C 45 rfl 4 S_c4 hin hi ?_
      refine k_ldc C 46 rfl qX6_58 ?_
      refine k_icmp_eq C 47 rfl 109 (by decide) (fun hc => ?_) (fun hc => ?_)
      · replace hf := if_t hf hc
        exact k_sub [0, 1, 2, 3] rfl (hb109 x3 x4 x5 S hf)
      · replace hf := if_f hf hc
        refine k_aload_0 C 48 rfl 0 rfl ?_
        refine kg6_5 C 49 rfl qX6_24 0 S_c0 S_f0_5 ?_
        refine k_iload C 50 rfl 3 rfl ?_
        obtain ⟨i99, hi, hin, hf⟩ := ixd_some hf
        refine k_iald C 51 rfl 5 S_c5 hin hi ?_
        refine k_ldc C 52 rfl qX6_58 ?_
        refine k_icmp_eq C 53 rfl 109 (by decide) (fun hc => ?_) (fun hc => ?_)
        · replace hf := if_t hf hc
          exact k_sub [0, 1, 2, 3] rfl (hb109 x3 x4 x5 S hf)
        · replace hf := if_f hf hc
          refine k_iconst C 54 rfl ci_1 ?_
          refine k_goto C 55 rfl 110 (by decide) ?_
          exact k_sub [0, 1, 2, 3] rfl (hb110 x3 x4 x5 1 S hf)
  have hb64 := flW4 hq64
  refine k_aload_0 C 0 rfl 0 rfl ?_
  refine k_iload_1 C 1 rfl 1 rfl ?_
  refine k_aload_0 C 2 rfl 0 rfl ?_
  refine kg6_0 C 3 rfl qX6_33 0 S_c0 S_f0_0 ?_
  refine k_iload_2 C 4 rfl 2 rfl ?_
  obtain ⟨r7, h5, hf⟩ := ob1_some hf
  refine k_callV (X := (wS cy c a S T O E X).take 8) (Y := (wS cy c a S T O E X).drop 31) (w2 := (wS cy c a S T O E X)) C 5 (c_X10_placeOf Z.2.1 D cy a T O E X p2 r7 h5) rfl qX6_117 mvX10_placeOf 0 10 W_c0 rfl rfl rfl rfl rfl (Nat.le_of_ble_eq_true rfl) ⟨Nat.le_of_ble_eq_true rfl, Nat.le_of_ble_eq_true rfl, Nat.le_refl 0, Nat.le_refl 0⟩ ?_
  refine k_aload_0 C 6 rfl 0 rfl ?_
  refine kg6_4 C 7 rfl qX6_21 0 S_c0 S_f0_4 ?_
  obtain ⟨S_14, h5, hf⟩ := ob1_some hf
  refine k_callW C 8 (c_X6_walk_v1 Z.2.1 D cy c a S T O E X p1 r7 S_14 h5) rfl qX6_204 mvX6_walk 0 6 S_c0 rfl rfl rfl (Nat.le_of_ble_eq_true rfl) ⟨Nat.le_of_ble_eq_true rfl, Nat.le_of_ble_eq_true rfl, Nat.le_refl 0, Nat.le_refl 0⟩ ?_
  refine k_aload_0 C 9 rfl 0 rfl ?_
  refine k_iload_2 C 10 rfl 2 rfl ?_
  refine k_aload_0 C 11 rfl 0 rfl ?_
  refine kg6_0 C 12 rfl qX6_33 0 S_c0 S_f0_0 ?_
  refine k_iload_1 C 13 rfl 1 rfl ?_
  obtain ⟨r24, h5, hf⟩ := ob1_some hf
  refine k_callV (X := (wS cy c a S_14 T O E X).take 8) (Y := (wS cy c a S_14 T O E X).drop 31) (w2 := (wS cy c a S_14 T O E X)) C 14 (c_X10_placeOf Z.2.1 D cy a T O E X p1 r24 h5) rfl qX6_117 mvX10_placeOf 0 10 W_c0 rfl rfl rfl rfl rfl (Nat.le_of_ble_eq_true rfl) ⟨Nat.le_of_ble_eq_true rfl, Nat.le_of_ble_eq_true rfl, Nat.le_refl 0, Nat.le_refl 0⟩ ?_
  refine k_aload_0 C 15 rfl 0 rfl ?_
  refine kg6_5 C 16 rfl qX6_24 0 S_c0 S_f0_5 ?_
  obtain ⟨S_31, h5, hf⟩ := ob1_some hf
  refine k_callW C 17 (c_X6_walk_v2 Z.2.1 D cy c a S_14 T O E X p2 r24 S_31 h5) rfl qX6_204 mvX6_walk 0 6 S_c0 rfl rfl rfl (Nat.le_of_ble_eq_true rfl) ⟨Nat.le_of_ble_eq_true rfl, Nat.le_of_ble_eq_true rfl, Nat.le_refl 0, Nat.le_refl 0⟩ ?_
  refine k_aload_0 C 18 rfl 0 rfl ?_
  refine kg6_0 C 19 rfl qX6_33 0 S_c0 S_f0_0 ?_
  refine kg10_0 C 20 rfl qX6_65 8 S_c8 S_f8_0 ?_
  refine kg9_15 C 21 rfl qX6_96 9 S_c9 S_f9_15 ?_
  refine k_iload_1 C 22 rfl 1 rfl ?_
  obtain ⟨i45, hi, hin, hf⟩ := ixd_some hf
  refine k_iald C 23 rfl 19 S_c19 hin hi ?_
  obtain ⟨x3_46, hx, hf⟩ := bnd_some hf
  refine k_topi hx ?_
  refine k_istore_3 C 24 rfl (by decide) rfl ?_
  refine k_sub (lv2 := [(0, .ref (c 0)), (1, .int p1), (2, .int p2), (3, .int x3_46)]) [1, 2, 3, 0] rfl ?_
  refine k_aload_0 C 25 rfl 0 rfl ?_
  refine kg6_0 C 26 rfl qX6_33 0 S_c0 S_f0_0 ?_
  refine kg10_0 C 27 rfl qX6_65 8 S_c8 S_f8_0 ?_
  refine kg9_15 C 28 rfl qX6_96 9 S_c9 S_f9_15 ?_
  refine k_iload_2 C 29 rfl 2 rfl ?_
  obtain ⟨i58, hi, hin, hf⟩ := ixd_some hf
  refine k_iald C 30 rfl 19 S_c19 hin hi ?_
  obtain ⟨x4_59, hx, hf⟩ := bnd_some hf
  refine k_topi hx ?_
  refine k_istore C 31 rfl (by decide) rfl ?_
  refine k_sub (lv2 := [(0, .ref (c 0)), (1, .int p1), (2, .int p2), (3, .int x3_46), (4, .int x4_59)]) [1, 2, 3, 4, 0] rfl ?_
  refine k_iconst C 32 rfl ci_0 ?_
  refine k_istore C 33 rfl (by decide) rfl ?_
  refine k_sub (lv2 := [(0, .ref (c 0)), (1, .int p1), (2, .int p2), (3, .int x3_46), (4, .int x4_59), (5, .int 0)]) [1, 2, 3, 4, 5, 0] rfl ?_
  exact k_sub [0, 3, 4, 5] rfl (hb64 FU x3_46 x4_59 0 S_31 hf)
set_option maxHeartbeats 1000000 in
set_option maxRecDepth 20000 in
theorem c_X6_canHaveGotIn (l : Launch) (D : va_G) (cy : Nat → ClassId) (c : Nat → Nat) (a : Nat → Nat) (S : Sg) (T : Sg) (O : Sg) (E : Sg) (X : Sg) (p1 : Int32) (p2 : Int32) (r : Bool) (S1 : Sg) (hf : f_X6_canHaveGotIn S T O E p1 p2 = some (r, S1)) : Ct l D cy yX6_canHaveGotIn cX6_canHaveGotIn 7 (some .boolean) 5 305 0 0 [.ref (c 0), .int p1, .int p2] (wS cy c a S T O E X) (some (.int (bI r))) (wS cy c a S1 T O E X) := by
  refine Ct_z tX6_canHaveGotIn hX6_canHaveGotIn (by decide) (Nat.le_of_ble_eq_true rfl) ?_
  intro Z hZ C hR
  subst hZ
  replace C : Cx Z D cy RX6 tX6_canHaveGotIn 7 5 305 0 0 := C
  show Wk Z D 7 0 0 (wS cy c a S T O E X) 0 [(0, .ref (c 0)), (1, .int p1), (2, .int p2)] []
  unfold f_X6_canHaveGotIn at hf
  have hq17 : ∀ (k17 : Int32 → Int32 → Int32 → Sg → Option (Bool × Sg)), (∀ (x4 : Int32) (x5 : Int32) (x6 : Int32) (S : Sg), k17 x4 x5 x6 S = some (r, S1) → Wk Z D 7 0 0 (wS cy c a S T O E X) 17 [(0, .ref (c 0)), (1, .int p1), (3, .ref (a 19)), (4, .int x4), (5, .int x5), (6, .int x6)] []) → ∀ (x4 : Int32) (x5 : Int32) (x6 : Int32) (S : Sg), f_X6_canHaveGotIn_b17 T O E p1 p2 k17 x4 x5 x6 S = some (r, S1) → Wk Z D 7 0 0 (wS cy c a S T O E X) 17 [(0, .ref (c 0)), (1, .int p1), (3, .ref (a 19)), (4, .int x4), (5, .int x5), (6, .int x6)] [] := by
    intro k17 hk17 x4 x5 x6 S hf
    unfold f_X6_canHaveGotIn_b17 at hf
    have hb78 : ∀ (x4 : Int32) (x5 : Int32) (x6 : Int32) (S : Sg), f_X6_canHaveGotIn_b78 T O E p1 p2 k17 x4 x5 x6 S = some (r, S1) → Wk Z D 7 0 0 (wS cy c a S T O E X) 78 [(0, .ref (c 0)), (1, .int p1), (3, .ref (a 19)), (4, .int x4), (5, .int x5), (6, .int x6)] [] := by
      intro x4 x5 x6 S hf
      unfold f_X6_canHaveGotIn_b78 at hf
      obtain ⟨x6_78, hx, hf⟩ := bnd_some hf
      refine k_iinc C 43 rfl 5 rfl ((cn_1 _).trans hx) (by decide) rfl ?_
      refine k_sub (lv2 := [(0, .ref (c 0)), (1, .int p1), (3, .ref (a 19)), (4, .int x4), (5, .int x5), (6, .int x6_78)]) [1, 2, 3, 4, 5, 0] rfl ?_
      refine k_goto C 44 rfl 17 (by decide) ?_
      exact k_sub [0, 1, 2, 3, 4, 5] rfl (hk17 x4 x5 x6_78 S hf)
    refine k_iload C 10 rfl 5 rfl ?_
    refine k_aload_3 C 11 rfl 2 rfl ?_
    refine kg7_0 C 12 rfl qX6_215 27 S_c27 S_f27_0 ?_
    refine k_icmp_ge C 13 rfl 84 (by decide) (fun hc => ?_) (fun hc => ?_)
    · replace hf := if_t hf hc
      refine k_iconst C 45 rfl ci_1 ?_
      exact k_zret (wf := (fun u => (wS cy c a u T O E X))) hR 46 rfl hf
    · replace hf := if_f hf hc
      refine k_aload_3 C 14 rfl 2 rfl ?_
      refine kg7_1 C 15 rfl qX6_220 27 S_c27 S_f27_1 ?_
      refine k_iload C 16 rfl 5 rfl ?_
      obtain ⟨i32, hi, hin, hf⟩ := ixd_some hf
      refine k_iald C 17 rfl 28 S_c28 hin hi ?_
      refine k_iload_1 C 18 rfl 1 rfl ?_
      refine k_icmp_ne C 19 rfl 78 (by decide) (fun hc => ?_) (fun hc => ?_)
      · replace hf := if_f hf hc
        exact k_sub [0, 1, 2, 3, 4, 5] rfl (hb78 x4 x5 x6 S hf)
      · replace hf := if_t hf hc
        refine k_aload_0 C 20 rfl 0 rfl ?_
        refine k_iload_1 C 21 rfl 1 rfl ?_
        refine k_iload C 22 rfl 3 rfl ?_
        refine k_iload C 23 rfl 4 rfl ?_
        obtain ⟨S_43, h5, hf⟩ := ob1_some hf
        refine k_callW C 24 (c_X6_spread Z.2.1 D cy c a S T O E X p1 x4 x5 S_43 h5) rfl qX6_123 mvX6_spread 0 6 S_c0 rfl rfl rfl (Nat.le_of_ble_eq_true rfl) ⟨Nat.le_of_ble_eq_true rfl, Nat.le_of_ble_eq_true rfl, Nat.le_refl 0, Nat.le_refl 0⟩ ?_
        refine k_aload_3 C 25 rfl 2 rfl ?_
        refine kg7_2 C 26 rfl qX6_222 27 S_c27 S_f27_2 ?_
        refine k_iload C 27 rfl 5 rfl ?_
        obtain ⟨i52, hi, hin, hf⟩ := ixd_some hf
        refine k_iald C 28 rfl 29 S_c29 hin hi ?_
        obtain ⟨x4_53, hx, hf⟩ := bnd_some hf
        refine k_topi hx ?_
        refine k_istore C 29 rfl (by decide) rfl ?_
        refine k_sub (lv2 := [(0, .ref (c 0)), (1, .int p1), (3, .ref (a 19)), (4, .int x4_53), (5, .int x5), (6, .int x6)]) [1, 2, 3, 0, 4, 5] rfl ?_
        refine k_aload_3 C 30 rfl 2 rfl ?_
        refine kg7_3 C 31 rfl qX6_224 27 S_c27 S_f27_3 ?_
        refine k_iload C 32 rfl 5 rfl ?_
        obtain ⟨i61, hi, hin, hf⟩ := ixd_some hf
        refine k_iald C 33 rfl 30 S_c30 hin hi ?_
        obtain ⟨x5_62, hx, hf⟩ := bnd_some hf
        refine k_topi hx ?_
        refine k_istore C 34 rfl (by decide) rfl ?_
        refine k_sub (lv2 := [(0, .ref (c 0)), (1, .int p1), (3, .ref (a 19)), (4, .int x4_53), (5, .int x5_62), (6, .int x6)]) [1, 2, 3, 4, 0, 5] rfl ?_
        refine k_aload_0 C 35 rfl 0 rfl ?_
        refine kg6_1 C 36 rfl qX6_9 0 S_c0 S_f0_1 ?_
        refine k_iload C 37 rfl 3 rfl ?_
        obtain ⟨i70, hi, hin, hf⟩ := ixd_some hf
        refine k_iald C 38 rfl 1 S_c1 hin hi ?_
        refine k_iload C 39 rfl 4 rfl ?_
        refine k_icmp_le C 40 rfl 78 (by decide) (fun hc => ?_) (fun hc => ?_)
        · replace hf := if_t hf hc
          exact k_sub [0, 1, 2, 3, 4, 5] rfl (hb78 x4_53 x5_62 x6 S_43 hf)
        · replace hf := if_f hf hc
          refine k_iconst C 41 rfl ci_0 ?_
          exact k_zret (wf := (fun u => (wS cy c a u T O E X))) hR 42 rfl hf
  have hb17 := flW4 hq17
  refine k_aload_0 C 0 rfl 0 rfl ?_
  refine kg6_0 C 1 rfl qX6_33 0 S_c0 S_f0_0 ?_
  refine kg10_2 C 2 rfl qX6_211 8 S_c8 S_f8_2 ?_
  refine k_astore_3 C 3 rfl (by decide) rfl ?_
  refine k_sub (lv2 := [(0, .ref (c 0)), (1, .int p1), (2, .int p2), (3, .ref (a 19))]) [1, 2, 3, 0] rfl ?_
  refine k_iload_2 C 4 rfl 2 rfl ?_
  refine k_istore C 5 rfl (by decide) rfl ?_
  refine k_sub (lv2 := [(0, .ref (c 0)), (1, .int p1), (2, .int p2), (3, .ref (a 19)), (4, .int p2)]) [1, 2, 3, 4, 0] rfl ?_
  refine k_iconst C 6 rfl ci_0 ?_
  refine k_istore C 7 rfl (by decide) rfl ?_
  refine k_sub (lv2 := [(0, .ref (c 0)), (1, .int p1), (2, .int p2), (3, .ref (a 19)), (4, .int p2), (5, .int 0)]) [1, 2, 3, 4, 5, 0] rfl ?_
  refine k_iconst C 8 rfl ci_0 ?_
  refine k_istore C 9 rfl (by decide) rfl ?_
  refine k_sub (lv2 := [(0, .ref (c 0)), (1, .int p1), (2, .int p2), (3, .ref (a 19)), (4, .int p2), (5, .int 0), (6, .int 0)]) [1, 2, 3, 4, 5, 6, 0] rfl ?_
  exact k_sub [0, 1, 3, 4, 5, 6] rfl (hb17 FU p2 0 0 S hf)
set_option maxHeartbeats 1000000 in
set_option maxRecDepth 20000 in
theorem c_X6_travel (l : Launch) (D : va_G) (cy : Nat → ClassId) (c : Nat → Nat) (a : Nat → Nat) (S : Sg) (T : Sg) (O : Sg) (E : Sg) (X : Sg) (p1 : Int32) (S1 : Sg) (hf : f_X6_travel S T O X p1 = some S1) : Ct l D cy yX6_travel cX6_travel 7 none 6 329 0 0 [.ref (c 0), .int p1] (wS cy c a S T O E X) none (wS cy c a S1 T O E X) := by
  refine Ct_v tX6_travel hX6_travel (by decide) (Nat.le_of_ble_eq_true rfl) ?_
  intro Z hZ C hR
  subst hZ
  replace C : Cx Z D cy RX6 tX6_travel 7 6 329 0 0 := C
  show Wk Z D 7 0 0 (wS cy c a S T O E X) 0 [(0, .ref (c 0)), (1, .int p1)] []
  unfold f_X6_travel at hf
  have hq32 : ∀ (k32 : Int32 → Int32 → Int32 → Sg → Option (Sg)), (∀ (x2 : Int32) (x3 : Int32) (x4 : Int32) (S : Sg), k32 x2 x3 x4 S = some S1 → Wk Z D 7 0 0 (wS cy c a S T O E X) 32 [(0, .ref (c 0)), (1, .int p1), (2, .int x2), (3, .int x3), (4, .int x4)] []) → ∀ (x2 : Int32) (x3 : Int32) (x4 : Int32) (S : Sg), f_X6_travel_b32 T O X p1 k32 x2 x3 x4 S = some S1 → Wk Z D 7 0 0 (wS cy c a S T O E X) 32 [(0, .ref (c 0)), (1, .int p1), (2, .int x2), (3, .int x3), (4, .int x4)] [] := by
    intro k32 hk32 x2 x3 x4 S hf
    unfold f_X6_travel_b32 at hf
    have hq41 : ∀ (k41 : Int32 → Int32 → Int32 → Int32 → Sg → Option (Sg)), (∀ (x2 : Int32) (x3 : Int32) (x4 : Int32) (x5 : Int32) (S : Sg), k41 x2 x3 x4 x5 S = some S1 → Wk Z D 7 0 0 (wS cy c a S T O E X) 41 [(0, .ref (c 0)), (1, .int p1), (2, .int x2), (3, .int x3), (4, .int x4), (5, .int x5)] []) → ∀ (x2 : Int32) (x3 : Int32) (x4 : Int32) (x5 : Int32) (S : Sg), f_X6_travel_b41 T O X p1 k32 k41 x2 x3 x4 x5 S = some S1 → Wk Z D 7 0 0 (wS cy c a S T O E X) 41 [(0, .ref (c 0)), (1, .int p1), (2, .int x2), (3, .int x3), (4, .int x4), (5, .int x5)] [] := by
      intro k41 hk41 x2 x3 x4 x5 S hf
      unfold f_X6_travel_b41 at hf
      have hb129 : ∀ (x2 : Int32) (x3 : Int32) (x4 : Int32) (x5 : Int32) (S : Sg), f_X6_travel_b129 T O X p1 k32 k41 x2 x3 x4 x5 S = some S1 → Wk Z D 7 0 0 (wS cy c a S T O E X) 129 [(0, .ref (c 0)), (1, .int p1), (2, .int x2), (3, .int x3), (4, .int x4), (5, .int x5)] [] := by
        intro x2 x3 x4 x5 S hf
        unfold f_X6_travel_b129 at hf
        obtain ⟨x5_129, hx, hf⟩ := bnd_some hf
        refine k_iinc C 71 rfl 5 rfl ((cn_1 _).trans hx) (by decide) rfl ?_
        refine k_sub (lv2 := [(0, .ref (c 0)), (1, .int p1), (2, .int x2), (3, .int x3), (4, .int x4), (5, .int x5_129)]) [1, 2, 3, 4, 5, 0] rfl ?_
        refine k_goto C 72 rfl 41 (by decide) ?_
        exact k_sub [0, 1, 2, 3, 4, 5] rfl (hk41 x2 x3 x4 x5_129 S hf)
      refine k_iload C 22 rfl 5 rfl ?_
      refine k_aload_0 C 23 rfl 0 rfl ?_
      refine kg6_0 C 24 rfl qX6_33 0 S_c0 S_f0_0 ?_
      refine kg10_0 C 25 rfl qX6_65 8 S_c8 S_f8_0 ?_
      refine kg9_2 C 26 rfl qX6_169 9 S_c9 S_f9_2 ?_
      refine k_icmp_ge C 27 rfl 135 (by decide) (fun hc => ?_) (fun hc => ?_)
      · replace hf := if_t hf hc
        obtain ⟨x4_135, hx, hf⟩ := bnd_some hf
        refine k_iinc C 73 rfl 4 rfl ((cn_1 _).trans hx) (by decide) rfl ?_
        refine k_sub (lv2 := [(0, .ref (c 0)), (1, .int p1), (2, .int x2), (3, .int x3), (4, .int x4_135), (5, .int x5)]) [1, 2, 3, 4, 0, 5] rfl ?_
        refine k_goto C 74 rfl 32 (by decide) ?_
        exact k_sub [0, 1, 2, 3, 4] rfl (hk32 x2 x3 x4_135 S hf)
      · replace hf := if_f hf hc
        refine k_iload_3 C 28 rfl 3 rfl ?_
        refine k_i2l C 29 rfl ?_
        refine k_ldc2 C 30 rfl qX6_236 ?_
        refine k_lmul C 31 rfl ?_
        refine k_ldc2 C 32 rfl qX6_238 ?_
        refine k_ladd C 33 rfl ?_
        refine k_ldc2 C 34 rfl qX6_240 ?_
        obtain ⟨hn, hf⟩ := nzJ_some hf
        refine k_lrem C 35 rfl hn ?_
        refine k_l2i C 36 rfl ?_
        obtain ⟨x3_71, hx, hf⟩ := bnd_some hf
        refine k_topi hx ?_
        refine k_istore_3 C 37 rfl (by decide) rfl ?_
        refine k_sub (lv2 := [(0, .ref (c 0)), (1, .int p1), (2, .int x2), (3, .int x3_71), (4, .int x4), (5, .int x5)]) [1, 2, 3, 0, 4, 5] rfl ?_
        refine k_aload_0 C 38 rfl 0 rfl ?_
        refine k_iload C 39 rfl 5 rfl ?_
        refine k_iload_3 C 40 rfl 3 rfl ?_
        refine k_ldc C 41 rfl qX6_242 ?_
        obtain ⟨hn, hf⟩ := nzI_some hf
        refine k_idiv C 42 rfl hn ?_
        refine k_iload_2 C 43 rfl 2 rfl ?_
        refine k_iconst C 44 rfl ci_1 ?_
        refine k_iadd C 45 rfl ?_
        obtain ⟨hn, hf⟩ := nzI_some hf
        refine k_irem C 46 rfl hn ?_
        obtain ⟨r83, S_83, h5, hf⟩ := ob2_some hf
        refine k_callW C 47 (c_X6_soonestOf Z.2.1 D cy c a S T O E X x5 ((x3_71 / 65536) - (x3_71 / 65536) / (x2 + 1) * (x2 + 1)) r83 S_83 h5) rfl qX6_137 mvX6_soonestOf 0 6 S_c0 rfl rfl rfl (Nat.le_of_ble_eq_true rfl) ⟨Nat.le_of_ble_eq_true rfl, Nat.le_of_ble_eq_true rfl, Nat.le_refl 0, Nat.le_refl 0⟩ ?_
        refine k_istore C 48 rfl (by decide) rfl ?_
        refine k_sub (lv2 := [(0, .ref (c 0)), (1, .int p1), (2, .int x2), (3, .int x3_71), (4, .int x4), (5, .int x5), (6, .int r83)]) [1, 2, 3, 4, 5, 6, 0] rfl ?_
        refine k_aload_0 C 49 rfl 0 rfl ?_
        refine k_iload C 50 rfl 5 rfl ?_
        refine k_iload C 51 rfl 6 rfl ?_
        obtain ⟨r93, h5, hf⟩ := ob1_some hf
        refine k_callW C 52 (c_X6_isLost Z.2.1 D cy c a S_83 T O E X x5 r83 r93 h5) rfl qX6_243 mvX6_isLost 0 6 S_c0 rfl rfl rfl (Nat.le_of_ble_eq_true rfl) ⟨Nat.le_of_ble_eq_true rfl, Nat.le_of_ble_eq_true rfl, Nat.le_refl 0, Nat.le_refl 0⟩ ?_
        refine k_if_eq C 53 rfl 112 (by decide) (fun hc => ?_) (fun hc => ?_)
        · replace hf := if_t hf hc
          refine k_aload_0 C 61 rfl 0 rfl ?_
          refine k_dup C 62 rfl rfl ?_
          refine kg6_13 C 63 rfl qX6_230 0 S_c0 S_f0_13 ?_
          refine k_iconst C 64 rfl ci_0 ?_
          refine k_iload_2 C 65 rfl 2 rfl ?_
          refine k_iload C 66 rfl 6 rfl ?_
          refine k_isub C 67 rfl ?_
          refine k_mmax C 68 rfl qX6_49 jw_max (Nat.le_of_ble_eq_true rfl) (Nat.le_of_ble_eq_true rfl) (Nat.le_of_ble_eq_true rfl) ⟨Nat.le_refl 0, Nat.le_refl 0⟩ ?_
          refine k_iadd C 69 rfl ?_
          obtain ⟨S_126, hM, hf⟩ := bnd_some hf
          refine kp6_13 (w2 := (wS cy c a S_126 T O E X)) C 70 rfl qX6_230 0 S_c0 (v := ((S_83.1 13) + (jmax 0 (x2 - r83)))) S_n0 (S_p0_13.trans (congrArg (fun z => (wS cy c a z T O E X)) hM)) ?_
          exact k_sub [0, 1, 2, 3, 4, 5] rfl (hb129 x2 x3_71 x4 x5 S_126 hf)
        · replace hf := if_f hf hc
          refine k_aload_0 C 54 rfl 0 rfl ?_
          refine k_dup C 55 rfl rfl ?_
          refine kg6_12 C 56 rfl qX6_227 0 S_c0 S_f0_12 ?_
          refine k_iconst C 57 rfl ci_1 ?_
          refine k_iadd C 58 rfl ?_
          obtain ⟨S_106, hM, hf⟩ := bnd_some hf
          refine kp6_12 (w2 := (wS cy c a S_106 T O E X)) C 59 rfl qX6_227 0 S_c0 (v := ((S_83.1 12) + 1)) S_n0 (S_p0_12.trans (congrArg (fun z => (wS cy c a z T O E X)) hM)) ?_
          refine k_goto C 60 rfl 129 (by decide) ?_
          exact k_sub [0, 1, 2, 3, 4, 5] rfl (hb129 x2 x3_71 x4 x5 S_106 hf)
    have hb41 := flW5 hq41
    refine k_iload C 17 rfl 4 rfl ?_
    refine k_iload_1 C 18 rfl 1 rfl ?_
    refine k_icmp_ge C 19 rfl 141 (by decide) (fun hc => ?_) (fun hc => ?_)
    · replace hf := if_t hf hc
      exact k_vret (wf := (fun u => (wS cy c a u T O E X))) hR 75 rfl hf
    · replace hf := if_f hf hc
      refine k_iconst C 20 rfl ci_0 ?_
      refine k_istore C 21 rfl (by decide) rfl ?_
      refine k_sub (lv2 := [(0, .ref (c 0)), (1, .int p1), (2, .int x2), (3, .int x3), (4, .int x4), (5, .int 0)]) [1, 2, 3, 4, 5, 0] rfl ?_
      exact k_sub [0, 1, 2, 3, 4, 5] rfl (hb41 FU x2 x3 x4 0 S hf)
  have hb32 := flW4 hq32
  refine k_aload_0 C 0 rfl 0 rfl ?_
  refine k_iconst C 1 rfl ci_0 ?_
  obtain ⟨S_2, hM, hf⟩ := bnd_some hf
  refine kp6_12 (w2 := (wS cy c a S_2 T O E X)) C 2 rfl qX6_227 0 S_c0 (v := 0) S_n0 (S_p0_12.trans (congrArg (fun z => (wS cy c a z T O E X)) hM)) ?_
  refine k_aload_0 C 3 rfl 0 rfl ?_
  refine k_iconst C 4 rfl ci_0 ?_
  obtain ⟨S_7, hM, hf⟩ := bnd_some hf
  refine kp6_13 (w2 := (wS cy c a S_7 T O E X)) C 5 rfl qX6_230 0 S_c0 (v := 0) S_n0 (S_p0_13.trans (congrArg (fun z => (wS cy c a z T O E X)) hM)) ?_
  refine k_aload_0 C 6 rfl 0 rfl ?_
  refine kg6_0 C 7 rfl qX6_33 0 S_c0 S_f0_0 ?_
  refine kg10_0 C 8 rfl qX6_65 8 S_c8 S_f8_0 ?_
  refine kg9_4 C 9 rfl qX6_127 9 S_c9 S_f9_4 ?_
  obtain ⟨x2_20, hx, hf⟩ := bnd_some hf
  refine k_topi hx ?_
  refine k_istore_2 C 10 rfl (by decide) rfl ?_
  refine k_sub (lv2 := [(0, .ref (c 0)), (1, .int p1), (2, .int x2_20)]) [1, 2, 0] rfl ?_
  refine k_aload_0 C 11 rfl 0 rfl ?_
  refine kg6_0 C 12 rfl qX6_33 0 S_c0 S_f0_0 ?_
  refine kg10_3 C 13 rfl qX6_233 8 S_c8 S_f8_3 ?_
  obtain ⟨x3_28, hx, hf⟩ := bnd_some hf
  refine k_topi hx ?_
  refine k_istore_3 C 14 rfl (by decide) rfl ?_
  refine k_sub (lv2 := [(0, .ref (c 0)), (1, .int p1), (2, .int x2_20), (3, .int x3_28)]) [1, 2, 3, 0] rfl ?_
  refine k_iconst C 15 rfl ci_0 ?_
  refine k_istore C 16 rfl (by decide) rfl ?_
  refine k_sub (lv2 := [(0, .ref (c 0)), (1, .int p1), (2, .int x2_20), (3, .int x3_28), (4, .int 0)]) [1, 2, 3, 4, 0] rfl ?_
  exact k_sub [0, 1, 2, 3, 4] rfl (hb32 FU x2_20 x3_28 0 S_7 hf)
set_option maxHeartbeats 1000000 in
set_option maxRecDepth 20000 in
theorem c_X4_begin (l : Launch) (D : va_G) (cy : Nat → ClassId) (a : Nat → Nat) (n0 : Nat) (n1 : Nat) (n2 : Nat) (n3 : Nat) (U : Sg) (p1 : Int32) (r : Int32) (hf : f_X4_begin n0 n1 n2 n3 U p1 = some r) : Ct l D cy yX4_begin cX4_begin 2 (some .int) 0 0 0 0 [.ref (a 0), .int p1] (wU cy a n0 n1 n2 n3 U) (some (.int r)) (wU cy a n0 n1 n2 n3 U) := by
  refine Ct_i tX4_begin hX4_begin (by decide) (Nat.le_of_ble_eq_true rfl) ?_
  intro Z hZ C hR
  subst hZ
  replace C : Cx Z D cy RX4 tX4_begin 2 0 0 0 0 := C
  show Wk Z D 2 0 0 (wU cy a n0 n1 n2 n3 U) 0 [(0, .ref (a 0)), (1, .int p1)] []
  unfold f_X4_begin at hf
  refine k_iload_1 C 0 rfl 1 rfl ?_
  refine k_if_gt C 1 rfl 8 (by decide) (fun hc => ?_) (fun hc => ?_)
  · replace hf := if_t hf hc
    refine k_aload_0 C 4 rfl 0 rfl ?_
    refine kg4_3 C 5 rfl qX4_40 0 U_c0 U_f0_3 ?_
    refine k_iload_1 C 6 rfl 1 rfl ?_
    refine k_iconst C 7 rfl ci_1 ?_
    refine k_isub C 8 rfl ?_
    obtain ⟨i15, hi, hin, hf⟩ := ixd_some hf
    refine k_iald C 9 rfl 4 U_c4 hin hi ?_
    exact k_iretP hR 10 rfl hf
  · replace hf := if_f hf hc
    refine k_iconst C 2 rfl ci_0 ?_
    refine k_goto C 3 rfl 16 (by decide) ?_
    exact k_iretP hR 10 rfl hf
