set_option maxHeartbeats 1000000 in
set_option maxRecDepth 20000 in
theorem c_X12_whereOf (l : Launch) (D : va_G) (cy : Nat → ClassId) (a : Nat → Nat) (M : Sg) (p1 : Int32) (r : Int32) (hf : f_X12_whereOf M p1 = some r) : Ct l D cy yX12_whereOf cX12_whereOf 2 (some .int) 2 43 0 0 [.ref (a 0), .int p1] (mw cy a M) (some (.int r)) (mw cy a M) := by
  refine Ct_i tX12_whereOf hX12_whereOf (by decide) (Nat.le_of_ble_eq_true rfl) ?_
  intro Z hZ C hR
  subst hZ
  replace C : Cx Z D cy RX12 tX12_whereOf 2 2 43 0 0 := C
  show Wk Z D 2 0 0 (mw cy a M) 0 [(0, .ref (a 0)), (1, .int p1)] []
  unfold f_X12_whereOf at hf
  refine k_aload_0 C 0 rfl 0 rfl ?_
  refine k_iload_1 C 1 rfl 1 rfl ?_
  obtain ⟨r2, h5, hf⟩ := ob1_some hf
  refine k_callW C 2 (c_X12_isGoing Z.2.1 D cy a M p1 r2 h5) rfl qX12_316 mvX12_isGoing 0 12 M_c0 rfl rfl rfl (Nat.le_of_ble_eq_true rfl) ⟨Nat.le_of_ble_eq_true rfl, Nat.le_of_ble_eq_true rfl, Nat.le_refl 0, Nat.le_refl 0⟩ ?_
  refine k_if_eq C 3 rfl 17 (by decide) (fun hc => ?_) (fun hc => ?_)
  · replace hf := if_t hf hc
    refine k_aload_0 C 9 rfl 0 rfl ?_
    refine k_iload_1 C 10 rfl 1 rfl ?_
    refine k_iconst C 11 rfl ci_0 ?_
    obtain ⟨r20, h5, hf⟩ := ob1_some hf
    refine k_callW C 12 (c_X12_riderOf Z.2.1 D cy a M p1 0 r20 h5) rfl qX12_312 mvX12_riderOf 0 12 M_c0 rfl rfl rfl (Nat.le_of_ble_eq_true rfl) ⟨Nat.le_of_ble_eq_true rfl, Nat.le_of_ble_eq_true rfl, Nat.le_refl 0, Nat.le_refl 0⟩ ?_
    exact k_iretP hR 13 rfl hf
  · replace hf := if_f hf hc
    refine k_aload_0 C 4 rfl 0 rfl ?_
    refine k_iload_1 C 5 rfl 1 rfl ?_
    refine k_iconst C 6 rfl ci_5 ?_
    obtain ⟨r11, h5, hf⟩ := ob1_some hf
    refine k_callW C 7 (c_X12_riderOf Z.2.1 D cy a M p1 5 r11 h5) rfl qX12_312 mvX12_riderOf 0 12 M_c0 rfl rfl rfl (Nat.le_of_ble_eq_true rfl) ⟨Nat.le_of_ble_eq_true rfl, Nat.le_of_ble_eq_true rfl, Nat.le_refl 0, Nat.le_refl 0⟩ ?_
    refine k_goto C 8 rfl 23 (by decide) ?_
    exact k_iretP hR 13 rfl hf
set_option maxHeartbeats 1000000 in
set_option maxRecDepth 20000 in
theorem c_X12_beginOf (l : Launch) (D : va_G) (cy : Nat → ClassId) (a : Nat → Nat) (M : Sg) (p1 : Int32) (p2 : Int32) (r : Int32) (hf : f_X12_beginOf M p1 p2 = some r) : Ct l D cy yX12_beginOf cX12_beginOf 4 (some .int) 2 43 0 0 [.ref (a 0), .int p1, .int p2] (mw cy a M) (some (.int r)) (mw cy a M) := by
  refine Ct_i tX12_beginOf hX12_beginOf (by decide) (Nat.le_of_ble_eq_true rfl) ?_
  intro Z hZ C hR
  subst hZ
  replace C : Cx Z D cy RX12 tX12_beginOf 4 2 43 0 0 := C
  show Wk Z D 4 0 0 (mw cy a M) 0 [(0, .ref (a 0)), (1, .int p1), (2, .int p2)] []
  unfold f_X12_beginOf at hf
  have hb50 : ∀ (x3 : Int32), f_X12_beginOf_b50 M p1 p2 x3 = some r → Wk Z D 4 0 0 (mw cy a M) 50 [(3, .int x3)] [] := by
    intro x3 hf
    unfold f_X12_beginOf_b50 at hf
    refine k_iload_3 C 28 rfl 0 rfl ?_
    exact k_iretP hR 29 rfl hf
  have hb20 : ∀ (s0 : Int32), f_X12_beginOf_b20 M p1 p2 s0 = some r → Wk Z D 4 0 0 (mw cy a M) 20 [(0, .ref (a 0)), (1, .int p1)] [.int s0] := by
    intro s0 hf
    unfold f_X12_beginOf_b20 at hf
    refine k_istore_3 C 12 rfl (by decide) rfl ?_
    refine k_sub (lv2 := [(0, .ref (a 0)), (1, .int p1), (3, .int s0)]) [1, 2, 0] rfl ?_
    refine k_aload_0 C 13 rfl 0 rfl ?_
    refine k_iload_1 C 14 rfl 1 rfl ?_
    obtain ⟨r23, h5, hf⟩ := ob1_some hf
    refine k_callW C 15 (c_X12_isGoing Z.2.1 D cy a M p1 r23 h5) rfl qX12_316 mvX12_isGoing 0 12 M_c0 rfl rfl rfl (Nat.le_of_ble_eq_true rfl) ⟨Nat.le_of_ble_eq_true rfl, Nat.le_of_ble_eq_true rfl, Nat.le_refl 0, Nat.le_refl 0⟩ ?_
    refine k_if_eq C 16 rfl 50 (by decide) (fun hc => ?_) (fun hc => ?_)
    · replace hf := if_t hf hc
      exact k_sub [2] rfl (hb50 s0 hf)
    · replace hf := if_f hf hc
      refine k_aload_0 C 17 rfl 0 rfl ?_
      refine k_iload_1 C 18 rfl 1 rfl ?_
      refine k_bipush C 19 rfl cb_6 ?_
      obtain ⟨r33, h5, hf⟩ := ob1_some hf
      refine k_callW C 20 (c_X12_riderOf Z.2.1 D cy a M p1 6 r33 h5) rfl qX12_312 mvX12_riderOf 0 12 M_c0 rfl rfl rfl (Nat.le_of_ble_eq_true rfl) ⟨Nat.le_of_ble_eq_true rfl, Nat.le_of_ble_eq_true rfl, Nat.le_refl 0, Nat.le_refl 0⟩ ?_
      refine k_iload_3 C 21 rfl 2 rfl ?_
      refine k_icmp_le C 22 rfl 50 (by decide) (fun hc => ?_) (fun hc => ?_)
      · replace hf := if_t hf hc
        exact k_sub [2] rfl (hb50 s0 hf)
      · replace hf := if_f hf hc
        refine k_aload_0 C 23 rfl 0 rfl ?_
        refine k_iload_1 C 24 rfl 1 rfl ?_
        refine k_bipush C 25 rfl cb_6 ?_
        obtain ⟨r44, h5, hf⟩ := ob1_some hf
        refine k_callW C 26 (c_X12_riderOf Z.2.1 D cy a M p1 6 r44 h5) rfl qX12_312 mvX12_riderOf 0 12 M_c0 rfl rfl rfl (Nat.le_of_ble_eq_true rfl) ⟨Nat.le_of_ble_eq_true rfl, Nat.le_of_ble_eq_true rfl, Nat.le_refl 0, Nat.le_refl 0⟩ ?_
        refine k_goto C 27 rfl 51 (by decide) ?_
        exact k_iretP hR 29 rfl hf
  refine k_iload_2 C 0 rfl 2 rfl ?_
  refine k_aload_0 C 1 rfl 0 rfl ?_
  refine kg12_20 C 2 rfl qX12_39 0 M_c0 M_f0_20 ?_
  refine k_iconst C 3 rfl ci_3 ?_
  refine k_iald C 4 rfl 10 M_c10 vi_3_137 tc_3 ?_
  refine k_icmp_le C 5 rfl 14 (by decide) (fun hc => ?_) (fun hc => ?_)
  · replace hf := if_t hf hc
    refine k_aload_0 C 8 rfl 0 rfl ?_
    refine kg12_20 C 9 rfl qX12_39 0 M_c0 M_f0_20 ?_
    refine k_iconst C 10 rfl ci_3 ?_
    refine k_iald C 11 rfl 10 M_c10 vi_3_137 tc_3 ?_
    exact k_sub [0, 1] rfl (hb20 (M.2.1 20 3) hf)
  · replace hf := if_f hf hc
    refine k_iload_2 C 6 rfl 2 rfl ?_
    refine k_goto C 7 rfl 20 (by decide) ?_
    exact k_sub [0, 1] rfl (hb20 p2 hf)
set_option maxHeartbeats 1000000 in
set_option maxRecDepth 20000 in
theorem c_X12_soonestOf (l : Launch) (D : va_G) (cy : Nat → ClassId) (a : Nat → Nat) (M : Sg) (p1 : Int32) (r : Int32) (M1 : Sg) (hf : f_X12_soonestOf M p1 = some (r, M1)) : Ct l D cy yX12_soonestOf cX12_soonestOf 3 (some .int) 7 171 0 0 [.ref (a 0), .int p1] (mw cy a M) (some (.int r)) (mw cy a M1) := by
  refine Ct_i tX12_soonestOf hX12_soonestOf (by decide) (Nat.le_of_ble_eq_true rfl) ?_
  intro Z hZ C hR
  subst hZ
  replace C : Cx Z D cy RX12 tX12_soonestOf 3 7 171 0 0 := C
  show Wk Z D 3 0 0 (mw cy a M) 0 [(0, .ref (a 0)), (1, .int p1)] []
  unfold f_X12_soonestOf at hf
  refine k_aload_0 C 0 rfl 0 rfl ?_
  refine k_iload_1 C 1 rfl 1 rfl ?_
  refine k_aload_0 C 2 rfl 0 rfl ?_
  refine k_iload_1 C 3 rfl 1 rfl ?_
  refine k_iconst C 4 rfl ci_4 ?_
  obtain ⟨r5, h5, hf⟩ := ob1_some hf
  refine k_callW C 5 (c_X12_riderOf Z.2.1 D cy a M p1 4 r5 h5) rfl qX12_312 mvX12_riderOf 0 12 M_c0 rfl rfl rfl (Nat.le_of_ble_eq_true rfl) ⟨Nat.le_of_ble_eq_true rfl, Nat.le_of_ble_eq_true rfl, Nat.le_refl 0, Nat.le_refl 0⟩ ?_
  obtain ⟨r8, h5, hf⟩ := ob1_some hf
  refine k_callW C 6 (c_X12_beginOf Z.2.1 D cy a M p1 r5 r8 h5) rfl qX12_425 mvX12_beginOf 0 12 M_c0 rfl rfl rfl (Nat.le_of_ble_eq_true rfl) ⟨Nat.le_of_ble_eq_true rfl, Nat.le_of_ble_eq_true rfl, Nat.le_refl 0, Nat.le_refl 0⟩ ?_
  refine k_istore_2 C 7 rfl (by decide) rfl ?_
  refine k_sub (lv2 := [(0, .ref (a 0)), (1, .int p1), (2, .int r8)]) [1, 2, 0] rfl ?_
  refine k_iload_2 C 8 rfl 2 rfl ?_
  refine k_sipush C 9 rfl cs_999 ?_
  refine k_icmp_le C 10 rfl 23 (by decide) (fun hc => ?_) (fun hc => ?_)
  · replace hf := if_t hf hc
    refine k_aload_0 C 13 rfl 0 rfl ?_
    refine k_iload_1 C 14 rfl 1 rfl ?_
    refine k_aload_0 C 15 rfl 0 rfl ?_
    refine k_iload_1 C 16 rfl 1 rfl ?_
    obtain ⟨r27, h5, hf⟩ := ob1_some hf
    refine k_callW C 17 (c_X12_whereOf Z.2.1 D cy a M p1 r27 h5) rfl qX12_428 mvX12_whereOf 0 12 M_c0 rfl rfl rfl (Nat.le_of_ble_eq_true rfl) ⟨Nat.le_of_ble_eq_true rfl, Nat.le_of_ble_eq_true rfl, Nat.le_refl 0, Nat.le_refl 0⟩ ?_
    refine k_iload_2 C 18 rfl 2 rfl ?_
    obtain ⟨r31, M_31, h5, hf⟩ := ob2_some hf
    refine k_callW C 19 (c_X12_rightFrom Z.2.1 D cy a M p1 r27 r8 r31 M_31 h5) rfl qX12_431 mvX12_rightFrom 0 12 M_c0 rfl rfl rfl (Nat.le_of_ble_eq_true rfl) ⟨Nat.le_of_ble_eq_true rfl, Nat.le_of_ble_eq_true rfl, Nat.le_refl 0, Nat.le_refl 0⟩ ?_
    exact k_iret (wf := (fun u => (mw cy a u))) hR 20 rfl hf
  · replace hf := if_f hf hc
    refine k_iconst C 11 rfl ci_m1 ?_
    refine k_goto C 12 rfl 34 (by decide) ?_
    exact k_iret (wf := (fun u => (mw cy a u))) hR 20 rfl hf
set_option maxHeartbeats 1000000 in
set_option maxRecDepth 20000 in
theorem c_X12_soonest (l : Launch) (D : va_G) (cy : Nat → ClassId) (a : Nat → Nat) (M : Sg) (p1 : Int32) (r : Int32) (M1 : Sg) (hf : f_X12_soonest M p1 = some (r, M1)) : Ct l D cy yX12_soonest cX12_soonest 3 (some .int) 8 193 0 0 [.ref (a 0), .int p1] (mw cy a M) (some (.int r)) (mw cy a M1) := by
  refine Ct_i tX12_soonest hX12_soonest (by decide) (Nat.le_of_ble_eq_true rfl) ?_
  intro Z hZ C hR
  subst hZ
  replace C : Cx Z D cy RX12 tX12_soonest 3 8 193 0 0 := C
  show Wk Z D 3 0 0 (mw cy a M) 0 [(0, .ref (a 0)), (1, .int p1)] []
  unfold f_X12_soonest at hf
  refine k_aload_0 C 0 rfl 0 rfl ?_
  refine k_iload_1 C 1 rfl 1 rfl ?_
  obtain ⟨r2, h5, hf⟩ := ob1_some hf
  refine k_callW C 2 (c_X12_isRider Z.2.1 D cy a M p1 r2 h5) rfl qX12_341 mvX12_isRider 0 12 M_c0 rfl rfl rfl (Nat.le_of_ble_eq_true rfl) ⟨Nat.le_of_ble_eq_true rfl, Nat.le_of_ble_eq_true rfl, Nat.le_refl 0, Nat.le_refl 0⟩ ?_
  refine k_if_ne C 3 rfl 10 (by decide) (fun hc => ?_) (fun hc => ?_)
  · replace hf := if_f hf hc
    refine k_aload_0 C 6 rfl 0 rfl ?_
    refine k_iload_1 C 7 rfl 1 rfl ?_
    obtain ⟨r12, M_12, h5, hf⟩ := ob2_some hf
    refine k_callW C 8 (c_X12_soonestOf Z.2.1 D cy a M p1 r12 M_12 h5) rfl qX12_435 mvX12_soonestOf 0 12 M_c0 rfl rfl rfl (Nat.le_of_ble_eq_true rfl) ⟨Nat.le_of_ble_eq_true rfl, Nat.le_of_ble_eq_true rfl, Nat.le_refl 0, Nat.le_refl 0⟩ ?_
    refine k_istore_2 C 9 rfl (by decide) rfl ?_
    refine k_sub (lv2 := [(0, .ref (a 0)), (1, .int p1), (2, .int r12)]) [1, 2, 0] rfl ?_
    refine k_iload_2 C 10 rfl 2 rfl ?_
    refine k_if_ge C 11 rfl 25 (by decide) (fun hc => ?_) (fun hc => ?_)
    · replace hf := if_t hf hc
      refine k_iload_2 C 14 rfl 2 rfl ?_
      exact k_iret (wf := (fun u => (mw cy a u))) hR 15 rfl hf
    · replace hf := if_f hf hc
      refine k_bipush C 12 rfl cb_m2 ?_
      refine k_goto C 13 rfl 26 (by decide) ?_
      exact k_iret (wf := (fun u => (mw cy a u))) hR 15 rfl hf
  · replace hf := if_t hf hc
    refine k_iconst C 4 rfl ci_m1 ?_
    exact k_iret (wf := (fun u => (mw cy a u))) hR 5 rfl hf
set_option maxHeartbeats 1000000 in
set_option maxRecDepth 20000 in
theorem c_X12_goesOn (l : Launch) (D : va_G) (cy : Nat → ClassId) (a : Nat → Nat) (M : Sg) (p1 : Int32) (p2 : Int32) (p3 : Int32) (p4 : Int32) (p5 : Bool) (p6 : Int32) (r : Bool) (M1 : Sg) (hf : f_X12_goesOn M p1 p2 p3 p4 p5 p6 = some (r, M1)) : Ct l D cy yX12_goesOn cX12_goesOn 9 (some .boolean) 7 171 0 0 [.ref (a 0), .int p1, .int p2, .int p3, .int p4, .int (bI p5), .int p6] (mw cy a M) (some (.int (bI r))) (mw cy a M1) := by
  refine Ct_z tX12_goesOn hX12_goesOn (by decide) (Nat.le_of_ble_eq_true rfl) ?_
  intro Z hZ C hR
  subst hZ
  replace C : Cx Z D cy RX12 tX12_goesOn 9 7 171 0 0 := C
  show Wk Z D 9 0 0 (mw cy a M) 0 [(0, .ref (a 0)), (1, .int p1), (2, .int p2), (3, .int p3), (4, .int p4), (5, .int (bI p5)), (6, .int p6)] []
  unfold f_X12_goesOn at hf
  have hb97 : ∀ (x7 : Int32) (s1 : Int32) (s2 : Int32) (M : Sg), f_X12_goesOn_b97 p1 p2 p3 p4 p5 p6 x7 s1 s2 M = some (r, M1) → Wk Z D 9 0 0 (mw cy a M) 97 [(0, .ref (a 0)), (3, .int p3), (7, .int x7)] [.int s2, .int s1, .ref (a 27)] := by
    intro x7 s1 s2 M hf
    unfold f_X12_goesOn_b97 at hf
    obtain ⟨i97, hi, hin, hf⟩ := ixd_some hf
    obtain ⟨M_97, hM, hf⟩ := bnd_some hf
    refine k_iast (w2 := (mw cy a M_97)) C 55 rfl 14 M_c14 hin hi (M_s14.trans (congrArg (fun z => (mw cy a z)) hM)) ?_
    refine k_aload_0 C 56 rfl 0 rfl ?_
    refine kg12_27 C 57 rfl qX12_55 0 M_c0 M_f0_27 ?_
    refine k_aload_0 C 58 rfl 0 rfl ?_
    refine kg12_29 C 59 rfl qX12_438 0 M_c0 M_f0_29 ?_
    refine k_iload_3 C 60 rfl 1 rfl ?_
    obtain ⟨i107, hi, hin, hf⟩ := ixd_some hf
    obtain ⟨M_107, hM, hf⟩ := bnd_some hf
    refine k_iast (w2 := (mw cy a M_107)) C 61 rfl 15 M_c15 hin hi (M_s15.trans (congrArg (fun z => (mw cy a z)) hM)) ?_
    refine k_aload_0 C 62 rfl 0 rfl ?_
    refine kg12_28 C 63 rfl qX12_58 0 M_c0 M_f0_28 ?_
    refine k_aload_0 C 64 rfl 0 rfl ?_
    refine kg12_29 C 65 rfl qX12_438 0 M_c0 M_f0_29 ?_
    refine k_iload C 66 rfl 2 rfl ?_
    obtain ⟨i118, hi, hin, hf⟩ := ixd_some hf
    obtain ⟨M_118, hM, hf⟩ := bnd_some hf
    refine k_iast (w2 := (mw cy a M_118)) C 67 rfl 16 M_c16 hin hi (M_s16.trans (congrArg (fun z => (mw cy a z)) hM)) ?_
    refine k_aload_0 C 68 rfl 0 rfl ?_
    refine k_dup C 69 rfl rfl ?_
    refine kg12_29 C 70 rfl qX12_438 0 M_c0 M_f0_29 ?_
    refine k_iconst C 71 rfl ci_1 ?_
    refine k_iadd C 72 rfl ?_
    obtain ⟨M_126, hM, hf⟩ := bnd_some hf
    refine kp12_29 (w2 := (mw cy a M_126)) C 73 rfl qX12_438 0 M_c0 (v := ((M_118.1 29) + 1)) M_n0 (M_p0_29.trans (congrArg (fun z => (mw cy a z)) hM)) ?_
    refine k_iconst C 74 rfl ci_1 ?_
    exact k_zret (wf := (fun u => (mw cy a u))) hR 75 rfl hf
  have hb77 : ∀ (M : Sg), f_X12_goesOn_b77 p1 p2 p3 p4 p5 p6 M = some (r, M1) → Wk Z D 9 0 0 (mw cy a M) 77 [] [] := by
    intro M hf
    unfold f_X12_goesOn_b77 at hf
    refine k_iconst C 44 rfl ci_0 ?_
    exact k_zret (wf := (fun u => (mw cy a u))) hR 45 rfl hf
  have hb36 : ∀ (s0 : Int32) (M : Sg), f_X12_goesOn_b36 p1 p2 p3 p4 p5 p6 s0 M = some (r, M1) → Wk Z D 9 0 0 (mw cy a M) 36 [(0, .ref (a 0)), (1, .int p1), (2, .int p2), (3, .int p3), (5, .int (bI p5)), (6, .int p6)] [.int s0] := by
    intro s0 M hf
    unfold f_X12_goesOn_b36 at hf
    refine k_istore C 21 rfl (by decide) rfl ?_
    refine k_sub (lv2 := [(0, .ref (a 0)), (1, .int p1), (2, .int p2), (3, .int p3), (5, .int (bI p5)), (6, .int p6), (7, .int s0)]) [1, 2, 3, 4, 5, 6, 0] rfl ?_
    refine k_iload C 22 rfl 6 rfl ?_
    refine k_if_ge C 23 rfl 45 (by decide) (fun hc => ?_) (fun hc => ?_)
    · replace hf := if_t hf hc
      refine k_aload_0 C 26 rfl 0 rfl ?_
      refine k_iload_1 C 27 rfl 1 rfl ?_
      refine k_iload_3 C 28 rfl 3 rfl ?_
      refine k_iload C 29 rfl 6 rfl ?_
      refine k_aload_0 C 30 rfl 0 rfl ?_
      refine k_iload_1 C 31 rfl 1 rfl ?_
      refine k_iload_2 C 32 rfl 2 rfl ?_
      refine k_iload_3 C 33 rfl 3 rfl ?_
      refine k_iload C 34 rfl 4 rfl ?_
      obtain ⟨r56, h5, hf⟩ := ob1_some hf
      refine k_callW C 35 (c_X12_timeOf Z.2.1 D cy a M p1 p2 p3 p5 r56 h5) rfl qX12_352 mvX12_timeOf 0 12 M_c0 rfl rfl rfl (Nat.le_of_ble_eq_true rfl) ⟨Nat.le_of_ble_eq_true rfl, Nat.le_of_ble_eq_true rfl, Nat.le_refl 0, Nat.le_refl 0⟩ ?_
      refine k_iadd C 36 rfl ?_
      obtain ⟨r60, M_60, h5, hf⟩ := ob2_some hf
      refine k_callW C 37 (c_X12_rightFrom Z.2.1 D cy a M p1 p3 (s0 + r56) r60 M_60 h5) rfl qX12_431 mvX12_rightFrom 0 12 M_c0 rfl rfl rfl (Nat.le_of_ble_eq_true rfl) ⟨Nat.le_of_ble_eq_true rfl, Nat.le_of_ble_eq_true rfl, Nat.le_refl 0, Nat.le_refl 0⟩ ?_
      refine k_istore C 38 rfl (by decide) rfl ?_
      refine k_sub (lv2 := [(0, .ref (a 0)), (1, .int p1), (2, .int p2), (3, .int p3), (5, .int (bI p5)), (6, .int p6), (7, .int s0), (8, .int r60)]) [1, 2, 3, 4, 5, 6, 7, 0] rfl ?_
      refine k_iload C 39 rfl 7 rfl ?_
      refine k_if_lt C 40 rfl 77 (by decide) (fun hc => ?_) (fun hc => ?_)
      · replace hf := if_t hf hc
        exact k_sub [] rfl (hb77 M_60 hf)
      · replace hf := if_f hf hc
        refine k_iload C 41 rfl 7 rfl ?_
        refine k_iload C 42 rfl 5 rfl ?_
        refine k_icmp_le C 43 rfl 79 (by decide) (fun hc => ?_) (fun hc => ?_)
        · replace hf := if_t hf hc
          refine k_aload_0 C 46 rfl 0 rfl ?_
          refine kg12_26 C 47 rfl qX12_52 0 M_c0 M_f0_26 ?_
          refine k_aload_0 C 48 rfl 0 rfl ?_
          refine kg12_29 C 49 rfl qX12_438 0 M_c0 M_f0_29 ?_
          refine k_iload C 50 rfl 4 rfl ?_
          refine k_if_eq C 51 rfl 96 (by decide) (fun hc => ?_) (fun hc => ?_)
          · replace hf := if_t hf hc
            refine k_iconst C 54 rfl ci_1 ?_
            exact k_sub [0, 3, 6] rfl (hb97 s0 (M_60.1 29) 1 M_60 hf)
          · replace hf := if_f hf hc
            refine k_iconst C 52 rfl ci_0 ?_
            refine k_goto C 53 rfl 97 (by decide) ?_
            exact k_sub [0, 3, 6] rfl (hb97 s0 (M_60.1 29) 0 M_60 hf)
        · replace hf := if_f hf hc
          exact k_sub [] rfl (hb77 M_60 hf)
    · replace hf := if_f hf hc
      refine k_iconst C 24 rfl ci_0 ?_
      exact k_zret (wf := (fun u => (mw cy a u))) hR 25 rfl hf
  refine k_aload_0 C 0 rfl 0 rfl ?_
  refine k_iload_3 C 1 rfl 3 rfl ?_
  obtain ⟨r2, h5, hf⟩ := ob1_some hf
  refine k_callW C 2 (c_X12_isCoach Z.2.1 D cy a M p3 r2 h5) rfl qX12_327 mvX12_isCoach 0 12 M_c0 rfl rfl rfl (Nat.le_of_ble_eq_true rfl) ⟨Nat.le_of_ble_eq_true rfl, Nat.le_of_ble_eq_true rfl, Nat.le_refl 0, Nat.le_refl 0⟩ ?_
  refine k_if_ne C 3 rfl 10 (by decide) (fun hc => ?_) (fun hc => ?_)
  · replace hf := if_f hf hc
    refine k_iload C 6 rfl 5 rfl ?_
    refine k_if_eq C 7 rfl 27 (by decide) (fun hc => ?_) (fun hc => ?_)
    · replace hf := if_t hf hc
      refine k_aload_0 C 15 rfl 0 rfl ?_
      refine k_iload_1 C 16 rfl 1 rfl ?_
      refine k_iload_2 C 17 rfl 2 rfl ?_
      refine k_iload_3 C 18 rfl 3 rfl ?_
      refine k_iload C 19 rfl 4 rfl ?_
      obtain ⟨r33, h5, hf⟩ := ob1_some hf
      refine k_callW C 20 (c_X12_outsideFrom Z.2.1 D cy a M p1 p2 p3 p4 r33 h5) rfl qX12_418 mvX12_outsideFrom 0 12 M_c0 rfl rfl rfl (Nat.le_of_ble_eq_true rfl) ⟨Nat.le_of_ble_eq_true rfl, Nat.le_of_ble_eq_true rfl, Nat.le_refl 0, Nat.le_refl 0⟩ ?_
      exact k_sub [0, 1, 2, 3, 5, 6] rfl (hb36 r33 M hf)
    · replace hf := if_f hf hc
      refine k_aload_0 C 8 rfl 0 rfl ?_
      refine k_iload_1 C 9 rfl 1 rfl ?_
      refine k_iload_2 C 10 rfl 2 rfl ?_
      refine k_iload_3 C 11 rfl 3 rfl ?_
      refine k_iload C 12 rfl 4 rfl ?_
      obtain ⟨r21, h5, hf⟩ := ob1_some hf
      refine k_callW C 13 (c_X12_insideFrom Z.2.1 D cy a M p1 p2 p3 p4 r21 h5) rfl qX12_411 mvX12_insideFrom 0 12 M_c0 rfl rfl rfl (Nat.le_of_ble_eq_true rfl) ⟨Nat.le_of_ble_eq_true rfl, Nat.le_of_ble_eq_true rfl, Nat.le_refl 0, Nat.le_refl 0⟩ ?_
      refine k_goto C 14 rfl 36 (by decide) ?_
      exact k_sub [0, 1, 2, 3, 5, 6] rfl (hb36 r21 M hf)
  · replace hf := if_t hf hc
    refine k_iconst C 4 rfl ci_0 ?_
    exact k_zret (wf := (fun u => (mw cy a u))) hR 5 rfl hf
set_option maxHeartbeats 1000000 in
set_option maxRecDepth 20000 in
theorem c_X12_steps (l : Launch) (D : va_G) (cy : Nat → ClassId) (a : Nat → Nat) (M : Sg) (p1 : Int32) (p2 : Int32) (p3 : Int32) (p4 : Int32) (r : Bool) (M1 : Sg) (hf : f_X12_steps M p1 p2 p3 p4 = some (r, M1)) : Ct l D cy yX12_steps cX12_steps 6 (some .boolean) 8 199 0 0 [.ref (a 0), .int p1, .int p2, .int p3, .int p4] (mw cy a M) (some (.int (bI r))) (mw cy a M1) := by
  refine Ct_z tX12_steps hX12_steps (by decide) (Nat.le_of_ble_eq_true rfl) ?_
  intro Z hZ C hR
  subst hZ
  replace C : Cx Z D cy RX12 tX12_steps 6 8 199 0 0 := C
  show Wk Z D 6 0 0 (mw cy a M) 0 [(0, .ref (a 0)), (1, .int p1), (2, .int p2), (3, .int p3), (4, .int p4)] []
  unfold f_X12_steps at hf
  have hq37 : ∀ (k37 : Int32 → Sg → Option (Bool × Sg)), (∀ (x5 : Int32) (M : Sg), k37 x5 M = some (r, M1) → Wk Z D 6 0 0 (mw cy a M) 37 [(0, .ref (a 0)), (1, .int p1), (2, .int p2), (3, .int p3), (4, .int p4), (5, .int x5)] []) → ∀ (x5 : Int32) (M : Sg), f_X12_steps_b37 p1 p2 p3 p4 k37 x5 M = some (r, M1) → Wk Z D 6 0 0 (mw cy a M) 37 [(0, .ref (a 0)), (1, .int p1), (2, .int p2), (3, .int p3), (4, .int p4), (5, .int x5)] [] := by
    intro k37 hk37 x5 M hf
    unfold f_X12_steps_b37 at hf
    have hb71 : ∀ (x5 : Int32) (M : Sg), f_X12_steps_b71 p1 p2 p3 p4 k37 x5 M = some (r, M1) → Wk Z D 6 0 0 (mw cy a M) 71 [(0, .ref (a 0)), (1, .int p1), (2, .int p2), (3, .int p3), (4, .int p4), (5, .int x5)] [] := by
      intro x5 M hf
      unfold f_X12_steps_b71 at hf
      obtain ⟨x5_71, hx, hf⟩ := bnd_some hf
      refine k_iinc C 46 rfl 5 rfl ((cn_1 _).trans hx) (by decide) rfl ?_
      refine k_sub (lv2 := [(0, .ref (a 0)), (1, .int p1), (2, .int p2), (3, .int p3), (4, .int p4), (5, .int x5_71)]) [1, 2, 3, 4, 5, 0] rfl ?_
      refine k_goto C 47 rfl 37 (by decide) ?_
      exact k_sub [0, 1, 2, 3, 4, 5] rfl (hk37 x5_71 M hf)
    refine k_iload C 26 rfl 5 rfl ?_
    refine k_aload_0 C 27 rfl 0 rfl ?_
    refine kg12_20 C 28 rfl qX12_39 0 M_c0 M_f0_20 ?_
    refine k_iconst C 29 rfl ci_0 ?_
    refine k_iald C 30 rfl 10 M_c10 vi_0_137 tc_0 ?_
    refine k_icmp_ge C 31 rfl 77 (by decide) (fun hc => ?_) (fun hc => ?_)
    · replace hf := if_t hf hc
      refine k_iconst C 48 rfl ci_0 ?_
      exact k_zret (wf := (fun u => (mw cy a u))) hR 49 rfl hf
    · replace hf := if_f hf hc
      refine k_iload C 32 rfl 5 rfl ?_
      refine k_iload_2 C 33 rfl 2 rfl ?_
      refine k_icmp_eq C 34 rfl 71 (by decide) (fun hc => ?_) (fun hc => ?_)
      · replace hf := if_t hf hc
        exact k_sub [0, 1, 2, 3, 4, 5] rfl (hb71 x5 M hf)
      · replace hf := if_f hf hc
        refine k_aload_0 C 35 rfl 0 rfl ?_
        refine k_iload_1 C 36 rfl 1 rfl ?_
        refine k_iload_2 C 37 rfl 2 rfl ?_
        refine k_iload C 38 rfl 5 rfl ?_
        refine k_iload_3 C 39 rfl 3 rfl ?_
        refine k_iconst C 40 rfl ci_0 ?_
        refine k_iload C 41 rfl 4 rfl ?_
        obtain ⟨r63, M_63, h5, hf⟩ := ob2_some hf
        refine k_callW C 42 (c_X12_goesOn Z.2.1 D cy a M p1 p2 x5 p3 false p4 r63 M_63 h5) rfl qX12_441 mvX12_goesOn 0 12 M_c0 rfl rfl rfl (Nat.le_of_ble_eq_true rfl) ⟨Nat.le_of_ble_eq_true rfl, Nat.le_of_ble_eq_true rfl, Nat.le_refl 0, Nat.le_refl 0⟩ ?_
        refine k_if_eq C 43 rfl 71 (by decide) (fun hc => ?_) (fun hc => ?_)
        · replace hf := if_t hf hc
          exact k_sub [0, 1, 2, 3, 4, 5] rfl (hb71 x5 M_63 hf)
        · replace hf := if_f hf hc
          refine k_iconst C 44 rfl ci_1 ?_
          exact k_zret (wf := (fun u => (mw cy a u))) hR 45 rfl hf
  have hb37 := flW2 hq37
  have hb32 : ∀ (M : Sg), f_X12_steps_b32 p1 p2 p3 p4 M = some (r, M1) → Wk Z D 6 0 0 (mw cy a M) 32 [] [] := by
    intro M hf
    unfold f_X12_steps_b32 at hf
    refine k_iconst C 22 rfl ci_1 ?_
    exact k_zret (wf := (fun u => (mw cy a u))) hR 23 rfl hf
  refine k_aload_0 C 0 rfl 0 rfl ?_
  refine k_iload_1 C 1 rfl 1 rfl ?_
  refine k_iload_2 C 2 rfl 2 rfl ?_
  refine k_iload_2 C 3 rfl 2 rfl ?_
  refine k_iconst C 4 rfl ci_1 ?_
  refine k_isub C 5 rfl ?_
  refine k_iload_3 C 6 rfl 3 rfl ?_
  refine k_iconst C 7 rfl ci_1 ?_
  refine k_iload C 8 rfl 4 rfl ?_
  obtain ⟨r10, M_10, h5, hf⟩ := ob2_some hf
  refine k_callW C 9 (c_X12_goesOn Z.2.1 D cy a M p1 p2 (p2 - 1) p3 true p4 r10 M_10 h5) rfl qX12_441 mvX12_goesOn 0 12 M_c0 rfl rfl rfl (Nat.le_of_ble_eq_true rfl) ⟨Nat.le_of_ble_eq_true rfl, Nat.le_of_ble_eq_true rfl, Nat.le_refl 0, Nat.le_refl 0⟩ ?_
  refine k_if_ne C 10 rfl 32 (by decide) (fun hc => ?_) (fun hc => ?_)
  · replace hf := if_f hf hc
    exact k_sub [] rfl (hb32 M_10 hf)
  · replace hf := if_t hf hc
    refine k_aload_0 C 11 rfl 0 rfl ?_
    refine k_iload_1 C 12 rfl 1 rfl ?_
    refine k_iload_2 C 13 rfl 2 rfl ?_
    refine k_iload_2 C 14 rfl 2 rfl ?_
    refine k_iconst C 15 rfl ci_1 ?_
    refine k_iadd C 16 rfl ?_
    refine k_iload_3 C 17 rfl 3 rfl ?_
    refine k_iconst C 18 rfl ci_1 ?_
    refine k_iload C 19 rfl 4 rfl ?_
    obtain ⟨r26, M_26, h5, hf⟩ := ob2_some hf
    refine k_callW C 20 (c_X12_goesOn Z.2.1 D cy a M_10 p1 p2 (p2 + 1) p3 true p4 r26 M_26 h5) rfl qX12_441 mvX12_goesOn 0 12 M_c0 rfl rfl rfl (Nat.le_of_ble_eq_true rfl) ⟨Nat.le_of_ble_eq_true rfl, Nat.le_of_ble_eq_true rfl, Nat.le_refl 0, Nat.le_refl 0⟩ ?_
    refine k_if_eq C 21 rfl 34 (by decide) (fun hc => ?_) (fun hc => ?_)
    · replace hf := if_t hf hc
      refine k_iconst C 24 rfl ci_0 ?_
      refine k_istore C 25 rfl (by decide) rfl ?_
      refine k_sub (lv2 := [(0, .ref (a 0)), (1, .int p1), (2, .int p2), (3, .int p3), (4, .int p4), (5, .int 0)]) [1, 2, 3, 4, 5, 0] rfl ?_
      exact k_sub [0, 1, 2, 3, 4, 5] rfl (hb37 FU 0 M_26 hf)
    · replace hf := if_f hf hc
      exact k_sub [] rfl (hb32 M_26 hf)
set_option maxHeartbeats 1000000 in
set_option maxRecDepth 20000 in
theorem c_X12_fillsRow (l : Launch) (D : va_G) (cy : Nat → ClassId) (a : Nat → Nat) (M : Sg) (p1 : Int32) (r : Bool) (M1 : Sg) (hf : f_X12_fillsRow M p1 = some (r, M1)) : Ct l D cy yX12_fillsRow cX12_fillsRow 6 (some .boolean) 9 224 0 0 [.ref (a 0), .int p1] (mw cy a M) (some (.int (bI r))) (mw cy a M1) := by
  refine Ct_z tX12_fillsRow hX12_fillsRow (by decide) (Nat.le_of_ble_eq_true rfl) ?_
  intro Z hZ C hR
  subst hZ
  replace C : Cx Z D cy RX12 tX12_fillsRow 6 9 224 0 0 := C
  show Wk Z D 6 0 0 (mw cy a M) 0 [(0, .ref (a 0)), (1, .int p1)] []
  unfold f_X12_fillsRow at hf
  have hb114 : ∀ (M : Sg), f_X12_fillsRow_b114 p1 M = some (r, M1) → Wk Z D 6 0 0 (mw cy a M) 114 [] [] := by
    intro M hf
    unfold f_X12_fillsRow_b114 at hf
    refine k_iconst C 68 rfl ci_1 ?_
    exact k_zret (wf := (fun u => (mw cy a u))) hR 69 rfl hf
  have hq36 : ∀ (k36 : Int32 → Int32 → Int32 → Sg → Option (Bool × Sg)), (∀ (x2 : Int32) (x3 : Int32) (x4 : Int32) (M : Sg), k36 x2 x3 x4 M = some (r, M1) → Wk Z D 6 0 0 (mw cy a M) 36 [(0, .ref (a 0)), (1, .int p1), (2, .int x2), (3, .int x3), (4, .int x4)] []) → ∀ (x2 : Int32) (x3 : Int32) (x4 : Int32) (M : Sg), f_X12_fillsRow_b36 p1 k36 x2 x3 x4 M = some (r, M1) → Wk Z D 6 0 0 (mw cy a M) 36 [(0, .ref (a 0)), (1, .int p1), (2, .int x2), (3, .int x3), (4, .int x4)] [] := by
    intro k36 hk36 x2 x3 x4 M hf
    unfold f_X12_fillsRow_b36 at hf
    have hb97 : ∀ (x2 : Int32) (x5 : Int32) (s0 : Int32) (s2 : Int32) (s3 : Int32) (s4 : Int32) (s5 : Int32) (M : Sg), f_X12_fillsRow_b97 p1 k36 x2 x5 s0 s2 s3 s4 s5 M = some (r, M1) → Wk Z D 6 0 0 (mw cy a M) 97 [(0, .ref (a 0)), (1, .int p1), (2, .int x2), (5, .int x5)] [.int s5, .int s4, .int s3, .int s2, .ref (a 0), .int s0] := by
      intro x2 x5 s0 s2 s3 s4 s5 M hf
      unfold f_X12_fillsRow_b97 at hf
      obtain ⟨b97, hx, hf⟩ := zb_some hf
      refine k_topi hx ?_
      obtain ⟨r97, h5, hf⟩ := ob1_some hf
      refine k_callW C 59 (c_X12_timeOf Z.2.1 D cy a M s2 s3 s4 b97 r97 h5) rfl qX12_352 mvX12_timeOf 0 12 M_c0 rfl rfl rfl (Nat.le_of_ble_eq_true rfl) ⟨Nat.le_of_ble_eq_true rfl, Nat.le_of_ble_eq_true rfl, Nat.le_refl 0, Nat.le_refl 0⟩ ?_
      refine k_iadd C 60 rfl ?_
      obtain ⟨x4_101, hx, hf⟩ := bnd_some hf
      refine k_topi hx ?_
      refine k_istore C 61 rfl (by decide) rfl ?_
      refine k_sub (lv2 := [(0, .ref (a 0)), (1, .int p1), (2, .int x2), (4, .int x4_101), (5, .int x5)]) [1, 2, 3, 0, 4] rfl ?_
      refine k_aload_0 C 62 rfl 0 rfl ?_
      refine kg12_27 C 63 rfl qX12_55 0 M_c0 M_f0_27 ?_
      refine k_iload C 64 rfl 4 rfl ?_
      obtain ⟨i109, hi, hin, hf⟩ := ixd_some hf
      refine k_iald C 65 rfl 15 M_c15 hin hi ?_
      obtain ⟨x3_110, hx, hf⟩ := bnd_some hf
      refine k_topi hx ?_
      refine k_istore_3 C 66 rfl (by decide) rfl ?_
      refine k_sub (lv2 := [(0, .ref (a 0)), (1, .int p1), (2, .int x2), (3, .int x3_110), (4, .int x4_101), (5, .int x5)]) [1, 2, 3, 0, 4, 5] rfl ?_
      refine k_goto C 67 rfl 36 (by decide) ?_
      exact k_sub [0, 1, 2, 3, 4] rfl (hk36 x2 x3_110 x4_101 M hf)
    refine k_aload_0 C 23 rfl 0 rfl ?_
    refine k_iload_1 C 24 rfl 1 rfl ?_
    refine k_iload_3 C 25 rfl 3 rfl ?_
    obtain ⟨r39, h5, hf⟩ := ob1_some hf
    refine k_callW C 26 (c_X12_isRight Z.2.1 D cy a M p1 x3 r39 h5) rfl qX12_346 mvX12_isRight 0 12 M_c0 rfl rfl rfl (Nat.le_of_ble_eq_true rfl) ⟨Nat.le_of_ble_eq_true rfl, Nat.le_of_ble_eq_true rfl, Nat.le_refl 0, Nat.le_refl 0⟩ ?_
    refine k_if_ne C 27 rfl 114 (by decide) (fun hc => ?_) (fun hc => ?_)
    · replace hf := if_f hf hc
      exact k_sub [] rfl (hb114 M hf)
    · replace hf := if_t hf hc
      refine k_aload_0 C 28 rfl 0 rfl ?_
      refine k_iload_1 C 29 rfl 1 rfl ?_
      refine k_iload_3 C 30 rfl 3 rfl ?_
      refine k_iload C 31 rfl 4 rfl ?_
      refine k_iload_2 C 32 rfl 2 rfl ?_
      obtain ⟨r51, M_51, h5, hf⟩ := ob2_some hf
      refine k_callW C 33 (c_X12_steps Z.2.1 D cy a M p1 x3 x4 x2 r51 M_51 h5) rfl qX12_445 mvX12_steps 0 12 M_c0 rfl rfl rfl (Nat.le_of_ble_eq_true rfl) ⟨Nat.le_of_ble_eq_true rfl, Nat.le_of_ble_eq_true rfl, Nat.le_refl 0, Nat.le_refl 0⟩ ?_
      refine k_if_eq C 34 rfl 114 (by decide) (fun hc => ?_) (fun hc => ?_)
      · replace hf := if_t hf hc
        exact k_sub [] rfl (hb114 M_51 hf)
      · replace hf := if_f hf hc
        refine k_aload_0 C 35 rfl 0 rfl ?_
        refine kg12_29 C 36 rfl qX12_438 0 M_c0 M_f0_29 ?_
        refine k_iconst C 37 rfl ci_1 ?_
        refine k_isub C 38 rfl ?_
        obtain ⟨x5_63, hx, hf⟩ := bnd_some hf
        refine k_topi hx ?_
        refine k_istore C 39 rfl (by decide) rfl ?_
        refine k_sub (lv2 := [(0, .ref (a 0)), (1, .int p1), (2, .int x2), (3, .int x3), (4, .int x4), (5, .int x5_63)]) [1, 2, 3, 4, 5, 0] rfl ?_
        refine k_aload_0 C 40 rfl 0 rfl ?_
        refine kg12_28 C 41 rfl qX12_58 0 M_c0 M_f0_28 ?_
        refine k_iload C 42 rfl 5 rfl ?_
        obtain ⟨i71, hi, hin, hf⟩ := ixd_some hf
        refine k_iald C 43 rfl 16 M_c16 hin hi ?_
        refine k_aload_0 C 44 rfl 0 rfl ?_
        refine k_iload_1 C 45 rfl 1 rfl ?_
        refine k_iload_3 C 46 rfl 3 rfl ?_
        refine k_aload_0 C 47 rfl 0 rfl ?_
        refine kg12_27 C 48 rfl qX12_55 0 M_c0 M_f0_27 ?_
        refine k_iload C 49 rfl 5 rfl ?_
        obtain ⟨i81, hi, hin, hf⟩ := ixd_some hf
        refine k_iald C 50 rfl 15 M_c15 hin hi ?_
        refine k_aload_0 C 51 rfl 0 rfl ?_
        refine kg12_26 C 52 rfl qX12_52 0 M_c0 M_f0_26 ?_
        refine k_iload C 53 rfl 5 rfl ?_
        obtain ⟨i88, hi, hin, hf⟩ := ixd_some hf
        refine k_iald C 54 rfl 14 M_c14 hin hi ?_
        refine k_if_ne C 55 rfl 96 (by decide) (fun hc => ?_) (fun hc => ?_)
        · replace hf := if_f hf hc
          refine k_iconst C 58 rfl ci_0 ?_
          exact k_sub [0, 1, 2, 5] rfl (hb97 x2 x5_63 (M_51.2.1 28 i71) p1 x3 (M_51.2.1 27 i81) 0 M_51 hf)
        · replace hf := if_t hf hc
          refine k_iconst C 56 rfl ci_1 ?_
          refine k_goto C 57 rfl 97 (by decide) ?_
          exact k_sub [0, 1, 2, 5] rfl (hb97 x2 x5_63 (M_51.2.1 28 i71) p1 x3 (M_51.2.1 27 i81) 1 M_51 hf)
  have hb36 := flW4 hq36
  refine k_aload_0 C 0 rfl 0 rfl ?_
  refine k_iload_1 C 1 rfl 1 rfl ?_
  obtain ⟨r2, M_2, h5, hf⟩ := ob2_some hf
  refine k_callW C 2 (c_X12_soonestOf Z.2.1 D cy a M p1 r2 M_2 h5) rfl qX12_435 mvX12_soonestOf 0 12 M_c0 rfl rfl rfl (Nat.le_of_ble_eq_true rfl) ⟨Nat.le_of_ble_eq_true rfl, Nat.le_of_ble_eq_true rfl, Nat.le_refl 0, Nat.le_refl 0⟩ ?_
  refine k_istore_2 C 3 rfl (by decide) rfl ?_
  refine k_sub (lv2 := [(0, .ref (a 0)), (1, .int p1), (2, .int r2)]) [1, 2, 0] rfl ?_
  refine k_aload_0 C 4 rfl 0 rfl ?_
  refine k_iload_1 C 5 rfl 1 rfl ?_
  obtain ⟨r8, h5, hf⟩ := ob1_some hf
  refine k_callW C 6 (c_X12_whereOf Z.2.1 D cy a M_2 p1 r8 h5) rfl qX12_428 mvX12_whereOf 0 12 M_c0 rfl rfl rfl (Nat.le_of_ble_eq_true rfl) ⟨Nat.le_of_ble_eq_true rfl, Nat.le_of_ble_eq_true rfl, Nat.le_refl 0, Nat.le_refl 0⟩ ?_
  refine k_istore_3 C 7 rfl (by decide) rfl ?_
  refine k_sub (lv2 := [(0, .ref (a 0)), (1, .int p1), (2, .int r2), (3, .int r8)]) [1, 2, 3, 0] rfl ?_
  refine k_aload_0 C 8 rfl 0 rfl ?_
  refine k_iload_1 C 9 rfl 1 rfl ?_
  refine k_aload_0 C 10 rfl 0 rfl ?_
  refine k_iload_1 C 11 rfl 1 rfl ?_
  refine k_iconst C 12 rfl ci_4 ?_
  obtain ⟨r17, h5, hf⟩ := ob1_some hf
  refine k_callW C 13 (c_X12_riderOf Z.2.1 D cy a M_2 p1 4 r17 h5) rfl qX12_312 mvX12_riderOf 0 12 M_c0 rfl rfl rfl (Nat.le_of_ble_eq_true rfl) ⟨Nat.le_of_ble_eq_true rfl, Nat.le_of_ble_eq_true rfl, Nat.le_refl 0, Nat.le_refl 0⟩ ?_
  obtain ⟨r20, h5, hf⟩ := ob1_some hf
  refine k_callW C 14 (c_X12_beginOf Z.2.1 D cy a M_2 p1 r17 r20 h5) rfl qX12_425 mvX12_beginOf 0 12 M_c0 rfl rfl rfl (Nat.le_of_ble_eq_true rfl) ⟨Nat.le_of_ble_eq_true rfl, Nat.le_of_ble_eq_true rfl, Nat.le_refl 0, Nat.le_refl 0⟩ ?_
  refine k_istore C 15 rfl (by decide) rfl ?_
  refine k_sub (lv2 := [(0, .ref (a 0)), (1, .int p1), (2, .int r2), (3, .int r8), (4, .int r20)]) [1, 2, 3, 4, 0] rfl ?_
  refine k_aload_0 C 16 rfl 0 rfl ?_
  refine k_iconst C 17 rfl ci_0 ?_
  obtain ⟨M_27, hM, hf⟩ := bnd_some hf
  refine kp12_29 (w2 := (mw cy a M_27)) C 18 rfl qX12_438 0 M_c0 (v := 0) M_n0 (M_p0_29.trans (congrArg (fun z => (mw cy a z)) hM)) ?_
  refine k_iload_2 C 19 rfl 2 rfl ?_
  refine k_if_ge C 20 rfl 36 (by decide) (fun hc => ?_) (fun hc => ?_)
  · replace hf := if_t hf hc
    exact k_sub [0, 1, 2, 3, 4] rfl (hb36 FU r2 r8 r20 M_27 hf)
  · replace hf := if_f hf hc
    refine k_iconst C 21 rfl ci_0 ?_
    exact k_zret (wf := (fun u => (mw cy a u))) hR 22 rfl hf
set_option maxHeartbeats 1000000 in
set_option maxRecDepth 20000 in
theorem c_X12_row (l : Launch) (D : va_G) (cy : Nat → ClassId) (a : Nat → Nat) (M : Sg) (p1 : Int32) (p2 : Int32) (p3 : Int32) (r : Int32) (M1 : Sg) (hf : f_X12_row M p1 p2 p3 = some (r, M1)) : Ct l D cy yX12_row cX12_row 4 (some .int) 10 249 0 0 [.ref (a 0), .int p1, .int p2, .int p3] (mw cy a M) (some (.int r)) (mw cy a M1) := by
  refine Ct_i tX12_row hX12_row (by decide) (Nat.le_of_ble_eq_true rfl) ?_
  intro Z hZ C hR
  subst hZ
  replace C : Cx Z D cy RX12 tX12_row 4 10 249 0 0 := C
  show Wk Z D 4 0 0 (mw cy a M) 0 [(0, .ref (a 0)), (1, .int p1), (2, .int p2), (3, .int p3)] []
  unfold f_X12_row at hf
  have hb42 : ∀ (M : Sg), f_X12_row_b42 p1 p2 p3 M = some (r, M1) → Wk Z D 4 0 0 (mw cy a M) 42 [] [] := by
    intro M hf
    unfold f_X12_row_b42 at hf
    refine k_bipush C 22 rfl cb_m2 ?_
    exact k_iret (wf := (fun u => (mw cy a u))) hR 23 rfl hf
  have hb24 : ∀ (M : Sg), f_X12_row_b24 p1 p2 p3 M = some (r, M1) → Wk Z D 4 0 0 (mw cy a M) 24 [] [] := by
    intro M hf
    unfold f_X12_row_b24 at hf
    refine k_iconst C 12 rfl ci_m1 ?_
    exact k_iret (wf := (fun u => (mw cy a u))) hR 13 rfl hf
  refine k_aload_0 C 0 rfl 0 rfl ?_
  refine k_iload_1 C 1 rfl 1 rfl ?_
  obtain ⟨r2, h5, hf⟩ := ob1_some hf
  refine k_callW C 2 (c_X12_isRider Z.2.1 D cy a M p1 r2 h5) rfl qX12_341 mvX12_isRider 0 12 M_c0 rfl rfl rfl (Nat.le_of_ble_eq_true rfl) ⟨Nat.le_of_ble_eq_true rfl, Nat.le_of_ble_eq_true rfl, Nat.le_refl 0, Nat.le_refl 0⟩ ?_
  refine k_if_eq C 3 rfl 24 (by decide) (fun hc => ?_) (fun hc => ?_)
  · replace hf := if_t hf hc
    exact k_sub [] rfl (hb24 M hf)
  · replace hf := if_f hf hc
    refine k_iload_2 C 4 rfl 2 rfl ?_
    refine k_if_lt C 5 rfl 24 (by decide) (fun hc => ?_) (fun hc => ?_)
    · replace hf := if_t hf hc
      exact k_sub [] rfl (hb24 M hf)
    · replace hf := if_f hf hc
      refine k_iload_3 C 6 rfl 3 rfl ?_
      refine k_i2l C 7 rfl ?_
      refine k_lconst0 C 8 rfl ?_
      refine k_ldc2 C 9 rfl qX12_330 ?_
      obtain ⟨r18, h5, hf⟩ := ob1_some hf
      refine k_callE C 10 (c_X12_in Z.2.1 D cy p3.toInt64 (0 : Int64) (2 : Int64) r18 h5) rfl qX12_124 msX12_in rfl rfl (Nat.le_of_ble_eq_true rfl) ⟨Nat.le_of_ble_eq_true rfl, Nat.le_of_ble_eq_true rfl, Nat.le_refl 0, Nat.le_refl 0⟩ ?_
      refine k_if_ne C 11 rfl 26 (by decide) (fun hc => ?_) (fun hc => ?_)
      · replace hf := if_f hf hc
        refine k_aload_0 C 14 rfl 0 rfl ?_
        refine k_iload_1 C 15 rfl 1 rfl ?_
        obtain ⟨r28, M_28, h5, hf⟩ := ob2_some hf
        refine k_callW C 16 (c_X12_fillsRow Z.2.1 D cy a M p1 r28 M_28 h5) rfl qX12_448 mvX12_fillsRow 0 12 M_c0 rfl rfl rfl (Nat.le_of_ble_eq_true rfl) ⟨Nat.le_of_ble_eq_true rfl, Nat.le_of_ble_eq_true rfl, Nat.le_refl 0, Nat.le_refl 0⟩ ?_
        refine k_if_eq C 17 rfl 42 (by decide) (fun hc => ?_) (fun hc => ?_)
        · replace hf := if_t hf hc
          exact k_sub [] rfl (hb42 M_28 hf)
        · replace hf := if_f hf hc
          refine k_iload_2 C 18 rfl 2 rfl ?_
          refine k_aload_0 C 19 rfl 0 rfl ?_
          refine kg12_29 C 20 rfl qX12_438 0 M_c0 M_f0_29 ?_
          refine k_icmp_lt C 21 rfl 45 (by decide) (fun hc => ?_) (fun hc => ?_)
          · replace hf := if_t hf hc
            refine k_iload_3 C 24 rfl 3 rfl ?_
            refine k_if_ne C 25 rfl 58 (by decide) (fun hc => ?_) (fun hc => ?_)
            · replace hf := if_f hf hc
              refine k_iload_3 C 31 rfl 3 rfl ?_
              refine k_iconst C 32 rfl ci_1 ?_
              refine k_icmp_ne C 33 rfl 72 (by decide) (fun hc => ?_) (fun hc => ?_)
              · replace hf := if_f hf hc
                refine k_aload_0 C 39 rfl 0 rfl ?_
                refine kg12_28 C 40 rfl qX12_58 0 M_c0 M_f0_28 ?_
                refine k_iload_2 C 41 rfl 2 rfl ?_
                obtain ⟨i77, hi, hin, hf⟩ := ixd_some hf
                refine k_iald C 42 rfl 16 M_c16 hin hi ?_
                exact k_iret (wf := (fun u => (mw cy a u))) hR 43 rfl hf
              · replace hf := if_t hf hc
                refine k_aload_0 C 34 rfl 0 rfl ?_
                refine kg12_27 C 35 rfl qX12_55 0 M_c0 M_f0_27 ?_
                refine k_iload_2 C 36 rfl 2 rfl ?_
                obtain ⟨i68, hi, hin, hf⟩ := ixd_some hf
                refine k_iald C 37 rfl 15 M_c15 hin hi ?_
                refine k_goto C 38 rfl 78 (by decide) ?_
                exact k_iret (wf := (fun u => (mw cy a u))) hR 43 rfl hf
            · replace hf := if_t hf hc
              refine k_aload_0 C 26 rfl 0 rfl ?_
              refine kg12_26 C 27 rfl qX12_52 0 M_c0 M_f0_26 ?_
              refine k_iload_2 C 28 rfl 2 rfl ?_
              obtain ⟨i54, hi, hin, hf⟩ := ixd_some hf
              refine k_iald C 29 rfl 14 M_c14 hin hi ?_
              refine k_goto C 30 rfl 78 (by decide) ?_
              exact k_iret (wf := (fun u => (mw cy a u))) hR 43 rfl hf
          · replace hf := if_f hf hc
            exact k_sub [] rfl (hb42 M_28 hf)
      · replace hf := if_t hf hc
        exact k_sub [] rfl (hb24 M hf)
set_option maxHeartbeats 1000000 in
set_option maxRecDepth 20000 in
theorem c_X12_latestOf (l : Launch) (D : va_G) (cy : Nat → ClassId) (a : Nat → Nat) (M : Sg) (p1 : Int32) (r : Int32) (M1 : Sg) (hf : f_X12_latestOf M p1 = some (r, M1)) : Ct l D cy yX12_latestOf cX12_latestOf 4 (some .int) 7 171 0 0 [.ref (a 0), .int p1] (mw cy a M) (some (.int r)) (mw cy a M1) := by
  refine Ct_i tX12_latestOf hX12_latestOf (by decide) (Nat.le_of_ble_eq_true rfl) ?_
  intro Z hZ C hR
  subst hZ
  replace C : Cx Z D cy RX12 tX12_latestOf 4 7 171 0 0 := C
  show Wk Z D 4 0 0 (mw cy a M) 0 [(0, .ref (a 0)), (1, .int p1)] []
  unfold f_X12_latestOf at hf
  have hq5 : ∀ (k5 : Int32 → Sg → Option (Int32 × Sg)), (∀ (x2 : Int32) (M : Sg), k5 x2 M = some (r, M1) → Wk Z D 4 0 0 (mw cy a M) 5 [(0, .ref (a 0)), (1, .int p1), (2, .int x2)] []) → ∀ (x2 : Int32) (M : Sg), f_X12_latestOf_b5 p1 k5 x2 M = some (r, M1) → Wk Z D 4 0 0 (mw cy a M) 5 [(0, .ref (a 0)), (1, .int p1), (2, .int x2)] [] := by
    intro k5 hk5 x2 M hf
    unfold f_X12_latestOf_b5 at hf
    have hb35 : ∀ (x2 : Int32) (M : Sg), f_X12_latestOf_b35 p1 k5 x2 M = some (r, M1) → Wk Z D 4 0 0 (mw cy a M) 35 [(0, .ref (a 0)), (1, .int p1), (2, .int x2)] [] := by
      intro x2 M hf
      unfold f_X12_latestOf_b35 at hf
      obtain ⟨x2_35, hx, hf⟩ := bnd_some hf
      refine k_iinc C 21 rfl 2 rfl ((cn_m1 _).trans hx) (by decide) rfl ?_
      refine k_sub (lv2 := [(0, .ref (a 0)), (1, .int p1), (2, .int x2_35)]) [1, 2, 0] rfl ?_
      refine k_goto C 22 rfl 5 (by decide) ?_
      exact k_sub [0, 1, 2] rfl (hk5 x2_35 M hf)
    refine k_iload_2 C 3 rfl 2 rfl ?_
    refine k_if_lt C 4 rfl 41 (by decide) (fun hc => ?_) (fun hc => ?_)
    · replace hf := if_t hf hc
      refine k_iconst C 23 rfl ci_m1 ?_
      exact k_iret (wf := (fun u => (mw cy a u))) hR 24 rfl hf
    · replace hf := if_f hf hc
      refine k_aload_0 C 5 rfl 0 rfl ?_
      refine k_iload_1 C 6 rfl 1 rfl ?_
      refine k_aload_0 C 7 rfl 0 rfl ?_
      refine k_iload_1 C 8 rfl 1 rfl ?_
      obtain ⟨r13, h5, hf⟩ := ob1_some hf
      refine k_callW C 9 (c_X12_whereOf Z.2.1 D cy a M p1 r13 h5) rfl qX12_428 mvX12_whereOf 0 12 M_c0 rfl rfl rfl (Nat.le_of_ble_eq_true rfl) ⟨Nat.le_of_ble_eq_true rfl, Nat.le_of_ble_eq_true rfl, Nat.le_refl 0, Nat.le_refl 0⟩ ?_
      refine k_iload_2 C 10 rfl 2 rfl ?_
      obtain ⟨r17, M_17, h5, hf⟩ := ob2_some hf
      refine k_callW C 11 (c_X12_rightFrom Z.2.1 D cy a M p1 r13 x2 r17 M_17 h5) rfl qX12_431 mvX12_rightFrom 0 12 M_c0 rfl rfl rfl (Nat.le_of_ble_eq_true rfl) ⟨Nat.le_of_ble_eq_true rfl, Nat.le_of_ble_eq_true rfl, Nat.le_refl 0, Nat.le_refl 0⟩ ?_
      refine k_istore_3 C 12 rfl (by decide) rfl ?_
      refine k_sub (lv2 := [(0, .ref (a 0)), (1, .int p1), (2, .int x2), (3, .int r17)]) [1, 2, 3, 0] rfl ?_
      refine k_iload_3 C 13 rfl 3 rfl ?_
      refine k_if_lt C 14 rfl 35 (by decide) (fun hc => ?_) (fun hc => ?_)
      · replace hf := if_t hf hc
        exact k_sub [0, 1, 2] rfl (hb35 x2 M_17 hf)
      · replace hf := if_f hf hc
        refine k_iload_3 C 15 rfl 3 rfl ?_
        refine k_aload_0 C 16 rfl 0 rfl ?_
        obtain ⟨r27, h5, hf⟩ := ob1_some hf
        refine k_callW C 17 (c_X12_parting Z.2.1 D cy a M_17 r27 h5) rfl qX12_356 mvX12_parting 0 12 M_c0 rfl rfl rfl (Nat.le_of_ble_eq_true rfl) ⟨Nat.le_of_ble_eq_true rfl, Nat.le_of_ble_eq_true rfl, Nat.le_refl 0, Nat.le_refl 0⟩ ?_
        refine k_icmp_gt C 18 rfl 35 (by decide) (fun hc => ?_) (fun hc => ?_)
        · replace hf := if_t hf hc
          exact k_sub [0, 1, 2] rfl (hb35 x2 M_17 hf)
        · replace hf := if_f hf hc
          refine k_iload_2 C 19 rfl 2 rfl ?_
          exact k_iret (wf := (fun u => (mw cy a u))) hR 20 rfl hf
  have hb5 := flW2 hq5
  refine k_aload_0 C 0 rfl 0 rfl ?_
  obtain ⟨r1, h5, hf⟩ := ob1_some hf
  refine k_callW C 1 (c_X12_parting Z.2.1 D cy a M r1 h5) rfl qX12_356 mvX12_parting 0 12 M_c0 rfl rfl rfl (Nat.le_of_ble_eq_true rfl) ⟨Nat.le_of_ble_eq_true rfl, Nat.le_of_ble_eq_true rfl, Nat.le_refl 0, Nat.le_refl 0⟩ ?_
  refine k_istore_2 C 2 rfl (by decide) rfl ?_
  refine k_sub (lv2 := [(0, .ref (a 0)), (1, .int p1), (2, .int r1)]) [1, 2, 0] rfl ?_
  exact k_sub [0, 1, 2] rfl (hb5 FU r1 M hf)
set_option maxHeartbeats 1000000 in
set_option maxRecDepth 20000 in
theorem c_X12_latest (l : Launch) (D : va_G) (cy : Nat → ClassId) (a : Nat → Nat) (M : Sg) (p1 : Int32) (r : Int32) (M1 : Sg) (hf : f_X12_latest M p1 = some (r, M1)) : Ct l D cy yX12_latest cX12_latest 3 (some .int) 8 194 0 0 [.ref (a 0), .int p1] (mw cy a M) (some (.int r)) (mw cy a M1) := by
  refine Ct_i tX12_latest hX12_latest (by decide) (Nat.le_of_ble_eq_true rfl) ?_
  intro Z hZ C hR
  subst hZ
  replace C : Cx Z D cy RX12 tX12_latest 3 8 194 0 0 := C
  show Wk Z D 3 0 0 (mw cy a M) 0 [(0, .ref (a 0)), (1, .int p1)] []
  unfold f_X12_latest at hf
  refine k_aload_0 C 0 rfl 0 rfl ?_
  refine k_iload_1 C 1 rfl 1 rfl ?_
  obtain ⟨r2, h5, hf⟩ := ob1_some hf
  refine k_callW C 2 (c_X12_isRider Z.2.1 D cy a M p1 r2 h5) rfl qX12_341 mvX12_isRider 0 12 M_c0 rfl rfl rfl (Nat.le_of_ble_eq_true rfl) ⟨Nat.le_of_ble_eq_true rfl, Nat.le_of_ble_eq_true rfl, Nat.le_refl 0, Nat.le_refl 0⟩ ?_
  refine k_if_ne C 3 rfl 10 (by decide) (fun hc => ?_) (fun hc => ?_)
  · replace hf := if_f hf hc
    refine k_aload_0 C 6 rfl 0 rfl ?_
    refine k_iload_1 C 7 rfl 1 rfl ?_
    obtain ⟨r12, M_12, h5, hf⟩ := ob2_some hf
    refine k_callW C 8 (c_X12_latestOf Z.2.1 D cy a M p1 r12 M_12 h5) rfl qX12_451 mvX12_latestOf 0 12 M_c0 rfl rfl rfl (Nat.le_of_ble_eq_true rfl) ⟨Nat.le_of_ble_eq_true rfl, Nat.le_of_ble_eq_true rfl, Nat.le_refl 0, Nat.le_refl 0⟩ ?_
    refine k_istore_2 C 9 rfl (by decide) rfl ?_
    refine k_sub (lv2 := [(0, .ref (a 0)), (1, .int p1), (2, .int r12)]) [1, 2, 0] rfl ?_
    refine k_iload_2 C 10 rfl 2 rfl ?_
    refine k_if_ge C 11 rfl 25 (by decide) (fun hc => ?_) (fun hc => ?_)
    · replace hf := if_t hf hc
      refine k_iload_2 C 14 rfl 2 rfl ?_
      exact k_iret (wf := (fun u => (mw cy a u))) hR 15 rfl hf
    · replace hf := if_f hf hc
      refine k_bipush C 12 rfl cb_m2 ?_
      refine k_goto C 13 rfl 26 (by decide) ?_
      exact k_iret (wf := (fun u => (mw cy a u))) hR 15 rfl hf
  · replace hf := if_t hf hc
    refine k_iconst C 4 rfl ci_m1 ?_
    exact k_iret (wf := (fun u => (mw cy a u))) hR 5 rfl hf
set_option maxHeartbeats 1000000 in
set_option maxRecDepth 20000 in
theorem c_X12_isLost (l : Launch) (D : va_G) (cy : Nat → ClassId) (a : Nat → Nat) (M : Sg) (p1 : Int32) (p2 : Int32) (r : Bool) (M1 : Sg) (hf : f_X12_isLost M p1 p2 = some (r, M1)) : Ct l D cy yX12_isLost cX12_isLost 5 (some .boolean) 7 171 0 0 [.ref (a 0), .int p1, .int p2] (mw cy a M) (some (.int (bI r))) (mw cy a M1) := by
  refine Ct_z tX12_isLost hX12_isLost (by decide) (Nat.le_of_ble_eq_true rfl) ?_
  intro Z hZ C hR
  subst hZ
  replace C : Cx Z D cy RX12 tX12_isLost 5 7 171 0 0 := C
  show Wk Z D 5 0 0 (mw cy a M) 0 [(0, .ref (a 0)), (1, .int p1), (2, .int p2)] []
  unfold f_X12_isLost at hf
  have hb60 : ∀ (M : Sg), f_X12_isLost_b60 p1 p2 M = some (r, M1) → Wk Z D 5 0 0 (mw cy a M) 60 [] [] := by
    intro M hf
    unfold f_X12_isLost_b60 at hf
    refine k_iconst C 33 rfl ci_1 ?_
    refine k_goto C 34 rfl 65 (by decide) ?_
    exact k_zret (wf := (fun u => (mw cy a u))) hR 36 rfl hf
  have hb44 : ∀ (s0 : Int32) (M : Sg), f_X12_isLost_b44 p1 p2 s0 M = some (r, M1) → Wk Z D 5 0 0 (mw cy a M) 44 [(0, .ref (a 0))] [.int s0] := by
    intro s0 M hf
    unfold f_X12_isLost_b44 at hf
    refine k_istore C 26 rfl (by decide) rfl ?_
    refine k_sub (lv2 := [(0, .ref (a 0)), (4, .int s0)]) [1, 0] rfl ?_
    refine k_iload C 27 rfl 1 rfl ?_
    refine k_if_lt C 28 rfl 60 (by decide) (fun hc => ?_) (fun hc => ?_)
    · replace hf := if_t hf hc
      exact k_sub [] rfl (hb60 M hf)
    · replace hf := if_f hf hc
      refine k_iload C 29 rfl 1 rfl ?_
      refine k_aload_0 C 30 rfl 0 rfl ?_
      obtain ⟨r54, h5, hf⟩ := ob1_some hf
      refine k_callW C 31 (c_X12_parting Z.2.1 D cy a M r54 h5) rfl qX12_356 mvX12_parting 0 12 M_c0 rfl rfl rfl (Nat.le_of_ble_eq_true rfl) ⟨Nat.le_of_ble_eq_true rfl, Nat.le_of_ble_eq_true rfl, Nat.le_refl 0, Nat.le_refl 0⟩ ?_
      refine k_icmp_le C 32 rfl 64 (by decide) (fun hc => ?_) (fun hc => ?_)
      · replace hf := if_t hf hc
        refine k_iconst C 35 rfl ci_0 ?_
        exact k_zret (wf := (fun u => (mw cy a u))) hR 36 rfl hf
      · replace hf := if_f hf hc
        exact k_sub [] rfl (hb60 M hf)
  refine k_aload_0 C 0 rfl 0 rfl ?_
  refine k_iload_1 C 1 rfl 1 rfl ?_
  refine k_aload_0 C 2 rfl 0 rfl ?_
  refine k_iload_1 C 3 rfl 1 rfl ?_
  obtain ⟨r4, h5, hf⟩ := ob1_some hf
  refine k_callW C 4 (c_X12_whereOf Z.2.1 D cy a M p1 r4 h5) rfl qX12_428 mvX12_whereOf 0 12 M_c0 rfl rfl rfl (Nat.le_of_ble_eq_true rfl) ⟨Nat.le_of_ble_eq_true rfl, Nat.le_of_ble_eq_true rfl, Nat.le_refl 0, Nat.le_refl 0⟩ ?_
  obtain ⟨r7, h5, hf⟩ := ob1_some hf
  refine k_callW C 5 (c_X12_isRight Z.2.1 D cy a M p1 r4 r7 h5) rfl qX12_346 mvX12_isRight 0 12 M_c0 rfl rfl rfl (Nat.le_of_ble_eq_true rfl) ⟨Nat.le_of_ble_eq_true rfl, Nat.le_of_ble_eq_true rfl, Nat.le_refl 0, Nat.le_refl 0⟩ ?_
  refine k_if_eq C 6 rfl 15 (by decide) (fun hc => ?_) (fun hc => ?_)
  · replace hf := if_t hf hc
    refine k_aload_0 C 9 rfl 0 rfl ?_
    refine k_iload_1 C 10 rfl 1 rfl ?_
    refine k_iload_2 C 11 rfl 2 rfl ?_
    obtain ⟨r18, h5, hf⟩ := ob1_some hf
    refine k_callW C 12 (c_X12_beginOf Z.2.1 D cy a M p1 p2 r18 h5) rfl qX12_425 mvX12_beginOf 0 12 M_c0 rfl rfl rfl (Nat.le_of_ble_eq_true rfl) ⟨Nat.le_of_ble_eq_true rfl, Nat.le_of_ble_eq_true rfl, Nat.le_refl 0, Nat.le_refl 0⟩ ?_
    refine k_istore_3 C 13 rfl (by decide) rfl ?_
    refine k_sub (lv2 := [(0, .ref (a 0)), (1, .int p1), (2, .int p2), (3, .int r18)]) [1, 2, 3, 0] rfl ?_
    refine k_iload_3 C 14 rfl 3 rfl ?_
    refine k_sipush C 15 rfl cs_999 ?_
    refine k_icmp_le C 16 rfl 33 (by decide) (fun hc => ?_) (fun hc => ?_)
    · replace hf := if_t hf hc
      refine k_aload_0 C 19 rfl 0 rfl ?_
      refine k_iload_1 C 20 rfl 1 rfl ?_
      refine k_aload_0 C 21 rfl 0 rfl ?_
      refine k_iload_1 C 22 rfl 1 rfl ?_
      obtain ⟨r37, h5, hf⟩ := ob1_some hf
      refine k_callW C 23 (c_X12_whereOf Z.2.1 D cy a M p1 r37 h5) rfl qX12_428 mvX12_whereOf 0 12 M_c0 rfl rfl rfl (Nat.le_of_ble_eq_true rfl) ⟨Nat.le_of_ble_eq_true rfl, Nat.le_of_ble_eq_true rfl, Nat.le_refl 0, Nat.le_refl 0⟩ ?_
      refine k_iload_3 C 24 rfl 3 rfl ?_
      obtain ⟨r41, M_41, h5, hf⟩ := ob2_some hf
      refine k_callW C 25 (c_X12_rightFrom Z.2.1 D cy a M p1 r37 r18 r41 M_41 h5) rfl qX12_431 mvX12_rightFrom 0 12 M_c0 rfl rfl rfl (Nat.le_of_ble_eq_true rfl) ⟨Nat.le_of_ble_eq_true rfl, Nat.le_of_ble_eq_true rfl, Nat.le_refl 0, Nat.le_refl 0⟩ ?_
      exact k_sub [0] rfl (hb44 r41 M_41 hf)
    · replace hf := if_f hf hc
      refine k_iconst C 17 rfl ci_m1 ?_
      refine k_goto C 18 rfl 44 (by decide) ?_
      exact k_sub [0] rfl (hb44 (-1) M hf)
  · replace hf := if_f hf hc
    refine k_iconst C 7 rfl ci_0 ?_
    exact k_zret (wf := (fun u => (mw cy a u))) hR 8 rfl hf
set_option maxHeartbeats 1000000 in
set_option maxRecDepth 20000 in
theorem c_X12_lost (l : Launch) (D : va_G) (cy : Nat → ClassId) (a : Nat → Nat) (M : Sg) (r : Int32) (M1 : Sg) (hf : f_X12_lost M = some (r, M1)) : Ct l D cy yX12_lost cX12_lost 3 (some .int) 8 195 0 0 [.ref (a 0)] (mw cy a M) (some (.int r)) (mw cy a M1) := by
  refine Ct_i tX12_lost hX12_lost (by decide) (Nat.le_of_ble_eq_true rfl) ?_
  intro Z hZ C hR
  subst hZ
  replace C : Cx Z D cy RX12 tX12_lost 3 8 195 0 0 := C
  show Wk Z D 3 0 0 (mw cy a M) 0 [(0, .ref (a 0))] []
  unfold f_X12_lost at hf
  have hq13 : ∀ (k13 : Int32 → Int32 → Sg → Option (Int32 × Sg)), (∀ (x1 : Int32) (x2 : Int32) (M : Sg), k13 x1 x2 M = some (r, M1) → Wk Z D 3 0 0 (mw cy a M) 13 [(0, .ref (a 0)), (1, .int x1), (2, .int x2)] []) → ∀ (x1 : Int32) (x2 : Int32) (M : Sg), f_X12_lost_b13 k13 x1 x2 M = some (r, M1) → Wk Z D 3 0 0 (mw cy a M) 13 [(0, .ref (a 0)), (1, .int x1), (2, .int x2)] [] := by
    intro k13 hk13 x1 x2 M hf
    unfold f_X12_lost_b13 at hf
    have hb45 : ∀ (x2 : Int32) (s0 : Int32) (s1 : Int32) (M : Sg), f_X12_lost_b45 k13 x2 s0 s1 M = some (r, M1) → Wk Z D 3 0 0 (mw cy a M) 45 [(0, .ref (a 0)), (2, .int x2)] [.int s1, .int s0] := by
      intro x2 s0 s1 M hf
      unfold f_X12_lost_b45 at hf
      refine k_ior C 29 rfl ?_
      obtain ⟨x1_46, hx, hf⟩ := bnd_some hf
      refine k_topi hx ?_
      refine k_istore_1 C 30 rfl (by decide) rfl ?_
      refine k_sub (lv2 := [(0, .ref (a 0)), (1, .int x1_46), (2, .int x2)]) [1, 0, 2] rfl ?_
      obtain ⟨x2_47, hx, hf⟩ := bnd_some hf
      refine k_iinc C 31 rfl 2 rfl ((cn_1 _).trans hx) (by decide) rfl ?_
      refine k_sub (lv2 := [(0, .ref (a 0)), (1, .int x1_46), (2, .int x2_47)]) [1, 2, 0] rfl ?_
      refine k_goto C 32 rfl 13 (by decide) ?_
      exact k_sub [0, 1, 2] rfl (hk13 x1_46 x2_47 M hf)
    refine k_iload_2 C 9 rfl 2 rfl ?_
    refine k_aload_0 C 10 rfl 0 rfl ?_
    refine kg12_20 C 11 rfl qX12_39 0 M_c0 M_f0_20 ?_
    refine k_iconst C 12 rfl ci_2 ?_
    refine k_iald C 13 rfl 10 M_c10 vi_2_137 tc_2 ?_
    refine k_icmp_ge C 14 rfl 53 (by decide) (fun hc => ?_) (fun hc => ?_)
    · replace hf := if_t hf hc
      refine k_iload_1 C 33 rfl 1 rfl ?_
      exact k_iret (wf := (fun u => (mw cy a u))) hR 34 rfl hf
    · replace hf := if_f hf hc
      refine k_iload_1 C 15 rfl 1 rfl ?_
      refine k_aload_0 C 16 rfl 0 rfl ?_
      refine k_iload_2 C 17 rfl 2 rfl ?_
      refine k_aload_0 C 18 rfl 0 rfl ?_
      refine k_iload_2 C 19 rfl 2 rfl ?_
      refine k_iconst C 20 rfl ci_4 ?_
      obtain ⟨r29, h5, hf⟩ := ob1_some hf
      refine k_callW C 21 (c_X12_riderOf Z.2.1 D cy a M x2 4 r29 h5) rfl qX12_312 mvX12_riderOf 0 12 M_c0 rfl rfl rfl (Nat.le_of_ble_eq_true rfl) ⟨Nat.le_of_ble_eq_true rfl, Nat.le_of_ble_eq_true rfl, Nat.le_refl 0, Nat.le_refl 0⟩ ?_
      obtain ⟨r32, M_32, h5, hf⟩ := ob2_some hf
      refine k_callW C 22 (c_X12_isLost Z.2.1 D cy a M x2 r29 r32 M_32 h5) rfl qX12_454 mvX12_isLost 0 12 M_c0 rfl rfl rfl (Nat.le_of_ble_eq_true rfl) ⟨Nat.le_of_ble_eq_true rfl, Nat.le_of_ble_eq_true rfl, Nat.le_refl 0, Nat.le_refl 0⟩ ?_
      refine k_if_eq C 23 rfl 44 (by decide) (fun hc => ?_) (fun hc => ?_)
      · replace hf := if_t hf hc
        refine k_iconst C 28 rfl ci_0 ?_
        exact k_sub [0, 2] rfl (hb45 x2 x1 0 M_32 hf)
      · replace hf := if_f hf hc
        refine k_iconst C 24 rfl ci_1 ?_
        refine k_iload_2 C 25 rfl 2 rfl ?_
        refine k_ishl C 26 rfl ?_
        refine k_goto C 27 rfl 45 (by decide) ?_
        exact k_sub [0, 2] rfl (hb45 x2 x1 ((1 : Int32) <<< (x2 &&& 31)) M_32 hf)
  have hb13 := flW3 hq13
  refine k_aload_0 C 0 rfl 0 rfl ?_
  obtain ⟨r1, h5, hf⟩ := ob1_some hf
  refine k_callW C 1 (c_X12_isLine Z.2.1 D cy a M r1 h5) rfl qX12_375 mvX12_isLine 0 12 M_c0 rfl rfl rfl (Nat.le_of_ble_eq_true rfl) ⟨Nat.le_of_ble_eq_true rfl, Nat.le_of_ble_eq_true rfl, Nat.le_refl 0, Nat.le_refl 0⟩ ?_
  refine k_if_ne C 2 rfl 9 (by decide) (fun hc => ?_) (fun hc => ?_)
  · replace hf := if_f hf hc
    refine k_iconst C 5 rfl ci_0 ?_
    refine k_istore_1 C 6 rfl (by decide) rfl ?_
    refine k_sub (lv2 := [(0, .ref (a 0)), (1, .int 0)]) [1, 0] rfl ?_
    refine k_iconst C 7 rfl ci_0 ?_
    refine k_istore_2 C 8 rfl (by decide) rfl ?_
    refine k_sub (lv2 := [(0, .ref (a 0)), (1, .int 0), (2, .int 0)]) [1, 2, 0] rfl ?_
    exact k_sub [0, 1, 2] rfl (hb13 FU 0 0 M hf)
  · replace hf := if_t hf hc
    refine k_iconst C 3 rfl ci_m1 ?_
    exact k_iret (wf := (fun u => (mw cy a u))) hR 4 rfl hf
set_option maxHeartbeats 1000000 in
set_option maxRecDepth 20000 in
theorem c_X12_voiceIn (l : Launch) (D : va_G) (cy : Nat → ClassId) (a : Nat → Nat) (M : Sg) (p1 : Int32) (r : Int32) (M1 : Sg) (hf : f_X12_voiceIn M p1 = some (r, M1)) : Ct l D cy yX12_voiceIn cX12_voiceIn 5 (some .int) 8 194 0 0 [.ref (a 0), .int p1] (mw cy a M) (some (.int r)) (mw cy a M1) := by
  refine Ct_i tX12_voiceIn hX12_voiceIn (by decide) (Nat.le_of_ble_eq_true rfl) ?_
  intro Z hZ C hR
  subst hZ
  replace C : Cx Z D cy RX12 tX12_voiceIn 5 8 194 0 0 := C
  show Wk Z D 5 0 0 (mw cy a M) 0 [(0, .ref (a 0)), (1, .int p1)] []
  unfold f_X12_voiceIn at hf
  have hq4 : ∀ (k4 : Int32 → Int32 → Sg → Option (Int32 × Sg)), (∀ (x2 : Int32) (x3 : Int32) (M : Sg), k4 x2 x3 M = some (r, M1) → Wk Z D 5 0 0 (mw cy a M) 4 [(0, .ref (a 0)), (1, .int p1), (2, .int x2), (3, .int x3)] []) → ∀ (x2 : Int32) (x3 : Int32) (M : Sg), f_X12_voiceIn_b4 p1 k4 x2 x3 M = some (r, M1) → Wk Z D 5 0 0 (mw cy a M) 4 [(0, .ref (a 0)), (1, .int p1), (2, .int x2), (3, .int x3)] [] := by
    intro k4 hk4 x2 x3 M hf
    unfold f_X12_voiceIn_b4 at hf
    have hb60 : ∀ (x2 : Int32) (x3 : Int32) (M : Sg), f_X12_voiceIn_b60 p1 k4 x2 x3 M = some (r, M1) → Wk Z D 5 0 0 (mw cy a M) 60 [(0, .ref (a 0)), (1, .int p1), (2, .int x2), (3, .int x3)] [] := by
      intro x2 x3 M hf
      unfold f_X12_voiceIn_b60 at hf
      obtain ⟨x3_60, hx, hf⟩ := bnd_some hf
      refine k_iinc C 34 rfl 3 rfl ((cn_1 _).trans hx) (by decide) rfl ?_
      refine k_sub (lv2 := [(0, .ref (a 0)), (1, .int p1), (2, .int x2), (3, .int x3_60)]) [1, 2, 3, 0] rfl ?_
      refine k_goto C 35 rfl 4 (by decide) ?_
      exact k_sub [0, 1, 2, 3] rfl (hk4 x2 x3_60 M hf)
    have hb57 : ∀ (x3 : Int32) (x4 : Int32) (M : Sg), f_X12_voiceIn_b57 p1 k4 x3 x4 M = some (r, M1) → Wk Z D 5 0 0 (mw cy a M) 57 [(0, .ref (a 0)), (1, .int p1), (3, .int x3), (4, .int x4)] [] := by
      intro x3 x4 M hf
      unfold f_X12_voiceIn_b57 at hf
      refine k_iload C 32 rfl 3 rfl ?_
      refine k_istore_2 C 33 rfl (by decide) rfl ?_
      refine k_sub (lv2 := [(0, .ref (a 0)), (1, .int p1), (2, .int x4), (3, .int x3), (4, .int x4)]) [1, 2, 0, 3, 4] rfl ?_
      exact k_sub [0, 1, 2, 3] rfl (hb60 x4 x3 M hf)
    refine k_iload_3 C 4 rfl 3 rfl ?_
    refine k_aload_0 C 5 rfl 0 rfl ?_
    refine kg12_20 C 6 rfl qX12_39 0 M_c0 M_f0_20 ?_
    refine k_iconst C 7 rfl ci_2 ?_
    refine k_iald C 8 rfl 10 M_c10 vi_2_137 tc_2 ?_
    refine k_icmp_ge C 9 rfl 66 (by decide) (fun hc => ?_) (fun hc => ?_)
    · replace hf := if_t hf hc
      refine k_iload_2 C 36 rfl 2 rfl ?_
      exact k_iret (wf := (fun u => (mw cy a u))) hR 37 rfl hf
    · replace hf := if_f hf hc
      refine k_aload_0 C 10 rfl 0 rfl ?_
      refine k_iload_3 C 11 rfl 3 rfl ?_
      obtain ⟨r16, h5, hf⟩ := ob1_some hf
      refine k_callW C 12 (c_X12_whereOf Z.2.1 D cy a M x3 r16 h5) rfl qX12_428 mvX12_whereOf 0 12 M_c0 rfl rfl rfl (Nat.le_of_ble_eq_true rfl) ⟨Nat.le_of_ble_eq_true rfl, Nat.le_of_ble_eq_true rfl, Nat.le_refl 0, Nat.le_refl 0⟩ ?_
      refine k_iload_1 C 13 rfl 1 rfl ?_
      refine k_icmp_ne C 14 rfl 60 (by decide) (fun hc => ?_) (fun hc => ?_)
      · replace hf := if_f hf hc
        exact k_sub [0, 1, 2, 3] rfl (hb60 x2 x3 M hf)
      · replace hf := if_t hf hc
        refine k_aload_0 C 15 rfl 0 rfl ?_
        refine k_iload_3 C 16 rfl 3 rfl ?_
        refine k_iload_1 C 17 rfl 1 rfl ?_
        obtain ⟨r26, h5, hf⟩ := ob1_some hf
        refine k_callW C 18 (c_X12_isRight Z.2.1 D cy a M x3 p1 r26 h5) rfl qX12_346 mvX12_isRight 0 12 M_c0 rfl rfl rfl (Nat.le_of_ble_eq_true rfl) ⟨Nat.le_of_ble_eq_true rfl, Nat.le_of_ble_eq_true rfl, Nat.le_refl 0, Nat.le_refl 0⟩ ?_
        refine k_if_eq C 19 rfl 35 (by decide) (fun hc => ?_) (fun hc => ?_)
        · replace hf := if_t hf hc
          refine k_aload_0 C 21 rfl 0 rfl ?_
          refine k_iload_3 C 22 rfl 3 rfl ?_
          obtain ⟨r37, M_37, h5, hf⟩ := ob2_some hf
          refine k_callW C 23 (c_X12_latestOf Z.2.1 D cy a M x3 r37 M_37 h5) rfl qX12_451 mvX12_latestOf 0 12 M_c0 rfl rfl rfl (Nat.le_of_ble_eq_true rfl) ⟨Nat.le_of_ble_eq_true rfl, Nat.le_of_ble_eq_true rfl, Nat.le_refl 0, Nat.le_refl 0⟩ ?_
          refine k_istore C 24 rfl (by decide) rfl ?_
          refine k_sub (lv2 := [(0, .ref (a 0)), (1, .int p1), (2, .int x2), (3, .int x3), (4, .int r37)]) [1, 2, 3, 4, 0] rfl ?_
          refine k_iload C 25 rfl 4 rfl ?_
          refine k_if_lt C 26 rfl 60 (by decide) (fun hc => ?_) (fun hc => ?_)
          · replace hf := if_t hf hc
            exact k_sub [0, 1, 2, 3] rfl (hb60 x2 x3 M_37 hf)
          · replace hf := if_f hf hc
            refine k_iload_2 C 27 rfl 2 rfl ?_
            refine k_if_lt C 28 rfl 57 (by decide) (fun hc => ?_) (fun hc => ?_)
            · replace hf := if_t hf hc
              exact k_sub [0, 1, 3, 4] rfl (hb57 x3 r37 M_37 hf)
            · replace hf := if_f hf hc
              refine k_iload C 29 rfl 4 rfl ?_
              refine k_iload_2 C 30 rfl 2 rfl ?_
              refine k_icmp_ge C 31 rfl 60 (by decide) (fun hc => ?_) (fun hc => ?_)
              · replace hf := if_t hf hc
                exact k_sub [0, 1, 2, 3] rfl (hb60 x2 x3 M_37 hf)
              · replace hf := if_f hf hc
                exact k_sub [0, 1, 3, 4] rfl (hb57 x3 r37 M_37 hf)
        · replace hf := if_f hf hc
          refine k_goto C 20 rfl 60 (by decide) ?_
          exact k_sub [0, 1, 2, 3] rfl (hb60 x2 x3 M hf)
  have hb4 := flW3 hq4
  refine k_iconst C 0 rfl ci_m1 ?_
  refine k_istore_2 C 1 rfl (by decide) rfl ?_
  refine k_sub (lv2 := [(0, .ref (a 0)), (1, .int p1), (2, .int (-1))]) [1, 2, 0] rfl ?_
  refine k_iconst C 2 rfl ci_0 ?_
  refine k_istore_3 C 3 rfl (by decide) rfl ?_
  refine k_sub (lv2 := [(0, .ref (a 0)), (1, .int p1), (2, .int (-1)), (3, .int 0)]) [1, 2, 3, 0] rfl ?_
  exact k_sub [0, 1, 2, 3] rfl (hb4 FU (-1) 0 M hf)
set_option maxHeartbeats 1000000 in
set_option maxRecDepth 20000 in
theorem c_X12_voice (l : Launch) (D : va_G) (cy : Nat → ClassId) (a : Nat → Nat) (M : Sg) (p1 : Int32) (r : Int32) (M1 : Sg) (hf : f_X12_voice M p1 = some (r, M1)) : Ct l D cy yX12_voice cX12_voice 3 (some .int) 9 218 0 0 [.ref (a 0), .int p1] (mw cy a M) (some (.int r)) (mw cy a M1) := by
  refine Ct_i tX12_voice hX12_voice (by decide) (Nat.le_of_ble_eq_true rfl) ?_
  intro Z hZ C hR
  subst hZ
  replace C : Cx Z D cy RX12 tX12_voice 3 9 218 0 0 := C
  show Wk Z D 3 0 0 (mw cy a M) 0 [(0, .ref (a 0)), (1, .int p1)] []
  unfold f_X12_voice at hf
  refine k_aload_0 C 0 rfl 0 rfl ?_
  refine k_iload_1 C 1 rfl 1 rfl ?_
  obtain ⟨r2, h5, hf⟩ := ob1_some hf
  refine k_callW C 2 (c_X12_isCoach Z.2.1 D cy a M p1 r2 h5) rfl qX12_327 mvX12_isCoach 0 12 M_c0 rfl rfl rfl (Nat.le_of_ble_eq_true rfl) ⟨Nat.le_of_ble_eq_true rfl, Nat.le_of_ble_eq_true rfl, Nat.le_refl 0, Nat.le_refl 0⟩ ?_
  refine k_if_ne C 3 rfl 10 (by decide) (fun hc => ?_) (fun hc => ?_)
  · replace hf := if_f hf hc
    refine k_aload_0 C 6 rfl 0 rfl ?_
    refine k_iload_1 C 7 rfl 1 rfl ?_
    obtain ⟨r12, M_12, h5, hf⟩ := ob2_some hf
    refine k_callW C 8 (c_X12_voiceIn Z.2.1 D cy a M p1 r12 M_12 h5) rfl qX12_457 mvX12_voiceIn 0 12 M_c0 rfl rfl rfl (Nat.le_of_ble_eq_true rfl) ⟨Nat.le_of_ble_eq_true rfl, Nat.le_of_ble_eq_true rfl, Nat.le_refl 0, Nat.le_refl 0⟩ ?_
    refine k_istore_2 C 9 rfl (by decide) rfl ?_
    refine k_sub (lv2 := [(0, .ref (a 0)), (1, .int p1), (2, .int r12)]) [1, 2, 0] rfl ?_
    refine k_iload_2 C 10 rfl 2 rfl ?_
    refine k_if_ge C 11 rfl 25 (by decide) (fun hc => ?_) (fun hc => ?_)
    · replace hf := if_t hf hc
      refine k_iload_2 C 14 rfl 2 rfl ?_
      exact k_iret (wf := (fun u => (mw cy a u))) hR 15 rfl hf
    · replace hf := if_f hf hc
      refine k_bipush C 12 rfl cb_m2 ?_
      refine k_goto C 13 rfl 26 (by decide) ?_
      exact k_iret (wf := (fun u => (mw cy a u))) hR 15 rfl hf
  · replace hf := if_t hf hc
    refine k_iconst C 4 rfl ci_m1 ?_
    exact k_iret (wf := (fun u => (mw cy a u))) hR 5 rfl hf
set_option maxHeartbeats 1000000 in
set_option maxRecDepth 20000 in
theorem c_X12_voices (l : Launch) (D : va_G) (cy : Nat → ClassId) (a : Nat → Nat) (M : Sg) (r : Int32) (M1 : Sg) (hf : f_X12_voices M = some (r, M1)) : Ct l D cy yX12_voices cX12_voices 3 (some .int) 9 218 0 0 [.ref (a 0)] (mw cy a M) (some (.int r)) (mw cy a M1) := by
  refine Ct_i tX12_voices hX12_voices (by decide) (Nat.le_of_ble_eq_true rfl) ?_
  intro Z hZ C hR
  subst hZ
  replace C : Cx Z D cy RX12 tX12_voices 3 9 218 0 0 := C
  show Wk Z D 3 0 0 (mw cy a M) 0 [(0, .ref (a 0))] []
  unfold f_X12_voices at hf
  have hq13 : ∀ (k13 : Int32 → Int32 → Sg → Option (Int32 × Sg)), (∀ (x1 : Int32) (x2 : Int32) (M : Sg), k13 x1 x2 M = some (r, M1) → Wk Z D 3 0 0 (mw cy a M) 13 [(0, .ref (a 0)), (1, .int x1), (2, .int x2)] []) → ∀ (x1 : Int32) (x2 : Int32) (M : Sg), f_X12_voices_b13 k13 x1 x2 M = some (r, M1) → Wk Z D 3 0 0 (mw cy a M) 13 [(0, .ref (a 0)), (1, .int x1), (2, .int x2)] [] := by
    intro k13 hk13 x1 x2 M hf
    unfold f_X12_voices_b13 at hf
    have hb39 : ∀ (x2 : Int32) (s0 : Int32) (s1 : Int32) (M : Sg), f_X12_voices_b39 k13 x2 s0 s1 M = some (r, M1) → Wk Z D 3 0 0 (mw cy a M) 39 [(0, .ref (a 0)), (2, .int x2)] [.int s1, .int s0] := by
      intro x2 s0 s1 M hf
      unfold f_X12_voices_b39 at hf
      refine k_ior C 25 rfl ?_
      obtain ⟨x1_40, hx, hf⟩ := bnd_some hf
      refine k_topi hx ?_
      refine k_istore_1 C 26 rfl (by decide) rfl ?_
      refine k_sub (lv2 := [(0, .ref (a 0)), (1, .int x1_40), (2, .int x2)]) [1, 0, 2] rfl ?_
      obtain ⟨x2_41, hx, hf⟩ := bnd_some hf
      refine k_iinc C 27 rfl 2 rfl ((cn_1 _).trans hx) (by decide) rfl ?_
      refine k_sub (lv2 := [(0, .ref (a 0)), (1, .int x1_40), (2, .int x2_41)]) [1, 2, 0] rfl ?_
      refine k_goto C 28 rfl 13 (by decide) ?_
      exact k_sub [0, 1, 2] rfl (hk13 x1_40 x2_41 M hf)
    refine k_iload_2 C 9 rfl 2 rfl ?_
    refine k_aload_0 C 10 rfl 0 rfl ?_
    refine kg12_20 C 11 rfl qX12_39 0 M_c0 M_f0_20 ?_
    refine k_iconst C 12 rfl ci_0 ?_
    refine k_iald C 13 rfl 10 M_c10 vi_0_137 tc_0 ?_
    refine k_icmp_ge C 14 rfl 47 (by decide) (fun hc => ?_) (fun hc => ?_)
    · replace hf := if_t hf hc
      refine k_iload_1 C 29 rfl 1 rfl ?_
      exact k_iret (wf := (fun u => (mw cy a u))) hR 30 rfl hf
    · replace hf := if_f hf hc
      refine k_iload_1 C 15 rfl 1 rfl ?_
      refine k_aload_0 C 16 rfl 0 rfl ?_
      refine k_iload_2 C 17 rfl 2 rfl ?_
      obtain ⟨r26, M_26, h5, hf⟩ := ob2_some hf
      refine k_callW C 18 (c_X12_voiceIn Z.2.1 D cy a M x2 r26 M_26 h5) rfl qX12_457 mvX12_voiceIn 0 12 M_c0 rfl rfl rfl (Nat.le_of_ble_eq_true rfl) ⟨Nat.le_of_ble_eq_true rfl, Nat.le_of_ble_eq_true rfl, Nat.le_refl 0, Nat.le_refl 0⟩ ?_
      refine k_if_lt C 19 rfl 38 (by decide) (fun hc => ?_) (fun hc => ?_)
      · replace hf := if_t hf hc
        refine k_iconst C 24 rfl ci_0 ?_
        exact k_sub [0, 2] rfl (hb39 x2 x1 0 M_26 hf)
      · replace hf := if_f hf hc
        refine k_iconst C 20 rfl ci_1 ?_
        refine k_iload_2 C 21 rfl 2 rfl ?_
        refine k_ishl C 22 rfl ?_
        refine k_goto C 23 rfl 39 (by decide) ?_
        exact k_sub [0, 2] rfl (hb39 x2 x1 ((1 : Int32) <<< (x2 &&& 31)) M_26 hf)
  have hb13 := flW3 hq13
  refine k_aload_0 C 0 rfl 0 rfl ?_
  obtain ⟨r1, h5, hf⟩ := ob1_some hf
  refine k_callW C 1 (c_X12_isLine Z.2.1 D cy a M r1 h5) rfl qX12_375 mvX12_isLine 0 12 M_c0 rfl rfl rfl (Nat.le_of_ble_eq_true rfl) ⟨Nat.le_of_ble_eq_true rfl, Nat.le_of_ble_eq_true rfl, Nat.le_refl 0, Nat.le_refl 0⟩ ?_
  refine k_if_ne C 2 rfl 9 (by decide) (fun hc => ?_) (fun hc => ?_)
  · replace hf := if_f hf hc
    refine k_iconst C 5 rfl ci_0 ?_
    refine k_istore_1 C 6 rfl (by decide) rfl ?_
    refine k_sub (lv2 := [(0, .ref (a 0)), (1, .int 0)]) [1, 0] rfl ?_
    refine k_iconst C 7 rfl ci_0 ?_
    refine k_istore_2 C 8 rfl (by decide) rfl ?_
    refine k_sub (lv2 := [(0, .ref (a 0)), (1, .int 0), (2, .int 0)]) [1, 2, 0] rfl ?_
    exact k_sub [0, 1, 2] rfl (hb13 FU 0 0 M hf)
  · replace hf := if_t hf hc
    refine k_iconst C 3 rfl ci_m1 ?_
    exact k_iret (wf := (fun u => (mw cy a u))) hR 4 rfl hf
set_option maxHeartbeats 1000000 in
set_option maxRecDepth 20000 in
theorem c_X12_wrongAsPut (l : Launch) (D : va_G) (cy : Nat → ClassId) (a : Nat → Nat) (M : Sg) (r : Int32) (hf : f_X12_wrongAsPut M = some r) : Ct l D cy yX12_wrongAsPut cX12_wrongAsPut 3 (some .int) 1 22 0 0 [.ref (a 0)] (mw cy a M) (some (.int r)) (mw cy a M) := by
  refine Ct_i tX12_wrongAsPut hX12_wrongAsPut (by decide) (Nat.le_of_ble_eq_true rfl) ?_
  intro Z hZ C hR
  subst hZ
  replace C : Cx Z D cy RX12 tX12_wrongAsPut 3 1 22 0 0 := C
  show Wk Z D 3 0 0 (mw cy a M) 0 [(0, .ref (a 0))] []
  unfold f_X12_wrongAsPut at hf
  have hq4 : ∀ (k4 : Int32 → Int32 → Option (Int32)), (∀ (x1 : Int32) (x2 : Int32), k4 x1 x2 = some r → Wk Z D 3 0 0 (mw cy a M) 4 [(0, .ref (a 0)), (1, .int x1), (2, .int x2)] []) → ∀ (x1 : Int32) (x2 : Int32), f_X12_wrongAsPut_b4 M k4 x1 x2 = some r → Wk Z D 3 0 0 (mw cy a M) 4 [(0, .ref (a 0)), (1, .int x1), (2, .int x2)] [] := by
    intro k4 hk4 x1 x2 hf
    unfold f_X12_wrongAsPut_b4 at hf
    have hb40 : ∀ (x2 : Int32) (s0 : Int32) (s1 : Int32), f_X12_wrongAsPut_b40 M k4 x2 s0 s1 = some r → Wk Z D 3 0 0 (mw cy a M) 40 [(0, .ref (a 0)), (2, .int x2)] [.int s1, .int s0] := by
      intro x2 s0 s1 hf
      unfold f_X12_wrongAsPut_b40 at hf
      refine k_iadd C 26 rfl ?_
      obtain ⟨x1_41, hx, hf⟩ := bnd_some hf
      refine k_topi hx ?_
      refine k_istore_1 C 27 rfl (by decide) rfl ?_
      refine k_sub (lv2 := [(0, .ref (a 0)), (1, .int x1_41), (2, .int x2)]) [1, 0, 2] rfl ?_
      obtain ⟨x2_42, hx, hf⟩ := bnd_some hf
      refine k_iinc C 28 rfl 2 rfl ((cn_1 _).trans hx) (by decide) rfl ?_
      refine k_sub (lv2 := [(0, .ref (a 0)), (1, .int x1_41), (2, .int x2_42)]) [1, 2, 0] rfl ?_
      refine k_goto C 29 rfl 4 (by decide) ?_
      exact k_sub [0, 1, 2] rfl (hk4 x1_41 x2_42 hf)
    refine k_iload_2 C 4 rfl 2 rfl ?_
    refine k_aload_0 C 5 rfl 0 rfl ?_
    refine kg12_20 C 6 rfl qX12_39 0 M_c0 M_f0_20 ?_
    refine k_iconst C 7 rfl ci_2 ?_
    refine k_iald C 8 rfl 10 M_c10 vi_2_137 tc_2 ?_
    refine k_icmp_ge C 9 rfl 48 (by decide) (fun hc => ?_) (fun hc => ?_)
    · replace hf := if_t hf hc
      refine k_iload_1 C 30 rfl 1 rfl ?_
      exact k_iretP hR 31 rfl hf
    · replace hf := if_f hf hc
      refine k_iload_1 C 10 rfl 1 rfl ?_
      refine k_aload_0 C 11 rfl 0 rfl ?_
      refine kg12_31 C 12 rfl qX12_64 0 M_c0 M_f0_31 ?_
      refine k_aload_0 C 13 rfl 0 rfl ?_
      refine k_iload_2 C 14 rfl 2 rfl ?_
      refine k_iconst C 15 rfl ci_0 ?_
      obtain ⟨r22, h5, hf⟩ := ob1_some hf
      refine k_callW C 16 (c_X12_riderOf Z.2.1 D cy a M x2 0 r22 h5) rfl qX12_312 mvX12_riderOf 0 12 M_c0 rfl rfl rfl (Nat.le_of_ble_eq_true rfl) ⟨Nat.le_of_ble_eq_true rfl, Nat.le_of_ble_eq_true rfl, Nat.le_refl 0, Nat.le_refl 0⟩ ?_
      obtain ⟨i25, hi, hin, hf⟩ := ixd_some hf
      refine k_iald C 17 rfl 18 M_c18 hin hi ?_
      refine k_aload_0 C 18 rfl 0 rfl ?_
      refine k_iload_2 C 19 rfl 2 rfl ?_
      refine k_iconst C 20 rfl ci_1 ?_
      obtain ⟨r29, h5, hf⟩ := ob1_some hf
      refine k_callW C 21 (c_X12_riderOf Z.2.1 D cy a M x2 1 r29 h5) rfl qX12_312 mvX12_riderOf 0 12 M_c0 rfl rfl rfl (Nat.le_of_ble_eq_true rfl) ⟨Nat.le_of_ble_eq_true rfl, Nat.le_of_ble_eq_true rfl, Nat.le_refl 0, Nat.le_refl 0⟩ ?_
      refine k_icmp_ne C 22 rfl 39 (by decide) (fun hc => ?_) (fun hc => ?_)
      · replace hf := if_f hf hc
        refine k_iconst C 25 rfl ci_1 ?_
        exact k_sub [0, 2] rfl (hb40 x2 x1 1 hf)
      · replace hf := if_t hf hc
        refine k_iconst C 23 rfl ci_0 ?_
        refine k_goto C 24 rfl 40 (by decide) ?_
        exact k_sub [0, 2] rfl (hb40 x2 x1 0 hf)
  have hb4 := flW2 hq4
  refine k_iconst C 0 rfl ci_0 ?_
  refine k_istore_1 C 1 rfl (by decide) rfl ?_
  refine k_sub (lv2 := [(0, .ref (a 0)), (1, .int 0)]) [1, 0] rfl ?_
  refine k_iconst C 2 rfl ci_0 ?_
  refine k_istore_2 C 3 rfl (by decide) rfl ?_
  refine k_sub (lv2 := [(0, .ref (a 0)), (1, .int 0), (2, .int 0)]) [1, 2, 0] rfl ?_
  exact k_sub [0, 1, 2] rfl (hb4 FU 0 0 hf)
set_option maxHeartbeats 1000000 in
set_option maxRecDepth 20000 in
theorem c_X12_isOrder (l : Launch) (D : va_G) (cy : Nat → ClassId) (a : Nat → Nat) (M : Sg) (p1 : Int32) (r : Bool) (M1 : Sg) (hf : f_X12_isOrder M p1 = some (r, M1)) : Ct l D cy yX12_isOrder cX12_isOrder 7 (some .boolean) 1 21 0 0 [.ref (a 0), .int p1] (mw cy a M) (some (.int (bI r))) (mw cy a M1) := by
  refine Ct_z tX12_isOrder hX12_isOrder (by decide) (Nat.le_of_ble_eq_true rfl) ?_
  intro Z hZ C hR
  subst hZ
  replace C : Cx Z D cy RX12 tX12_isOrder 7 1 21 0 0 := C
  show Wk Z D 7 0 0 (mw cy a M) 0 [(0, .ref (a 0)), (1, .int p1)] []
  unfold f_X12_isOrder at hf
  have hq8 : ∀ (k8 : Int32 → Int32 → Int32 → Sg → Option (Bool × Sg)), (∀ (x2 : Int32) (x3 : Int32) (x4 : Int32) (M : Sg), k8 x2 x3 x4 M = some (r, M1) → Wk Z D 7 0 0 (mw cy a M) 8 [(0, .ref (a 0)), (1, .int p1), (2, .int x2), (3, .int x3), (4, .int x4)] []) → ∀ (x2 : Int32) (x3 : Int32) (x4 : Int32) (M : Sg), f_X12_isOrder_b8 p1 k8 x2 x3 x4 M = some (r, M1) → Wk Z D 7 0 0 (mw cy a M) 8 [(0, .ref (a 0)), (1, .int p1), (2, .int x2), (3, .int x3), (4, .int x4)] [] := by
    intro k8 hk8 x2 x3 x4 M hf
    unfold f_X12_isOrder_b8 at hf
    have hq42 : ∀ (k42 : Int32 → Int32 → Int32 → Int32 → Int32 → Sg → Option (Bool × Sg)), (∀ (x2 : Int32) (x3 : Int32) (x4 : Int32) (x5 : Int32) (x6 : Int32) (M : Sg), k42 x2 x3 x4 x5 x6 M = some (r, M1) → Wk Z D 7 0 0 (mw cy a M) 42 [(0, .ref (a 0)), (1, .int p1), (2, .int x2), (3, .int x3), (4, .int x4), (5, .int x5), (6, .int x6)] []) → ∀ (x2 : Int32) (x3 : Int32) (x4 : Int32) (x5 : Int32) (x6 : Int32) (M : Sg), f_X12_isOrder_b42 p1 k8 k42 x2 x3 x4 x5 x6 M = some (r, M1) → Wk Z D 7 0 0 (mw cy a M) 42 [(0, .ref (a 0)), (1, .int p1), (2, .int x2), (3, .int x3), (4, .int x4), (5, .int x5), (6, .int x6)] [] := by
      intro k42 hk42 x2 x3 x4 x5 x6 M hf
      unfold f_X12_isOrder_b42 at hf
      refine k_iload C 28 rfl 6 rfl ?_
      refine k_aload_0 C 29 rfl 0 rfl ?_
      refine kg12_30 C 30 rfl qX12_61 0 M_c0 M_f0_30 ?_
      refine k_iload C 31 rfl 5 rfl ?_
      obtain ⟨i50, hi, hin, hf⟩ := ixd_some hf
      refine k_iald C 32 rfl 17 M_c17 hin hi ?_
      refine k_icmp_ge C 33 rfl 71 (by decide) (fun hc => ?_) (fun hc => ?_)
      · replace hf := if_t hf hc
        obtain ⟨x4_71, hx, hf⟩ := bnd_some hf
        refine k_iinc C 42 rfl 4 rfl ((cn_m2 _).trans hx) (by decide) rfl ?_
        refine k_sub (lv2 := [(0, .ref (a 0)), (1, .int p1), (2, .int x2), (3, .int x3), (4, .int x4_71), (5, .int x5), (6, .int x6)]) [1, 2, 3, 4, 0, 5, 6] rfl ?_
        refine k_goto C 43 rfl 8 (by decide) ?_
        exact k_sub [0, 1, 2, 3, 4] rfl (hk8 x2 x3 x4_71 M hf)
      · replace hf := if_f hf hc
        refine k_aload_0 C 34 rfl 0 rfl ?_
        refine kg12_31 C 35 rfl qX12_64 0 M_c0 M_f0_31 ?_
        refine k_iload_3 C 36 rfl 3 rfl ?_
        refine k_iload C 37 rfl 5 rfl ?_
        obtain ⟨i61, hi, hin, hf⟩ := ixd_some hf
        obtain ⟨M_61, hM, hf⟩ := bnd_some hf
        refine k_iast (w2 := (mw cy a M_61)) C 38 rfl 18 M_c18 hin hi (M_s18.trans (congrArg (fun z => (mw cy a z)) hM)) ?_
        obtain ⟨x3_62, hx, hf⟩ := bnd_some hf
        refine k_iinc C 39 rfl 3 rfl ((cn_1 _).trans hx) (by decide) rfl ?_
        refine k_sub (lv2 := [(0, .ref (a 0)), (1, .int p1), (2, .int x2), (3, .int x3_62), (4, .int x4), (5, .int x5), (6, .int x6)]) [1, 2, 3, 0, 4, 5, 6] rfl ?_
        obtain ⟨x6_65, hx, hf⟩ := bnd_some hf
        refine k_iinc C 40 rfl 6 rfl ((cn_1 _).trans hx) (by decide) rfl ?_
        refine k_sub (lv2 := [(0, .ref (a 0)), (1, .int p1), (2, .int x2), (3, .int x3_62), (4, .int x4), (5, .int x5), (6, .int x6_65)]) [1, 2, 3, 4, 5, 6, 0] rfl ?_
        refine k_goto C 41 rfl 42 (by decide) ?_
        exact k_sub [0, 1, 2, 3, 4, 5, 6] rfl (hk42 x2 x3_62 x4 x5 x6_65 M_61 hf)
    have hb42 := flW6 hq42
    refine k_iload C 6 rfl 4 rfl ?_
    refine k_if_lt C 7 rfl 77 (by decide) (fun hc => ?_) (fun hc => ?_)
    · replace hf := if_t hf hc
      refine k_iconst C 44 rfl ci_1 ?_
      exact k_zret (wf := (fun u => (mw cy a u))) hR 45 rfl hf
    · replace hf := if_f hf hc
      refine k_iload_1 C 8 rfl 1 rfl ?_
      refine k_iload C 9 rfl 4 rfl ?_
      refine k_ishr C 10 rfl ?_
      refine k_iconst C 11 rfl ci_3 ?_
      refine k_iand C 12 rfl ?_
      obtain ⟨x5_19, hx, hf⟩ := bnd_some hf
      refine k_topi hx ?_
      refine k_istore C 13 rfl (by decide) rfl ?_
      refine k_sub (lv2 := [(0, .ref (a 0)), (1, .int p1), (2, .int x2), (3, .int x3), (4, .int x4), (5, .int x5_19)]) [1, 2, 3, 4, 5, 0] rfl ?_
      refine k_iload_2 C 14 rfl 2 rfl ?_
      refine k_iload C 15 rfl 5 rfl ?_
      obtain ⟨r24, h5, hf⟩ := ob1_some hf
      refine k_callE C 16 (c_X12_isOf Z.2.1 D cy x2 x5_19 r24 h5) rfl qX12_324 msX12_isOf rfl rfl (Nat.le_of_ble_eq_true rfl) ⟨Nat.le_of_ble_eq_true rfl, Nat.le_of_ble_eq_true rfl, Nat.le_refl 0, Nat.le_refl 0⟩ ?_
      refine k_if_eq C 17 rfl 32 (by decide) (fun hc => ?_) (fun hc => ?_)
      · replace hf := if_t hf hc
        refine k_iload_2 C 20 rfl 2 rfl ?_
        refine k_iconst C 21 rfl ci_1 ?_
        refine k_iload C 22 rfl 5 rfl ?_
        refine k_ishl C 23 rfl ?_
        refine k_ior C 24 rfl ?_
        obtain ⟨x2_38, hx, hf⟩ := bnd_some hf
        refine k_topi hx ?_
        refine k_istore_2 C 25 rfl (by decide) rfl ?_
        refine k_sub (lv2 := [(0, .ref (a 0)), (1, .int p1), (2, .int x2_38), (3, .int x3), (4, .int x4), (5, .int x5_19)]) [1, 2, 0, 3, 4, 5] rfl ?_
        refine k_iconst C 26 rfl ci_0 ?_
        refine k_istore C 27 rfl (by decide) rfl ?_
        refine k_sub (lv2 := [(0, .ref (a 0)), (1, .int p1), (2, .int x2_38), (3, .int x3), (4, .int x4), (5, .int x5_19), (6, .int 0)]) [1, 2, 3, 4, 5, 6, 0] rfl ?_
        exact k_sub [0, 1, 2, 3, 4, 5, 6] rfl (hb42 FU x2_38 x3 x4 x5_19 0 M hf)
      · replace hf := if_f hf hc
        refine k_iconst C 18 rfl ci_0 ?_
        exact k_zret (wf := (fun u => (mw cy a u))) hR 19 rfl hf
  have hb8 := flW4 hq8
  refine k_iconst C 0 rfl ci_0 ?_
  refine k_istore_2 C 1 rfl (by decide) rfl ?_
  refine k_sub (lv2 := [(0, .ref (a 0)), (1, .int p1), (2, .int 0)]) [1, 2, 0] rfl ?_
  refine k_iconst C 2 rfl ci_0 ?_
  refine k_istore_3 C 3 rfl (by decide) rfl ?_
  refine k_sub (lv2 := [(0, .ref (a 0)), (1, .int p1), (2, .int 0), (3, .int 0)]) [1, 2, 3, 0] rfl ?_
  refine k_bipush C 4 rfl cb_6 ?_
  refine k_istore C 5 rfl (by decide) rfl ?_
  refine k_sub (lv2 := [(0, .ref (a 0)), (1, .int p1), (2, .int 0), (3, .int 0), (4, .int 6)]) [1, 2, 3, 4, 0] rfl ?_
  exact k_sub [0, 1, 2, 3, 4] rfl (hb8 FU 0 0 6 M hf)
set_option maxHeartbeats 1000000 in
set_option maxRecDepth 20000 in
theorem c_X12_isFirstPut (l : Launch) (D : va_G) (cy : Nat → ClassId) (a : Nat → Nat) (M : Sg) (r : Bool) (hf : f_X12_isFirstPut M = some r) : Ct l D cy yX12_isFirstPut cX12_isFirstPut 2 (some .boolean) 0 0 0 0 [.ref (a 0)] (mw cy a M) (some (.int (bI r))) (mw cy a M) := by
  refine Ct_z tX12_isFirstPut hX12_isFirstPut (by decide) (Nat.le_of_ble_eq_true rfl) ?_
  intro Z hZ C hR
  subst hZ
  replace C : Cx Z D cy RX12 tX12_isFirstPut 2 0 0 0 0 := C
  show Wk Z D 2 0 0 (mw cy a M) 0 [(0, .ref (a 0))] []
  unfold f_X12_isFirstPut at hf
  have hq2 : ∀ (k2 : Int32 → Option (Bool)), (∀ (x1 : Int32), k2 x1 = some r → Wk Z D 2 0 0 (mw cy a M) 2 [(0, .ref (a 0)), (1, .int x1)] []) → ∀ (x1 : Int32), f_X12_isFirstPut_b2 M k2 x1 = some r → Wk Z D 2 0 0 (mw cy a M) 2 [(0, .ref (a 0)), (1, .int x1)] [] := by
    intro k2 hk2 x1 hf
    unfold f_X12_isFirstPut_b2 at hf
    refine k_iload_1 C 2 rfl 1 rfl ?_
    refine k_aload_0 C 3 rfl 0 rfl ?_
    refine kg12_20 C 4 rfl qX12_39 0 M_c0 M_f0_20 ?_
    refine k_iconst C 5 rfl ci_0 ?_
    refine k_iald C 6 rfl 10 M_c10 vi_0_137 tc_0 ?_
    refine k_icmp_ge C 7 rfl 54 (by decide) (fun hc => ?_) (fun hc => ?_)
    · replace hf := if_t hf hc
      refine k_iconst C 32 rfl ci_0 ?_
      exact k_zretP hR 33 rfl hf
    · replace hf := if_f hf hc
      refine k_aload_0 C 8 rfl 0 rfl ?_
      refine kg12_31 C 9 rfl qX12_64 0 M_c0 M_f0_31 ?_
      refine k_iload_1 C 10 rfl 1 rfl ?_
      obtain ⟨i17, hi, hin, hf⟩ := ixd_some hf
      refine k_iald C 11 rfl 18 M_c18 hin hi ?_
      refine k_aload_0 C 12 rfl 0 rfl ?_
      refine kg12_32 C 13 rfl qX12_67 0 M_c0 M_f0_32 ?_
      refine k_iload_1 C 14 rfl 1 rfl ?_
      obtain ⟨i23, hi, hin, hf⟩ := ixd_some hf
      refine k_iald C 15 rfl 19 M_c19 hin hi ?_
      refine k_icmp_eq C 16 rfl 48 (by decide) (fun hc => ?_) (fun hc => ?_)
      · replace hf := if_t hf hc
        obtain ⟨x1_48, hx, hf⟩ := bnd_some hf
        refine k_iinc C 30 rfl 1 rfl ((cn_1 _).trans hx) (by decide) rfl ?_
        refine k_sub (lv2 := [(0, .ref (a 0)), (1, .int x1_48)]) [1, 0] rfl ?_
        refine k_goto C 31 rfl 2 (by decide) ?_
        exact k_sub [0, 1] rfl (hk2 x1_48 hf)
      · replace hf := if_f hf hc
        refine k_aload_0 C 17 rfl 0 rfl ?_
        refine kg12_31 C 18 rfl qX12_64 0 M_c0 M_f0_31 ?_
        refine k_iload_1 C 19 rfl 1 rfl ?_
        obtain ⟨i32, hi, hin, hf⟩ := ixd_some hf
        refine k_iald C 20 rfl 18 M_c18 hin hi ?_
        refine k_aload_0 C 21 rfl 0 rfl ?_
        refine kg12_32 C 22 rfl qX12_67 0 M_c0 M_f0_32 ?_
        refine k_iload_1 C 23 rfl 1 rfl ?_
        obtain ⟨i38, hi, hin, hf⟩ := ixd_some hf
        refine k_iald C 24 rfl 19 M_c19 hin hi ?_
        refine k_icmp_ge C 25 rfl 46 (by decide) (fun hc => ?_) (fun hc => ?_)
        · replace hf := if_t hf hc
          refine k_iconst C 28 rfl ci_0 ?_
          exact k_zretP hR 29 rfl hf
        · replace hf := if_f hf hc
          refine k_iconst C 26 rfl ci_1 ?_
          refine k_goto C 27 rfl 47 (by decide) ?_
          exact k_zretP hR 29 rfl hf
  have hb2 := flW1 hq2
  refine k_iconst C 0 rfl ci_0 ?_
  refine k_istore_1 C 1 rfl (by decide) rfl ?_
  refine k_sub (lv2 := [(0, .ref (a 0)), (1, .int 0)]) [1, 0] rfl ?_
  exact k_sub [0, 1] rfl (hb2 FU 0 hf)
set_option maxHeartbeats 1000000 in
set_option maxRecDepth 20000 in
theorem c_X12_put (l : Launch) (D : va_G) (cy : Nat → ClassId) (a : Nat → Nat) (M : Sg) (p1 : Int32) (r : Int32) (M1 : Sg) (hf : f_X12_put M p1 = some (r, M1)) : Ct l D cy yX12_put cX12_put 6 (some .int) 2 47 0 0 [.ref (a 0), .int p1] (mw cy a M) (some (.int r)) (mw cy a M1) := by
  refine Ct_i tX12_put hX12_put (by decide) (Nat.le_of_ble_eq_true rfl) ?_
  intro Z hZ C hR
  subst hZ
  replace C : Cx Z D cy RX12 tX12_put 6 2 47 0 0 := C
  show Wk Z D 6 0 0 (mw cy a M) 0 [(0, .ref (a 0)), (1, .int p1)] []
  unfold f_X12_put at hf
  have hq90 : ∀ (k90 : Int32 → Int32 → Sg → Option (Int32 × Sg)), (∀ (x2 : Int32) (x3 : Int32) (M : Sg), k90 x2 x3 M = some (r, M1) → Wk Z D 6 0 0 (mw cy a M) 90 [(0, .ref (a 0)), (1, .int p1), (2, .int x2), (3, .int x3)] []) → ∀ (x2 : Int32) (x3 : Int32) (M : Sg), f_X12_put_b90 p1 k90 x2 x3 M = some (r, M1) → Wk Z D 6 0 0 (mw cy a M) 90 [(0, .ref (a 0)), (1, .int p1), (2, .int x2), (3, .int x3)] [] := by
    intro k90 hk90 x2 x3 M hf
    unfold f_X12_put_b90 at hf
    have hb177 : ∀ (x2 : Int32) (x3 : Int32) (M : Sg), f_X12_put_b177 p1 k90 x2 x3 M = some (r, M1) → Wk Z D 6 0 0 (mw cy a M) 177 [(0, .ref (a 0)), (1, .int p1), (2, .int x2), (3, .int x3)] [] := by
      intro x2 x3 M hf
      unfold f_X12_put_b177 at hf
      obtain ⟨x3_177, hx, hf⟩ := bnd_some hf
      refine k_iinc C 99 rfl 3 rfl ((cn_1 _).trans hx) (by decide) rfl ?_
      refine k_sub (lv2 := [(0, .ref (a 0)), (1, .int p1), (2, .int x2), (3, .int x3_177)]) [1, 2, 3, 0] rfl ?_
      refine k_goto C 100 rfl 90 (by decide) ?_
      exact k_sub [0, 1, 2, 3] rfl (hk90 x2 x3_177 M hf)
    have hq146 : ∀ (k146 : Int32 → Int32 → Int32 → Sg → Option (Int32 × Sg)), (∀ (x2 : Int32) (x3 : Int32) (x5 : Int32) (M : Sg), k146 x2 x3 x5 M = some (r, M1) → Wk Z D 6 0 0 (mw cy a M) 146 [(0, .ref (a 0)), (1, .int p1), (2, .int x2), (3, .int x3), (5, .int x5)] []) → ∀ (x2 : Int32) (x3 : Int32) (x5 : Int32) (M : Sg), f_X12_put_b146 p1 k90 k146 x2 x3 x5 M = some (r, M1) → Wk Z D 6 0 0 (mw cy a M) 146 [(0, .ref (a 0)), (1, .int p1), (2, .int x2), (3, .int x3), (5, .int x5)] [] := by
      intro k146 hk146 x2 x3 x5 M hf
      unfold f_X12_put_b146 at hf
      refine k_iload C 83 rfl 4 rfl ?_
      refine k_aload_0 C 84 rfl 0 rfl ?_
      refine kg12_20 C 85 rfl qX12_39 0 M_c0 M_f0_20 ?_
      refine k_iconst C 86 rfl ci_0 ?_
      refine k_iald C 87 rfl 10 M_c10 vi_0_137 tc_0 ?_
      refine k_icmp_ge C 88 rfl 177 (by decide) (fun hc => ?_) (fun hc => ?_)
      · replace hf := if_t hf hc
        exact k_sub [0, 1, 2, 3] rfl (hb177 x2 x3 M hf)
      · replace hf := if_f hf hc
        refine k_aload_0 C 89 rfl 0 rfl ?_
        refine kg12_32 C 90 rfl qX12_67 0 M_c0 M_f0_32 ?_
        refine k_iload C 91 rfl 4 rfl ?_
        refine k_aload_0 C 92 rfl 0 rfl ?_
        refine kg12_31 C 93 rfl qX12_64 0 M_c0 M_f0_31 ?_
        refine k_iload C 94 rfl 4 rfl ?_
        obtain ⟨i169, hi, hin, hf⟩ := ixd_some hf
        refine k_iald C 95 rfl 18 M_c18 hin hi ?_
        obtain ⟨i170, hi, hin, hf⟩ := ixd_some hf
        obtain ⟨M_170, hM, hf⟩ := bnd_some hf
        refine k_iast (w2 := (mw cy a M_170)) C 96 rfl 19 M_c19 hin hi (M_s19.trans (congrArg (fun z => (mw cy a z)) hM)) ?_
        obtain ⟨x5_171, hx, hf⟩ := bnd_some hf
        refine k_iinc C 97 rfl 4 rfl ((cn_1 _).trans hx) (by decide) rfl ?_
        refine k_sub (lv2 := [(0, .ref (a 0)), (1, .int p1), (2, .int x2), (3, .int x3), (5, .int x5_171)]) [1, 2, 3, 4, 0] rfl ?_
        refine k_goto C 98 rfl 146 (by decide) ?_
        exact k_sub [0, 1, 2, 3, 4] rfl (hk146 x2 x3 x5_171 M_170 hf)
    have hb146 := flW4 hq146
    have hb140 : ∀ (x3 : Int32) (x4 : Int32) (M : Sg), f_X12_put_b140 p1 k90 x3 x4 M = some (r, M1) → Wk Z D 6 0 0 (mw cy a M) 140 [(0, .ref (a 0)), (1, .int p1), (3, .int x3), (4, .int x4)] [] := by
      intro x3 x4 M hf
      unfold f_X12_put_b140 at hf
      refine k_iload C 79 rfl 3 rfl ?_
      refine k_istore_2 C 80 rfl (by decide) rfl ?_
      refine k_sub (lv2 := [(0, .ref (a 0)), (1, .int p1), (2, .int x4), (3, .int x3), (4, .int x4)]) [1, 2, 0, 3, 4] rfl ?_
      refine k_iconst C 81 rfl ci_0 ?_
      refine k_istore C 82 rfl (by decide) rfl ?_
      refine k_sub (lv2 := [(0, .ref (a 0)), (1, .int p1), (2, .int x4), (3, .int x3), (4, .int x4), (5, .int 0)]) [1, 2, 3, 4, 5, 0] rfl ?_
      exact k_sub [0, 1, 2, 3, 5] rfl (hb146 FU x4 x3 0 M hf)
    refine k_iload_3 C 56 rfl 3 rfl ?_
    refine k_sipush C 57 rfl cs_256 ?_
    refine k_icmp_ge C 58 rfl 183 (by decide) (fun hc => ?_) (fun hc => ?_)
    · replace hf := if_t hf hc
      refine k_iload_1 C 101 rfl 1 rfl ?_
      refine k_iconst C 102 rfl ci_m1 ?_
      refine k_icmp_ne C 103 rfl 192 (by decide) (fun hc => ?_) (fun hc => ?_)
      · replace hf := if_f hf hc
        refine k_aload_0 C 106 rfl 0 rfl ?_
        refine kg12_32 C 107 rfl qX12_67 0 M_c0 M_f0_32 ?_
        refine k_iload_1 C 108 rfl 1 rfl ?_
        obtain ⟨i197, hi, hin, hf⟩ := ixd_some hf
        refine k_iald C 109 rfl 19 M_c19 hin hi ?_
        exact k_iret (wf := (fun u => (mw cy a u))) hR 110 rfl hf
      · replace hf := if_t hf hc
        refine k_iload_2 C 104 rfl 2 rfl ?_
        refine k_goto C 105 rfl 198 (by decide) ?_
        exact k_iret (wf := (fun u => (mw cy a u))) hR 110 rfl hf
    · replace hf := if_f hf hc
      refine k_aload_0 C 59 rfl 0 rfl ?_
      refine k_iload_3 C 60 rfl 3 rfl ?_
      obtain ⟨r99, M_99, h5, hf⟩ := ob2_some hf
      refine k_callW C 61 (c_X12_isOrder Z.2.1 D cy a M x3 r99 M_99 h5) rfl qX12_462 mvX12_isOrder 0 12 M_c0 rfl rfl rfl (Nat.le_of_ble_eq_true rfl) ⟨Nat.le_of_ble_eq_true rfl, Nat.le_of_ble_eq_true rfl, Nat.le_refl 0, Nat.le_refl 0⟩ ?_
      refine k_if_ne C 62 rfl 108 (by decide) (fun hc => ?_) (fun hc => ?_)
      · replace hf := if_f hf hc
        refine k_aload_0 C 64 rfl 0 rfl ?_
        obtain ⟨r109, h5, hf⟩ := ob1_some hf
        refine k_callW C 65 (c_X12_wrongAsPut Z.2.1 D cy a M_99 r109 h5) rfl qX12_465 mvX12_wrongAsPut 0 12 M_c0 rfl rfl rfl (Nat.le_of_ble_eq_true rfl) ⟨Nat.le_of_ble_eq_true rfl, Nat.le_of_ble_eq_true rfl, Nat.le_refl 0, Nat.le_refl 0⟩ ?_
        refine k_istore C 66 rfl (by decide) rfl ?_
        refine k_sub (lv2 := [(0, .ref (a 0)), (1, .int p1), (2, .int x2), (3, .int x3), (4, .int r109)]) [1, 2, 3, 4, 0] rfl ?_
        refine k_iload_2 C 67 rfl 2 rfl ?_
        refine k_if_lt C 68 rfl 140 (by decide) (fun hc => ?_) (fun hc => ?_)
        · replace hf := if_t hf hc
          exact k_sub [0, 1, 3, 4] rfl (hb140 x3 r109 M_99 hf)
        · replace hf := if_f hf hc
          refine k_iload C 69 rfl 4 rfl ?_
          refine k_iload_2 C 70 rfl 2 rfl ?_
          refine k_icmp_gt C 71 rfl 177 (by decide) (fun hc => ?_) (fun hc => ?_)
          · replace hf := if_t hf hc
            exact k_sub [0, 1, 2, 3] rfl (hb177 x2 x3 M_99 hf)
          · replace hf := if_f hf hc
            refine k_iload C 72 rfl 4 rfl ?_
            refine k_iload_2 C 73 rfl 2 rfl ?_
            refine k_icmp_ne C 74 rfl 140 (by decide) (fun hc => ?_) (fun hc => ?_)
            · replace hf := if_f hf hc
              exact k_sub [0, 1, 3, 4] rfl (hb140 x3 r109 M_99 hf)
            · replace hf := if_t hf hc
              refine k_aload_0 C 75 rfl 0 rfl ?_
              obtain ⟨r131, h5, hf⟩ := ob1_some hf
              refine k_callW C 76 (c_X12_isFirstPut Z.2.1 D cy a M_99 r131 h5) rfl qX12_468 mvX12_isFirstPut 0 12 M_c0 rfl rfl rfl (Nat.le_of_ble_eq_true rfl) ⟨Nat.le_of_ble_eq_true rfl, Nat.le_of_ble_eq_true rfl, Nat.le_refl 0, Nat.le_refl 0⟩ ?_
              refine k_if_ne C 77 rfl 140 (by decide) (fun hc => ?_) (fun hc => ?_)
              · replace hf := if_f hf hc
                exact k_sub [0, 1, 3, 4] rfl (hb140 x3 r109 M_99 hf)
              · replace hf := if_t hf hc
                refine k_goto C 78 rfl 177 (by decide) ?_
                exact k_sub [0, 1, 2, 3] rfl (hb177 x2 x3 M_99 hf)
      · replace hf := if_t hf hc
        refine k_goto C 63 rfl 177 (by decide) ?_
        exact k_sub [0, 1, 2, 3] rfl (hb177 x2 x3 M_99 hf)
  have hb90 := flW3 hq90
  have hq52 : ∀ (k52 : Int32 → Sg → Option (Int32 × Sg)), (∀ (x2 : Int32) (M : Sg), k52 x2 M = some (r, M1) → Wk Z D 6 0 0 (mw cy a M) 52 [(0, .ref (a 0)), (1, .int p1), (2, .int x2)] []) → ∀ (x2 : Int32) (M : Sg), f_X12_put_b52 p1 k52 x2 M = some (r, M1) → Wk Z D 6 0 0 (mw cy a M) 52 [(0, .ref (a 0)), (1, .int p1), (2, .int x2)] [] := by
    intro k52 hk52 x2 M hf
    unfold f_X12_put_b52 at hf
    refine k_iload_2 C 31 rfl 2 rfl ?_
    refine k_aload_0 C 32 rfl 0 rfl ?_
    refine kg12_20 C 33 rfl qX12_39 0 M_c0 M_f0_20 ?_
    refine k_iconst C 34 rfl ci_0 ?_
    refine k_iald C 35 rfl 10 M_c10 vi_0_137 tc_0 ?_
    refine k_icmp_ge C 36 rfl 86 (by decide) (fun hc => ?_) (fun hc => ?_)
    · replace hf := if_t hf hc
      refine k_iconst C 52 rfl ci_m1 ?_
      refine k_istore_2 C 53 rfl (by decide) rfl ?_
      refine k_sub (lv2 := [(0, .ref (a 0)), (1, .int p1), (2, .int (-1))]) [1, 2, 0] rfl ?_
      refine k_iconst C 54 rfl ci_0 ?_
      refine k_istore_3 C 55 rfl (by decide) rfl ?_
      refine k_sub (lv2 := [(0, .ref (a 0)), (1, .int p1), (2, .int (-1)), (3, .int 0)]) [1, 2, 3, 0] rfl ?_
      exact k_sub [0, 1, 2, 3] rfl (hb90 FU (-1) 0 M hf)
    · replace hf := if_f hf hc
      refine k_aload_0 C 37 rfl 0 rfl ?_
      refine kg12_30 C 38 rfl qX12_61 0 M_c0 M_f0_30 ?_
      refine k_aload_0 C 39 rfl 0 rfl ?_
      refine kg12_20 C 40 rfl qX12_39 0 M_c0 M_f0_20 ?_
      refine k_bipush C 41 rfl cb_10 ?_
      refine k_iload_2 C 42 rfl 2 rfl ?_
      refine k_iadd C 43 rfl ?_
      obtain ⟨i74, hi, hin, hf⟩ := ixd_some hf
      refine k_iald C 44 rfl 10 M_c10 hin hi ?_
      refine k_dup2 C 45 rfl rfl rfl ?_
      obtain ⟨i76, hi, hin, hf⟩ := ixd_some hf
      refine k_iald C 46 rfl 17 M_c17 hin hi ?_
      refine k_iconst C 47 rfl ci_1 ?_
      refine k_iadd C 48 rfl ?_
      obtain ⟨i79, hi, hin, hf⟩ := ixd_some hf
      obtain ⟨M_79, hM, hf⟩ := bnd_some hf
      refine k_iast (w2 := (mw cy a M_79)) C 49 rfl 17 M_c17 hin hi (M_s17.trans (congrArg (fun z => (mw cy a z)) hM)) ?_
      obtain ⟨x2_80, hx, hf⟩ := bnd_some hf
      refine k_iinc C 50 rfl 2 rfl ((cn_1 _).trans hx) (by decide) rfl ?_
      refine k_sub (lv2 := [(0, .ref (a 0)), (1, .int p1), (2, .int x2_80)]) [1, 2, 0] rfl ?_
      refine k_goto C 51 rfl 52 (by decide) ?_
      exact k_sub [0, 1, 2] rfl (hk52 x2_80 M_79 hf)
  have hb52 := flW2 hq52
  have hq32 : ∀ (k32 : Int32 → Sg → Option (Int32 × Sg)), (∀ (x2 : Int32) (M : Sg), k32 x2 M = some (r, M1) → Wk Z D 6 0 0 (mw cy a M) 32 [(0, .ref (a 0)), (1, .int p1), (2, .int x2)] []) → ∀ (x2 : Int32) (M : Sg), f_X12_put_b32 p1 k32 x2 M = some (r, M1) → Wk Z D 6 0 0 (mw cy a M) 32 [(0, .ref (a 0)), (1, .int p1), (2, .int x2)] [] := by
    intro k32 hk32 x2 M hf
    unfold f_X12_put_b32 at hf
    refine k_iload_2 C 19 rfl 2 rfl ?_
    refine k_iconst C 20 rfl ci_4 ?_
    refine k_icmp_ge C 21 rfl 50 (by decide) (fun hc => ?_) (fun hc => ?_)
    · replace hf := if_t hf hc
      refine k_iconst C 29 rfl ci_0 ?_
      refine k_istore_2 C 30 rfl (by decide) rfl ?_
      refine k_sub (lv2 := [(0, .ref (a 0)), (1, .int p1), (2, .int 0)]) [1, 2, 0] rfl ?_
      exact k_sub [0, 1, 2] rfl (hb52 FU 0 M hf)
    · replace hf := if_f hf hc
      refine k_aload_0 C 22 rfl 0 rfl ?_
      refine kg12_30 C 23 rfl qX12_61 0 M_c0 M_f0_30 ?_
      refine k_iload_2 C 24 rfl 2 rfl ?_
      refine k_iconst C 25 rfl ci_0 ?_
      obtain ⟨i43, hi, hin, hf⟩ := ixd_some hf
      obtain ⟨M_43, hM, hf⟩ := bnd_some hf
      refine k_iast (w2 := (mw cy a M_43)) C 26 rfl 17 M_c17 hin hi (M_s17.trans (congrArg (fun z => (mw cy a z)) hM)) ?_
      obtain ⟨x2_44, hx, hf⟩ := bnd_some hf
      refine k_iinc C 27 rfl 2 rfl ((cn_1 _).trans hx) (by decide) rfl ?_
      refine k_sub (lv2 := [(0, .ref (a 0)), (1, .int p1), (2, .int x2_44)]) [1, 2, 0] rfl ?_
      refine k_goto C 28 rfl 32 (by decide) ?_
      exact k_sub [0, 1, 2] rfl (hk32 x2_44 M_43 hf)
  have hb32 := flW2 hq32
  have hb27 : ∀ (M : Sg), f_X12_put_b27 p1 M = some (r, M1) → Wk Z D 6 0 0 (mw cy a M) 27 [] [] := by
    intro M hf
    unfold f_X12_put_b27 at hf
    refine k_bipush C 15 rfl cb_m2 ?_
    exact k_iret (wf := (fun u => (mw cy a u))) hR 16 rfl hf
  refine k_aload_0 C 0 rfl 0 rfl ?_
  obtain ⟨r1, h5, hf⟩ := ob1_some hf
  refine k_callW C 1 (c_X12_isLine Z.2.1 D cy a M r1 h5) rfl qX12_375 mvX12_isLine 0 12 M_c0 rfl rfl rfl (Nat.le_of_ble_eq_true rfl) ⟨Nat.le_of_ble_eq_true rfl, Nat.le_of_ble_eq_true rfl, Nat.le_refl 0, Nat.le_refl 0⟩ ?_
  refine k_if_eq C 2 rfl 27 (by decide) (fun hc => ?_) (fun hc => ?_)
  · replace hf := if_t hf hc
    exact k_sub [] rfl (hb27 M hf)
  · replace hf := if_f hf hc
    refine k_iload_1 C 3 rfl 1 rfl ?_
    refine k_i2l C 4 rfl ?_
    refine k_ldc2 C 5 rfl qX12_460 ?_
    refine k_aload_0 C 6 rfl 0 rfl ?_
    refine kg12_20 C 7 rfl qX12_39 0 M_c0 M_f0_20 ?_
    refine k_iconst C 8 rfl ci_0 ?_
    refine k_iald C 9 rfl 10 M_c10 vi_0_137 tc_0 ?_
    refine k_iconst C 10 rfl ci_1 ?_
    refine k_isub C 11 rfl ?_
    refine k_i2l C 12 rfl ?_
    obtain ⟨r21, h5, hf⟩ := ob1_some hf
    refine k_callE C 13 (c_X12_in Z.2.1 D cy p1.toInt64 (-1 : Int64) (((M.2.1 20 0) - 1).toInt64) r21 h5) rfl qX12_124 msX12_in rfl rfl (Nat.le_of_ble_eq_true rfl) ⟨Nat.le_of_ble_eq_true rfl, Nat.le_of_ble_eq_true rfl, Nat.le_refl 0, Nat.le_refl 0⟩ ?_
    refine k_if_ne C 14 rfl 30 (by decide) (fun hc => ?_) (fun hc => ?_)
    · replace hf := if_f hf hc
      refine k_iconst C 17 rfl ci_0 ?_
      refine k_istore_2 C 18 rfl (by decide) rfl ?_
      refine k_sub (lv2 := [(0, .ref (a 0)), (1, .int p1), (2, .int 0)]) [1, 2, 0] rfl ?_
      exact k_sub [0, 1, 2] rfl (hb32 FU 0 M hf)
    · replace hf := if_t hf hc
      exact k_sub [] rfl (hb27 M hf)
