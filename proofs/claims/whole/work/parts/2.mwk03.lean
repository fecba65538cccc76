set_option maxHeartbeats 1000000 in
set_option maxRecDepth 20000 in
theorem c_X12_coach (l : Launch) (D : va_G) (cy : Nat → ClassId) (a : Nat → Nat) (M : Sg) (p1 : Int32) (p2 : Int32) (r : Int32) (hf : f_X12_coach M p1 p2 = some r) : Ct l D cy yX12_coach cX12_coach 3 (some .int) 2 45 0 0 [.ref (a 0), .int p1, .int p2] (mw cy a M) (some (.int r)) (mw cy a M) := by
  refine Ct_i tX12_coach hX12_coach (by decide) (Nat.le_of_ble_eq_true rfl) ?_
  intro Z hZ C hR
  subst hZ
  replace C : Cx Z D cy RX12 tX12_coach 3 2 45 0 0 := C
  show Wk Z D 3 0 0 (mw cy a M) 0 [(0, .ref (a 0)), (1, .int p1), (2, .int p2)] []
  unfold f_X12_coach at hf
  have hb20 : f_X12_coach_b20 M p1 p2 = some r → Wk Z D 3 0 0 (mw cy a M) 20 [] [] := by
    intro  hf
    unfold f_X12_coach_b20 at hf
    refine k_iconst C 10 rfl ci_m1 ?_
    exact k_iretP hR 11 rfl hf
  refine k_aload_0 C 0 rfl 0 rfl ?_
  refine k_iload_1 C 1 rfl 1 rfl ?_
  obtain ⟨r2, h5, hf⟩ := ob1_some hf
  refine k_callW C 2 (c_X12_isCoach Z.2.1 D cy a M p1 r2 h5) rfl qX12_327 mvX12_isCoach 0 12 M_c0 rfl rfl rfl (Nat.le_of_ble_eq_true rfl) ⟨Nat.le_of_ble_eq_true rfl, Nat.le_of_ble_eq_true rfl, Nat.le_refl 0, Nat.le_refl 0⟩ ?_
  refine k_if_eq C 3 rfl 20 (by decide) (fun hc => ?_) (fun hc => ?_)
  · replace hf := if_t hf hc
    exact k_sub [] rfl (hb20  hf)
  · replace hf := if_f hf hc
    refine k_iload_2 C 4 rfl 2 rfl ?_
    refine k_i2l C 5 rfl ?_
    refine k_lconst0 C 6 rfl ?_
    refine k_ldc2 C 7 rfl qX12_330 ?_
    obtain ⟨r14, h5, hf⟩ := ob1_some hf
    refine k_callE C 8 (c_X12_in Z.2.1 D cy p2.toInt64 (0 : Int64) (2 : Int64) r14 h5) rfl qX12_124 msX12_in rfl rfl (Nat.le_of_ble_eq_true rfl) ⟨Nat.le_of_ble_eq_true rfl, Nat.le_of_ble_eq_true rfl, Nat.le_refl 0, Nat.le_refl 0⟩ ?_
    refine k_if_ne C 9 rfl 22 (by decide) (fun hc => ?_) (fun hc => ?_)
    · replace hf := if_f hf hc
      refine k_iload_2 C 12 rfl 2 rfl ?_
      refine k_if_ne C 13 rfl 38 (by decide) (fun hc => ?_) (fun hc => ?_)
      · replace hf := if_f hf hc
        refine k_iload_2 C 21 rfl 2 rfl ?_
        refine k_iconst C 22 rfl ci_1 ?_
        refine k_icmp_ne C 23 rfl 55 (by decide) (fun hc => ?_) (fun hc => ?_)
        · replace hf := if_f hf hc
          refine k_aload_0 C 31 rfl 0 rfl ?_
          refine k_iload_1 C 32 rfl 1 rfl ?_
          obtain ⟨r57, h5, hf⟩ := ob1_some hf
          refine k_callW C 33 (c_X12_ridersIn Z.2.1 D cy a M p1 r57 h5) rfl qX12_332 mvX12_ridersIn 0 12 M_c0 rfl rfl rfl (Nat.le_of_ble_eq_true rfl) ⟨Nat.le_of_ble_eq_true rfl, Nat.le_of_ble_eq_true rfl, Nat.le_refl 0, Nat.le_refl 0⟩ ?_
          exact k_iretP hR 34 rfl hf
        · replace hf := if_t hf hc
          refine k_aload_0 C 24 rfl 0 rfl ?_
          refine kg12_20 C 25 rfl qX12_39 0 M_c0 M_f0_20 ?_
          refine k_bipush C 26 rfl cb_44 ?_
          refine k_iload_1 C 27 rfl 1 rfl ?_
          refine k_iadd C 28 rfl ?_
          obtain ⟨i51, hi, hin, hf⟩ := ixd_some hf
          refine k_iald C 29 rfl 10 M_c10 hin hi ?_
          refine k_goto C 30 rfl 60 (by decide) ?_
          exact k_iretP hR 34 rfl hf
      · replace hf := if_t hf hc
        refine k_aload_0 C 14 rfl 0 rfl ?_
        refine kg12_20 C 15 rfl qX12_39 0 M_c0 M_f0_20 ?_
        refine k_bipush C 16 rfl cb_10 ?_
        refine k_iload_1 C 17 rfl 1 rfl ?_
        refine k_iadd C 18 rfl ?_
        obtain ⟨i34, hi, hin, hf⟩ := ixd_some hf
        refine k_iald C 19 rfl 10 M_c10 hin hi ?_
        refine k_goto C 20 rfl 60 (by decide) ?_
        exact k_iretP hR 34 rfl hf
    · replace hf := if_t hf hc
      exact k_sub [] rfl (hb20  hf)
set_option maxHeartbeats 1000000 in
set_option maxRecDepth 20000 in
theorem c_X12_way (l : Launch) (D : va_G) (cy : Nat → ClassId) (a : Nat → Nat) (M : Sg) (p1 : Int32) (p2 : Int32) (r : Int32) (hf : f_X12_way M p1 p2 = some r) : Ct l D cy yX12_way cX12_way 3 (some .int) 3 65 0 0 [.ref (a 0), .int p1, .int p2] (mw cy a M) (some (.int r)) (mw cy a M) := by
  refine Ct_i tX12_way hX12_way (by decide) (Nat.le_of_ble_eq_true rfl) ?_
  intro Z hZ C hR
  subst hZ
  replace C : Cx Z D cy RX12 tX12_way 3 3 65 0 0 := C
  show Wk Z D 3 0 0 (mw cy a M) 0 [(0, .ref (a 0)), (1, .int p1), (2, .int p2)] []
  unfold f_X12_way at hf
  have hb20 : f_X12_way_b20 M p1 p2 = some r → Wk Z D 3 0 0 (mw cy a M) 20 [] [] := by
    intro  hf
    unfold f_X12_way_b20 at hf
    refine k_bipush C 10 rfl cb_m2 ?_
    exact k_iretP hR 11 rfl hf
  refine k_aload_0 C 0 rfl 0 rfl ?_
  refine k_iload_1 C 1 rfl 1 rfl ?_
  obtain ⟨r2, h5, hf⟩ := ob1_some hf
  refine k_callW C 2 (c_X12_isWay Z.2.1 D cy a M p1 r2 h5) rfl qX12_335 mvX12_isWay 0 12 M_c0 rfl rfl rfl (Nat.le_of_ble_eq_true rfl) ⟨Nat.le_of_ble_eq_true rfl, Nat.le_of_ble_eq_true rfl, Nat.le_refl 0, Nat.le_refl 0⟩ ?_
  refine k_if_eq C 3 rfl 20 (by decide) (fun hc => ?_) (fun hc => ?_)
  · replace hf := if_t hf hc
    exact k_sub [] rfl (hb20  hf)
  · replace hf := if_f hf hc
    refine k_iload_2 C 4 rfl 2 rfl ?_
    refine k_i2l C 5 rfl ?_
    refine k_lconst0 C 6 rfl ?_
    refine k_ldc2 C 7 rfl qX12_330 ?_
    obtain ⟨r14, h5, hf⟩ := ob1_some hf
    refine k_callE C 8 (c_X12_in Z.2.1 D cy p2.toInt64 (0 : Int64) (2 : Int64) r14 h5) rfl qX12_124 msX12_in rfl rfl (Nat.le_of_ble_eq_true rfl) ⟨Nat.le_of_ble_eq_true rfl, Nat.le_of_ble_eq_true rfl, Nat.le_refl 0, Nat.le_refl 0⟩ ?_
    refine k_if_ne C 9 rfl 23 (by decide) (fun hc => ?_) (fun hc => ?_)
    · replace hf := if_f hf hc
      refine k_iload_2 C 12 rfl 2 rfl ?_
      refine k_if_ne C 13 rfl 39 (by decide) (fun hc => ?_) (fun hc => ?_)
      · replace hf := if_f hf hc
        refine k_iload_2 C 21 rfl 2 rfl ?_
        refine k_iconst C 22 rfl ci_1 ?_
        refine k_icmp_ne C 23 rfl 56 (by decide) (fun hc => ?_) (fun hc => ?_)
        · replace hf := if_f hf hc
          refine k_aload_0 C 31 rfl 0 rfl ?_
          refine k_iload_1 C 32 rfl 1 rfl ?_
          obtain ⟨r58, h5, hf⟩ := ob1_some hf
          refine k_callW C 33 (c_X12_goerIn Z.2.1 D cy a M p1 r58 h5) rfl qX12_338 mvX12_goerIn 0 12 M_c0 rfl rfl rfl (Nat.le_of_ble_eq_true rfl) ⟨Nat.le_of_ble_eq_true rfl, Nat.le_of_ble_eq_true rfl, Nat.le_refl 0, Nat.le_refl 0⟩ ?_
          exact k_iretP hR 34 rfl hf
        · replace hf := if_t hf hc
          refine k_aload_0 C 24 rfl 0 rfl ?_
          refine kg12_20 C 25 rfl qX12_39 0 M_c0 M_f0_20 ?_
          refine k_bipush C 26 rfl cb_37 ?_
          refine k_iload_1 C 27 rfl 1 rfl ?_
          refine k_iadd C 28 rfl ?_
          obtain ⟨i52, hi, hin, hf⟩ := ixd_some hf
          refine k_iald C 29 rfl 10 M_c10 hin hi ?_
          refine k_goto C 30 rfl 61 (by decide) ?_
          exact k_iretP hR 34 rfl hf
      · replace hf := if_t hf hc
        refine k_aload_0 C 14 rfl 0 rfl ?_
        refine kg12_20 C 15 rfl qX12_39 0 M_c0 M_f0_20 ?_
        refine k_bipush C 16 rfl cb_30 ?_
        refine k_iload_1 C 17 rfl 1 rfl ?_
        refine k_iadd C 18 rfl ?_
        obtain ⟨i35, hi, hin, hf⟩ := ixd_some hf
        refine k_iald C 19 rfl 10 M_c10 hin hi ?_
        refine k_goto C 20 rfl 61 (by decide) ?_
        exact k_iretP hR 34 rfl hf
    · replace hf := if_t hf hc
      exact k_sub [] rfl (hb20  hf)
set_option maxHeartbeats 1000000 in
set_option maxRecDepth 20000 in
theorem c_X12_stop (l : Launch) (D : va_G) (cy : Nat → ClassId) (a : Nat → Nat) (M : Sg) (p1 : Int32) (p2 : Int32) (r : Int32) (hf : f_X12_stop M p1 p2 = some r) : Ct l D cy yX12_stop cX12_stop 3 (some .int) 1 25 0 0 [.ref (a 0), .int p1, .int p2] (mw cy a M) (some (.int r)) (mw cy a M) := by
  refine Ct_i tX12_stop hX12_stop (by decide) (Nat.le_of_ble_eq_true rfl) ?_
  intro Z hZ C hR
  subst hZ
  replace C : Cx Z D cy RX12 tX12_stop 3 1 25 0 0 := C
  show Wk Z D 3 0 0 (mw cy a M) 0 [(0, .ref (a 0)), (1, .int p1), (2, .int p2)] []
  unfold f_X12_stop at hf
  have hb40 : f_X12_stop_b40 M p1 p2 = some r → Wk Z D 3 0 0 (mw cy a M) 40 [] [] := by
    intro  hf
    unfold f_X12_stop_b40 at hf
    refine k_iconst C 25 rfl ci_m1 ?_
    exact k_iretP hR 26 rfl hf
  refine k_iload_1 C 0 rfl 1 rfl ?_
  refine k_if_lt C 1 rfl 40 (by decide) (fun hc => ?_) (fun hc => ?_)
  · replace hf := if_t hf hc
    exact k_sub [] rfl (hb40  hf)
  · replace hf := if_f hf hc
    refine k_iload_1 C 2 rfl 1 rfl ?_
    refine k_aload_0 C 3 rfl 0 rfl ?_
    refine kg12_20 C 4 rfl qX12_39 0 M_c0 M_f0_20 ?_
    refine k_iconst C 5 rfl ci_1 ?_
    refine k_iald C 6 rfl 10 M_c10 vi_1_137 tc_1 ?_
    refine k_icmp_ge C 7 rfl 40 (by decide) (fun hc => ?_) (fun hc => ?_)
    · replace hf := if_t hf hc
      exact k_sub [] rfl (hb40  hf)
    · replace hf := if_f hf hc
      refine k_iload_2 C 8 rfl 2 rfl ?_
      refine k_i2l C 9 rfl ?_
      refine k_lconst0 C 10 rfl ?_
      refine k_lconst1 C 11 rfl ?_
      obtain ⟨r18, h5, hf⟩ := ob1_some hf
      refine k_callE C 12 (c_X12_in Z.2.1 D cy p2.toInt64 (0 : Int64) (1 : Int64) r18 h5) rfl qX12_124 msX12_in rfl rfl (Nat.le_of_ble_eq_true rfl) ⟨Nat.le_of_ble_eq_true rfl, Nat.le_of_ble_eq_true rfl, Nat.le_refl 0, Nat.le_refl 0⟩ ?_
      refine k_if_eq C 13 rfl 40 (by decide) (fun hc => ?_) (fun hc => ?_)
      · replace hf := if_t hf hc
        exact k_sub [] rfl (hb40  hf)
      · replace hf := if_f hf hc
        refine k_aload_0 C 14 rfl 0 rfl ?_
        refine kg12_20 C 15 rfl qX12_39 0 M_c0 M_f0_20 ?_
        refine k_bipush C 16 rfl cb_18 ?_
        refine k_iconst C 17 rfl ci_2 ?_
        refine k_iload_1 C 18 rfl 1 rfl ?_
        refine k_imul C 19 rfl ?_
        refine k_iadd C 20 rfl ?_
        refine k_iload_2 C 21 rfl 2 rfl ?_
        refine k_iadd C 22 rfl ?_
        obtain ⟨i36, hi, hin, hf⟩ := ixd_some hf
        refine k_iald C 23 rfl 10 M_c10 hin hi ?_
        refine k_goto C 24 rfl 41 (by decide) ?_
        exact k_iretP hR 26 rfl hf
set_option maxHeartbeats 1000000 in
set_option maxRecDepth 20000 in
theorem c_X12_rider (l : Launch) (D : va_G) (cy : Nat → ClassId) (a : Nat → Nat) (M : Sg) (p1 : Int32) (p2 : Int32) (r : Int32) (hf : f_X12_rider M p1 p2 = some r) : Ct l D cy yX12_rider cX12_rider 3 (some .int) 2 44 0 0 [.ref (a 0), .int p1, .int p2] (mw cy a M) (some (.int r)) (mw cy a M) := by
  refine Ct_i tX12_rider hX12_rider (by decide) (Nat.le_of_ble_eq_true rfl) ?_
  intro Z hZ C hR
  subst hZ
  replace C : Cx Z D cy RX12 tX12_rider 3 2 44 0 0 := C
  show Wk Z D 3 0 0 (mw cy a M) 0 [(0, .ref (a 0)), (1, .int p1), (2, .int p2)] []
  unfold f_X12_rider at hf
  have hb20 : f_X12_rider_b20 M p1 p2 = some r → Wk Z D 3 0 0 (mw cy a M) 20 [] [] := by
    intro  hf
    unfold f_X12_rider_b20 at hf
    refine k_iconst C 10 rfl ci_m1 ?_
    exact k_iretP hR 11 rfl hf
  refine k_aload_0 C 0 rfl 0 rfl ?_
  refine k_iload_1 C 1 rfl 1 rfl ?_
  obtain ⟨r2, h5, hf⟩ := ob1_some hf
  refine k_callW C 2 (c_X12_isRider Z.2.1 D cy a M p1 r2 h5) rfl qX12_341 mvX12_isRider 0 12 M_c0 rfl rfl rfl (Nat.le_of_ble_eq_true rfl) ⟨Nat.le_of_ble_eq_true rfl, Nat.le_of_ble_eq_true rfl, Nat.le_refl 0, Nat.le_refl 0⟩ ?_
  refine k_if_eq C 3 rfl 20 (by decide) (fun hc => ?_) (fun hc => ?_)
  · replace hf := if_t hf hc
    exact k_sub [] rfl (hb20  hf)
  · replace hf := if_f hf hc
    refine k_iload_2 C 4 rfl 2 rfl ?_
    refine k_i2l C 5 rfl ?_
    refine k_lconst0 C 6 rfl ?_
    refine k_ldc2 C 7 rfl qX12_344 ?_
    obtain ⟨r14, h5, hf⟩ := ob1_some hf
    refine k_callE C 8 (c_X12_in Z.2.1 D cy p2.toInt64 (0 : Int64) (8 : Int64) r14 h5) rfl qX12_124 msX12_in rfl rfl (Nat.le_of_ble_eq_true rfl) ⟨Nat.le_of_ble_eq_true rfl, Nat.le_of_ble_eq_true rfl, Nat.le_refl 0, Nat.le_refl 0⟩ ?_
    refine k_if_ne C 9 rfl 22 (by decide) (fun hc => ?_) (fun hc => ?_)
    · replace hf := if_f hf hc
      refine k_iload_2 C 12 rfl 2 rfl ?_
      refine k_bipush C 13 rfl cb_8 ?_
      refine k_icmp_ge C 14 rfl 37 (by decide) (fun hc => ?_) (fun hc => ?_)
      · replace hf := if_t hf hc
        refine k_aload_0 C 20 rfl 0 rfl ?_
        refine k_iload_1 C 21 rfl 1 rfl ?_
        refine k_aload_0 C 22 rfl 0 rfl ?_
        refine k_iload_1 C 23 rfl 1 rfl ?_
        refine k_iconst C 24 rfl ci_0 ?_
        obtain ⟨r42, h5, hf⟩ := ob1_some hf
        refine k_callW C 25 (c_X12_riderOf Z.2.1 D cy a M p1 0 r42 h5) rfl qX12_312 mvX12_riderOf 0 12 M_c0 rfl rfl rfl (Nat.le_of_ble_eq_true rfl) ⟨Nat.le_of_ble_eq_true rfl, Nat.le_of_ble_eq_true rfl, Nat.le_refl 0, Nat.le_refl 0⟩ ?_
        obtain ⟨r45, h5, hf⟩ := ob1_some hf
        refine k_callW C 26 (c_X12_isRight Z.2.1 D cy a M p1 r42 r45 h5) rfl qX12_346 mvX12_isRight 0 12 M_c0 rfl rfl rfl (Nat.le_of_ble_eq_true rfl) ⟨Nat.le_of_ble_eq_true rfl, Nat.le_of_ble_eq_true rfl, Nat.le_refl 0, Nat.le_refl 0⟩ ?_
        refine k_if_eq C 27 rfl 55 (by decide) (fun hc => ?_) (fun hc => ?_)
        · replace hf := if_t hf hc
          refine k_iconst C 30 rfl ci_0 ?_
          exact k_iretP hR 31 rfl hf
        · replace hf := if_f hf hc
          refine k_iconst C 28 rfl ci_1 ?_
          refine k_goto C 29 rfl 56 (by decide) ?_
          exact k_iretP hR 31 rfl hf
      · replace hf := if_f hf hc
        refine k_aload_0 C 15 rfl 0 rfl ?_
        refine k_iload_1 C 16 rfl 1 rfl ?_
        refine k_iload_2 C 17 rfl 2 rfl ?_
        obtain ⟨r31, h5, hf⟩ := ob1_some hf
        refine k_callW C 18 (c_X12_riderOf Z.2.1 D cy a M p1 p2 r31 h5) rfl qX12_312 mvX12_riderOf 0 12 M_c0 rfl rfl rfl (Nat.le_of_ble_eq_true rfl) ⟨Nat.le_of_ble_eq_true rfl, Nat.le_of_ble_eq_true rfl, Nat.le_refl 0, Nat.le_refl 0⟩ ?_
        refine k_goto C 19 rfl 56 (by decide) ?_
        exact k_iretP hR 31 rfl hf
    · replace hf := if_t hf hc
      exact k_sub [] rfl (hb20  hf)
set_option maxHeartbeats 1000000 in
set_option maxRecDepth 20000 in
theorem c_X12_haltAt (l : Launch) (D : va_G) (cy : Nat → ClassId) (a : Nat → Nat) (M : Sg) (p1 : Int32) (r : Int32) (hf : f_X12_haltAt M p1 = some r) : Ct l D cy yX12_haltAt cX12_haltAt 3 (some .int) 1 25 0 0 [.ref (a 0), .int p1] (mw cy a M) (some (.int r)) (mw cy a M) := by
  refine Ct_i tX12_haltAt hX12_haltAt (by decide) (Nat.le_of_ble_eq_true rfl) ?_
  intro Z hZ C hR
  subst hZ
  replace C : Cx Z D cy RX12 tX12_haltAt 3 1 25 0 0 := C
  show Wk Z D 3 0 0 (mw cy a M) 0 [(0, .ref (a 0)), (1, .int p1)] []
  unfold f_X12_haltAt at hf
  have hq2 : ∀ (k2 : Int32 → Option (Int32)), (∀ (x2 : Int32), k2 x2 = some r → Wk Z D 3 0 0 (mw cy a M) 2 [(0, .ref (a 0)), (1, .int p1), (2, .int x2)] []) → ∀ (x2 : Int32), f_X12_haltAt_b2 M p1 k2 x2 = some r → Wk Z D 3 0 0 (mw cy a M) 2 [(0, .ref (a 0)), (1, .int p1), (2, .int x2)] [] := by
    intro k2 hk2 x2 hf
    unfold f_X12_haltAt_b2 at hf
    refine k_iload_2 C 2 rfl 2 rfl ?_
    refine k_aload_0 C 3 rfl 0 rfl ?_
    refine kg12_20 C 4 rfl qX12_39 0 M_c0 M_f0_20 ?_
    refine k_iconst C 5 rfl ci_1 ?_
    refine k_iald C 6 rfl 10 M_c10 vi_1_137 tc_1 ?_
    refine k_icmp_ge C 7 rfl 54 (by decide) (fun hc => ?_) (fun hc => ?_)
    · replace hf := if_t hf hc
      refine k_iconst C 36 rfl ci_m1 ?_
      exact k_iretP hR 37 rfl hf
    · replace hf := if_f hf hc
      refine k_iload_1 C 8 rfl 1 rfl ?_
      refine k_i2l C 9 rfl ?_
      refine k_aload_0 C 10 rfl 0 rfl ?_
      refine kg12_20 C 11 rfl qX12_39 0 M_c0 M_f0_20 ?_
      refine k_bipush C 12 rfl cb_18 ?_
      refine k_iconst C 13 rfl ci_2 ?_
      refine k_iload_2 C 14 rfl 2 rfl ?_
      refine k_imul C 15 rfl ?_
      refine k_iadd C 16 rfl ?_
      obtain ⟨i24, hi, hin, hf⟩ := ixd_some hf
      refine k_iald C 17 rfl 10 M_c10 hin hi ?_
      refine k_i2l C 18 rfl ?_
      refine k_aload_0 C 19 rfl 0 rfl ?_
      refine kg12_20 C 20 rfl qX12_39 0 M_c0 M_f0_20 ?_
      refine k_bipush C 21 rfl cb_18 ?_
      refine k_iconst C 22 rfl ci_2 ?_
      refine k_iload_2 C 23 rfl 2 rfl ?_
      refine k_imul C 24 rfl ?_
      refine k_iadd C 25 rfl ?_
      refine k_iconst C 26 rfl ci_1 ?_
      refine k_iadd C 27 rfl ?_
      obtain ⟨i38, hi, hin, hf⟩ := ixd_some hf
      refine k_iald C 28 rfl 10 M_c10 hin hi ?_
      refine k_i2l C 29 rfl ?_
      obtain ⟨r40, h5, hf⟩ := ob1_some hf
      refine k_callE C 30 (c_X12_in Z.2.1 D cy p1.toInt64 ((M.2.1 20 i24).toInt64) ((M.2.1 20 i38).toInt64) r40 h5) rfl qX12_124 msX12_in rfl rfl (Nat.le_of_ble_eq_true rfl) ⟨Nat.le_of_ble_eq_true rfl, Nat.le_of_ble_eq_true rfl, Nat.le_refl 0, Nat.le_refl 0⟩ ?_
      refine k_if_eq C 31 rfl 48 (by decide) (fun hc => ?_) (fun hc => ?_)
      · replace hf := if_t hf hc
        obtain ⟨x2_48, hx, hf⟩ := bnd_some hf
        refine k_iinc C 34 rfl 2 rfl ((cn_1 _).trans hx) (by decide) rfl ?_
        refine k_sub (lv2 := [(0, .ref (a 0)), (1, .int p1), (2, .int x2_48)]) [1, 2, 0] rfl ?_
        refine k_goto C 35 rfl 2 (by decide) ?_
        exact k_sub [0, 1, 2] rfl (hk2 x2_48 hf)
      · replace hf := if_f hf hc
        refine k_iload_2 C 32 rfl 2 rfl ?_
        exact k_iretP hR 33 rfl hf
  have hb2 := flW1 hq2
  refine k_iconst C 0 rfl ci_0 ?_
  refine k_istore_2 C 1 rfl (by decide) rfl ?_
  refine k_sub (lv2 := [(0, .ref (a 0)), (1, .int p1), (2, .int 0)]) [1, 2, 0] rfl ?_
  exact k_sub [0, 1, 2] rfl (hb2 FU 0 hf)
set_option maxHeartbeats 1000000 in
set_option maxRecDepth 20000 in
theorem c_X12_timesOf (l : Launch) (D : va_G) (cy : Nat → ClassId) (a : Nat → Nat) (M : Sg) (p1 : Int32) (r : Int32) (hf : f_X12_timesOf M p1 = some r) : Ct l D cy yX12_timesOf cX12_timesOf 3 (some .int) 1 22 0 0 [.ref (a 0), .int p1] (mw cy a M) (some (.int r)) (mw cy a M) := by
  refine Ct_i tX12_timesOf hX12_timesOf (by decide) (Nat.le_of_ble_eq_true rfl) ?_
  intro Z hZ C hR
  subst hZ
  replace C : Cx Z D cy RX12 tX12_timesOf 3 1 22 0 0 := C
  show Wk Z D 3 0 0 (mw cy a M) 0 [(0, .ref (a 0)), (1, .int p1)] []
  unfold f_X12_timesOf at hf
  refine k_aload_0 C 0 rfl 0 rfl ?_
  refine k_iload_1 C 1 rfl 1 rfl ?_
  refine k_iconst C 2 rfl ci_3 ?_
  obtain ⟨r3, h5, hf⟩ := ob1_some hf
  refine k_callW C 3 (c_X12_riderOf Z.2.1 D cy a M p1 3 r3 h5) rfl qX12_312 mvX12_riderOf 0 12 M_c0 rfl rfl rfl (Nat.le_of_ble_eq_true rfl) ⟨Nat.le_of_ble_eq_true rfl, Nat.le_of_ble_eq_true rfl, Nat.le_refl 0, Nat.le_refl 0⟩ ?_
  refine k_istore_2 C 4 rfl (by decide) rfl ?_
  refine k_sub (lv2 := [(0, .ref (a 0)), (1, .int p1), (2, .int r3)]) [1, 2, 0] rfl ?_
  refine k_iload_2 C 5 rfl 2 rfl ?_
  refine k_iconst C 6 rfl ci_2 ?_
  refine k_icmp_ge C 7 rfl 16 (by decide) (fun hc => ?_) (fun hc => ?_)
  · replace hf := if_t hf hc
    refine k_iconst C 10 rfl ci_2 ?_
    refine k_iload_2 C 11 rfl 2 rfl ?_
    refine k_imul C 12 rfl ?_
    refine k_iconst C 13 rfl ci_1 ?_
    refine k_isub C 14 rfl ?_
    exact k_iretP hR 15 rfl hf
  · replace hf := if_f hf hc
    refine k_iconst C 8 rfl ci_1 ?_
    refine k_goto C 9 rfl 21 (by decide) ?_
    exact k_iretP hR 15 rfl hf
set_option maxHeartbeats 1000000 in
set_option maxRecDepth 20000 in
theorem c_X12_timeOf (l : Launch) (D : va_G) (cy : Nat → ClassId) (a : Nat → Nat) (M : Sg) (p1 : Int32) (p2 : Int32) (p3 : Int32) (p4 : Bool) (r : Int32) (hf : f_X12_timeOf M p1 p2 p3 p4 = some r) : Ct l D cy yX12_timeOf cX12_timeOf 6 (some .int) 2 44 0 0 [.ref (a 0), .int p1, .int p2, .int p3, .int (bI p4)] (mw cy a M) (some (.int r)) (mw cy a M) := by
  refine Ct_i tX12_timeOf hX12_timeOf (by decide) (Nat.le_of_ble_eq_true rfl) ?_
  intro Z hZ C hR
  subst hZ
  replace C : Cx Z D cy RX12 tX12_timeOf 6 2 44 0 0 := C
  show Wk Z D 6 0 0 (mw cy a M) 0 [(0, .ref (a 0)), (1, .int p1), (2, .int p2), (3, .int p3), (4, .int (bI p4))] []
  unfold f_X12_timeOf at hf
  have hb44 : ∀ (s0 : Int32) (s1 : Int32), f_X12_timeOf_b44 M p1 p2 p3 p4 s0 s1 = some r → Wk Z D 6 0 0 (mw cy a M) 44 [] [.int s1, .int s0] := by
    intro s0 s1 hf
    unfold f_X12_timeOf_b44 at hf
    refine k_imul C 27 rfl ?_
    exact k_iretP hR 28 rfl hf
  have hb14 : ∀ (s0 : Int32), f_X12_timeOf_b14 M p1 p2 p3 p4 s0 = some r → Wk Z D 6 0 0 (mw cy a M) 14 [(0, .ref (a 0)), (1, .int p1), (4, .int (bI p4))] [.int s0] := by
    intro s0 hf
    unfold f_X12_timeOf_b14 at hf
    refine k_istore C 10 rfl (by decide) rfl ?_
    refine k_sub (lv2 := [(0, .ref (a 0)), (1, .int p1), (4, .int (bI p4)), (5, .int s0)]) [1, 2, 3, 0] rfl ?_
    refine k_aload_0 C 11 rfl 0 rfl ?_
    refine k_iload_1 C 12 rfl 1 rfl ?_
    obtain ⟨r18, h5, hf⟩ := ob1_some hf
    refine k_callW C 13 (c_X12_timesOf Z.2.1 D cy a M p1 r18 h5) rfl qX12_349 mvX12_timesOf 0 12 M_c0 rfl rfl rfl (Nat.le_of_ble_eq_true rfl) ⟨Nat.le_of_ble_eq_true rfl, Nat.le_of_ble_eq_true rfl, Nat.le_refl 0, Nat.le_refl 0⟩ ?_
    refine k_iload C 14 rfl 2 rfl ?_
    refine k_if_eq C 15 rfl 35 (by decide) (fun hc => ?_) (fun hc => ?_)
    · replace hf := if_t hf hc
      refine k_aload_0 C 21 rfl 0 rfl ?_
      refine kg12_20 C 22 rfl qX12_39 0 M_c0 M_f0_20 ?_
      refine k_iconst C 23 rfl ci_5 ?_
      refine k_iald C 24 rfl 10 M_c10 vi_5_137 tc_5 ?_
      refine k_iload C 25 rfl 3 rfl ?_
      refine k_imul C 26 rfl ?_
      exact k_sub [] rfl (hb44 r18 ((M.2.1 20 5) * s0) hf)
    · replace hf := if_f hf hc
      refine k_aload_0 C 16 rfl 0 rfl ?_
      refine k_iload_1 C 17 rfl 1 rfl ?_
      refine k_iconst C 18 rfl ci_2 ?_
      obtain ⟨r29, h5, hf⟩ := ob1_some hf
      refine k_callW C 19 (c_X12_riderOf Z.2.1 D cy a M p1 2 r29 h5) rfl qX12_312 mvX12_riderOf 0 12 M_c0 rfl rfl rfl (Nat.le_of_ble_eq_true rfl) ⟨Nat.le_of_ble_eq_true rfl, Nat.le_of_ble_eq_true rfl, Nat.le_refl 0, Nat.le_refl 0⟩ ?_
      refine k_goto C 20 rfl 44 (by decide) ?_
      exact k_sub [] rfl (hb44 r18 r29 hf)
  refine k_iload_2 C 0 rfl 2 rfl ?_
  refine k_iload_3 C 1 rfl 3 rfl ?_
  refine k_icmp_ge C 2 rfl 11 (by decide) (fun hc => ?_) (fun hc => ?_)
  · replace hf := if_t hf hc
    refine k_iload_2 C 7 rfl 2 rfl ?_
    refine k_iload_3 C 8 rfl 3 rfl ?_
    refine k_isub C 9 rfl ?_
    exact k_sub [0, 1, 4] rfl (hb14 (p2 - p3) hf)
  · replace hf := if_f hf hc
    refine k_iload_3 C 3 rfl 3 rfl ?_
    refine k_iload_2 C 4 rfl 2 rfl ?_
    refine k_isub C 5 rfl ?_
    refine k_goto C 6 rfl 14 (by decide) ?_
    exact k_sub [0, 1, 4] rfl (hb14 (p3 - p2) hf)
set_option maxHeartbeats 1000000 in
set_option maxRecDepth 20000 in
theorem c_X12_mayInside (l : Launch) (D : va_G) (cy : Nat → ClassId) (a : Nat → Nat) (M : Sg) (p1 : Int32) (p2 : Int32) (p3 : Int32) (p4 : Int32) (r : Bool) (hf : f_X12_mayInside M p1 p2 p3 p4 = some r) : Ct l D cy yX12_mayInside cX12_mayInside 6 (some .boolean) 3 69 0 0 [.ref (a 0), .int p1, .int p2, .int p3, .int p4] (mw cy a M) (some (.int (bI r))) (mw cy a M) := by
  refine Ct_z tX12_mayInside hX12_mayInside (by decide) (Nat.le_of_ble_eq_true rfl) ?_
  intro Z hZ C hR
  subst hZ
  replace C : Cx Z D cy RX12 tX12_mayInside 6 3 69 0 0 := C
  show Wk Z D 6 0 0 (mw cy a M) 0 [(0, .ref (a 0)), (1, .int p1), (2, .int p2), (3, .int p3), (4, .int p4)] []
  unfold f_X12_mayInside at hf
  have hb77 : f_X12_mayInside_b77 M p1 p2 p3 p4 = some r → Wk Z D 6 0 0 (mw cy a M) 77 [] [] := by
    intro  hf
    unfold f_X12_mayInside_b77 at hf
    refine k_iconst C 46 rfl ci_1 ?_
    refine k_goto C 47 rfl 82 (by decide) ?_
    exact k_zretP hR 49 rfl hf
  have hb36 : f_X12_mayInside_b36 M p1 p2 p3 p4 = some r → Wk Z D 6 0 0 (mw cy a M) 36 [] [] := by
    intro  hf
    unfold f_X12_mayInside_b36 at hf
    refine k_iconst C 20 rfl ci_0 ?_
    exact k_zretP hR 21 rfl hf
  refine k_iload_2 C 0 rfl 2 rfl ?_
  refine k_iload_3 C 1 rfl 3 rfl ?_
  obtain ⟨r2, h5, hf⟩ := ob1_some hf
  refine k_callE C 2 (c_X12_wayOf Z.2.1 D cy p2 p3 r2 h5) rfl qX12_321 msX12_wayOf rfl rfl (Nat.le_of_ble_eq_true rfl) ⟨Nat.le_of_ble_eq_true rfl, Nat.le_of_ble_eq_true rfl, Nat.le_refl 0, Nat.le_refl 0⟩ ?_
  refine k_istore C 3 rfl (by decide) rfl ?_
  refine k_sub (lv2 := [(0, .ref (a 0)), (1, .int p1), (2, .int p2), (3, .int p3), (4, .int p4), (5, .int r2)]) [1, 2, 3, 4, 5, 0] rfl ?_
  refine k_aload_0 C 4 rfl 0 rfl ?_
  refine kg12_20 C 5 rfl qX12_39 0 M_c0 M_f0_20 ?_
  refine k_bipush C 6 rfl cb_30 ?_
  refine k_iload C 7 rfl 5 rfl ?_
  refine k_iadd C 8 rfl ?_
  obtain ⟨i16, hi, hin, hf⟩ := ixd_some hf
  refine k_iald C 9 rfl 10 M_c10 hin hi ?_
  refine k_iconst C 10 rfl ci_1 ?_
  refine k_icmp_eq C 11 rfl 36 (by decide) (fun hc => ?_) (fun hc => ?_)
  · replace hf := if_t hf hc
    exact k_sub [] rfl (hb36  hf)
  · replace hf := if_f hf hc
    refine k_iload C 12 rfl 4 rfl ?_
    refine k_aload_0 C 13 rfl 0 rfl ?_
    refine kg12_20 C 14 rfl qX12_39 0 M_c0 M_f0_20 ?_
    refine k_bipush C 15 rfl cb_37 ?_
    refine k_iload C 16 rfl 5 rfl ?_
    refine k_iadd C 17 rfl ?_
    obtain ⟨i32, hi, hin, hf⟩ := ixd_some hf
    refine k_iald C 18 rfl 10 M_c10 hin hi ?_
    refine k_icmp_ge C 19 rfl 38 (by decide) (fun hc => ?_) (fun hc => ?_)
    · replace hf := if_t hf hc
      refine k_aload_0 C 22 rfl 0 rfl ?_
      refine kg12_20 C 23 rfl qX12_39 0 M_c0 M_f0_20 ?_
      refine k_bipush C 24 rfl cb_10 ?_
      refine k_iload_2 C 25 rfl 2 rfl ?_
      refine k_iadd C 26 rfl ?_
      obtain ⟨i46, hi, hin, hf⟩ := ixd_some hf
      refine k_iald C 27 rfl 10 M_c10 hin hi ?_
      refine k_aload_0 C 28 rfl 0 rfl ?_
      refine kg12_20 C 29 rfl qX12_39 0 M_c0 M_f0_20 ?_
      refine k_bipush C 30 rfl cb_10 ?_
      refine k_iload_3 C 31 rfl 3 rfl ?_
      refine k_iadd C 32 rfl ?_
      obtain ⟨i55, hi, hin, hf⟩ := ixd_some hf
      refine k_iald C 33 rfl 10 M_c10 hin hi ?_
      refine k_icmp_eq C 34 rfl 77 (by decide) (fun hc => ?_) (fun hc => ?_)
      · replace hf := if_t hf hc
        exact k_sub [] rfl (hb77  hf)
      · replace hf := if_f hf hc
        refine k_iload C 35 rfl 4 rfl ?_
        refine k_aload_0 C 36 rfl 0 rfl ?_
        refine k_iload_1 C 37 rfl 1 rfl ?_
        refine k_iload_2 C 38 rfl 2 rfl ?_
        refine k_iload_3 C 39 rfl 3 rfl ?_
        refine k_iconst C 40 rfl ci_1 ?_
        obtain ⟨r66, h5, hf⟩ := ob1_some hf
        refine k_callW C 41 (c_X12_timeOf Z.2.1 D cy a M p1 p2 p3 true r66 h5) rfl qX12_352 mvX12_timeOf 0 12 M_c0 rfl rfl rfl (Nat.le_of_ble_eq_true rfl) ⟨Nat.le_of_ble_eq_true rfl, Nat.le_of_ble_eq_true rfl, Nat.le_refl 0, Nat.le_refl 0⟩ ?_
        refine k_iadd C 42 rfl ?_
        refine k_aload_0 C 43 rfl 0 rfl ?_
        obtain ⟨r71, h5, hf⟩ := ob1_some hf
        refine k_callW C 44 (c_X12_parting Z.2.1 D cy a M r71 h5) rfl qX12_356 mvX12_parting 0 12 M_c0 rfl rfl rfl (Nat.le_of_ble_eq_true rfl) ⟨Nat.le_of_ble_eq_true rfl, Nat.le_of_ble_eq_true rfl, Nat.le_refl 0, Nat.le_refl 0⟩ ?_
        refine k_icmp_gt C 45 rfl 81 (by decide) (fun hc => ?_) (fun hc => ?_)
        · replace hf := if_t hf hc
          refine k_iconst C 48 rfl ci_0 ?_
          exact k_zretP hR 49 rfl hf
        · replace hf := if_f hf hc
          exact k_sub [] rfl (hb77  hf)
    · replace hf := if_f hf hc
      exact k_sub [] rfl (hb36  hf)
set_option maxHeartbeats 1000000 in
set_option maxRecDepth 20000 in
theorem c_X12_mayOutside (l : Launch) (D : va_G) (cy : Nat → ClassId) (a : Nat → Nat) (M : Sg) (p1 : Int32) (p2 : Int32) (p3 : Int32) (p4 : Int32) (r : Bool) (hf : f_X12_mayOutside M p1 p2 p3 p4 = some r) : Ct l D cy yX12_mayOutside cX12_mayOutside 7 (some .boolean) 3 69 0 0 [.ref (a 0), .int p1, .int p2, .int p3, .int p4] (mw cy a M) (some (.int (bI r))) (mw cy a M) := by
  refine Ct_z tX12_mayOutside hX12_mayOutside (by decide) (Nat.le_of_ble_eq_true rfl) ?_
  intro Z hZ C hR
  subst hZ
  replace C : Cx Z D cy RX12 tX12_mayOutside 7 3 69 0 0 := C
  show Wk Z D 7 0 0 (mw cy a M) 0 [(0, .ref (a 0)), (1, .int p1), (2, .int p2), (3, .int p3), (4, .int p4)] []
  unfold f_X12_mayOutside at hf
  have hq13 : ∀ (k13 : Int32 → Int32 → Option (Bool)), (∀ (x5 : Int32) (x6 : Int32), k13 x5 x6 = some r → Wk Z D 7 0 0 (mw cy a M) 13 [(0, .ref (a 0)), (4, .int p4), (5, .int x5), (6, .int x6)] []) → ∀ (x5 : Int32) (x6 : Int32), f_X12_mayOutside_b13 M p1 p2 p3 p4 k13 x5 x6 = some r → Wk Z D 7 0 0 (mw cy a M) 13 [(0, .ref (a 0)), (4, .int p4), (5, .int x5), (6, .int x6)] [] := by
    intro k13 hk13 x5 x6 hf
    unfold f_X12_mayOutside_b13 at hf
    have hb65 : ∀ (x5 : Int32) (x6 : Int32), f_X12_mayOutside_b65 M p1 p2 p3 p4 k13 x5 x6 = some r → Wk Z D 7 0 0 (mw cy a M) 65 [(0, .ref (a 0)), (4, .int p4), (5, .int x5), (6, .int x6)] [] := by
      intro x5 x6 hf
      unfold f_X12_mayOutside_b65 at hf
      obtain ⟨x6_65, hx, hf⟩ := bnd_some hf
      refine k_iinc C 41 rfl 3 rfl ((cn_1 _).trans hx) (by decide) rfl ?_
      refine k_sub (lv2 := [(0, .ref (a 0)), (4, .int p4), (5, .int x5), (6, .int x6_65)]) [1, 2, 3, 0] rfl ?_
      refine k_goto C 42 rfl 13 (by decide) ?_
      exact k_sub [0, 1, 2, 3] rfl (hk13 x5 x6_65 hf)
    refine k_iload C 9 rfl 3 rfl ?_
    refine k_aload_0 C 10 rfl 0 rfl ?_
    refine kg12_20 C 11 rfl qX12_39 0 M_c0 M_f0_20 ?_
    refine k_iconst C 12 rfl ci_4 ?_
    refine k_iald C 13 rfl 10 M_c10 vi_4_137 tc_4 ?_
    refine k_icmp_gt C 14 rfl 71 (by decide) (fun hc => ?_) (fun hc => ?_)
    · replace hf := if_t hf hc
      refine k_iconst C 43 rfl ci_0 ?_
      exact k_zretP hR 44 rfl hf
    · replace hf := if_f hf hc
      refine k_iload C 15 rfl 1 rfl ?_
      refine k_aload_0 C 16 rfl 0 rfl ?_
      refine kg12_20 C 17 rfl qX12_39 0 M_c0 M_f0_20 ?_
      refine k_bipush C 18 rfl cb_18 ?_
      refine k_iconst C 19 rfl ci_2 ?_
      refine k_iload C 20 rfl 3 rfl ?_
      refine k_imul C 21 rfl ?_
      refine k_iadd C 22 rfl ?_
      obtain ⟨i37, hi, hin, hf⟩ := ixd_some hf
      refine k_iald C 23 rfl 10 M_c10 hin hi ?_
      refine k_icmp_lt C 24 rfl 65 (by decide) (fun hc => ?_) (fun hc => ?_)
      · replace hf := if_t hf hc
        exact k_sub [0, 1, 2, 3] rfl (hb65 x5 x6 hf)
      · replace hf := if_f hf hc
        refine k_iload C 25 rfl 1 rfl ?_
        refine k_iload C 26 rfl 2 rfl ?_
        refine k_iadd C 27 rfl ?_
        refine k_aload_0 C 28 rfl 0 rfl ?_
        refine kg12_20 C 29 rfl qX12_39 0 M_c0 M_f0_20 ?_
        refine k_bipush C 30 rfl cb_18 ?_
        refine k_iconst C 31 rfl ci_2 ?_
        refine k_iload C 32 rfl 3 rfl ?_
        refine k_imul C 33 rfl ?_
        refine k_iadd C 34 rfl ?_
        refine k_iconst C 35 rfl ci_1 ?_
        refine k_iadd C 36 rfl ?_
        obtain ⟨i59, hi, hin, hf⟩ := ixd_some hf
        refine k_iald C 37 rfl 10 M_c10 hin hi ?_
        refine k_icmp_gt C 38 rfl 65 (by decide) (fun hc => ?_) (fun hc => ?_)
        · replace hf := if_t hf hc
          exact k_sub [0, 1, 2, 3] rfl (hb65 x5 x6 hf)
        · replace hf := if_f hf hc
          refine k_iconst C 39 rfl ci_1 ?_
          exact k_zretP hR 40 rfl hf
  have hb13 := flW2 hq13
  refine k_aload_0 C 0 rfl 0 rfl ?_
  refine k_iload_1 C 1 rfl 1 rfl ?_
  refine k_iload_2 C 2 rfl 2 rfl ?_
  refine k_iload_3 C 3 rfl 3 rfl ?_
  refine k_iconst C 4 rfl ci_0 ?_
  obtain ⟨r5, h5, hf⟩ := ob1_some hf
  refine k_callW C 5 (c_X12_timeOf Z.2.1 D cy a M p1 p2 p3 false r5 h5) rfl qX12_352 mvX12_timeOf 0 12 M_c0 rfl rfl rfl (Nat.le_of_ble_eq_true rfl) ⟨Nat.le_of_ble_eq_true rfl, Nat.le_of_ble_eq_true rfl, Nat.le_refl 0, Nat.le_refl 0⟩ ?_
  refine k_istore C 6 rfl (by decide) rfl ?_
  refine k_sub (lv2 := [(0, .ref (a 0)), (1, .int p1), (2, .int p2), (3, .int p3), (4, .int p4), (5, .int r5)]) [1, 2, 3, 4, 5, 0] rfl ?_
  refine k_iconst C 7 rfl ci_0 ?_
  refine k_istore C 8 rfl (by decide) rfl ?_
  refine k_sub (lv2 := [(0, .ref (a 0)), (1, .int p1), (2, .int p2), (3, .int p3), (4, .int p4), (5, .int r5), (6, .int 0)]) [1, 2, 3, 4, 5, 6, 0] rfl ?_
  exact k_sub [0, 4, 5, 6] rfl (hb13 FU r5 0 hf)
set_option maxHeartbeats 1000000 in
set_option maxRecDepth 20000 in
theorem c_X12_insideFrom (l : Launch) (D : va_G) (cy : Nat → ClassId) (a : Nat → Nat) (M : Sg) (p1 : Int32) (p2 : Int32) (p3 : Int32) (p4 : Int32) (r : Int32) (hf : f_X12_insideFrom M p1 p2 p3 p4 = some r) : Ct l D cy yX12_insideFrom cX12_insideFrom 7 (some .int) 4 94 0 0 [.ref (a 0), .int p1, .int p2, .int p3, .int p4] (mw cy a M) (some (.int r)) (mw cy a M) := by
  refine Ct_i tX12_insideFrom hX12_insideFrom (by decide) (Nat.le_of_ble_eq_true rfl) ?_
  intro Z hZ C hR
  subst hZ
  replace C : Cx Z D cy RX12 tX12_insideFrom 7 4 94 0 0 := C
  show Wk Z D 7 0 0 (mw cy a M) 0 [(0, .ref (a 0)), (1, .int p1), (2, .int p2), (3, .int p3), (4, .int p4)] []
  unfold f_X12_insideFrom at hf
  have hb73 : f_X12_insideFrom_b73 M p1 p2 p3 p4 = some r → Wk Z D 7 0 0 (mw cy a M) 73 [] [] := by
    intro  hf
    unfold f_X12_insideFrom_b73 at hf
    refine k_iconst C 40 rfl ci_m1 ?_
    exact k_iretP hR 41 rfl hf
  have hb37 : ∀ (s0 : Int32), f_X12_insideFrom_b37 M p1 p2 p3 p4 s0 = some r → Wk Z D 7 0 0 (mw cy a M) 37 [(0, .ref (a 0)), (1, .int p1), (2, .int p2), (3, .int p3)] [.int s0] := by
    intro s0 hf
    unfold f_X12_insideFrom_b37 at hf
    refine k_istore C 20 rfl (by decide) rfl ?_
    refine k_sub (lv2 := [(0, .ref (a 0)), (1, .int p1), (2, .int p2), (3, .int p3), (6, .int s0)]) [1, 2, 3, 4, 0] rfl ?_
    refine k_aload_0 C 21 rfl 0 rfl ?_
    refine k_iload_1 C 22 rfl 1 rfl ?_
    refine k_iload_2 C 23 rfl 2 rfl ?_
    refine k_iload_3 C 24 rfl 3 rfl ?_
    refine k_iload C 25 rfl 4 rfl ?_
    obtain ⟨r45, h5, hf⟩ := ob1_some hf
    refine k_callW C 26 (c_X12_mayInside Z.2.1 D cy a M p1 p2 p3 s0 r45 h5) rfl qX12_359 mvX12_mayInside 0 12 M_c0 rfl rfl rfl (Nat.le_of_ble_eq_true rfl) ⟨Nat.le_of_ble_eq_true rfl, Nat.le_of_ble_eq_true rfl, Nat.le_refl 0, Nat.le_refl 0⟩ ?_
    refine k_if_eq C 27 rfl 73 (by decide) (fun hc => ?_) (fun hc => ?_)
    · replace hf := if_t hf hc
      exact k_sub [] rfl (hb73  hf)
    · replace hf := if_f hf hc
      refine k_iload C 28 rfl 4 rfl ?_
      refine k_aload_0 C 29 rfl 0 rfl ?_
      refine k_iload_1 C 30 rfl 1 rfl ?_
      refine k_iload_2 C 31 rfl 2 rfl ?_
      refine k_iload_3 C 32 rfl 3 rfl ?_
      refine k_iconst C 33 rfl ci_1 ?_
      obtain ⟨r58, h5, hf⟩ := ob1_some hf
      refine k_callW C 34 (c_X12_timeOf Z.2.1 D cy a M p1 p2 p3 true r58 h5) rfl qX12_352 mvX12_timeOf 0 12 M_c0 rfl rfl rfl (Nat.le_of_ble_eq_true rfl) ⟨Nat.le_of_ble_eq_true rfl, Nat.le_of_ble_eq_true rfl, Nat.le_refl 0, Nat.le_refl 0⟩ ?_
      refine k_iadd C 35 rfl ?_
      refine k_sipush C 36 rfl cs_999 ?_
      refine k_icmp_gt C 37 rfl 73 (by decide) (fun hc => ?_) (fun hc => ?_)
      · replace hf := if_t hf hc
        exact k_sub [] rfl (hb73  hf)
      · replace hf := if_f hf hc
        refine k_iload C 38 rfl 4 rfl ?_
        refine k_goto C 39 rfl 74 (by decide) ?_
        exact k_iretP hR 41 rfl hf
  refine k_iload_2 C 0 rfl 2 rfl ?_
  refine k_iload_3 C 1 rfl 3 rfl ?_
  obtain ⟨r2, h5, hf⟩ := ob1_some hf
  refine k_callE C 2 (c_X12_wayOf Z.2.1 D cy p2 p3 r2 h5) rfl qX12_321 msX12_wayOf rfl rfl (Nat.le_of_ble_eq_true rfl) ⟨Nat.le_of_ble_eq_true rfl, Nat.le_of_ble_eq_true rfl, Nat.le_refl 0, Nat.le_refl 0⟩ ?_
  refine k_istore C 3 rfl (by decide) rfl ?_
  refine k_sub (lv2 := [(0, .ref (a 0)), (1, .int p1), (2, .int p2), (3, .int p3), (4, .int p4), (5, .int r2)]) [1, 2, 3, 4, 5, 0] rfl ?_
  refine k_iload C 4 rfl 4 rfl ?_
  refine k_aload_0 C 5 rfl 0 rfl ?_
  refine kg12_20 C 6 rfl qX12_39 0 M_c0 M_f0_20 ?_
  refine k_bipush C 7 rfl cb_37 ?_
  refine k_iload C 8 rfl 5 rfl ?_
  refine k_iadd C 9 rfl ?_
  obtain ⟨i18, hi, hin, hf⟩ := ixd_some hf
  refine k_iald C 10 rfl 10 M_c10 hin hi ?_
  refine k_icmp_ge C 11 rfl 35 (by decide) (fun hc => ?_) (fun hc => ?_)
  · replace hf := if_t hf hc
    refine k_iload C 19 rfl 4 rfl ?_
    exact k_sub [0, 1, 2, 3] rfl (hb37 p4 hf)
  · replace hf := if_f hf hc
    refine k_aload_0 C 12 rfl 0 rfl ?_
    refine kg12_20 C 13 rfl qX12_39 0 M_c0 M_f0_20 ?_
    refine k_bipush C 14 rfl cb_37 ?_
    refine k_iload C 15 rfl 5 rfl ?_
    refine k_iadd C 16 rfl ?_
    obtain ⟨i31, hi, hin, hf⟩ := ixd_some hf
    refine k_iald C 17 rfl 10 M_c10 hin hi ?_
    refine k_goto C 18 rfl 37 (by decide) ?_
    exact k_sub [0, 1, 2, 3] rfl (hb37 (M.2.1 20 i31) hf)
set_option maxHeartbeats 1000000 in
set_option maxRecDepth 20000 in
theorem c_X12_outsideFrom (l : Launch) (D : va_G) (cy : Nat → ClassId) (a : Nat → Nat) (M : Sg) (p1 : Int32) (p2 : Int32) (p3 : Int32) (p4 : Int32) (r : Int32) (hf : f_X12_outsideFrom M p1 p2 p3 p4 = some r) : Ct l D cy yX12_outsideFrom cX12_outsideFrom 8 (some .int) 3 69 0 0 [.ref (a 0), .int p1, .int p2, .int p3, .int p4] (mw cy a M) (some (.int r)) (mw cy a M) := by
  refine Ct_i tX12_outsideFrom hX12_outsideFrom (by decide) (Nat.le_of_ble_eq_true rfl) ?_
  intro Z hZ C hR
  subst hZ
  replace C : Cx Z D cy RX12 tX12_outsideFrom 8 3 69 0 0 := C
  show Wk Z D 8 0 0 (mw cy a M) 0 [(0, .ref (a 0)), (1, .int p1), (2, .int p2), (3, .int p3), (4, .int p4)] []
  unfold f_X12_outsideFrom at hf
  have hq13 : ∀ (k13 : Int32 → Int32 → Option (Int32)), (∀ (x5 : Int32) (x6 : Int32), k13 x5 x6 = some r → Wk Z D 8 0 0 (mw cy a M) 13 [(0, .ref (a 0)), (4, .int p4), (5, .int x5), (6, .int x6)] []) → ∀ (x5 : Int32) (x6 : Int32), f_X12_outsideFrom_b13 M p1 p2 p3 p4 k13 x5 x6 = some r → Wk Z D 8 0 0 (mw cy a M) 13 [(0, .ref (a 0)), (4, .int p4), (5, .int x5), (6, .int x6)] [] := by
    intro k13 hk13 x5 x6 hf
    unfold f_X12_outsideFrom_b13 at hf
    have hb58 : ∀ (x5 : Int32) (x6 : Int32) (s0 : Int32), f_X12_outsideFrom_b58 M p1 p2 p3 p4 k13 x5 x6 s0 = some r → Wk Z D 8 0 0 (mw cy a M) 58 [(0, .ref (a 0)), (4, .int p4), (5, .int x5), (6, .int x6)] [.int s0] := by
      intro x5 x6 s0 hf
      unfold f_X12_outsideFrom_b58 at hf
      refine k_istore C 35 rfl (by decide) rfl ?_
      refine k_sub (lv2 := [(0, .ref (a 0)), (4, .int p4), (5, .int x5), (6, .int x6), (7, .int s0)]) [1, 2, 3, 4, 0] rfl ?_
      refine k_iload C 36 rfl 4 rfl ?_
      refine k_iload C 37 rfl 2 rfl ?_
      refine k_iadd C 38 rfl ?_
      refine k_aload_0 C 39 rfl 0 rfl ?_
      refine kg12_20 C 40 rfl qX12_39 0 M_c0 M_f0_20 ?_
      refine k_bipush C 41 rfl cb_18 ?_
      refine k_iconst C 42 rfl ci_2 ?_
      refine k_iload C 43 rfl 3 rfl ?_
      refine k_imul C 44 rfl ?_
      refine k_iadd C 45 rfl ?_
      refine k_iconst C 46 rfl ci_1 ?_
      refine k_iadd C 47 rfl ?_
      obtain ⟨i78, hi, hin, hf⟩ := ixd_some hf
      refine k_iald C 48 rfl 10 M_c10 hin hi ?_
      refine k_icmp_gt C 49 rfl 85 (by decide) (fun hc => ?_) (fun hc => ?_)
      · replace hf := if_t hf hc
        obtain ⟨x6_85, hx, hf⟩ := bnd_some hf
        refine k_iinc C 52 rfl 3 rfl ((cn_1 _).trans hx) (by decide) rfl ?_
        refine k_sub (lv2 := [(0, .ref (a 0)), (4, .int p4), (5, .int x5), (6, .int x6_85), (7, .int s0)]) [1, 2, 3, 0, 4] rfl ?_
        refine k_goto C 53 rfl 13 (by decide) ?_
        exact k_sub [0, 1, 2, 3] rfl (hk13 x5 x6_85 hf)
      · replace hf := if_f hf hc
        refine k_iload C 50 rfl 4 rfl ?_
        exact k_iretP hR 51 rfl hf
    refine k_iload C 9 rfl 3 rfl ?_
    refine k_aload_0 C 10 rfl 0 rfl ?_
    refine kg12_20 C 11 rfl qX12_39 0 M_c0 M_f0_20 ?_
    refine k_iconst C 12 rfl ci_4 ?_
    refine k_iald C 13 rfl 10 M_c10 vi_4_137 tc_4 ?_
    refine k_icmp_gt C 14 rfl 91 (by decide) (fun hc => ?_) (fun hc => ?_)
    · replace hf := if_t hf hc
      refine k_iconst C 54 rfl ci_m1 ?_
      exact k_iretP hR 55 rfl hf
    · replace hf := if_f hf hc
      refine k_iload C 15 rfl 1 rfl ?_
      refine k_aload_0 C 16 rfl 0 rfl ?_
      refine kg12_20 C 17 rfl qX12_39 0 M_c0 M_f0_20 ?_
      refine k_bipush C 18 rfl cb_18 ?_
      refine k_iconst C 19 rfl ci_2 ?_
      refine k_iload C 20 rfl 3 rfl ?_
      refine k_imul C 21 rfl ?_
      refine k_iadd C 22 rfl ?_
      obtain ⟨i37, hi, hin, hf⟩ := ixd_some hf
      refine k_iald C 23 rfl 10 M_c10 hin hi ?_
      refine k_icmp_ge C 24 rfl 56 (by decide) (fun hc => ?_) (fun hc => ?_)
      · replace hf := if_t hf hc
        refine k_iload C 34 rfl 1 rfl ?_
        exact k_sub [0, 1, 2, 3] rfl (hb58 x5 x6 p4 hf)
      · replace hf := if_f hf hc
        refine k_aload_0 C 25 rfl 0 rfl ?_
        refine kg12_20 C 26 rfl qX12_39 0 M_c0 M_f0_20 ?_
        refine k_bipush C 27 rfl cb_18 ?_
        refine k_iconst C 28 rfl ci_2 ?_
        refine k_iload C 29 rfl 3 rfl ?_
        refine k_imul C 30 rfl ?_
        refine k_iadd C 31 rfl ?_
        obtain ⟨i52, hi, hin, hf⟩ := ixd_some hf
        refine k_iald C 32 rfl 10 M_c10 hin hi ?_
        refine k_goto C 33 rfl 58 (by decide) ?_
        exact k_sub [0, 1, 2, 3] rfl (hb58 x5 x6 (M.2.1 20 i52) hf)
  have hb13 := flW2 hq13
  refine k_aload_0 C 0 rfl 0 rfl ?_
  refine k_iload_1 C 1 rfl 1 rfl ?_
  refine k_iload_2 C 2 rfl 2 rfl ?_
  refine k_iload_3 C 3 rfl 3 rfl ?_
  refine k_iconst C 4 rfl ci_0 ?_
  obtain ⟨r5, h5, hf⟩ := ob1_some hf
  refine k_callW C 5 (c_X12_timeOf Z.2.1 D cy a M p1 p2 p3 false r5 h5) rfl qX12_352 mvX12_timeOf 0 12 M_c0 rfl rfl rfl (Nat.le_of_ble_eq_true rfl) ⟨Nat.le_of_ble_eq_true rfl, Nat.le_of_ble_eq_true rfl, Nat.le_refl 0, Nat.le_refl 0⟩ ?_
  refine k_istore C 6 rfl (by decide) rfl ?_
  refine k_sub (lv2 := [(0, .ref (a 0)), (1, .int p1), (2, .int p2), (3, .int p3), (4, .int p4), (5, .int r5)]) [1, 2, 3, 4, 5, 0] rfl ?_
  refine k_iconst C 7 rfl ci_0 ?_
  refine k_istore C 8 rfl (by decide) rfl ?_
  refine k_sub (lv2 := [(0, .ref (a 0)), (1, .int p1), (2, .int p2), (3, .int p3), (4, .int p4), (5, .int r5), (6, .int 0)]) [1, 2, 3, 4, 5, 6, 0] rfl ?_
  exact k_sub [0, 4, 5, 6] rfl (hb13 FU r5 0 hf)
set_option maxHeartbeats 1000000 in
set_option maxRecDepth 20000 in
theorem c_X12_keeps (l : Launch) (D : va_G) (cy : Nat → ClassId) (a : Nat → Nat) (M : Sg) (M1 : Sg) (hf : f_X12_keeps M = some M1) : Ct l D cy yX12_keeps cX12_keeps 2 none 0 0 0 0 [.ref (a 0)] (mw cy a M) none (mw cy a M1) := by
  refine Ct_v tX12_keeps hX12_keeps (by decide) (Nat.le_of_ble_eq_true rfl) ?_
  intro Z hZ C hR
  subst hZ
  replace C : Cx Z D cy RX12 tX12_keeps 2 0 0 0 0 := C
  show Wk Z D 2 0 0 (mw cy a M) 0 [(0, .ref (a 0))] []
  unfold f_X12_keeps at hf
  have hq52 : ∀ (k52 : Int32 → Sg → Option (Sg)), (∀ (x1 : Int32) (M : Sg), k52 x1 M = some M1 → Wk Z D 2 0 0 (mw cy a M) 52 [(0, .ref (a 0)), (1, .int x1)] []) → ∀ (x1 : Int32) (M : Sg), f_X12_keeps_b52 k52 x1 M = some M1 → Wk Z D 2 0 0 (mw cy a M) 52 [(0, .ref (a 0)), (1, .int x1)] [] := by
    intro k52 hk52 x1 M hf
    unfold f_X12_keeps_b52 at hf
    refine k_iload_1 C 29 rfl 1 rfl ?_
    refine k_bipush C 30 rfl cb_100 ?_
    refine k_icmp_ge C 31 rfl 84 (by decide) (fun hc => ?_) (fun hc => ?_)
    · replace hf := if_t hf hc
      refine k_aload_0 C 47 rfl 0 rfl ?_
      refine k_dup C 48 rfl rfl ?_
      refine kg12_23 C 49 rfl qX12_294 0 M_c0 M_f0_23 ?_
      refine k_iconst C 50 rfl ci_1 ?_
      refine k_iadd C 51 rfl ?_
      obtain ⟨M_91, hM, hf⟩ := bnd_some hf
      refine kp12_23 (w2 := (mw cy a M_91)) C 52 rfl qX12_294 0 M_c0 (v := ((M.1 23) + 1)) M_n0 (M_p0_23.trans (congrArg (fun z => (mw cy a z)) hM)) ?_
      exact k_vret (wf := (fun u => (mw cy a u))) hR 53 rfl hf
    · replace hf := if_f hf hc
      refine k_aload_0 C 32 rfl 0 rfl ?_
      refine kg12_22 C 33 rfl qX12_42 0 M_c0 M_f0_22 ?_
      refine k_bipush C 34 rfl cb_100 ?_
      refine k_aload_0 C 35 rfl 0 rfl ?_
      refine kg12_23 C 36 rfl qX12_294 0 M_c0 M_f0_23 ?_
      refine k_imul C 37 rfl ?_
      refine k_iload_1 C 38 rfl 1 rfl ?_
      refine k_iadd C 39 rfl ?_
      refine k_aload_0 C 40 rfl 0 rfl ?_
      refine kg12_20 C 41 rfl qX12_39 0 M_c0 M_f0_20 ?_
      refine k_iload_1 C 42 rfl 1 rfl ?_
      obtain ⟨i76, hi, hin, hf⟩ := ixd_some hf
      refine k_iald C 43 rfl 10 M_c10 hin hi ?_
      obtain ⟨i77, hi, hin, hf⟩ := ixd_some hf
      obtain ⟨M_77, hM, hf⟩ := bnd_some hf
      refine k_iast (w2 := (mw cy a M_77)) C 44 rfl 11 M_c11 hin hi (M_s11.trans (congrArg (fun z => (mw cy a z)) hM)) ?_
      obtain ⟨x1_78, hx, hf⟩ := bnd_some hf
      refine k_iinc C 45 rfl 1 rfl ((cn_1 _).trans hx) (by decide) rfl ?_
      refine k_sub (lv2 := [(0, .ref (a 0)), (1, .int x1_78)]) [1, 0] rfl ?_
      refine k_goto C 46 rfl 52 (by decide) ?_
      exact k_sub [0, 1] rfl (hk52 x1_78 M_77 hf)
  have hb52 := flW2 hq52
  have hb50 : ∀ (M : Sg), f_X12_keeps_b50 M = some M1 → Wk Z D 2 0 0 (mw cy a M) 50 [(0, .ref (a 0))] [] := by
    intro M hf
    unfold f_X12_keeps_b50 at hf
    refine k_iconst C 27 rfl ci_0 ?_
    refine k_istore_1 C 28 rfl (by decide) rfl ?_
    refine k_sub (lv2 := [(0, .ref (a 0)), (1, .int 0)]) [1, 0] rfl ?_
    exact k_sub [0, 1] rfl (hb52 FU 0 M hf)
  have hq12 : ∀ (k12 : Int32 → Sg → Option (Sg)), (∀ (x1 : Int32) (M : Sg), k12 x1 M = some M1 → Wk Z D 2 0 0 (mw cy a M) 12 [(0, .ref (a 0)), (1, .int x1)] []) → ∀ (x1 : Int32) (M : Sg), f_X12_keeps_b12 k12 x1 M = some M1 → Wk Z D 2 0 0 (mw cy a M) 12 [(0, .ref (a 0)), (1, .int x1)] [] := by
    intro k12 hk12 x1 M hf
    unfold f_X12_keeps_b12 at hf
    refine k_iload_1 C 6 rfl 1 rfl ?_
    refine k_sipush C 7 rfl cs_2000 ?_
    refine k_icmp_ge C 8 rfl 40 (by decide) (fun hc => ?_) (fun hc => ?_)
    · replace hf := if_t hf hc
      refine k_aload_0 C 21 rfl 0 rfl ?_
      refine k_dup C 22 rfl rfl ?_
      refine kg12_23 C 23 rfl qX12_294 0 M_c0 M_f0_23 ?_
      refine k_iconst C 24 rfl ci_1 ?_
      refine k_isub C 25 rfl ?_
      obtain ⟨M_47, hM, hf⟩ := bnd_some hf
      refine kp12_23 (w2 := (mw cy a M_47)) C 26 rfl qX12_294 0 M_c0 (v := ((M.1 23) - 1)) M_n0 (M_p0_23.trans (congrArg (fun z => (mw cy a z)) hM)) ?_
      exact k_sub [0] rfl (hb50 M_47 hf)
    · replace hf := if_f hf hc
      refine k_aload_0 C 9 rfl 0 rfl ?_
      refine kg12_22 C 10 rfl qX12_42 0 M_c0 M_f0_22 ?_
      refine k_iload_1 C 11 rfl 1 rfl ?_
      refine k_bipush C 12 rfl cb_100 ?_
      refine k_isub C 13 rfl ?_
      refine k_aload_0 C 14 rfl 0 rfl ?_
      refine kg12_22 C 15 rfl qX12_42 0 M_c0 M_f0_22 ?_
      refine k_iload_1 C 16 rfl 1 rfl ?_
      obtain ⟨i32, hi, hin, hf⟩ := ixd_some hf
      refine k_iald C 17 rfl 11 M_c11 hin hi ?_
      obtain ⟨i33, hi, hin, hf⟩ := ixd_some hf
      obtain ⟨M_33, hM, hf⟩ := bnd_some hf
      refine k_iast (w2 := (mw cy a M_33)) C 18 rfl 11 M_c11 hin hi (M_s11.trans (congrArg (fun z => (mw cy a z)) hM)) ?_
      obtain ⟨x1_34, hx, hf⟩ := bnd_some hf
      refine k_iinc C 19 rfl 1 rfl ((cn_1 _).trans hx) (by decide) rfl ?_
      refine k_sub (lv2 := [(0, .ref (a 0)), (1, .int x1_34)]) [1, 0] rfl ?_
      refine k_goto C 20 rfl 12 (by decide) ?_
      exact k_sub [0, 1] rfl (hk12 x1_34 M_33 hf)
  have hb12 := flW2 hq12
  refine k_aload_0 C 0 rfl 0 rfl ?_
  refine kg12_23 C 1 rfl qX12_294 0 M_c0 M_f0_23 ?_
  refine k_bipush C 2 rfl cb_20 ?_
  refine k_icmp_ne C 3 rfl 50 (by decide) (fun hc => ?_) (fun hc => ?_)
  · replace hf := if_f hf hc
    exact k_sub [0] rfl (hb50 M hf)
  · replace hf := if_t hf hc
    refine k_bipush C 4 rfl cb_100 ?_
    refine k_istore_1 C 5 rfl (by decide) rfl ?_
    refine k_sub (lv2 := [(0, .ref (a 0)), (1, .int 100)]) [1, 0] rfl ?_
    exact k_sub [0, 1] rfl (hb12 FU 100 M hf)
set_option maxHeartbeats 1000000 in
set_option maxRecDepth 20000 in
theorem c_X12_undo (l : Launch) (D : va_G) (cy : Nat → ClassId) (a : Nat → Nat) (M : Sg) (r : Int32) (M1 : Sg) (hf : f_X12_undo M = some (r, M1)) : Ct l D cy yX12_undo cX12_undo 2 (some .int) 0 0 0 0 [.ref (a 0)] (mw cy a M) (some (.int r)) (mw cy a M1) := by
  refine Ct_i tX12_undo hX12_undo (by decide) (Nat.le_of_ble_eq_true rfl) ?_
  intro Z hZ C hR
  subst hZ
  replace C : Cx Z D cy RX12 tX12_undo 2 0 0 0 0 := C
  show Wk Z D 2 0 0 (mw cy a M) 0 [(0, .ref (a 0))] []
  unfold f_X12_undo at hf
  have hq21 : ∀ (k21 : Int32 → Sg → Option (Int32 × Sg)), (∀ (x1 : Int32) (M : Sg), k21 x1 M = some (r, M1) → Wk Z D 2 0 0 (mw cy a M) 21 [(0, .ref (a 0)), (1, .int x1)] []) → ∀ (x1 : Int32) (M : Sg), f_X12_undo_b21 k21 x1 M = some (r, M1) → Wk Z D 2 0 0 (mw cy a M) 21 [(0, .ref (a 0)), (1, .int x1)] [] := by
    intro k21 hk21 x1 M hf
    unfold f_X12_undo_b21 at hf
    refine k_iload_1 C 13 rfl 1 rfl ?_
    refine k_bipush C 14 rfl cb_100 ?_
    refine k_icmp_ge C 15 rfl 53 (by decide) (fun hc => ?_) (fun hc => ?_)
    · replace hf := if_t hf hc
      refine k_aload_0 C 31 rfl 0 rfl ?_
      refine kg12_23 C 32 rfl qX12_294 0 M_c0 M_f0_23 ?_
      exact k_iret (wf := (fun u => (mw cy a u))) hR 33 rfl hf
    · replace hf := if_f hf hc
      refine k_aload_0 C 16 rfl 0 rfl ?_
      refine kg12_20 C 17 rfl qX12_39 0 M_c0 M_f0_20 ?_
      refine k_iload_1 C 18 rfl 1 rfl ?_
      refine k_aload_0 C 19 rfl 0 rfl ?_
      refine kg12_22 C 20 rfl qX12_42 0 M_c0 M_f0_22 ?_
      refine k_bipush C 21 rfl cb_100 ?_
      refine k_aload_0 C 22 rfl 0 rfl ?_
      refine kg12_23 C 23 rfl qX12_294 0 M_c0 M_f0_23 ?_
      refine k_imul C 24 rfl ?_
      refine k_iload_1 C 25 rfl 1 rfl ?_
      refine k_iadd C 26 rfl ?_
      obtain ⟨i45, hi, hin, hf⟩ := ixd_some hf
      refine k_iald C 27 rfl 11 M_c11 hin hi ?_
      obtain ⟨i46, hi, hin, hf⟩ := ixd_some hf
      obtain ⟨M_46, hM, hf⟩ := bnd_some hf
      refine k_iast (w2 := (mw cy a M_46)) C 28 rfl 10 M_c10 hin hi (M_s10.trans (congrArg (fun z => (mw cy a z)) hM)) ?_
      obtain ⟨x1_47, hx, hf⟩ := bnd_some hf
      refine k_iinc C 29 rfl 1 rfl ((cn_1 _).trans hx) (by decide) rfl ?_
      refine k_sub (lv2 := [(0, .ref (a 0)), (1, .int x1_47)]) [1, 0] rfl ?_
      refine k_goto C 30 rfl 21 (by decide) ?_
      exact k_sub [0, 1] rfl (hk21 x1_47 M_46 hf)
  have hb21 := flW2 hq21
  refine k_aload_0 C 0 rfl 0 rfl ?_
  refine kg12_23 C 1 rfl qX12_294 0 M_c0 M_f0_23 ?_
  refine k_if_ne C 2 rfl 9 (by decide) (fun hc => ?_) (fun hc => ?_)
  · replace hf := if_f hf hc
    refine k_aload_0 C 5 rfl 0 rfl ?_
    refine k_dup C 6 rfl rfl ?_
    refine kg12_23 C 7 rfl qX12_294 0 M_c0 M_f0_23 ?_
    refine k_iconst C 8 rfl ci_1 ?_
    refine k_isub C 9 rfl ?_
    obtain ⟨M_16, hM, hf⟩ := bnd_some hf
    refine kp12_23 (w2 := (mw cy a M_16)) C 10 rfl qX12_294 0 M_c0 (v := ((M.1 23) - 1)) M_n0 (M_p0_23.trans (congrArg (fun z => (mw cy a z)) hM)) ?_
    refine k_iconst C 11 rfl ci_0 ?_
    refine k_istore_1 C 12 rfl (by decide) rfl ?_
    refine k_sub (lv2 := [(0, .ref (a 0)), (1, .int 0)]) [1, 0] rfl ?_
    exact k_sub [0, 1] rfl (hb21 FU 0 M_16 hf)
  · replace hf := if_t hf hc
    refine k_iconst C 3 rfl ci_m1 ?_
    exact k_iret (wf := (fun u => (mw cy a u))) hR 4 rfl hf
set_option maxHeartbeats 1000000 in
set_option maxRecDepth 20000 in
theorem c_X12_goes (l : Launch) (D : va_G) (cy : Nat → ClassId) (a : Nat → Nat) (M : Sg) (p1 : Int32) (p2 : Int32) (p3 : Bool) (M1 : Sg) (hf : f_X12_goes M p1 p2 p3 = some M1) : Ct l D cy yX12_goes cX12_goes 5 none 3 69 0 0 [.ref (a 0), .int p1, .int p2, .int (bI p3)] (mw cy a M) none (mw cy a M1) := by
  refine Ct_v tX12_goes hX12_goes (by decide) (Nat.le_of_ble_eq_true rfl) ?_
  intro Z hZ C hR
  subst hZ
  replace C : Cx Z D cy RX12 tX12_goes 5 3 69 0 0 := C
  show Wk Z D 5 0 0 (mw cy a M) 0 [(0, .ref (a 0)), (1, .int p1), (2, .int p2), (3, .int (bI p3))] []
  unfold f_X12_goes at hf
  have hb101 : ∀ (s1 : Int32) (s2 : Int32) (M : Sg), f_X12_goes_b101 p1 p2 p3 s1 s2 M = some M1 → Wk Z D 5 0 0 (mw cy a M) 101 [] [.int s2, .int s1, .ref (a 21)] := by
    intro s1 s2 M hf
    unfold f_X12_goes_b101 at hf
    obtain ⟨i101, hi, hin, hf⟩ := ixd_some hf
    obtain ⟨M_101, hM, hf⟩ := bnd_some hf
    refine k_iast (w2 := (mw cy a M_101)) C 67 rfl 10 M_c10 hin hi (M_s10.trans (congrArg (fun z => (mw cy a z)) hM)) ?_
    exact k_vret (wf := (fun u => (mw cy a u))) hR 68 rfl hf
  refine k_bipush C 0 rfl cb_52 ?_
  refine k_bipush C 1 rfl cb_8 ?_
  refine k_iload_1 C 2 rfl 1 rfl ?_
  refine k_imul C 3 rfl ?_
  refine k_iadd C 4 rfl ?_
  obtain ⟨x4_7, hx, hf⟩ := bnd_some hf
  refine k_topi hx ?_
  refine k_istore C 5 rfl (by decide) rfl ?_
  refine k_sub (lv2 := [(0, .ref (a 0)), (1, .int p1), (2, .int p2), (3, .int (bI p3)), (4, .int x4_7)]) [1, 2, 3, 4, 0] rfl ?_
  refine k_aload_0 C 6 rfl 0 rfl ?_
  refine kg12_20 C 7 rfl qX12_39 0 M_c0 M_f0_20 ?_
  refine k_iload C 8 rfl 4 rfl ?_
  refine k_bipush C 9 rfl cb_6 ?_
  refine k_iadd C 10 rfl ?_
  refine k_aload_0 C 11 rfl 0 rfl ?_
  refine kg12_20 C 12 rfl qX12_39 0 M_c0 M_f0_20 ?_
  refine k_iconst C 13 rfl ci_3 ?_
  refine k_iald C 14 rfl 10 M_c10 vi_3_137 tc_3 ?_
  refine k_aload_0 C 15 rfl 0 rfl ?_
  refine k_iload_1 C 16 rfl 1 rfl ?_
  refine k_aload_0 C 17 rfl 0 rfl ?_
  refine kg12_20 C 18 rfl qX12_39 0 M_c0 M_f0_20 ?_
  refine k_iload C 19 rfl 4 rfl ?_
  obtain ⟨i32, hi, hin, hf⟩ := ixd_some hf
  refine k_iald C 20 rfl 10 M_c10 hin hi ?_
  refine k_iload_2 C 21 rfl 2 rfl ?_
  refine k_iload_3 C 22 rfl 3 rfl ?_
  obtain ⟨r35, h5, hf⟩ := ob1_some hf
  refine k_callW C 23 (c_X12_timeOf Z.2.1 D cy a M p1 (M.2.1 20 i32) p2 p3 r35 h5) rfl qX12_352 mvX12_timeOf 0 12 M_c0 rfl rfl rfl (Nat.le_of_ble_eq_true rfl) ⟨Nat.le_of_ble_eq_true rfl, Nat.le_of_ble_eq_true rfl, Nat.le_refl 0, Nat.le_refl 0⟩ ?_
  refine k_iadd C 24 rfl ?_
  obtain ⟨i39, hi, hin, hf⟩ := ixd_some hf
  obtain ⟨M_39, hM, hf⟩ := bnd_some hf
  refine k_iast (w2 := (mw cy a M_39)) C 25 rfl 10 M_c10 hin hi (M_s10.trans (congrArg (fun z => (mw cy a z)) hM)) ?_
  refine k_aload_0 C 26 rfl 0 rfl ?_
  refine kg12_20 C 27 rfl qX12_39 0 M_c0 M_f0_20 ?_
  refine k_iload C 28 rfl 4 rfl ?_
  refine k_iconst C 29 rfl ci_5 ?_
  refine k_iadd C 30 rfl ?_
  refine k_iload_2 C 31 rfl 2 rfl ?_
  obtain ⟨i49, hi, hin, hf⟩ := ixd_some hf
  obtain ⟨M_49, hM, hf⟩ := bnd_some hf
  refine k_iast (w2 := (mw cy a M_49)) C 32 rfl 10 M_c10 hin hi (M_s10.trans (congrArg (fun z => (mw cy a z)) hM)) ?_
  refine k_aload_0 C 33 rfl 0 rfl ?_
  refine kg12_20 C 34 rfl qX12_39 0 M_c0 M_f0_20 ?_
  refine k_iload C 35 rfl 4 rfl ?_
  refine k_bipush C 36 rfl cb_7 ?_
  refine k_iadd C 37 rfl ?_
  refine k_dup2 C 38 rfl rfl rfl ?_
  obtain ⟨i60, hi, hin, hf⟩ := ixd_some hf
  refine k_iald C 39 rfl 10 M_c10 hin hi ?_
  refine k_iconst C 40 rfl ci_1 ?_
  refine k_iadd C 41 rfl ?_
  obtain ⟨i63, hi, hin, hf⟩ := ixd_some hf
  obtain ⟨M_63, hM, hf⟩ := bnd_some hf
  refine k_iast (w2 := (mw cy a M_63)) C 42 rfl 10 M_c10 hin hi (M_s10.trans (congrArg (fun z => (mw cy a z)) hM)) ?_
  refine k_aload_0 C 43 rfl 0 rfl ?_
  refine kg12_20 C 44 rfl qX12_39 0 M_c0 M_f0_20 ?_
  refine k_bipush C 45 rfl cb_8 ?_
  refine k_iload_3 C 46 rfl 3 rfl ?_
  refine k_if_eq C 47 rfl 88 (by decide) (fun hc => ?_) (fun hc => ?_)
  · replace hf := if_t hf hc
    refine k_aload_0 C 57 rfl 0 rfl ?_
    refine kg12_20 C 58 rfl qX12_39 0 M_c0 M_f0_20 ?_
    refine k_bipush C 59 rfl cb_8 ?_
    refine k_iald C 60 rfl 10 M_c10 vi_8_137 tc_8 ?_
    refine k_iconst C 61 rfl ci_1 ?_
    refine k_iload_1 C 62 rfl 1 rfl ?_
    refine k_ishl C 63 rfl ?_
    refine k_iconst C 64 rfl ci_m1 ?_
    refine k_ixor C 65 rfl ?_
    refine k_iand C 66 rfl ?_
    exact k_sub [] rfl (hb101 8 ((M_63.2.1 20 8) &&& (((1 : Int32) <<< (p1 &&& 31)) ^^^ (-1))) M_63 hf)
  · replace hf := if_f hf hc
    refine k_aload_0 C 48 rfl 0 rfl ?_
    refine kg12_20 C 49 rfl qX12_39 0 M_c0 M_f0_20 ?_
    refine k_bipush C 50 rfl cb_8 ?_
    refine k_iald C 51 rfl 10 M_c10 vi_8_137 tc_8 ?_
    refine k_iconst C 52 rfl ci_1 ?_
    refine k_iload_1 C 53 rfl 1 rfl ?_
    refine k_ishl C 54 rfl ?_
    refine k_ior C 55 rfl ?_
    refine k_goto C 56 rfl 101 (by decide) ?_
    exact k_sub [] rfl (hb101 8 ((M_63.2.1 20 8) ||| ((1 : Int32) <<< (p1 &&& 31))) M_63 hf)
set_option maxHeartbeats 1000000 in
set_option maxRecDepth 20000 in
theorem c_X12_canInside (l : Launch) (D : va_G) (cy : Nat → ClassId) (a : Nat → Nat) (M : Sg) (p1 : Int32) (p2 : Int32) (r : Bool) (hf : f_X12_canInside M p1 p2 = some r) : Ct l D cy yX12_canInside cX12_canInside 4 (some .boolean) 4 94 0 0 [.ref (a 0), .int p1, .int p2] (mw cy a M) (some (.int (bI r))) (mw cy a M) := by
  refine Ct_z tX12_canInside hX12_canInside (by decide) (Nat.le_of_ble_eq_true rfl) ?_
  intro Z hZ C hR
  subst hZ
  replace C : Cx Z D cy RX12 tX12_canInside 4 4 94 0 0 := C
  show Wk Z D 4 0 0 (mw cy a M) 0 [(0, .ref (a 0)), (1, .int p1), (2, .int p2)] []
  unfold f_X12_canInside at hf
  have hb39 : f_X12_canInside_b39 M p1 p2 = some r → Wk Z D 4 0 0 (mw cy a M) 39 [] [] := by
    intro  hf
    unfold f_X12_canInside_b39 at hf
    refine k_iconst C 23 rfl ci_0 ?_
    exact k_zretP hR 24 rfl hf
  refine k_aload_0 C 0 rfl 0 rfl ?_
  refine k_iload_1 C 1 rfl 1 rfl ?_
  refine k_iconst C 2 rfl ci_0 ?_
  obtain ⟨r3, h5, hf⟩ := ob1_some hf
  refine k_callW C 3 (c_X12_riderOf Z.2.1 D cy a M p1 0 r3 h5) rfl qX12_312 mvX12_riderOf 0 12 M_c0 rfl rfl rfl (Nat.le_of_ble_eq_true rfl) ⟨Nat.le_of_ble_eq_true rfl, Nat.le_of_ble_eq_true rfl, Nat.le_refl 0, Nat.le_refl 0⟩ ?_
  refine k_istore_3 C 4 rfl (by decide) rfl ?_
  refine k_sub (lv2 := [(0, .ref (a 0)), (1, .int p1), (2, .int p2), (3, .int r3)]) [1, 2, 3, 0] rfl ?_
  refine k_aload_0 C 5 rfl 0 rfl ?_
  refine k_iload_1 C 6 rfl 1 rfl ?_
  refine k_iload_3 C 7 rfl 3 rfl ?_
  refine k_iload_2 C 8 rfl 2 rfl ?_
  refine k_aload_0 C 9 rfl 0 rfl ?_
  refine kg12_20 C 10 rfl qX12_39 0 M_c0 M_f0_20 ?_
  refine k_iconst C 11 rfl ci_3 ?_
  refine k_iald C 12 rfl 10 M_c10 vi_3_137 tc_3 ?_
  obtain ⟨r17, h5, hf⟩ := ob1_some hf
  refine k_callW C 13 (c_X12_mayInside Z.2.1 D cy a M p1 r3 p2 (M.2.1 20 3) r17 h5) rfl qX12_359 mvX12_mayInside 0 12 M_c0 rfl rfl rfl (Nat.le_of_ble_eq_true rfl) ⟨Nat.le_of_ble_eq_true rfl, Nat.le_of_ble_eq_true rfl, Nat.le_refl 0, Nat.le_refl 0⟩ ?_
  refine k_if_eq C 14 rfl 39 (by decide) (fun hc => ?_) (fun hc => ?_)
  · replace hf := if_t hf hc
    exact k_sub [] rfl (hb39  hf)
  · replace hf := if_f hf hc
    refine k_aload_0 C 15 rfl 0 rfl ?_
    refine k_iload_3 C 16 rfl 3 rfl ?_
    refine k_iload_2 C 17 rfl 2 rfl ?_
    obtain ⟨r26, h5, hf⟩ := ob1_some hf
    refine k_callE C 18 (c_X12_wayOf Z.2.1 D cy r3 p2 r26 h5) rfl qX12_321 msX12_wayOf rfl rfl (Nat.le_of_ble_eq_true rfl) ⟨Nat.le_of_ble_eq_true rfl, Nat.le_of_ble_eq_true rfl, Nat.le_refl 0, Nat.le_refl 0⟩ ?_
    obtain ⟨r29, h5, hf⟩ := ob1_some hf
    refine k_callW C 19 (c_X12_goerIn Z.2.1 D cy a M r26 r29 h5) rfl qX12_338 mvX12_goerIn 0 12 M_c0 rfl rfl rfl (Nat.le_of_ble_eq_true rfl) ⟨Nat.le_of_ble_eq_true rfl, Nat.le_of_ble_eq_true rfl, Nat.le_refl 0, Nat.le_refl 0⟩ ?_
    refine k_if_ge C 20 rfl 39 (by decide) (fun hc => ?_) (fun hc => ?_)
    · replace hf := if_t hf hc
      exact k_sub [] rfl (hb39  hf)
    · replace hf := if_f hf hc
      refine k_iconst C 21 rfl ci_1 ?_
      refine k_goto C 22 rfl 40 (by decide) ?_
      exact k_zretP hR 24 rfl hf
set_option maxHeartbeats 1000000 in
set_option maxRecDepth 20000 in
theorem c_X12_inside (l : Launch) (D : va_G) (cy : Nat → ClassId) (a : Nat → Nat) (M : Sg) (p1 : Int32) (p2 : Int32) (r : Int32) (M1 : Sg) (hf : f_X12_inside M p1 p2 = some (r, M1)) : Ct l D cy yX12_inside cX12_inside 4 (some .int) 5 117 0 0 [.ref (a 0), .int p1, .int p2] (mw cy a M) (some (.int r)) (mw cy a M1) := by
  refine Ct_i tX12_inside hX12_inside (by decide) (Nat.le_of_ble_eq_true rfl) ?_
  intro Z hZ C hR
  subst hZ
  replace C : Cx Z D cy RX12 tX12_inside 4 5 117 0 0 := C
  show Wk Z D 4 0 0 (mw cy a M) 0 [(0, .ref (a 0)), (1, .int p1), (2, .int p2)] []
  unfold f_X12_inside at hf
  have hb54 : ∀ (M : Sg), f_X12_inside_b54 p1 p2 M = some (r, M1) → Wk Z D 4 0 0 (mw cy a M) 54 [] [] := by
    intro M hf
    unfold f_X12_inside_b54 at hf
    refine k_iconst C 32 rfl ci_m1 ?_
    exact k_iret (wf := (fun u => (mw cy a u))) hR 33 rfl hf
  have hb26 : ∀ (M : Sg), f_X12_inside_b26 p1 p2 M = some (r, M1) → Wk Z D 4 0 0 (mw cy a M) 26 [] [] := by
    intro M hf
    unfold f_X12_inside_b26 at hf
    refine k_iconst C 14 rfl ci_m1 ?_
    exact k_iret (wf := (fun u => (mw cy a u))) hR 15 rfl hf
  have hb18 : ∀ (M : Sg), f_X12_inside_b18 p1 p2 M = some (r, M1) → Wk Z D 4 0 0 (mw cy a M) 18 [(0, .ref (a 0)), (1, .int p1), (2, .int p2)] [] := by
    intro M hf
    unfold f_X12_inside_b18 at hf
    refine k_aload_0 C 10 rfl 0 rfl ?_
    refine k_iload_1 C 11 rfl 1 rfl ?_
    obtain ⟨r20, h5, hf⟩ := ob1_some hf
    refine k_callW C 12 (c_X12_isGoing Z.2.1 D cy a M p1 r20 h5) rfl qX12_316 mvX12_isGoing 0 12 M_c0 rfl rfl rfl (Nat.le_of_ble_eq_true rfl) ⟨Nat.le_of_ble_eq_true rfl, Nat.le_of_ble_eq_true rfl, Nat.le_refl 0, Nat.le_refl 0⟩ ?_
    refine k_if_eq C 13 rfl 28 (by decide) (fun hc => ?_) (fun hc => ?_)
    · replace hf := if_t hf hc
      refine k_aload_0 C 16 rfl 0 rfl ?_
      refine k_iload_1 C 17 rfl 1 rfl ?_
      refine k_iconst C 18 rfl ci_0 ?_
      obtain ⟨r31, h5, hf⟩ := ob1_some hf
      refine k_callW C 19 (c_X12_riderOf Z.2.1 D cy a M p1 0 r31 h5) rfl qX12_312 mvX12_riderOf 0 12 M_c0 rfl rfl rfl (Nat.le_of_ble_eq_true rfl) ⟨Nat.le_of_ble_eq_true rfl, Nat.le_of_ble_eq_true rfl, Nat.le_refl 0, Nat.le_refl 0⟩ ?_
      refine k_iload_2 C 20 rfl 2 rfl ?_
      refine k_iadd C 21 rfl ?_
      obtain ⟨x3_36, hx, hf⟩ := bnd_some hf
      refine k_topi hx ?_
      refine k_istore_3 C 22 rfl (by decide) rfl ?_
      refine k_sub (lv2 := [(0, .ref (a 0)), (1, .int p1), (2, .int p2), (3, .int x3_36)]) [1, 2, 3, 0] rfl ?_
      refine k_aload_0 C 23 rfl 0 rfl ?_
      refine k_iload_3 C 24 rfl 3 rfl ?_
      obtain ⟨r39, h5, hf⟩ := ob1_some hf
      refine k_callW C 25 (c_X12_isCoach Z.2.1 D cy a M x3_36 r39 h5) rfl qX12_327 mvX12_isCoach 0 12 M_c0 rfl rfl rfl (Nat.le_of_ble_eq_true rfl) ⟨Nat.le_of_ble_eq_true rfl, Nat.le_of_ble_eq_true rfl, Nat.le_refl 0, Nat.le_refl 0⟩ ?_
      refine k_if_eq C 26 rfl 54 (by decide) (fun hc => ?_) (fun hc => ?_)
      · replace hf := if_t hf hc
        exact k_sub [] rfl (hb54 M hf)
      · replace hf := if_f hf hc
        refine k_aload_0 C 27 rfl 0 rfl ?_
        refine k_iload_1 C 28 rfl 1 rfl ?_
        refine k_iload_3 C 29 rfl 3 rfl ?_
        obtain ⟨r48, h5, hf⟩ := ob1_some hf
        refine k_callW C 30 (c_X12_canInside Z.2.1 D cy a M p1 x3_36 r48 h5) rfl qX12_362 mvX12_canInside 0 12 M_c0 rfl rfl rfl (Nat.le_of_ble_eq_true rfl) ⟨Nat.le_of_ble_eq_true rfl, Nat.le_of_ble_eq_true rfl, Nat.le_refl 0, Nat.le_refl 0⟩ ?_
        refine k_if_ne C 31 rfl 56 (by decide) (fun hc => ?_) (fun hc => ?_)
        · replace hf := if_f hf hc
          refine k_aload_0 C 34 rfl 0 rfl ?_
          obtain ⟨M_57, h5, hf⟩ := ob1_some hf
          refine k_callW C 35 (c_X12_keeps Z.2.1 D cy a M M_57 h5) rfl qX12_365 mvX12_keeps 0 12 M_c0 rfl rfl rfl (Nat.le_of_ble_eq_true rfl) ⟨Nat.le_of_ble_eq_true rfl, Nat.le_of_ble_eq_true rfl, Nat.le_refl 0, Nat.le_refl 0⟩ ?_
          refine k_aload_0 C 36 rfl 0 rfl ?_
          refine k_iload_1 C 37 rfl 1 rfl ?_
          refine k_iload_3 C 38 rfl 3 rfl ?_
          refine k_iconst C 39 rfl ci_1 ?_
          obtain ⟨M_64, h5, hf⟩ := ob1_some hf
          refine k_callW C 40 (c_X12_goes Z.2.1 D cy a M_57 p1 x3_36 true M_64 h5) rfl qX12_368 mvX12_goes 0 12 M_c0 rfl rfl rfl (Nat.le_of_ble_eq_true rfl) ⟨Nat.le_of_ble_eq_true rfl, Nat.le_of_ble_eq_true rfl, Nat.le_refl 0, Nat.le_refl 0⟩ ?_
          refine k_aload_0 C 41 rfl 0 rfl ?_
          refine k_iload_1 C 42 rfl 1 rfl ?_
          refine k_bipush C 43 rfl cb_6 ?_
          obtain ⟨r71, h5, hf⟩ := ob1_some hf
          refine k_callW C 44 (c_X12_riderOf Z.2.1 D cy a M_64 p1 6 r71 h5) rfl qX12_312 mvX12_riderOf 0 12 M_c0 rfl rfl rfl (Nat.le_of_ble_eq_true rfl) ⟨Nat.le_of_ble_eq_true rfl, Nat.le_of_ble_eq_true rfl, Nat.le_refl 0, Nat.le_refl 0⟩ ?_
          exact k_iret (wf := (fun u => (mw cy a u))) hR 45 rfl hf
        · replace hf := if_t hf hc
          exact k_sub [] rfl (hb54 M hf)
    · replace hf := if_f hf hc
      exact k_sub [] rfl (hb26 M hf)
  refine k_aload_0 C 0 rfl 0 rfl ?_
  refine k_iload_1 C 1 rfl 1 rfl ?_
  obtain ⟨r2, h5, hf⟩ := ob1_some hf
  refine k_callW C 2 (c_X12_isRider Z.2.1 D cy a M p1 r2 h5) rfl qX12_341 mvX12_isRider 0 12 M_c0 rfl rfl rfl (Nat.le_of_ble_eq_true rfl) ⟨Nat.le_of_ble_eq_true rfl, Nat.le_of_ble_eq_true rfl, Nat.le_refl 0, Nat.le_refl 0⟩ ?_
  refine k_if_eq C 3 rfl 26 (by decide) (fun hc => ?_) (fun hc => ?_)
  · replace hf := if_t hf hc
    exact k_sub [] rfl (hb26 M hf)
  · replace hf := if_f hf hc
    refine k_iload_2 C 4 rfl 2 rfl ?_
    refine k_iconst C 5 rfl ci_m1 ?_
    refine k_icmp_eq C 6 rfl 18 (by decide) (fun hc => ?_) (fun hc => ?_)
    · replace hf := if_t hf hc
      exact k_sub [0, 1, 2] rfl (hb18 M hf)
    · replace hf := if_f hf hc
      refine k_iload_2 C 7 rfl 2 rfl ?_
      refine k_iconst C 8 rfl ci_1 ?_
      refine k_icmp_ne C 9 rfl 26 (by decide) (fun hc => ?_) (fun hc => ?_)
      · replace hf := if_f hf hc
        exact k_sub [] rfl (hb26 M hf)
      · replace hf := if_t hf hc
        exact k_sub [0, 1, 2] rfl (hb18 M hf)
set_option maxHeartbeats 1000000 in
set_option maxRecDepth 20000 in
theorem c_X12_outside (l : Launch) (D : va_G) (cy : Nat → ClassId) (a : Nat → Nat) (M : Sg) (p1 : Int32) (p2 : Int32) (r : Int32) (M1 : Sg) (hf : f_X12_outside M p1 p2 = some (r, M1)) : Ct l D cy yX12_outside cX12_outside 3 (some .int) 4 95 0 0 [.ref (a 0), .int p1, .int p2] (mw cy a M) (some (.int r)) (mw cy a M1) := by
  refine Ct_i tX12_outside hX12_outside (by decide) (Nat.le_of_ble_eq_true rfl) ?_
  intro Z hZ C hR
  subst hZ
  replace C : Cx Z D cy RX12 tX12_outside 3 4 95 0 0 := C
  show Wk Z D 3 0 0 (mw cy a M) 0 [(0, .ref (a 0)), (1, .int p1), (2, .int p2)] []
  unfold f_X12_outside at hf
  have hb55 : ∀ (M : Sg), f_X12_outside_b55 p1 p2 M = some (r, M1) → Wk Z D 3 0 0 (mw cy a M) 55 [] [] := by
    intro M hf
    unfold f_X12_outside_b55 at hf
    refine k_iconst C 31 rfl ci_m1 ?_
    exact k_iret (wf := (fun u => (mw cy a u))) hR 32 rfl hf
  refine k_aload_0 C 0 rfl 0 rfl ?_
  refine k_iload_1 C 1 rfl 1 rfl ?_
  obtain ⟨r2, h5, hf⟩ := ob1_some hf
  refine k_callW C 2 (c_X12_isRider Z.2.1 D cy a M p1 r2 h5) rfl qX12_341 mvX12_isRider 0 12 M_c0 rfl rfl rfl (Nat.le_of_ble_eq_true rfl) ⟨Nat.le_of_ble_eq_true rfl, Nat.le_of_ble_eq_true rfl, Nat.le_refl 0, Nat.le_refl 0⟩ ?_
  refine k_if_eq C 3 rfl 55 (by decide) (fun hc => ?_) (fun hc => ?_)
  · replace hf := if_t hf hc
    exact k_sub [] rfl (hb55 M hf)
  · replace hf := if_f hf hc
    refine k_aload_0 C 4 rfl 0 rfl ?_
    refine k_iload_2 C 5 rfl 2 rfl ?_
    obtain ⟨r10, h5, hf⟩ := ob1_some hf
    refine k_callW C 6 (c_X12_isCoach Z.2.1 D cy a M p2 r10 h5) rfl qX12_327 mvX12_isCoach 0 12 M_c0 rfl rfl rfl (Nat.le_of_ble_eq_true rfl) ⟨Nat.le_of_ble_eq_true rfl, Nat.le_of_ble_eq_true rfl, Nat.le_refl 0, Nat.le_refl 0⟩ ?_
    refine k_if_eq C 7 rfl 55 (by decide) (fun hc => ?_) (fun hc => ?_)
    · replace hf := if_t hf hc
      exact k_sub [] rfl (hb55 M hf)
    · replace hf := if_f hf hc
      refine k_aload_0 C 8 rfl 0 rfl ?_
      refine k_iload_1 C 9 rfl 1 rfl ?_
      obtain ⟨r18, h5, hf⟩ := ob1_some hf
      refine k_callW C 10 (c_X12_isGoing Z.2.1 D cy a M p1 r18 h5) rfl qX12_316 mvX12_isGoing 0 12 M_c0 rfl rfl rfl (Nat.le_of_ble_eq_true rfl) ⟨Nat.le_of_ble_eq_true rfl, Nat.le_of_ble_eq_true rfl, Nat.le_refl 0, Nat.le_refl 0⟩ ?_
      refine k_if_ne C 11 rfl 55 (by decide) (fun hc => ?_) (fun hc => ?_)
      · replace hf := if_f hf hc
        exact k_sub [] rfl (hb55 M hf)
      · replace hf := if_t hf hc
        refine k_aload_0 C 12 rfl 0 rfl ?_
        refine k_iload_1 C 13 rfl 1 rfl ?_
        refine k_iconst C 14 rfl ci_0 ?_
        obtain ⟨r27, h5, hf⟩ := ob1_some hf
        refine k_callW C 15 (c_X12_riderOf Z.2.1 D cy a M p1 0 r27 h5) rfl qX12_312 mvX12_riderOf 0 12 M_c0 rfl rfl rfl (Nat.le_of_ble_eq_true rfl) ⟨Nat.le_of_ble_eq_true rfl, Nat.le_of_ble_eq_true rfl, Nat.le_refl 0, Nat.le_refl 0⟩ ?_
        refine k_iload_2 C 16 rfl 2 rfl ?_
        refine k_icmp_eq C 17 rfl 55 (by decide) (fun hc => ?_) (fun hc => ?_)
        · replace hf := if_t hf hc
          exact k_sub [] rfl (hb55 M hf)
        · replace hf := if_f hf hc
          refine k_aload_0 C 18 rfl 0 rfl ?_
          refine k_iload_1 C 19 rfl 1 rfl ?_
          refine k_aload_0 C 20 rfl 0 rfl ?_
          refine k_iload_1 C 21 rfl 1 rfl ?_
          refine k_iconst C 22 rfl ci_0 ?_
          obtain ⟨r39, h5, hf⟩ := ob1_some hf
          refine k_callW C 23 (c_X12_riderOf Z.2.1 D cy a M p1 0 r39 h5) rfl qX12_312 mvX12_riderOf 0 12 M_c0 rfl rfl rfl (Nat.le_of_ble_eq_true rfl) ⟨Nat.le_of_ble_eq_true rfl, Nat.le_of_ble_eq_true rfl, Nat.le_refl 0, Nat.le_refl 0⟩ ?_
          refine k_iload_2 C 24 rfl 2 rfl ?_
          refine k_aload_0 C 25 rfl 0 rfl ?_
          refine kg12_20 C 26 rfl qX12_39 0 M_c0 M_f0_20 ?_
          refine k_iconst C 27 rfl ci_3 ?_
          refine k_iald C 28 rfl 10 M_c10 vi_3_137 tc_3 ?_
          obtain ⟨r49, h5, hf⟩ := ob1_some hf
          refine k_callW C 29 (c_X12_mayOutside Z.2.1 D cy a M p1 r39 p2 (M.2.1 20 3) r49 h5) rfl qX12_372 mvX12_mayOutside 0 12 M_c0 rfl rfl rfl (Nat.le_of_ble_eq_true rfl) ⟨Nat.le_of_ble_eq_true rfl, Nat.le_of_ble_eq_true rfl, Nat.le_refl 0, Nat.le_refl 0⟩ ?_
          refine k_if_ne C 30 rfl 57 (by decide) (fun hc => ?_) (fun hc => ?_)
          · replace hf := if_f hf hc
            refine k_aload_0 C 33 rfl 0 rfl ?_
            obtain ⟨M_58, h5, hf⟩ := ob1_some hf
            refine k_callW C 34 (c_X12_keeps Z.2.1 D cy a M M_58 h5) rfl qX12_365 mvX12_keeps 0 12 M_c0 rfl rfl rfl (Nat.le_of_ble_eq_true rfl) ⟨Nat.le_of_ble_eq_true rfl, Nat.le_of_ble_eq_true rfl, Nat.le_refl 0, Nat.le_refl 0⟩ ?_
            refine k_aload_0 C 35 rfl 0 rfl ?_
            refine k_iload_1 C 36 rfl 1 rfl ?_
            refine k_iload_2 C 37 rfl 2 rfl ?_
            refine k_iconst C 38 rfl ci_0 ?_
            obtain ⟨M_65, h5, hf⟩ := ob1_some hf
            refine k_callW C 39 (c_X12_goes Z.2.1 D cy a M_58 p1 p2 false M_65 h5) rfl qX12_368 mvX12_goes 0 12 M_c0 rfl rfl rfl (Nat.le_of_ble_eq_true rfl) ⟨Nat.le_of_ble_eq_true rfl, Nat.le_of_ble_eq_true rfl, Nat.le_refl 0, Nat.le_refl 0⟩ ?_
            refine k_aload_0 C 40 rfl 0 rfl ?_
            refine k_iload_1 C 41 rfl 1 rfl ?_
            refine k_bipush C 42 rfl cb_6 ?_
            obtain ⟨r72, h5, hf⟩ := ob1_some hf
            refine k_callW C 43 (c_X12_riderOf Z.2.1 D cy a M_65 p1 6 r72 h5) rfl qX12_312 mvX12_riderOf 0 12 M_c0 rfl rfl rfl (Nat.le_of_ble_eq_true rfl) ⟨Nat.le_of_ble_eq_true rfl, Nat.le_of_ble_eq_true rfl, Nat.le_refl 0, Nat.le_refl 0⟩ ?_
            exact k_iret (wf := (fun u => (mw cy a u))) hR 44 rfl hf
          · replace hf := if_t hf hc
            exact k_sub [] rfl (hb55 M hf)
set_option maxHeartbeats 1000000 in
set_option maxRecDepth 20000 in
theorem c_X12_secondComes (l : Launch) (D : va_G) (cy : Nat → ClassId) (a : Nat → Nat) (M : Sg) (M1 : Sg) (hf : f_X12_secondComes M = some M1) : Ct l D cy yX12_secondComes cX12_secondComes 3 none 0 0 0 0 [.ref (a 0)] (mw cy a M) none (mw cy a M1) := by
  refine Ct_v tX12_secondComes hX12_secondComes (by decide) (Nat.le_of_ble_eq_true rfl) ?_
  intro Z hZ C hR
  subst hZ
  replace C : Cx Z D cy RX12 tX12_secondComes 3 0 0 0 0 := C
  show Wk Z D 3 0 0 (mw cy a M) 0 [(0, .ref (a 0))] []
  unfold f_X12_secondComes at hf
  have hq12 : ∀ (k12 : Int32 → Sg → Option (Sg)), (∀ (x1 : Int32) (M : Sg), k12 x1 M = some M1 → Wk Z D 3 0 0 (mw cy a M) 12 [(0, .ref (a 0)), (1, .int x1)] []) → ∀ (x1 : Int32) (M : Sg), f_X12_secondComes_b12 k12 x1 M = some M1 → Wk Z D 3 0 0 (mw cy a M) 12 [(0, .ref (a 0)), (1, .int x1)] [] := by
    intro k12 hk12 x1 M hf
    unfold f_X12_secondComes_b12 at hf
    have hb95 : ∀ (x1 : Int32) (M : Sg), f_X12_secondComes_b95 k12 x1 M = some M1 → Wk Z D 3 0 0 (mw cy a M) 95 [(0, .ref (a 0)), (1, .int x1)] [] := by
      intro x1 M hf
      unfold f_X12_secondComes_b95 at hf
      obtain ⟨x1_95, hx, hf⟩ := bnd_some hf
      refine k_iinc C 65 rfl 1 rfl ((cn_1 _).trans hx) (by decide) rfl ?_
      refine k_sub (lv2 := [(0, .ref (a 0)), (1, .int x1_95)]) [1, 0] rfl ?_
      refine k_goto C 66 rfl 12 (by decide) ?_
      exact k_sub [0, 1] rfl (hk12 x1_95 M hf)
    refine k_iload_1 C 10 rfl 1 rfl ?_
    refine k_aload_0 C 11 rfl 0 rfl ?_
    refine kg12_20 C 12 rfl qX12_39 0 M_c0 M_f0_20 ?_
    refine k_iconst C 13 rfl ci_2 ?_
    refine k_iald C 14 rfl 10 M_c10 vi_2_137 tc_2 ?_
    refine k_icmp_ge C 15 rfl 101 (by decide) (fun hc => ?_) (fun hc => ?_)
    · replace hf := if_t hf hc
      exact k_vret (wf := (fun u => (mw cy a u))) hR 67 rfl hf
    · replace hf := if_f hf hc
      refine k_bipush C 16 rfl cb_52 ?_
      refine k_bipush C 17 rfl cb_8 ?_
      refine k_iload_1 C 18 rfl 1 rfl ?_
      refine k_imul C 19 rfl ?_
      refine k_iadd C 20 rfl ?_
      obtain ⟨x2_29, hx, hf⟩ := bnd_some hf
      refine k_topi hx ?_
      refine k_istore_2 C 21 rfl (by decide) rfl ?_
      refine k_sub (lv2 := [(0, .ref (a 0)), (1, .int x1), (2, .int x2_29)]) [1, 2, 0] rfl ?_
      refine k_aload_0 C 22 rfl 0 rfl ?_
      refine kg12_20 C 23 rfl qX12_39 0 M_c0 M_f0_20 ?_
      refine k_iload_2 C 24 rfl 2 rfl ?_
      refine k_iconst C 25 rfl ci_5 ?_
      refine k_iadd C 26 rfl ?_
      obtain ⟨i37, hi, hin, hf⟩ := ixd_some hf
      refine k_iald C 27 rfl 10 M_c10 hin hi ?_
      refine k_if_lt C 28 rfl 95 (by decide) (fun hc => ?_) (fun hc => ?_)
      · replace hf := if_t hf hc
        exact k_sub [0, 1] rfl (hb95 x1 M hf)
      · replace hf := if_f hf hc
        refine k_aload_0 C 29 rfl 0 rfl ?_
        refine kg12_20 C 30 rfl qX12_39 0 M_c0 M_f0_20 ?_
        refine k_iload_2 C 31 rfl 2 rfl ?_
        refine k_bipush C 32 rfl cb_6 ?_
        refine k_iadd C 33 rfl ?_
        obtain ⟨i49, hi, hin, hf⟩ := ixd_some hf
        refine k_iald C 34 rfl 10 M_c10 hin hi ?_
        refine k_aload_0 C 35 rfl 0 rfl ?_
        refine kg12_20 C 36 rfl qX12_39 0 M_c0 M_f0_20 ?_
        refine k_iconst C 37 rfl ci_3 ?_
        refine k_iald C 38 rfl 10 M_c10 vi_3_137 tc_3 ?_
        refine k_icmp_eq C 39 rfl 62 (by decide) (fun hc => ?_) (fun hc => ?_)
        · replace hf := if_t hf hc
          refine k_aload_0 C 41 rfl 0 rfl ?_
          refine kg12_20 C 42 rfl qX12_39 0 M_c0 M_f0_20 ?_
          refine k_iload_2 C 43 rfl 2 rfl ?_
          refine k_aload_0 C 44 rfl 0 rfl ?_
          refine kg12_20 C 45 rfl qX12_39 0 M_c0 M_f0_20 ?_
          refine k_iload_2 C 46 rfl 2 rfl ?_
          refine k_iconst C 47 rfl ci_5 ?_
          refine k_iadd C 48 rfl ?_
          obtain ⟨i74, hi, hin, hf⟩ := ixd_some hf
          refine k_iald C 49 rfl 10 M_c10 hin hi ?_
          obtain ⟨i75, hi, hin, hf⟩ := ixd_some hf
          obtain ⟨M_75, hM, hf⟩ := bnd_some hf
          refine k_iast (w2 := (mw cy a M_75)) C 50 rfl 10 M_c10 hin hi (M_s10.trans (congrArg (fun z => (mw cy a z)) hM)) ?_
          refine k_aload_0 C 51 rfl 0 rfl ?_
          refine kg12_20 C 52 rfl qX12_39 0 M_c0 M_f0_20 ?_
          refine k_iload_2 C 53 rfl 2 rfl ?_
          refine k_iconst C 54 rfl ci_5 ?_
          refine k_iadd C 55 rfl ?_
          refine k_iconst C 56 rfl ci_m1 ?_
          obtain ⟨i84, hi, hin, hf⟩ := ixd_some hf
          obtain ⟨M_84, hM, hf⟩ := bnd_some hf
          refine k_iast (w2 := (mw cy a M_84)) C 57 rfl 10 M_c10 hin hi (M_s10.trans (congrArg (fun z => (mw cy a z)) hM)) ?_
          refine k_aload_0 C 58 rfl 0 rfl ?_
          refine kg12_20 C 59 rfl qX12_39 0 M_c0 M_f0_20 ?_
          refine k_iload_2 C 60 rfl 2 rfl ?_
          refine k_bipush C 61 rfl cb_6 ?_
          refine k_iadd C 62 rfl ?_
          refine k_iconst C 63 rfl ci_m1 ?_
          obtain ⟨i94, hi, hin, hf⟩ := ixd_some hf
          obtain ⟨M_94, hM, hf⟩ := bnd_some hf
          refine k_iast (w2 := (mw cy a M_94)) C 64 rfl 10 M_c10 hin hi (M_s10.trans (congrArg (fun z => (mw cy a z)) hM)) ?_
          exact k_sub [0, 1] rfl (hb95 x1 M_94 hf)
        · replace hf := if_f hf hc
          refine k_goto C 40 rfl 95 (by decide) ?_
          exact k_sub [0, 1] rfl (hb95 x1 M hf)
  have hb12 := flW2 hq12
  refine k_aload_0 C 0 rfl 0 rfl ?_
  refine kg12_20 C 1 rfl qX12_39 0 M_c0 M_f0_20 ?_
  refine k_iconst C 2 rfl ci_3 ?_
  refine k_dup2 C 3 rfl rfl rfl ?_
  refine k_iald C 4 rfl 10 M_c10 vi_3_137 tc_3 ?_
  refine k_iconst C 5 rfl ci_1 ?_
  refine k_iadd C 6 rfl ?_
  obtain ⟨M_9, hM, hf⟩ := bnd_some hf
  refine k_iast (w2 := (mw cy a M_9)) C 7 rfl 10 M_c10 vi_3_137 tc_3 (M_s10.trans (congrArg (fun z => (mw cy a z)) hM)) ?_
  refine k_iconst C 8 rfl ci_0 ?_
  refine k_istore_1 C 9 rfl (by decide) rfl ?_
  refine k_sub (lv2 := [(0, .ref (a 0)), (1, .int 0)]) [1, 0] rfl ?_
  exact k_sub [0, 1] rfl (hb12 FU 0 M_9 hf)
