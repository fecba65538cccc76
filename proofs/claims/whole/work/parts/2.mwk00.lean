set_option maxHeartbeats 1000000 in
set_option maxRecDepth 20000 in
theorem c_X12_in (l : Launch) (D : va_G) (cy : Nat → ClassId) (p0 : Int64) (p2 : Int64) (p4 : Int64) (r : Bool) (hf : f_X12_in p0 p2 p4 = some r) : Ct l D cy yX12_in cX12_in 6 (some .boolean) 0 0 0 0 [.long p0, .long p2, .long p4] [] (some (.int (bI r))) [] := by
  refine Ct_z tX12_in hX12_in (by decide) (Nat.le_of_ble_eq_true rfl) ?_
  intro Z hZ C hR
  subst hZ
  replace C : Cx Z D cy RX12 tX12_in 6 0 0 0 0 := C
  show Wk Z D 6 0 0 [] 0 [(0, .long p0), (2, .long p2), (4, .long p4)] []
  unfold f_X12_in at hf
  have hb17 : f_X12_in_b17 p0 p2 p4 = some r → Wk Z D 6 0 0 [] 17 [] [] := by
    intro  hf
    unfold f_X12_in_b17 at hf
    refine k_iconst C 10 rfl ci_0 ?_
    exact k_zretP hR 11 rfl hf
  refine k_lload_0 C 0 rfl 0 rfl ?_
  refine k_lload_2 C 1 rfl 1 rfl ?_
  refine k_lcmp C 2 rfl ?_
  refine k_if_lt C 3 rfl 17 (by decide) (fun hc => ?_) (fun hc => ?_)
  · replace hf := if_t hf hc
    exact k_sub [] rfl (hb17  hf)
  · replace hf := if_f hf hc
    refine k_lload_0 C 4 rfl 0 rfl ?_
    refine k_lload C 5 rfl 2 rfl ?_
    refine k_lcmp C 6 rfl ?_
    refine k_if_gt C 7 rfl 17 (by decide) (fun hc => ?_) (fun hc => ?_)
    · replace hf := if_t hf hc
      exact k_sub [] rfl (hb17  hf)
    · replace hf := if_f hf hc
      refine k_iconst C 8 rfl ci_1 ?_
      refine k_goto C 9 rfl 18 (by decide) ?_
      exact k_zretP hR 11 rfl hf
set_option maxHeartbeats 1000000 in
set_option maxRecDepth 20000 in
theorem c_X12_isOf (l : Launch) (D : va_G) (cy : Nat → ClassId) (p0 : Int32) (p1 : Int32) (r : Bool) (hf : f_X12_isOf p0 p1 = some r) : Ct l D cy yX12_isOf cX12_isOf 2 (some .boolean) 0 0 0 0 [.int p0, .int p1] [] (some (.int (bI r))) [] := by
  refine Ct_z tX12_isOf hX12_isOf (by decide) (Nat.le_of_ble_eq_true rfl) ?_
  intro Z hZ C hR
  subst hZ
  replace C : Cx Z D cy RX12 tX12_isOf 2 0 0 0 0 := C
  show Wk Z D 2 0 0 [] 0 [(0, .int p0), (1, .int p1)] []
  unfold f_X12_isOf at hf
  refine k_iload_0 C 0 rfl 0 rfl ?_
  refine k_iload_1 C 1 rfl 1 rfl ?_
  refine k_ishr C 2 rfl ?_
  refine k_iconst C 3 rfl ci_1 ?_
  refine k_iand C 4 rfl ?_
  refine k_iconst C 5 rfl ci_1 ?_
  refine k_icmp_ne C 6 rfl 13 (by decide) (fun hc => ?_) (fun hc => ?_)
  · replace hf := if_f hf hc
    refine k_iconst C 9 rfl ci_0 ?_
    exact k_zretP hR 10 rfl hf
  · replace hf := if_t hf hc
    refine k_iconst C 7 rfl ci_1 ?_
    refine k_goto C 8 rfl 14 (by decide) ?_
    exact k_zretP hR 10 rfl hf
set_option maxHeartbeats 1000000 in
set_option maxRecDepth 20000 in
theorem c_X12_four (l : Launch) (D : va_G) (cy : Nat → ClassId) (a : Nat → Nat) (M : Sg) (p1 : Int32) (M1 : Sg) (hf : f_X12_four M p1 = some M1) : Ct l D cy yX12_four cX12_four 3 none 0 0 0 0 [.ref (a 0), .int p1] (mw cy a M) none (mw cy a M1) := by
  refine Ct_v tX12_four hX12_four (by decide) (Nat.le_of_ble_eq_true rfl) ?_
  intro Z hZ C hR
  subst hZ
  replace C : Cx Z D cy RX12 tX12_four 3 0 0 0 0 := C
  show Wk Z D 3 0 0 (mw cy a M) 0 [(0, .ref (a 0)), (1, .int p1)] []
  unfold f_X12_four at hf
  have hq3 : ∀ (k3 : Int32 → Sg → Option (Sg)), (∀ (x2 : Int32) (M : Sg), k3 x2 M = some M1 → Wk Z D 3 0 0 (mw cy a M) 3 [(0, .ref (a 0)), (1, .int p1), (2, .int x2)] []) → ∀ (x2 : Int32) (M : Sg), f_X12_four_b3 p1 k3 x2 M = some M1 → Wk Z D 3 0 0 (mw cy a M) 3 [(0, .ref (a 0)), (1, .int p1), (2, .int x2)] [] := by
    intro k3 hk3 x2 M hf
    unfold f_X12_four_b3 at hf
    refine k_iload_2 C 2 rfl 2 rfl ?_
    refine k_if_lt C 3 rfl 36 (by decide) (fun hc => ?_) (fun hc => ?_)
    · replace hf := if_t hf hc
      exact k_vret (wf := (fun u => (mw cy a u))) hR 21 rfl hf
    · replace hf := if_f hf hc
      refine k_aload_0 C 4 rfl 0 rfl ?_
      refine kg12_0 C 5 rfl qX12_7 0 M_c0 M_f0_0 ?_
      refine k_aload_0 C 6 rfl 0 rfl ?_
      refine kg12_1 C 7 rfl qX12_85 0 M_c0 M_f0_1 ?_
      refine k_iload_1 C 8 rfl 1 rfl ?_
      refine k_iload_2 C 9 rfl 2 rfl ?_
      refine k_ishr C 10 rfl ?_
      refine k_i2b C 11 rfl ?_
      obtain ⟨i19, hi, hin, hf⟩ := ixd_some hf
      obtain ⟨M_19, hM, hf⟩ := bnd_some hf
      refine k_bast (w2 := (mw cy a M_19)) C 12 rfl 1 M_c1 hin hi (M_s1.trans (congrArg (fun z => (mw cy a z)) hM)) ?_
      refine k_aload_0 C 13 rfl 0 rfl ?_
      refine k_dup C 14 rfl rfl ?_
      refine kg12_1 C 15 rfl qX12_85 0 M_c0 M_f0_1 ?_
      refine k_iconst C 16 rfl ci_1 ?_
      refine k_iadd C 17 rfl ?_
      obtain ⟨M_27, hM, hf⟩ := bnd_some hf
      refine kp12_1 (w2 := (mw cy a M_27)) C 18 rfl qX12_85 0 M_c0 (v := ((M_19.1 1) + 1)) M_n0 (M_p0_1.trans (congrArg (fun z => (mw cy a z)) hM)) ?_
      obtain ⟨x2_30, hx, hf⟩ := bnd_some hf
      refine k_iinc C 19 rfl 2 rfl ((cn_m8 _).trans hx) (by decide) rfl ?_
      refine k_sub (lv2 := [(0, .ref (a 0)), (1, .int p1), (2, .int x2_30)]) [1, 2, 0] rfl ?_
      refine k_goto C 20 rfl 3 (by decide) ?_
      exact k_sub [0, 1, 2] rfl (hk3 x2_30 M_27 hf)
  have hb3 := flW2 hq3
  refine k_bipush C 0 rfl cb_24 ?_
  refine k_istore_2 C 1 rfl (by decide) rfl ?_
  refine k_sub (lv2 := [(0, .ref (a 0)), (1, .int p1), (2, .int 24)]) [1, 2, 0] rfl ?_
  exact k_sub [0, 1, 2] rfl (hb3 FU 24 M hf)
set_option maxHeartbeats 1000000 in
set_option maxRecDepth 20000 in
theorem c_X12_feed (l : Launch) (D : va_G) (cy : Nat → ClassId) (a : Nat → Nat) (M : Sg) (p1 : Int32) (p2 : Int32) (p3 : Int32) (p4 : Int32) (p5 : Int32) (r : Int32) (M1 : Sg) (hf : f_X12_feed M p1 p2 p3 p4 p5 = some (r, M1)) : Ct l D cy yX12_feed cX12_feed 6 (some .int) 1 22 0 0 [.ref (a 0), .int p1, .int p2, .int p3, .int p4, .int p5] (mw cy a M) (some (.int r)) (mw cy a M1) := by
  refine Ct_i tX12_feed hX12_feed (by decide) (Nat.le_of_ble_eq_true rfl) ?_
  intro Z hZ C hR
  subst hZ
  replace C : Cx Z D cy RX12 tX12_feed 6 1 22 0 0 := C
  show Wk Z D 6 0 0 (mw cy a M) 0 [(0, .ref (a 0)), (1, .int p1), (2, .int p2), (3, .int p3), (4, .int p4), (5, .int p5)] []
  unfold f_X12_feed at hf
  refine k_aload_0 C 0 rfl 0 rfl ?_
  refine kg12_1 C 1 rfl qX12_85 0 M_c0 M_f0_1 ?_
  refine k_bipush C 2 rfl cb_20 ?_
  refine k_iadd C 3 rfl ?_
  refine k_sipush C 4 rfl cs_400 ?_
  refine k_icmp_le C 5 rfl 15 (by decide) (fun hc => ?_) (fun hc => ?_)
  · replace hf := if_t hf hc
    refine k_aload_0 C 8 rfl 0 rfl ?_
    refine k_iload_1 C 9 rfl 1 rfl ?_
    obtain ⟨M_17, h5, hf⟩ := ob1_some hf
    refine k_callW C 10 (c_X12_four Z.2.1 D cy a M p1 M_17 h5) rfl qX12_89 mvX12_four 0 12 M_c0 rfl rfl rfl (Nat.le_of_ble_eq_true rfl) ⟨Nat.le_of_ble_eq_true rfl, Nat.le_of_ble_eq_true rfl, Nat.le_refl 0, Nat.le_refl 0⟩ ?_
    refine k_aload_0 C 11 rfl 0 rfl ?_
    refine k_iload_2 C 12 rfl 2 rfl ?_
    obtain ⟨M_22, h5, hf⟩ := ob1_some hf
    refine k_callW C 13 (c_X12_four Z.2.1 D cy a M_17 p2 M_22 h5) rfl qX12_89 mvX12_four 0 12 M_c0 rfl rfl rfl (Nat.le_of_ble_eq_true rfl) ⟨Nat.le_of_ble_eq_true rfl, Nat.le_of_ble_eq_true rfl, Nat.le_refl 0, Nat.le_refl 0⟩ ?_
    refine k_aload_0 C 14 rfl 0 rfl ?_
    refine k_iload_3 C 15 rfl 3 rfl ?_
    obtain ⟨M_27, h5, hf⟩ := ob1_some hf
    refine k_callW C 16 (c_X12_four Z.2.1 D cy a M_22 p3 M_27 h5) rfl qX12_89 mvX12_four 0 12 M_c0 rfl rfl rfl (Nat.le_of_ble_eq_true rfl) ⟨Nat.le_of_ble_eq_true rfl, Nat.le_of_ble_eq_true rfl, Nat.le_refl 0, Nat.le_refl 0⟩ ?_
    refine k_aload_0 C 17 rfl 0 rfl ?_
    refine k_iload C 18 rfl 4 rfl ?_
    obtain ⟨M_33, h5, hf⟩ := ob1_some hf
    refine k_callW C 19 (c_X12_four Z.2.1 D cy a M_27 p4 M_33 h5) rfl qX12_89 mvX12_four 0 12 M_c0 rfl rfl rfl (Nat.le_of_ble_eq_true rfl) ⟨Nat.le_of_ble_eq_true rfl, Nat.le_of_ble_eq_true rfl, Nat.le_refl 0, Nat.le_refl 0⟩ ?_
    refine k_aload_0 C 20 rfl 0 rfl ?_
    refine k_iload C 21 rfl 5 rfl ?_
    obtain ⟨M_39, h5, hf⟩ := ob1_some hf
    refine k_callW C 22 (c_X12_four Z.2.1 D cy a M_33 p5 M_39 h5) rfl qX12_89 mvX12_four 0 12 M_c0 rfl rfl rfl (Nat.le_of_ble_eq_true rfl) ⟨Nat.le_of_ble_eq_true rfl, Nat.le_of_ble_eq_true rfl, Nat.le_refl 0, Nat.le_refl 0⟩ ?_
    refine k_aload_0 C 23 rfl 0 rfl ?_
    refine kg12_1 C 24 rfl qX12_85 0 M_c0 M_f0_1 ?_
    exact k_iret (wf := (fun u => (mw cy a u))) hR 25 rfl hf
  · replace hf := if_f hf hc
    refine k_iconst C 6 rfl ci_m1 ?_
    exact k_iret (wf := (fun u => (mw cy a u))) hR 7 rfl hf
set_option maxHeartbeats 1000000 in
set_option maxRecDepth 20000 in
theorem c_X12_end (l : Launch) (D : va_G) (cy : Nat → ClassId) (a : Nat → Nat) (M : Sg) (p1 : Int32) (r : Int32) (M1 : Sg) (hf : f_X12_end M p1 = some (r, M1)) : Ct l D cy yX12_end cX12_end 2 (some .int) 0 0 0 0 [.ref (a 0), .int p1] (mw cy a M) (some (.int r)) (mw cy a M1) := by
  refine Ct_i tX12_end hX12_end (by decide) (Nat.le_of_ble_eq_true rfl) ?_
  intro Z hZ C hR
  subst hZ
  replace C : Cx Z D cy RX12 tX12_end 2 0 0 0 0 := C
  show Wk Z D 2 0 0 (mw cy a M) 0 [(0, .ref (a 0)), (1, .int p1)] []
  unfold f_X12_end at hf
  have hb12 : ∀ (M : Sg), f_X12_end_b12 p1 M = some (r, M1) → Wk Z D 2 0 0 (mw cy a M) 12 [] [] := by
    intro M hf
    unfold f_X12_end_b12 at hf
    refine k_iconst C 6 rfl ci_m1 ?_
    exact k_iret (wf := (fun u => (mw cy a u))) hR 7 rfl hf
  refine k_iload_1 C 0 rfl 1 rfl ?_
  refine k_if_lt C 1 rfl 12 (by decide) (fun hc => ?_) (fun hc => ?_)
  · replace hf := if_t hf hc
    exact k_sub [] rfl (hb12 M hf)
  · replace hf := if_f hf hc
    refine k_iload_1 C 2 rfl 1 rfl ?_
    refine k_aload_0 C 3 rfl 0 rfl ?_
    refine kg12_1 C 4 rfl qX12_85 0 M_c0 M_f0_1 ?_
    refine k_icmp_le C 5 rfl 14 (by decide) (fun hc => ?_) (fun hc => ?_)
    · replace hf := if_t hf hc
      refine k_aload_0 C 8 rfl 0 rfl ?_
      refine k_iload_1 C 9 rfl 1 rfl ?_
      obtain ⟨M_16, hM, hf⟩ := bnd_some hf
      refine kp12_1 (w2 := (mw cy a M_16)) C 10 rfl qX12_85 0 M_c0 (v := p1) M_n0 (M_p0_1.trans (congrArg (fun z => (mw cy a z)) hM)) ?_
      refine k_iload_1 C 11 rfl 1 rfl ?_
      exact k_iret (wf := (fun u => (mw cy a u))) hR 12 rfl hf
    · replace hf := if_f hf hc
      exact k_sub [] rfl (hb12 M hf)
set_option maxHeartbeats 1000000 in
set_option maxRecDepth 20000 in
theorem c_X12_fails (l : Launch) (D : va_G) (cy : Nat → ClassId) (a : Nat → Nat) (M : Sg) (p1 : Int32) (p2 : Int32) (r : Bool) (M1 : Sg) (hf : f_X12_fails M p1 p2 = some (r, M1)) : Ct l D cy yX12_fails cX12_fails 3 (some .boolean) 0 0 0 0 [.ref (a 0), .int p1, .int p2] (mw cy a M) (some (.int (bI r))) (mw cy a M1) := by
  refine Ct_z tX12_fails hX12_fails (by decide) (Nat.le_of_ble_eq_true rfl) ?_
  intro Z hZ C hR
  subst hZ
  replace C : Cx Z D cy RX12 tX12_fails 3 0 0 0 0 := C
  show Wk Z D 3 0 0 (mw cy a M) 0 [(0, .ref (a 0)), (1, .int p1), (2, .int p2)] []
  unfold f_X12_fails at hf
  have hb19 : ∀ (M : Sg), f_X12_fails_b19 p1 p2 M = some (r, M1) → Wk Z D 3 0 0 (mw cy a M) 19 [] [] := by
    intro M hf
    unfold f_X12_fails_b19 at hf
    refine k_iconst C 12 rfl ci_0 ?_
    exact k_zret (wf := (fun u => (mw cy a u))) hR 13 rfl hf
  refine k_aload_0 C 0 rfl 0 rfl ?_
  refine kg12_9 C 1 rfl qX12_93 0 M_c0 M_f0_9 ?_
  refine k_if_ne C 2 rfl 19 (by decide) (fun hc => ?_) (fun hc => ?_)
  · replace hf := if_f hf hc
    exact k_sub [] rfl (hb19 M hf)
  · replace hf := if_t hf hc
    refine k_aload_0 C 3 rfl 0 rfl ?_
    refine k_iconst C 4 rfl ci_1 ?_
    refine k_bipush C 5 rfl cb_8 ?_
    refine k_iload_2 C 6 rfl 2 rfl ?_
    refine k_imul C 7 rfl ?_
    refine k_iadd C 8 rfl ?_
    refine k_iload_1 C 9 rfl 1 rfl ?_
    refine k_iadd C 10 rfl ?_
    obtain ⟨M_16, hM, hf⟩ := bnd_some hf
    refine kp12_9 (w2 := (mw cy a M_16)) C 11 rfl qX12_93 0 M_c0 (v := ((1 + (8 * p2)) + p1)) M_n0 (M_p0_9.trans (congrArg (fun z => (mw cy a z)) hM)) ?_
    exact k_sub [] rfl (hb19 M_16 hf)
set_option maxHeartbeats 1000000 in
set_option maxRecDepth 20000 in
theorem c_X12_see (l : Launch) (D : va_G) (cy : Nat → ClassId) (a : Nat → Nat) (M : Sg) (r : Int32) (M1 : Sg) (hf : f_X12_see M = some (r, M1)) : Ct l D cy yX12_see cX12_see 1 (some .int) 0 0 0 0 [.ref (a 0)] (mw cy a M) (some (.int r)) (mw cy a M1) := by
  refine Ct_i tX12_see hX12_see (by decide) (Nat.le_of_ble_eq_true rfl) ?_
  intro Z hZ C hR
  subst hZ
  replace C : Cx Z D cy RX12 tX12_see 1 0 0 0 0 := C
  show Wk Z D 1 0 0 (mw cy a M) 0 [(0, .ref (a 0))] []
  unfold f_X12_see at hf
  have hb38 : ∀ (M : Sg), f_X12_see_b38 M = some (r, M1) → Wk Z D 1 0 0 (mw cy a M) 38 [(0, .ref (a 0))] [] := by
    intro M hf
    unfold f_X12_see_b38 at hf
    refine k_aload_0 C 19 rfl 0 rfl ?_
    refine kg12_8 C 20 rfl qX12_96 0 M_c0 M_f0_8 ?_
    refine k_aload_0 C 21 rfl 0 rfl ?_
    refine kg12_1 C 22 rfl qX12_85 0 M_c0 M_f0_1 ?_
    refine k_icmp_ge C 23 rfl 65 (by decide) (fun hc => ?_) (fun hc => ?_)
    · replace hf := if_t hf hc
      refine k_iconst C 32 rfl ci_m1 ?_
      exact k_iret (wf := (fun u => (mw cy a u))) hR 33 rfl hf
    · replace hf := if_f hf hc
      refine k_aload_0 C 24 rfl 0 rfl ?_
      refine kg12_0 C 25 rfl qX12_7 0 M_c0 M_f0_0 ?_
      refine k_aload_0 C 26 rfl 0 rfl ?_
      refine kg12_8 C 27 rfl qX12_96 0 M_c0 M_f0_8 ?_
      obtain ⟨i57, hi, hin, hf⟩ := ixd_some hf
      refine k_bald C 28 rfl 1 M_c1 hin hi ?_
      refine k_sipush C 29 rfl cs_255 ?_
      refine k_iand C 30 rfl ?_
      refine k_goto C 31 rfl 66 (by decide) ?_
      exact k_iret (wf := (fun u => (mw cy a u))) hR 33 rfl hf
  have hq0 : ∀ (k0 : Sg → Option (Int32 × Sg)), (∀ (M : Sg), k0 M = some (r, M1) → Wk Z D 1 0 0 (mw cy a M) 0 [(0, .ref (a 0))] []) → ∀ (M : Sg), f_X12_see_b0 k0 M = some (r, M1) → Wk Z D 1 0 0 (mw cy a M) 0 [(0, .ref (a 0))] [] := by
    intro k0 hk0 M hf
    unfold f_X12_see_b0 at hf
    refine k_aload_0 C 0 rfl 0 rfl ?_
    refine kg12_8 C 1 rfl qX12_96 0 M_c0 M_f0_8 ?_
    refine k_aload_0 C 2 rfl 0 rfl ?_
    refine kg12_1 C 3 rfl qX12_85 0 M_c0 M_f0_1 ?_
    refine k_icmp_ge C 4 rfl 38 (by decide) (fun hc => ?_) (fun hc => ?_)
    · replace hf := if_t hf hc
      exact k_sub [0] rfl (hb38 M hf)
    · replace hf := if_f hf hc
      refine k_aload_0 C 5 rfl 0 rfl ?_
      refine kg12_0 C 6 rfl qX12_7 0 M_c0 M_f0_0 ?_
      refine k_aload_0 C 7 rfl 0 rfl ?_
      refine kg12_8 C 8 rfl qX12_96 0 M_c0 M_f0_8 ?_
      obtain ⟨i19, hi, hin, hf⟩ := ixd_some hf
      refine k_bald C 9 rfl 1 M_c1 hin hi ?_
      refine k_bipush C 10 rfl cb_32 ?_
      refine k_icmp_ne C 11 rfl 38 (by decide) (fun hc => ?_) (fun hc => ?_)
      · replace hf := if_f hf hc
        exact k_sub [0] rfl (hb38 M hf)
      · replace hf := if_t hf hc
        refine k_aload_0 C 12 rfl 0 rfl ?_
        refine k_dup C 13 rfl rfl ?_
        refine kg12_8 C 14 rfl qX12_96 0 M_c0 M_f0_8 ?_
        refine k_iconst C 15 rfl ci_1 ?_
        refine k_iadd C 16 rfl ?_
        obtain ⟨M_32, hM, hf⟩ := bnd_some hf
        refine kp12_8 (w2 := (mw cy a M_32)) C 17 rfl qX12_96 0 M_c0 (v := ((M.1 8) + 1)) M_n0 (M_p0_8.trans (congrArg (fun z => (mw cy a z)) hM)) ?_
        refine k_goto C 18 rfl 0 (by decide) ?_
        exact k_sub [0] rfl (hk0 M_32 hf)
  have hb0 := flW1 hq0
  exact k_sub [0] rfl (hb0 FU M hf)
set_option maxHeartbeats 1000000 in
set_option maxRecDepth 20000 in
theorem c_X12_isDigit (l : Launch) (D : va_G) (cy : Nat → ClassId) (a : Nat → Nat) (M : Sg) (p1 : Int32) (r : Bool) (hf : f_X12_isDigit M p1 = some r) : Ct l D cy yX12_isDigit cX12_isDigit 2 (some .boolean) 0 0 0 0 [.ref (a 0), .int p1] (mw cy a M) (some (.int (bI r))) (mw cy a M) := by
  refine Ct_z tX12_isDigit hX12_isDigit (by decide) (Nat.le_of_ble_eq_true rfl) ?_
  intro Z hZ C hR
  subst hZ
  replace C : Cx Z D cy RX12 tX12_isDigit 2 0 0 0 0 := C
  show Wk Z D 2 0 0 (mw cy a M) 0 [(0, .ref (a 0)), (1, .int p1)] []
  unfold f_X12_isDigit at hf
  have hb34 : f_X12_isDigit_b34 M p1 = some r → Wk Z D 2 0 0 (mw cy a M) 34 [] [] := by
    intro  hf
    unfold f_X12_isDigit_b34 at hf
    refine k_iconst C 18 rfl ci_0 ?_
    exact k_zretP hR 19 rfl hf
  refine k_iload_1 C 0 rfl 1 rfl ?_
  refine k_aload_0 C 1 rfl 0 rfl ?_
  refine kg12_1 C 2 rfl qX12_85 0 M_c0 M_f0_1 ?_
  refine k_icmp_ge C 3 rfl 34 (by decide) (fun hc => ?_) (fun hc => ?_)
  · replace hf := if_t hf hc
    exact k_sub [] rfl (hb34  hf)
  · replace hf := if_f hf hc
    refine k_aload_0 C 4 rfl 0 rfl ?_
    refine kg12_0 C 5 rfl qX12_7 0 M_c0 M_f0_0 ?_
    refine k_iload_1 C 6 rfl 1 rfl ?_
    obtain ⟨i13, hi, hin, hf⟩ := ixd_some hf
    refine k_bald C 7 rfl 1 M_c1 hin hi ?_
    refine k_bipush C 8 rfl cb_48 ?_
    refine k_icmp_lt C 9 rfl 34 (by decide) (fun hc => ?_) (fun hc => ?_)
    · replace hf := if_t hf hc
      exact k_sub [] rfl (hb34  hf)
    · replace hf := if_f hf hc
      refine k_aload_0 C 10 rfl 0 rfl ?_
      refine kg12_0 C 11 rfl qX12_7 0 M_c0 M_f0_0 ?_
      refine k_iload_1 C 12 rfl 1 rfl ?_
      obtain ⟨i24, hi, hin, hf⟩ := ixd_some hf
      refine k_bald C 13 rfl 1 M_c1 hin hi ?_
      refine k_bipush C 14 rfl cb_57 ?_
      refine k_icmp_gt C 15 rfl 34 (by decide) (fun hc => ?_) (fun hc => ?_)
      · replace hf := if_t hf hc
        exact k_sub [] rfl (hb34  hf)
      · replace hf := if_f hf hc
        refine k_iconst C 16 rfl ci_1 ?_
        refine k_goto C 17 rfl 35 (by decide) ?_
        exact k_zretP hR 19 rfl hf
set_option maxHeartbeats 1000000 in
set_option maxRecDepth 20000 in
theorem c_X12_isLetter (l : Launch) (D : va_G) (cy : Nat → ClassId) (a : Nat → Nat) (M : Sg) (p1 : Int32) (r : Bool) (hf : f_X12_isLetter M p1 = some r) : Ct l D cy yX12_isLetter cX12_isLetter 2 (some .boolean) 0 0 0 0 [.ref (a 0), .int p1] (mw cy a M) (some (.int (bI r))) (mw cy a M) := by
  refine Ct_z tX12_isLetter hX12_isLetter (by decide) (Nat.le_of_ble_eq_true rfl) ?_
  intro Z hZ C hR
  subst hZ
  replace C : Cx Z D cy RX12 tX12_isLetter 2 0 0 0 0 := C
  show Wk Z D 2 0 0 (mw cy a M) 0 [(0, .ref (a 0)), (1, .int p1)] []
  unfold f_X12_isLetter at hf
  have hb34 : f_X12_isLetter_b34 M p1 = some r → Wk Z D 2 0 0 (mw cy a M) 34 [] [] := by
    intro  hf
    unfold f_X12_isLetter_b34 at hf
    refine k_iconst C 18 rfl ci_0 ?_
    exact k_zretP hR 19 rfl hf
  refine k_iload_1 C 0 rfl 1 rfl ?_
  refine k_aload_0 C 1 rfl 0 rfl ?_
  refine kg12_1 C 2 rfl qX12_85 0 M_c0 M_f0_1 ?_
  refine k_icmp_ge C 3 rfl 34 (by decide) (fun hc => ?_) (fun hc => ?_)
  · replace hf := if_t hf hc
    exact k_sub [] rfl (hb34  hf)
  · replace hf := if_f hf hc
    refine k_aload_0 C 4 rfl 0 rfl ?_
    refine kg12_0 C 5 rfl qX12_7 0 M_c0 M_f0_0 ?_
    refine k_iload_1 C 6 rfl 1 rfl ?_
    obtain ⟨i13, hi, hin, hf⟩ := ixd_some hf
    refine k_bald C 7 rfl 1 M_c1 hin hi ?_
    refine k_bipush C 8 rfl cb_97 ?_
    refine k_icmp_lt C 9 rfl 34 (by decide) (fun hc => ?_) (fun hc => ?_)
    · replace hf := if_t hf hc
      exact k_sub [] rfl (hb34  hf)
    · replace hf := if_f hf hc
      refine k_aload_0 C 10 rfl 0 rfl ?_
      refine kg12_0 C 11 rfl qX12_7 0 M_c0 M_f0_0 ?_
      refine k_iload_1 C 12 rfl 1 rfl ?_
      obtain ⟨i24, hi, hin, hf⟩ := ixd_some hf
      refine k_bald C 13 rfl 1 M_c1 hin hi ?_
      refine k_bipush C 14 rfl cb_122 ?_
      refine k_icmp_gt C 15 rfl 34 (by decide) (fun hc => ?_) (fun hc => ?_)
      · replace hf := if_t hf hc
        exact k_sub [] rfl (hb34  hf)
      · replace hf := if_f hf hc
        refine k_iconst C 16 rfl ci_1 ?_
        refine k_goto C 17 rfl 35 (by decide) ?_
        exact k_zretP hR 19 rfl hf
set_option maxHeartbeats 1000000 in
set_option maxRecDepth 20000 in
theorem c_X12_isWord (l : Launch) (D : va_G) (cy : Nat → ClassId) (a : Nat → Nat) (M : Sg) (p1 : Int64) (r : Bool) (M1 : Sg) (hf : f_X12_isWord M p1 = some (r, M1)) : Ct l D cy yX12_isWord cX12_isWord 6 (some .boolean) 1 21 0 0 [.ref (a 0), .long p1] (mw cy a M) (some (.int (bI r))) (mw cy a M1) := by
  refine Ct_z tX12_isWord hX12_isWord (by decide) (Nat.le_of_ble_eq_true rfl) ?_
  intro Z hZ C hR
  subst hZ
  replace C : Cx Z D cy RX12 tX12_isWord 6 1 21 0 0 := C
  show Wk Z D 6 0 0 (mw cy a M) 0 [(0, .ref (a 0)), (1, .long p1)] []
  unfold f_X12_isWord at hf
  have hb78 : ∀ (M : Sg), f_X12_isWord_b78 p1 M = some (r, M1) → Wk Z D 6 0 0 (mw cy a M) 78 [] [] := by
    intro M hf
    unfold f_X12_isWord_b78 at hf
    refine k_iconst C 43 rfl ci_0 ?_
    exact k_zret (wf := (fun u => (mw cy a u))) hR 44 rfl hf
  have hq10 : ∀ (k10 : Int64 → Int32 → Sg → Option (Bool × Sg)), (∀ (x3 : Int64) (x5 : Int32) (M : Sg), k10 x3 x5 M = some (r, M1) → Wk Z D 6 0 0 (mw cy a M) 10 [(0, .ref (a 0)), (1, .long p1), (3, .long x3), (5, .int x5)] []) → ∀ (x3 : Int64) (x5 : Int32) (M : Sg), f_X12_isWord_b10 p1 k10 x3 x5 M = some (r, M1) → Wk Z D 6 0 0 (mw cy a M) 10 [(0, .ref (a 0)), (1, .long p1), (3, .long x3), (5, .int x5)] [] := by
    intro k10 hk10 x3 x5 M hf
    unfold f_X12_isWord_b10 at hf
    have hb50 : ∀ (x3 : Int64) (x5 : Int32) (M : Sg), f_X12_isWord_b50 p1 k10 x3 x5 M = some (r, M1) → Wk Z D 6 0 0 (mw cy a M) 50 [(0, .ref (a 0)), (1, .long p1), (3, .long x3), (5, .int x5)] [] := by
      intro x3 x5 M hf
      unfold f_X12_isWord_b50 at hf
      obtain ⟨x5_50, hx, hf⟩ := bnd_some hf
      refine k_iinc C 30 rfl 3 rfl ((cn_1 _).trans hx) (by decide) rfl ?_
      refine k_sub (lv2 := [(0, .ref (a 0)), (1, .long p1), (3, .long x3), (5, .int x5_50)]) [1, 2, 3, 0] rfl ?_
      refine k_goto C 31 rfl 10 (by decide) ?_
      exact k_sub [0, 1, 2, 3] rfl (hk10 x3 x5_50 M hf)
    refine k_aload_0 C 7 rfl 0 rfl ?_
    refine k_aload_0 C 8 rfl 0 rfl ?_
    refine kg12_8 C 9 rfl qX12_96 0 M_c0 M_f0_8 ?_
    refine k_iload C 10 rfl 3 rfl ?_
    refine k_iadd C 11 rfl ?_
    obtain ⟨r18, h5, hf⟩ := ob1_some hf
    refine k_callW C 12 (c_X12_isLetter Z.2.1 D cy a M ((M.1 8) + x5) r18 h5) rfl qX12_103 mvX12_isLetter 0 12 M_c0 rfl rfl rfl (Nat.le_of_ble_eq_true rfl) ⟨Nat.le_of_ble_eq_true rfl, Nat.le_of_ble_eq_true rfl, Nat.le_refl 0, Nat.le_refl 0⟩ ?_
    refine k_if_eq C 13 rfl 56 (by decide) (fun hc => ?_) (fun hc => ?_)
    · replace hf := if_t hf hc
      refine k_iload C 32 rfl 3 rfl ?_
      refine k_if_le C 33 rfl 78 (by decide) (fun hc => ?_) (fun hc => ?_)
      · replace hf := if_t hf hc
        exact k_sub [] rfl (hb78 M hf)
      · replace hf := if_f hf hc
        refine k_iload C 34 rfl 3 rfl ?_
        refine k_bipush C 35 rfl cb_9 ?_
        refine k_icmp_ge C 36 rfl 78 (by decide) (fun hc => ?_) (fun hc => ?_)
        · replace hf := if_t hf hc
          exact k_sub [] rfl (hb78 M hf)
        · replace hf := if_f hf hc
          refine k_lload_3 C 37 rfl 2 rfl ?_
          refine k_lload_1 C 38 rfl 1 rfl ?_
          refine k_lcmp C 39 rfl ?_
          refine k_if_ne C 40 rfl 78 (by decide) (fun hc => ?_) (fun hc => ?_)
          · replace hf := if_f hf hc
            exact k_sub [] rfl (hb78 M hf)
          · replace hf := if_t hf hc
            refine k_iconst C 41 rfl ci_1 ?_
            refine k_goto C 42 rfl 79 (by decide) ?_
            exact k_zret (wf := (fun u => (mw cy a u))) hR 44 rfl hf
    · replace hf := if_f hf hc
      refine k_iload C 14 rfl 3 rfl ?_
      refine k_bipush C 15 rfl cb_8 ?_
      refine k_icmp_ge C 16 rfl 50 (by decide) (fun hc => ?_) (fun hc => ?_)
      · replace hf := if_t hf hc
        exact k_sub [0, 1, 2, 3] rfl (hb50 x3 x5 M hf)
      · replace hf := if_f hf hc
        refine k_lload_3 C 17 rfl 2 rfl ?_
        refine k_bipush C 18 rfl cb_8 ?_
        refine k_lshl C 19 rfl ?_
        refine k_aload_0 C 20 rfl 0 rfl ?_
        refine kg12_0 C 21 rfl qX12_7 0 M_c0 M_f0_0 ?_
        refine k_aload_0 C 22 rfl 0 rfl ?_
        refine kg12_8 C 23 rfl qX12_96 0 M_c0 M_f0_8 ?_
        refine k_iload C 24 rfl 3 rfl ?_
        refine k_iadd C 25 rfl ?_
        obtain ⟨i46, hi, hin, hf⟩ := ixd_some hf
        refine k_bald C 26 rfl 1 M_c1 hin hi ?_
        refine k_i2l C 27 rfl ?_
        refine k_lor C 28 rfl ?_
        obtain ⟨x3_49, hx, hf⟩ := bnd_some hf
        refine k_topl hx ?_
        refine k_lstore_3 C 29 rfl (by decide) rfl ?_
        refine k_sub (lv2 := [(0, .ref (a 0)), (1, .long p1), (3, .long x3_49), (5, .int x5)]) [1, 2, 0, 3] rfl ?_
        exact k_sub [0, 1, 2, 3] rfl (hb50 x3_49 x5 M hf)
  have hb10 := flW3 hq10
  refine k_aload_0 C 0 rfl 0 rfl ?_
  obtain ⟨r1, M_1, h5, hf⟩ := ob2_some hf
  refine k_callW C 1 (c_X12_see Z.2.1 D cy a M r1 M_1 h5) rfl qX12_99 mvX12_see 0 12 M_c0 rfl rfl rfl (Nat.le_of_ble_eq_true rfl) ⟨Nat.le_of_ble_eq_true rfl, Nat.le_of_ble_eq_true rfl, Nat.le_refl 0, Nat.le_refl 0⟩ ?_
  refine k_pop C 2 rfl rfl ?_
  refine k_lconst0 C 3 rfl ?_
  obtain ⟨x3_6, hx, hf⟩ := bnd_some hf
  refine k_topl hx ?_
  refine k_lstore_3 C 4 rfl (by decide) rfl ?_
  refine k_sub (lv2 := [(0, .ref (a 0)), (1, .long p1), (3, .long x3_6)]) [1, 2, 0] rfl ?_
  refine k_iconst C 5 rfl ci_0 ?_
  refine k_istore C 6 rfl (by decide) rfl ?_
  refine k_sub (lv2 := [(0, .ref (a 0)), (1, .long p1), (3, .long x3_6), (5, .int 0)]) [1, 2, 3, 0] rfl ?_
  exact k_sub [0, 1, 2, 3] rfl (hb10 FU x3_6 0 M_1 hf)
set_option maxHeartbeats 1000000 in
set_option maxRecDepth 20000 in
theorem c_X12_passWord (l : Launch) (D : va_G) (cy : Nat → ClassId) (a : Nat → Nat) (M : Sg) (M1 : Sg) (hf : f_X12_passWord M = some M1) : Ct l D cy yX12_passWord cX12_passWord 1 none 1 21 0 0 [.ref (a 0)] (mw cy a M) none (mw cy a M1) := by
  refine Ct_v tX12_passWord hX12_passWord (by decide) (Nat.le_of_ble_eq_true rfl) ?_
  intro Z hZ C hR
  subst hZ
  replace C : Cx Z D cy RX12 tX12_passWord 1 1 21 0 0 := C
  show Wk Z D 1 0 0 (mw cy a M) 0 [(0, .ref (a 0))] []
  unfold f_X12_passWord at hf
  have hq0 : ∀ (k0 : Sg → Option (Sg)), (∀ (M : Sg), k0 M = some M1 → Wk Z D 1 0 0 (mw cy a M) 0 [(0, .ref (a 0))] []) → ∀ (M : Sg), f_X12_passWord_b0 k0 M = some M1 → Wk Z D 1 0 0 (mw cy a M) 0 [(0, .ref (a 0))] [] := by
    intro k0 hk0 M hf
    unfold f_X12_passWord_b0 at hf
    refine k_aload_0 C 0 rfl 0 rfl ?_
    refine k_aload_0 C 1 rfl 0 rfl ?_
    refine kg12_8 C 2 rfl qX12_96 0 M_c0 M_f0_8 ?_
    obtain ⟨r5, h5, hf⟩ := ob1_some hf
    refine k_callW C 3 (c_X12_isLetter Z.2.1 D cy a M (M.1 8) r5 h5) rfl qX12_103 mvX12_isLetter 0 12 M_c0 rfl rfl rfl (Nat.le_of_ble_eq_true rfl) ⟨Nat.le_of_ble_eq_true rfl, Nat.le_of_ble_eq_true rfl, Nat.le_refl 0, Nat.le_refl 0⟩ ?_
    refine k_if_eq C 4 rfl 24 (by decide) (fun hc => ?_) (fun hc => ?_)
    · replace hf := if_t hf hc
      exact k_vret (wf := (fun u => (mw cy a u))) hR 12 rfl hf
    · replace hf := if_f hf hc
      refine k_aload_0 C 5 rfl 0 rfl ?_
      refine k_dup C 6 rfl rfl ?_
      refine kg12_8 C 7 rfl qX12_96 0 M_c0 M_f0_8 ?_
      refine k_iconst C 8 rfl ci_1 ?_
      refine k_iadd C 9 rfl ?_
      obtain ⟨M_18, hM, hf⟩ := bnd_some hf
      refine kp12_8 (w2 := (mw cy a M_18)) C 10 rfl qX12_96 0 M_c0 (v := ((M.1 8) + 1)) M_n0 (M_p0_8.trans (congrArg (fun z => (mw cy a z)) hM)) ?_
      refine k_goto C 11 rfl 0 (by decide) ?_
      exact k_sub [0] rfl (hk0 M_18 hf)
  have hb0 := flW1 hq0
  exact k_sub [0] rfl (hb0 FU M hf)
set_option maxHeartbeats 1000000 in
set_option maxRecDepth 20000 in
theorem c_X12_takesWord (l : Launch) (D : va_G) (cy : Nat → ClassId) (a : Nat → Nat) (M : Sg) (p1 : Int64) (r : Bool) (M1 : Sg) (hf : f_X12_takesWord M p1 = some (r, M1)) : Ct l D cy yX12_takesWord cX12_takesWord 3 (some .boolean) 2 46 0 0 [.ref (a 0), .long p1] (mw cy a M) (some (.int (bI r))) (mw cy a M1) := by
  refine Ct_z tX12_takesWord hX12_takesWord (by decide) (Nat.le_of_ble_eq_true rfl) ?_
  intro Z hZ C hR
  subst hZ
  replace C : Cx Z D cy RX12 tX12_takesWord 3 2 46 0 0 := C
  show Wk Z D 3 0 0 (mw cy a M) 0 [(0, .ref (a 0)), (1, .long p1)] []
  unfold f_X12_takesWord at hf
  refine k_aload_0 C 0 rfl 0 rfl ?_
  refine k_lload_1 C 1 rfl 1 rfl ?_
  obtain ⟨r2, M_2, h5, hf⟩ := ob2_some hf
  refine k_callW C 2 (c_X12_isWord Z.2.1 D cy a M p1 r2 M_2 h5) rfl qX12_107 mvX12_isWord 0 12 M_c0 rfl rfl rfl (Nat.le_of_ble_eq_true rfl) ⟨Nat.le_of_ble_eq_true rfl, Nat.le_of_ble_eq_true rfl, Nat.le_refl 0, Nat.le_refl 0⟩ ?_
  refine k_if_ne C 3 rfl 10 (by decide) (fun hc => ?_) (fun hc => ?_)
  · replace hf := if_f hf hc
    refine k_aload_0 C 6 rfl 0 rfl ?_
    obtain ⟨M_11, h5, hf⟩ := ob1_some hf
    refine k_callW C 7 (c_X12_passWord Z.2.1 D cy a M_2 M_11 h5) rfl qX12_111 mvX12_passWord 0 12 M_c0 rfl rfl rfl (Nat.le_of_ble_eq_true rfl) ⟨Nat.le_of_ble_eq_true rfl, Nat.le_of_ble_eq_true rfl, Nat.le_refl 0, Nat.le_refl 0⟩ ?_
    refine k_iconst C 8 rfl ci_1 ?_
    exact k_zret (wf := (fun u => (mw cy a u))) hR 9 rfl hf
  · replace hf := if_t hf hc
    refine k_iconst C 4 rfl ci_0 ?_
    exact k_zret (wf := (fun u => (mw cy a u))) hR 5 rfl hf
set_option maxHeartbeats 1000000 in
set_option maxRecDepth 20000 in
theorem c_X12_numberHere (l : Launch) (D : va_G) (cy : Nat → ClassId) (a : Nat → Nat) (M : Sg) (p1 : Int32) (p2 : Int32) (r : Bool) (M1 : Sg) (hf : f_X12_numberHere M p1 p2 = some (r, M1)) : Ct l D cy yX12_numberHere cX12_numberHere 5 (some .boolean) 1 25 0 0 [.ref (a 0), .int p1, .int p2] (mw cy a M) (some (.int (bI r))) (mw cy a M1) := by
  refine Ct_z tX12_numberHere hX12_numberHere (by decide) (Nat.le_of_ble_eq_true rfl) ?_
  intro Z hZ C hR
  subst hZ
  replace C : Cx Z D cy RX12 tX12_numberHere 5 1 25 0 0 := C
  show Wk Z D 5 0 0 (mw cy a M) 0 [(0, .ref (a 0)), (1, .int p1), (2, .int p2)] []
  unfold f_X12_numberHere at hf
  have hb126 : ∀ (M : Sg), f_X12_numberHere_b126 p1 p2 M = some (r, M1) → Wk Z D 5 0 0 (mw cy a M) 126 [] [] := by
    intro M hf
    unfold f_X12_numberHere_b126 at hf
    refine k_iconst C 71 rfl ci_1 ?_
    refine k_goto C 72 rfl 131 (by decide) ?_
    exact k_zret (wf := (fun u => (mw cy a u))) hR 74 rfl hf
  have hb117 : ∀ (x3 : Int32) (M : Sg), f_X12_numberHere_b117 p1 p2 x3 M = some (r, M1) → Wk Z D 5 0 0 (mw cy a M) 117 [(0, .ref (a 0)), (3, .int x3)] [] := by
    intro x3 M hf
    unfold f_X12_numberHere_b117 at hf
    refine k_aload_0 C 66 rfl 0 rfl ?_
    refine k_iconst C 67 rfl ci_1 ?_
    refine k_iload_3 C 68 rfl 1 rfl ?_
    obtain ⟨r120, M_120, h5, hf⟩ := ob2_some hf
    refine k_callW C 69 (c_X12_fails Z.2.1 D cy a M 1 x3 r120 M_120 h5) rfl qX12_117 mvX12_fails 0 12 M_c0 rfl rfl rfl (Nat.le_of_ble_eq_true rfl) ⟨Nat.le_of_ble_eq_true rfl, Nat.le_of_ble_eq_true rfl, Nat.le_refl 0, Nat.le_refl 0⟩ ?_
    refine k_if_eq C 70 rfl 130 (by decide) (fun hc => ?_) (fun hc => ?_)
    · replace hf := if_t hf hc
      refine k_iconst C 73 rfl ci_0 ?_
      exact k_zret (wf := (fun u => (mw cy a u))) hR 74 rfl hf
    · replace hf := if_f hf hc
      exact k_sub [] rfl (hb126 M_120 hf)
  have hq34 : ∀ (k34 : Int32 → Int32 → Sg → Option (Bool × Sg)), (∀ (x3 : Int32) (x4 : Int32) (M : Sg), k34 x3 x4 M = some (r, M1) → Wk Z D 5 0 0 (mw cy a M) 34 [(0, .ref (a 0)), (1, .int p1), (2, .int p2), (3, .int x3), (4, .int x4)] []) → ∀ (x3 : Int32) (x4 : Int32) (M : Sg), f_X12_numberHere_b34 p1 p2 k34 x3 x4 M = some (r, M1) → Wk Z D 5 0 0 (mw cy a M) 34 [(0, .ref (a 0)), (1, .int p1), (2, .int p2), (3, .int x3), (4, .int x4)] [] := by
    intro k34 hk34 x3 x4 M hf
    unfold f_X12_numberHere_b34 at hf
    have hb75 : ∀ (x3 : Int32) (x4 : Int32) (M : Sg), f_X12_numberHere_b75 p1 p2 k34 x3 x4 M = some (r, M1) → Wk Z D 5 0 0 (mw cy a M) 75 [(0, .ref (a 0)), (1, .int p1), (2, .int p2), (3, .int x3), (4, .int x4)] [] := by
      intro x3 x4 M hf
      unfold f_X12_numberHere_b75 at hf
      refine k_aload_0 C 42 rfl 0 rfl ?_
      refine k_dup C 43 rfl rfl ?_
      refine kg12_8 C 44 rfl qX12_96 0 M_c0 M_f0_8 ?_
      refine k_iconst C 45 rfl ci_1 ?_
      refine k_iadd C 46 rfl ?_
      obtain ⟨M_82, hM, hf⟩ := bnd_some hf
      refine kp12_8 (w2 := (mw cy a M_82)) C 47 rfl qX12_96 0 M_c0 (v := ((M.1 8) + 1)) M_n0 (M_p0_8.trans (congrArg (fun z => (mw cy a z)) hM)) ?_
      refine k_goto C 48 rfl 34 (by decide) ?_
      exact k_sub [0, 1, 2, 3, 4] rfl (hk34 x3 x4 M_82 hf)
    refine k_aload_0 C 19 rfl 0 rfl ?_
    refine k_aload_0 C 20 rfl 0 rfl ?_
    refine kg12_8 C 21 rfl qX12_96 0 M_c0 M_f0_8 ?_
    obtain ⟨r39, h5, hf⟩ := ob1_some hf
    refine k_callW C 22 (c_X12_isDigit Z.2.1 D cy a M (M.1 8) r39 h5) rfl qX12_114 mvX12_isDigit 0 12 M_c0 rfl rfl rfl (Nat.le_of_ble_eq_true rfl) ⟨Nat.le_of_ble_eq_true rfl, Nat.le_of_ble_eq_true rfl, Nat.le_refl 0, Nat.le_refl 0⟩ ?_
    refine k_if_eq C 23 rfl 88 (by decide) (fun hc => ?_) (fun hc => ?_)
    · replace hf := if_t hf hc
      refine k_aload_0 C 49 rfl 0 rfl ?_
      refine k_iload C 50 rfl 4 rfl ?_
      obtain ⟨M_91, hM, hf⟩ := bnd_some hf
      refine kp12_10 (w2 := (mw cy a M_91)) C 51 rfl qX12_121 0 M_c0 (v := x4) M_n0 (M_p0_10.trans (congrArg (fun z => (mw cy a z)) hM)) ?_
      refine k_aload_0 C 52 rfl 0 rfl ?_
      refine kg12_8 C 53 rfl qX12_96 0 M_c0 M_f0_8 ?_
      refine k_iload_3 C 54 rfl 3 rfl ?_
      refine k_isub C 55 rfl ?_
      refine k_iconst C 56 rfl ci_5 ?_
      refine k_icmp_gt C 57 rfl 117 (by decide) (fun hc => ?_) (fun hc => ?_)
      · replace hf := if_t hf hc
        exact k_sub [0, 3] rfl (hb117 x3 M_91 hf)
      · replace hf := if_f hf hc
        refine k_iload C 58 rfl 4 rfl ?_
        refine k_i2l C 59 rfl ?_
        refine k_iload_1 C 60 rfl 1 rfl ?_
        refine k_i2l C 61 rfl ?_
        refine k_iload_2 C 62 rfl 2 rfl ?_
        refine k_i2l C 63 rfl ?_
        obtain ⟨r111, h5, hf⟩ := ob1_some hf
        refine k_callE C 64 (c_X12_in Z.2.1 D cy x4.toInt64 p1.toInt64 p2.toInt64 r111 h5) rfl qX12_124 msX12_in rfl rfl (Nat.le_of_ble_eq_true rfl) ⟨Nat.le_of_ble_eq_true rfl, Nat.le_of_ble_eq_true rfl, Nat.le_refl 0, Nat.le_refl 0⟩ ?_
        refine k_if_ne C 65 rfl 126 (by decide) (fun hc => ?_) (fun hc => ?_)
        · replace hf := if_f hf hc
          exact k_sub [] rfl (hb126 M_91 hf)
        · replace hf := if_t hf hc
          exact k_sub [0, 3] rfl (hb117 x3 M_91 hf)
    · replace hf := if_f hf hc
      refine k_aload_0 C 24 rfl 0 rfl ?_
      refine kg12_8 C 25 rfl qX12_96 0 M_c0 M_f0_8 ?_
      refine k_iload_3 C 26 rfl 3 rfl ?_
      refine k_isub C 27 rfl ?_
      refine k_iconst C 28 rfl ci_5 ?_
      refine k_icmp_ge C 29 rfl 75 (by decide) (fun hc => ?_) (fun hc => ?_)
      · replace hf := if_t hf hc
        exact k_sub [0, 1, 2, 3, 4] rfl (hb75 x3 x4 M hf)
      · replace hf := if_f hf hc
        refine k_bipush C 30 rfl cb_10 ?_
        refine k_iload C 31 rfl 4 rfl ?_
        refine k_imul C 32 rfl ?_
        refine k_aload_0 C 33 rfl 0 rfl ?_
        refine kg12_0 C 34 rfl qX12_7 0 M_c0 M_f0_0 ?_
        refine k_aload_0 C 35 rfl 0 rfl ?_
        refine kg12_8 C 36 rfl qX12_96 0 M_c0 M_f0_8 ?_
        obtain ⟨i68, hi, hin, hf⟩ := ixd_some hf
        refine k_bald C 37 rfl 1 M_c1 hin hi ?_
        refine k_iadd C 38 rfl ?_
        refine k_bipush C 39 rfl cb_48 ?_
        refine k_isub C 40 rfl ?_
        obtain ⟨x4_73, hx, hf⟩ := bnd_some hf
        refine k_topi hx ?_
        refine k_istore C 41 rfl (by decide) rfl ?_
        refine k_sub (lv2 := [(0, .ref (a 0)), (1, .int p1), (2, .int p2), (3, .int x3), (4, .int x4_73)]) [1, 2, 3, 4, 0] rfl ?_
        exact k_sub [0, 1, 2, 3, 4] rfl (hb75 x3 x4_73 M hf)
  have hb34 := flW3 hq34
  refine k_aload_0 C 0 rfl 0 rfl ?_
  obtain ⟨r1, M_1, h5, hf⟩ := ob2_some hf
  refine k_callW C 1 (c_X12_see Z.2.1 D cy a M r1 M_1 h5) rfl qX12_99 mvX12_see 0 12 M_c0 rfl rfl rfl (Nat.le_of_ble_eq_true rfl) ⟨Nat.le_of_ble_eq_true rfl, Nat.le_of_ble_eq_true rfl, Nat.le_refl 0, Nat.le_refl 0⟩ ?_
  refine k_pop C 2 rfl rfl ?_
  refine k_aload_0 C 3 rfl 0 rfl ?_
  refine k_aload_0 C 4 rfl 0 rfl ?_
  refine kg12_8 C 5 rfl qX12_96 0 M_c0 M_f0_8 ?_
  obtain ⟨r10, h5, hf⟩ := ob1_some hf
  refine k_callW C 6 (c_X12_isDigit Z.2.1 D cy a M_1 (M_1.1 8) r10 h5) rfl qX12_114 mvX12_isDigit 0 12 M_c0 rfl rfl rfl (Nat.le_of_ble_eq_true rfl) ⟨Nat.le_of_ble_eq_true rfl, Nat.le_of_ble_eq_true rfl, Nat.le_refl 0, Nat.le_refl 0⟩ ?_
  refine k_if_ne C 7 rfl 26 (by decide) (fun hc => ?_) (fun hc => ?_)
  · replace hf := if_f hf hc
    refine k_aload_0 C 14 rfl 0 rfl ?_
    refine kg12_8 C 15 rfl qX12_96 0 M_c0 M_f0_8 ?_
    obtain ⟨x3_30, hx, hf⟩ := bnd_some hf
    refine k_topi hx ?_
    refine k_istore_3 C 16 rfl (by decide) rfl ?_
    refine k_sub (lv2 := [(0, .ref (a 0)), (1, .int p1), (2, .int p2), (3, .int x3_30)]) [1, 2, 3, 0] rfl ?_
    refine k_iconst C 17 rfl ci_0 ?_
    refine k_istore C 18 rfl (by decide) rfl ?_
    refine k_sub (lv2 := [(0, .ref (a 0)), (1, .int p1), (2, .int p2), (3, .int x3_30), (4, .int 0)]) [1, 2, 3, 4, 0] rfl ?_
    exact k_sub [0, 1, 2, 3, 4] rfl (hb34 FU x3_30 0 M_1 hf)
  · replace hf := if_t hf hc
    refine k_aload_0 C 8 rfl 0 rfl ?_
    refine k_iconst C 9 rfl ci_0 ?_
    refine k_aload_0 C 10 rfl 0 rfl ?_
    refine kg12_8 C 11 rfl qX12_96 0 M_c0 M_f0_8 ?_
    obtain ⟨r22, M_22, h5, hf⟩ := ob2_some hf
    refine k_callW C 12 (c_X12_fails Z.2.1 D cy a M_1 0 (M_1.1 8) r22 M_22 h5) rfl qX12_117 mvX12_fails 0 12 M_c0 rfl rfl rfl (Nat.le_of_ble_eq_true rfl) ⟨Nat.le_of_ble_eq_true rfl, Nat.le_of_ble_eq_true rfl, Nat.le_refl 0, Nat.le_refl 0⟩ ?_
    exact k_zret (wf := (fun u => (mw cy a u))) hR 13 rfl hf
set_option maxHeartbeats 1000000 in
set_option maxRecDepth 20000 in
theorem c_X12_wordHere (l : Launch) (D : va_G) (cy : Nat → ClassId) (a : Nat → Nat) (M : Sg) (r : Int32) (M1 : Sg) (hf : f_X12_wordHere M = some (r, M1)) : Ct l D cy yX12_wordHere cX12_wordHere 1 (some .int) 2 46 0 0 [.ref (a 0)] (mw cy a M) (some (.int r)) (mw cy a M1) := by
  refine Ct_i tX12_wordHere hX12_wordHere (by decide) (Nat.le_of_ble_eq_true rfl) ?_
  intro Z hZ C hR
  subst hZ
  replace C : Cx Z D cy RX12 tX12_wordHere 1 2 46 0 0 := C
  show Wk Z D 1 0 0 (mw cy a M) 0 [(0, .ref (a 0))] []
  unfold f_X12_wordHere at hf
  refine k_aload_0 C 0 rfl 0 rfl ?_
  refine k_ldc2 C 1 rfl qX12_128 ?_
  obtain ⟨r4, M_4, h5, hf⟩ := ob2_some hf
  refine k_callW C 2 (c_X12_isWord Z.2.1 D cy a M (491394458994 : Int64) r4 M_4 h5) rfl qX12_107 mvX12_isWord 0 12 M_c0 rfl rfl rfl (Nat.le_of_ble_eq_true rfl) ⟨Nat.le_of_ble_eq_true rfl, Nat.le_of_ble_eq_true rfl, Nat.le_refl 0, Nat.le_refl 0⟩ ?_
  refine k_if_eq C 3 rfl 12 (by decide) (fun hc => ?_) (fun hc => ?_)
  · replace hf := if_t hf hc
    refine k_aload_0 C 6 rfl 0 rfl ?_
    refine k_ldc2 C 7 rfl qX12_130 ?_
    obtain ⟨r16, M_16, h5, hf⟩ := ob2_some hf
    refine k_callW C 8 (c_X12_isWord Z.2.1 D cy a M_4 (1684370292 : Int64) r16 M_16 h5) rfl qX12_107 mvX12_isWord 0 12 M_c0 rfl rfl rfl (Nat.le_of_ble_eq_true rfl) ⟨Nat.le_of_ble_eq_true rfl, Nat.le_of_ble_eq_true rfl, Nat.le_refl 0, Nat.le_refl 0⟩ ?_
    refine k_if_eq C 9 rfl 24 (by decide) (fun hc => ?_) (fun hc => ?_)
    · replace hf := if_t hf hc
      refine k_aload_0 C 12 rfl 0 rfl ?_
      refine k_ldc2 C 13 rfl qX12_132 ?_
      obtain ⟨r28, M_28, h5, hf⟩ := ob2_some hf
      refine k_callW C 14 (c_X12_isWord Z.2.1 D cy a M_16 (427070415720 : Int64) r28 M_28 h5) rfl qX12_107 mvX12_isWord 0 12 M_c0 rfl rfl rfl (Nat.le_of_ble_eq_true rfl) ⟨Nat.le_of_ble_eq_true rfl, Nat.le_of_ble_eq_true rfl, Nat.le_refl 0, Nat.le_refl 0⟩ ?_
      refine k_if_eq C 15 rfl 36 (by decide) (fun hc => ?_) (fun hc => ?_)
      · replace hf := if_t hf hc
        refine k_aload_0 C 18 rfl 0 rfl ?_
        refine k_ldc2 C 19 rfl qX12_134 ?_
        obtain ⟨r40, M_40, h5, hf⟩ := ob2_some hf
        refine k_callW C 20 (c_X12_isWord Z.2.1 D cy a M_28 (126879297138276 : Int64) r40 M_40 h5) rfl qX12_107 mvX12_isWord 0 12 M_c0 rfl rfl rfl (Nat.le_of_ble_eq_true rfl) ⟨Nat.le_of_ble_eq_true rfl, Nat.le_of_ble_eq_true rfl, Nat.le_refl 0, Nat.le_refl 0⟩ ?_
        refine k_if_eq C 21 rfl 48 (by decide) (fun hc => ?_) (fun hc => ?_)
        · replace hf := if_t hf hc
          refine k_aload_0 C 24 rfl 0 rfl ?_
          refine k_ldc2 C 25 rfl qX12_136 ?_
          obtain ⟨r52, M_52, h5, hf⟩ := ob2_some hf
          refine k_callW C 26 (c_X12_isWord Z.2.1 D cy a M_40 (1818584692 : Int64) r52 M_52 h5) rfl qX12_107 mvX12_isWord 0 12 M_c0 rfl rfl rfl (Nat.le_of_ble_eq_true rfl) ⟨Nat.le_of_ble_eq_true rfl, Nat.le_of_ble_eq_true rfl, Nat.le_refl 0, Nat.le_refl 0⟩ ?_
          refine k_if_eq C 27 rfl 60 (by decide) (fun hc => ?_) (fun hc => ?_)
          · replace hf := if_t hf hc
            refine k_aload_0 C 30 rfl 0 rfl ?_
            refine k_ldc2 C 31 rfl qX12_138 ?_
            obtain ⟨r64, M_64, h5, hf⟩ := ob2_some hf
            refine k_callW C 32 (c_X12_isWord Z.2.1 D cy a M_52 (491394656372 : Int64) r64 M_64 h5) rfl qX12_107 mvX12_isWord 0 12 M_c0 rfl rfl rfl (Nat.le_of_ble_eq_true rfl) ⟨Nat.le_of_ble_eq_true rfl, Nat.le_of_ble_eq_true rfl, Nat.le_refl 0, Nat.le_refl 0⟩ ?_
            refine k_if_eq C 33 rfl 72 (by decide) (fun hc => ?_) (fun hc => ?_)
            · replace hf := if_t hf hc
              refine k_aload_0 C 36 rfl 0 rfl ?_
              refine k_ldc2 C 37 rfl qX12_140 ?_
              obtain ⟨r76, M_76, h5, hf⟩ := ob2_some hf
              refine k_callW C 38 (c_X12_isWord Z.2.1 D cy a M_64 (1852137842 : Int64) r76 M_76 h5) rfl qX12_107 mvX12_isWord 0 12 M_c0 rfl rfl rfl (Nat.le_of_ble_eq_true rfl) ⟨Nat.le_of_ble_eq_true rfl, Nat.le_of_ble_eq_true rfl, Nat.le_refl 0, Nat.le_refl 0⟩ ?_
              refine k_if_eq C 39 rfl 85 (by decide) (fun hc => ?_) (fun hc => ?_)
              · replace hf := if_t hf hc
                refine k_aload_0 C 42 rfl 0 rfl ?_
                refine k_ldc2 C 43 rfl qX12_142 ?_
                obtain ⟨r89, M_89, h5, hf⟩ := ob2_some hf
                refine k_callW C 44 (c_X12_isWord Z.2.1 D cy a M_76 (1751215220 : Int64) r89 M_89 h5) rfl qX12_107 mvX12_isWord 0 12 M_c0 rfl rfl rfl (Nat.le_of_ble_eq_true rfl) ⟨Nat.le_of_ble_eq_true rfl, Nat.le_of_ble_eq_true rfl, Nat.le_refl 0, Nat.le_refl 0⟩ ?_
                refine k_if_eq C 45 rfl 98 (by decide) (fun hc => ?_) (fun hc => ?_)
                · replace hf := if_t hf hc
                  refine k_aload_0 C 48 rfl 0 rfl ?_
                  refine k_ldc2 C 49 rfl qX12_144 ?_
                  obtain ⟨r102, M_102, h5, hf⟩ := ob2_some hf
                  refine k_callW C 50 (c_X12_isWord Z.2.1 D cy a M_89 (465725121651 : Int64) r102 M_102 h5) rfl qX12_107 mvX12_isWord 0 12 M_c0 rfl rfl rfl (Nat.le_of_ble_eq_true rfl) ⟨Nat.le_of_ble_eq_true rfl, Nat.le_of_ble_eq_true rfl, Nat.le_refl 0, Nat.le_refl 0⟩ ?_
                  refine k_if_eq C 51 rfl 111 (by decide) (fun hc => ?_) (fun hc => ?_)
                  · replace hf := if_t hf hc
                    refine k_aload_0 C 54 rfl 0 rfl ?_
                    refine k_ldc2 C 55 rfl qX12_146 ?_
                    obtain ⟨r115, M_115, h5, hf⟩ := ob2_some hf
                    refine k_callW C 56 (c_X12_isWord Z.2.1 D cy a M_102 (1885430629 : Int64) r115 M_115 h5) rfl qX12_107 mvX12_isWord 0 12 M_c0 rfl rfl rfl (Nat.le_of_ble_eq_true rfl) ⟨Nat.le_of_ble_eq_true rfl, Nat.le_of_ble_eq_true rfl, Nat.le_refl 0, Nat.le_refl 0⟩ ?_
                    refine k_if_eq C 57 rfl 124 (by decide) (fun hc => ?_) (fun hc => ?_)
                    · replace hf := if_t hf hc
                      refine k_aload_0 C 60 rfl 0 rfl ?_
                      refine k_ldc2 C 61 rfl qX12_148 ?_
                      obtain ⟨r128, M_128, h5, hf⟩ := ob2_some hf
                      refine k_callW C 62 (c_X12_isWord Z.2.1 D cy a M_115 (1718971500 : Int64) r128 M_128 h5) rfl qX12_107 mvX12_isWord 0 12 M_c0 rfl rfl rfl (Nat.le_of_ble_eq_true rfl) ⟨Nat.le_of_ble_eq_true rfl, Nat.le_of_ble_eq_true rfl, Nat.le_refl 0, Nat.le_refl 0⟩ ?_
                      refine k_if_eq C 63 rfl 137 (by decide) (fun hc => ?_) (fun hc => ?_)
                      · replace hf := if_t hf hc
                        refine k_aload_0 C 66 rfl 0 rfl ?_
                        refine k_ldc2 C 67 rfl qX12_150 ?_
                        obtain ⟨r141, M_141, h5, hf⟩ := ob2_some hf
                        refine k_callW C 68 (c_X12_isWord Z.2.1 D cy a M_128 (495622124659 : Int64) r141 M_141 h5) rfl qX12_107 mvX12_isWord 0 12 M_c0 rfl rfl rfl (Nat.le_of_ble_eq_true rfl) ⟨Nat.le_of_ble_eq_true rfl, Nat.le_of_ble_eq_true rfl, Nat.le_refl 0, Nat.le_refl 0⟩ ?_
                        refine k_if_eq C 69 rfl 152 (by decide) (fun hc => ?_) (fun hc => ?_)
                        · replace hf := if_t hf hc
                          refine k_aload_0 C 72 rfl 0 rfl ?_
                          refine k_ldc2 C 73 rfl qX12_152 ?_
                          obtain ⟨r156, M_156, h5, hf⟩ := ob2_some hf
                          refine k_callW C 74 (c_X12_isWord Z.2.1 D cy a M_141 (470021465444 : Int64) r156 M_156 h5) rfl qX12_107 mvX12_isWord 0 12 M_c0 rfl rfl rfl (Nat.le_of_ble_eq_true rfl) ⟨Nat.le_of_ble_eq_true rfl, Nat.le_of_ble_eq_true rfl, Nat.le_refl 0, Nat.le_refl 0⟩ ?_
                          refine k_if_eq C 75 rfl 167 (by decide) (fun hc => ?_) (fun hc => ?_)
                          · replace hf := if_t hf hc
                            refine k_iconst C 78 rfl ci_m1 ?_
                            exact k_iret (wf := (fun u => (mw cy a u))) hR 79 rfl hf
                          · replace hf := if_f hf hc
                            refine k_bipush C 76 rfl cb_12 ?_
                            refine k_goto C 77 rfl 168 (by decide) ?_
                            exact k_iret (wf := (fun u => (mw cy a u))) hR 79 rfl hf
                        · replace hf := if_f hf hc
                          refine k_bipush C 70 rfl cb_11 ?_
                          refine k_goto C 71 rfl 168 (by decide) ?_
                          exact k_iret (wf := (fun u => (mw cy a u))) hR 79 rfl hf
                      · replace hf := if_f hf hc
                        refine k_bipush C 64 rfl cb_10 ?_
                        exact k_iret (wf := (fun u => (mw cy a u))) hR 65 rfl hf
                    · replace hf := if_f hf hc
                      refine k_bipush C 58 rfl cb_9 ?_
                      exact k_iret (wf := (fun u => (mw cy a u))) hR 59 rfl hf
                  · replace hf := if_f hf hc
                    refine k_bipush C 52 rfl cb_8 ?_
                    exact k_iret (wf := (fun u => (mw cy a u))) hR 53 rfl hf
                · replace hf := if_f hf hc
                  refine k_bipush C 46 rfl cb_7 ?_
                  exact k_iret (wf := (fun u => (mw cy a u))) hR 47 rfl hf
              · replace hf := if_f hf hc
                refine k_bipush C 40 rfl cb_6 ?_
                exact k_iret (wf := (fun u => (mw cy a u))) hR 41 rfl hf
            · replace hf := if_f hf hc
              refine k_iconst C 34 rfl ci_5 ?_
              exact k_iret (wf := (fun u => (mw cy a u))) hR 35 rfl hf
          · replace hf := if_f hf hc
            refine k_iconst C 28 rfl ci_4 ?_
            exact k_iret (wf := (fun u => (mw cy a u))) hR 29 rfl hf
        · replace hf := if_f hf hc
          refine k_iconst C 22 rfl ci_3 ?_
          exact k_iret (wf := (fun u => (mw cy a u))) hR 23 rfl hf
      · replace hf := if_f hf hc
        refine k_iconst C 16 rfl ci_2 ?_
        exact k_iret (wf := (fun u => (mw cy a u))) hR 17 rfl hf
    · replace hf := if_f hf hc
      refine k_iconst C 10 rfl ci_1 ?_
      exact k_iret (wf := (fun u => (mw cy a u))) hR 11 rfl hf
  · replace hf := if_f hf hc
    refine k_iconst C 4 rfl ci_0 ?_
    exact k_iret (wf := (fun u => (mw cy a u))) hR 5 rfl hf
set_option maxHeartbeats 1000000 in
set_option maxRecDepth 20000 in
theorem c_X12_puts (l : Launch) (D : va_G) (cy : Nat → ClassId) (a : Nat → Nat) (M : Sg) (p1 : Int32) (p2 : Int32) (M1 : Sg) (hf : f_X12_puts M p1 p2 = some M1) : Ct l D cy yX12_puts cX12_puts 3 none 0 0 0 0 [.ref (a 0), .int p1, .int p2] (mw cy a M) none (mw cy a M1) := by
  refine Ct_v tX12_puts hX12_puts (by decide) (Nat.le_of_ble_eq_true rfl) ?_
  intro Z hZ C hR
  subst hZ
  replace C : Cx Z D cy RX12 tX12_puts 3 0 0 0 0 := C
  show Wk Z D 3 0 0 (mw cy a M) 0 [(0, .ref (a 0)), (1, .int p1), (2, .int p2)] []
  unfold f_X12_puts at hf
  refine k_aload_0 C 0 rfl 0 rfl ?_
  refine kg12_3 C 1 rfl qX12_13 0 M_c0 M_f0_3 ?_
  refine k_sipush C 2 rfl cs_400 ?_
  refine k_aload_0 C 3 rfl 0 rfl ?_
  refine kg12_11 C 4 rfl qX12_154 0 M_c0 M_f0_11 ?_
  refine k_imul C 5 rfl ?_
  refine k_aload_0 C 6 rfl 0 rfl ?_
  refine kg12_4 C 7 rfl qX12_17 0 M_c0 M_f0_4 ?_
  refine k_aload_0 C 8 rfl 0 rfl ?_
  refine kg12_11 C 9 rfl qX12_154 0 M_c0 M_f0_11 ?_
  obtain ⟨i20, hi, hin, hf⟩ := ixd_some hf
  refine k_iald C 10 rfl 3 M_c3 hin hi ?_
  refine k_iadd C 11 rfl ?_
  refine k_iload_1 C 12 rfl 1 rfl ?_
  refine k_bipush C 13 rfl cb_16 ?_
  refine k_iload_2 C 14 rfl 2 rfl ?_
  refine k_imul C 15 rfl ?_
  refine k_iadd C 16 rfl ?_
  obtain ⟨i28, hi, hin, hf⟩ := ixd_some hf
  obtain ⟨M_28, hM, hf⟩ := bnd_some hf
  refine k_iast (w2 := (mw cy a M_28)) C 17 rfl 2 M_c2 hin hi (M_s2.trans (congrArg (fun z => (mw cy a z)) hM)) ?_
  refine k_aload_0 C 18 rfl 0 rfl ?_
  refine kg12_4 C 19 rfl qX12_17 0 M_c0 M_f0_4 ?_
  refine k_aload_0 C 20 rfl 0 rfl ?_
  refine kg12_11 C 21 rfl qX12_154 0 M_c0 M_f0_11 ?_
  refine k_dup2 C 22 rfl rfl rfl ?_
  obtain ⟨i38, hi, hin, hf⟩ := ixd_some hf
  refine k_iald C 23 rfl 3 M_c3 hin hi ?_
  refine k_iconst C 24 rfl ci_1 ?_
  refine k_iadd C 25 rfl ?_
  obtain ⟨i41, hi, hin, hf⟩ := ixd_some hf
  obtain ⟨M_41, hM, hf⟩ := bnd_some hf
  refine k_iast (w2 := (mw cy a M_41)) C 26 rfl 3 M_c3 hin hi (M_s3.trans (congrArg (fun z => (mw cy a z)) hM)) ?_
  exact k_vret (wf := (fun u => (mw cy a u))) hR 27 rfl hf
set_option maxHeartbeats 1000000 in
set_option maxRecDepth 20000 in
theorem c_X12_makes (l : Launch) (D : va_G) (cy : Nat → ClassId) (a : Nat → Nat) (M : Sg) (p1 : Int32) (r : Bool) (M1 : Sg) (hf : f_X12_makes M p1 = some (r, M1)) : Ct l D cy yX12_makes cX12_makes 2 (some .boolean) 1 22 0 0 [.ref (a 0), .int p1] (mw cy a M) (some (.int (bI r))) (mw cy a M1) := by
  refine Ct_z tX12_makes hX12_makes (by decide) (Nat.le_of_ble_eq_true rfl) ?_
  intro Z hZ C hR
  subst hZ
  replace C : Cx Z D cy RX12 tX12_makes 2 1 22 0 0 := C
  show Wk Z D 2 0 0 (mw cy a M) 0 [(0, .ref (a 0)), (1, .int p1)] []
  unfold f_X12_makes at hf
  refine k_aload_0 C 0 rfl 0 rfl ?_
  refine kg12_12 C 1 rfl qX12_157 0 M_c0 M_f0_12 ?_
  refine k_bipush C 2 rfl cb_60 ?_
  refine k_icmp_ne C 3 rfl 16 (by decide) (fun hc => ?_) (fun hc => ?_)
  · replace hf := if_f hf hc
    refine k_aload_0 C 9 rfl 0 rfl ?_
    refine k_dup C 10 rfl rfl ?_
    refine kg12_12 C 11 rfl qX12_157 0 M_c0 M_f0_12 ?_
    refine k_iconst C 12 rfl ci_1 ?_
    refine k_iadd C 13 rfl ?_
    obtain ⟨M_23, hM, hf⟩ := bnd_some hf
    refine kp12_12 (w2 := (mw cy a M_23)) C 14 rfl qX12_157 0 M_c0 (v := ((M.1 12) + 1)) M_n0 (M_p0_12.trans (congrArg (fun z => (mw cy a z)) hM)) ?_
    refine k_iconst C 15 rfl ci_1 ?_
    exact k_zret (wf := (fun u => (mw cy a u))) hR 16 rfl hf
  · replace hf := if_t hf hc
    refine k_aload_0 C 4 rfl 0 rfl ?_
    refine k_iconst C 5 rfl ci_3 ?_
    refine k_iload_1 C 6 rfl 1 rfl ?_
    obtain ⟨r12, M_12, h5, hf⟩ := ob2_some hf
    refine k_callW C 7 (c_X12_fails Z.2.1 D cy a M 3 p1 r12 M_12 h5) rfl qX12_117 mvX12_fails 0 12 M_c0 rfl rfl rfl (Nat.le_of_ble_eq_true rfl) ⟨Nat.le_of_ble_eq_true rfl, Nat.le_of_ble_eq_true rfl, Nat.le_refl 0, Nat.le_refl 0⟩ ?_
    exact k_zret (wf := (fun u => (mw cy a u))) hR 8 rfl hf
set_option maxHeartbeats 1000000 in
set_option maxRecDepth 20000 in
theorem c_X12_opens (l : Launch) (D : va_G) (cy : Nat → ClassId) (a : Nat → Nat) (M : Sg) (p1 : Int32) (r : Bool) (M1 : Sg) (hf : f_X12_opens M p1 = some (r, M1)) : Ct l D cy yX12_opens cX12_opens 2 (some .boolean) 1 22 0 0 [.ref (a 0), .int p1] (mw cy a M) (some (.int (bI r))) (mw cy a M1) := by
  refine Ct_z tX12_opens hX12_opens (by decide) (Nat.le_of_ble_eq_true rfl) ?_
  intro Z hZ C hR
  subst hZ
  replace C : Cx Z D cy RX12 tX12_opens 2 1 22 0 0 := C
  show Wk Z D 2 0 0 (mw cy a M) 0 [(0, .ref (a 0)), (1, .int p1)] []
  unfold f_X12_opens at hf
  refine k_aload_0 C 0 rfl 0 rfl ?_
  refine kg12_13 C 1 rfl qX12_160 0 M_c0 M_f0_13 ?_
  refine k_bipush C 2 rfl cb_10 ?_
  refine k_icmp_ne C 3 rfl 19 (by decide) (fun hc => ?_) (fun hc => ?_)
  · replace hf := if_f hf hc
    refine k_aload_0 C 10 rfl 0 rfl ?_
    refine k_dup C 11 rfl rfl ?_
    refine kg12_13 C 12 rfl qX12_160 0 M_c0 M_f0_13 ?_
    refine k_iconst C 13 rfl ci_1 ?_
    refine k_iadd C 14 rfl ?_
    obtain ⟨M_26, hM, hf⟩ := bnd_some hf
    refine kp12_13 (w2 := (mw cy a M_26)) C 15 rfl qX12_160 0 M_c0 (v := ((M.1 13) + 1)) M_n0 (M_p0_13.trans (congrArg (fun z => (mw cy a z)) hM)) ?_
    refine k_aload_0 C 16 rfl 0 rfl ?_
    refine kg12_15 C 17 rfl qX12_29 0 M_c0 M_f0_15 ?_
    refine k_aload_0 C 18 rfl 0 rfl ?_
    refine kg12_16 C 19 rfl qX12_163 0 M_c0 M_f0_16 ?_
    refine k_iload_1 C 20 rfl 1 rfl ?_
    obtain ⟨i38, hi, hin, hf⟩ := ixd_some hf
    obtain ⟨M_38, hM, hf⟩ := bnd_some hf
    refine k_iast (w2 := (mw cy a M_38)) C 21 rfl 7 M_c7 hin hi (M_s7.trans (congrArg (fun z => (mw cy a z)) hM)) ?_
    refine k_aload_0 C 22 rfl 0 rfl ?_
    refine k_dup C 23 rfl rfl ?_
    refine kg12_16 C 24 rfl qX12_163 0 M_c0 M_f0_16 ?_
    refine k_iconst C 25 rfl ci_1 ?_
    refine k_iadd C 26 rfl ?_
    obtain ⟨M_46, hM, hf⟩ := bnd_some hf
    refine kp12_16 (w2 := (mw cy a M_46)) C 27 rfl qX12_163 0 M_c0 (v := ((M_38.1 16) + 1)) M_n0 (M_p0_16.trans (congrArg (fun z => (mw cy a z)) hM)) ?_
    refine k_iconst C 28 rfl ci_1 ?_
    exact k_zret (wf := (fun u => (mw cy a u))) hR 29 rfl hf
  · replace hf := if_t hf hc
    refine k_aload_0 C 4 rfl 0 rfl ?_
    refine k_iconst C 5 rfl ci_2 ?_
    refine k_aload_0 C 6 rfl 0 rfl ?_
    refine kg12_8 C 7 rfl qX12_96 0 M_c0 M_f0_8 ?_
    obtain ⟨r15, M_15, h5, hf⟩ := ob2_some hf
    refine k_callW C 8 (c_X12_fails Z.2.1 D cy a M 2 (M.1 8) r15 M_15 h5) rfl qX12_117 mvX12_fails 0 12 M_c0 rfl rfl rfl (Nat.le_of_ble_eq_true rfl) ⟨Nat.le_of_ble_eq_true rfl, Nat.le_of_ble_eq_true rfl, Nat.le_refl 0, Nat.le_refl 0⟩ ?_
    exact k_zret (wf := (fun u => (mw cy a u))) hR 9 rfl hf
set_option maxHeartbeats 1000000 in
set_option maxRecDepth 20000 in
theorem c_X12_strength (l : Launch) (D : va_G) (cy : Nat → ClassId) (p0 : Int32) (r : Int32) (hf : f_X12_strength p0 = some r) : Ct l D cy yX12_strength cX12_strength 1 (some .int) 0 0 0 0 [.int p0] [] (some (.int r)) [] := by
  refine Ct_i tX12_strength hX12_strength (by decide) (Nat.le_of_ble_eq_true rfl) ?_
  intro Z hZ C hR
  subst hZ
  replace C : Cx Z D cy RX12 tX12_strength 1 0 0 0 0 := C
  show Wk Z D 1 0 0 [] 0 [(0, .int p0)] []
  unfold f_X12_strength at hf
  refine k_iload_0 C 0 rfl 0 rfl ?_
  refine k_bipush C 1 rfl cb_13 ?_
  refine k_icmp_ne C 2 rfl 10 (by decide) (fun hc => ?_) (fun hc => ?_)
  · replace hf := if_f hf hc
    refine k_iload_0 C 5 rfl 0 rfl ?_
    refine k_bipush C 6 rfl cb_12 ?_
    refine k_icmp_ne C 7 rfl 20 (by decide) (fun hc => ?_) (fun hc => ?_)
    · replace hf := if_f hf hc
      refine k_iload_0 C 10 rfl 0 rfl ?_
      refine k_bipush C 11 rfl cb_11 ?_
      refine k_icmp_ne C 12 rfl 30 (by decide) (fun hc => ?_) (fun hc => ?_)
      · replace hf := if_f hf hc
        refine k_iconst C 15 rfl ci_0 ?_
        exact k_iretP hR 16 rfl hf
      · replace hf := if_t hf hc
        refine k_iconst C 13 rfl ci_3 ?_
        refine k_goto C 14 rfl 31 (by decide) ?_
        exact k_iretP hR 16 rfl hf
    · replace hf := if_t hf hc
      refine k_iconst C 8 rfl ci_2 ?_
      refine k_goto C 9 rfl 31 (by decide) ?_
      exact k_iretP hR 16 rfl hf
  · replace hf := if_t hf hc
    refine k_iconst C 3 rfl ci_1 ?_
    refine k_goto C 4 rfl 31 (by decide) ?_
    exact k_iretP hR 16 rfl hf
set_option maxHeartbeats 1000000 in
set_option maxRecDepth 20000 in
theorem c_X12_settles (l : Launch) (D : va_G) (cy : Nat → ClassId) (a : Nat → Nat) (M : Sg) (p1 : Int32) (M1 : Sg) (hf : f_X12_settles M p1 = some M1) : Ct l D cy yX12_settles cX12_settles 2 none 1 22 0 0 [.ref (a 0), .int p1] (mw cy a M) none (mw cy a M1) := by
  refine Ct_v tX12_settles hX12_settles (by decide) (Nat.le_of_ble_eq_true rfl) ?_
  intro Z hZ C hR
  subst hZ
  replace C : Cx Z D cy RX12 tX12_settles 2 1 22 0 0 := C
  show Wk Z D 2 0 0 (mw cy a M) 0 [(0, .ref (a 0)), (1, .int p1)] []
  unfold f_X12_settles at hf
  have hq0 : ∀ (k0 : Sg → Option (Sg)), (∀ (M : Sg), k0 M = some M1 → Wk Z D 2 0 0 (mw cy a M) 0 [(0, .ref (a 0)), (1, .int p1)] []) → ∀ (M : Sg), f_X12_settles_b0 p1 k0 M = some M1 → Wk Z D 2 0 0 (mw cy a M) 0 [(0, .ref (a 0)), (1, .int p1)] [] := by
    intro k0 hk0 M hf
    unfold f_X12_settles_b0 at hf
    refine k_aload_0 C 0 rfl 0 rfl ?_
    refine kg12_16 C 1 rfl qX12_163 0 M_c0 M_f0_16 ?_
    refine k_if_le C 2 rfl 76 (by decide) (fun hc => ?_) (fun hc => ?_)
    · replace hf := if_t hf hc
      exact k_vret (wf := (fun u => (mw cy a u))) hR 41 rfl hf
    · replace hf := if_f hf hc
      refine k_aload_0 C 3 rfl 0 rfl ?_
      refine kg12_15 C 4 rfl qX12_29 0 M_c0 M_f0_15 ?_
      refine k_aload_0 C 5 rfl 0 rfl ?_
      refine kg12_16 C 6 rfl qX12_163 0 M_c0 M_f0_16 ?_
      refine k_iconst C 7 rfl ci_1 ?_
      refine k_isub C 8 rfl ?_
      obtain ⟨i17, hi, hin, hf⟩ := ixd_some hf
      refine k_iald C 9 rfl 7 M_c7 hin hi ?_
      obtain ⟨r18, h5, hf⟩ := ob1_some hf
      refine k_callE C 10 (c_X12_strength Z.2.1 D cy (M.2.1 15 i17) r18 h5) rfl qX12_166 msX12_strength rfl rfl (Nat.le_of_ble_eq_true rfl) ⟨Nat.le_of_ble_eq_true rfl, Nat.le_of_ble_eq_true rfl, Nat.le_refl 0, Nat.le_refl 0⟩ ?_
      refine k_iload_1 C 11 rfl 1 rfl ?_
      refine k_icmp_lt C 12 rfl 76 (by decide) (fun hc => ?_) (fun hc => ?_)
      · replace hf := if_t hf hc
        exact k_vret (wf := (fun u => (mw cy a u))) hR 41 rfl hf
      · replace hf := if_f hf hc
        refine k_aload_0 C 13 rfl 0 rfl ?_
        refine k_dup C 14 rfl rfl ?_
        refine kg12_16 C 15 rfl qX12_163 0 M_c0 M_f0_16 ?_
        refine k_iconst C 16 rfl ci_1 ?_
        refine k_isub C 17 rfl ?_
        obtain ⟨M_32, hM, hf⟩ := bnd_some hf
        refine kp12_16 (w2 := (mw cy a M_32)) C 18 rfl qX12_163 0 M_c0 (v := ((M.1 16) - 1)) M_n0 (M_p0_16.trans (congrArg (fun z => (mw cy a z)) hM)) ?_
        refine k_aload_0 C 19 rfl 0 rfl ?_
        refine k_aload_0 C 20 rfl 0 rfl ?_
        refine kg12_15 C 21 rfl qX12_29 0 M_c0 M_f0_15 ?_
        refine k_aload_0 C 22 rfl 0 rfl ?_
        refine kg12_16 C 23 rfl qX12_163 0 M_c0 M_f0_16 ?_
        obtain ⟨i44, hi, hin, hf⟩ := ixd_some hf
        refine k_iald C 24 rfl 7 M_c7 hin hi ?_
        refine k_iconst C 25 rfl ci_0 ?_
        obtain ⟨M_46, h5, hf⟩ := ob1_some hf
        refine k_callW C 26 (c_X12_puts Z.2.1 D cy a M_32 (M_32.2.1 15 i44) 0 M_46 h5) rfl qX12_170 mvX12_puts 0 12 M_c0 rfl rfl rfl (Nat.le_of_ble_eq_true rfl) ⟨Nat.le_of_ble_eq_true rfl, Nat.le_of_ble_eq_true rfl, Nat.le_refl 0, Nat.le_refl 0⟩ ?_
        refine k_aload_0 C 27 rfl 0 rfl ?_
        refine kg12_15 C 28 rfl qX12_29 0 M_c0 M_f0_15 ?_
        refine k_aload_0 C 29 rfl 0 rfl ?_
        refine kg12_16 C 30 rfl qX12_163 0 M_c0 M_f0_16 ?_
        obtain ⟨i57, hi, hin, hf⟩ := ixd_some hf
        refine k_iald C 31 rfl 7 M_c7 hin hi ?_
        refine k_bipush C 32 rfl cb_11 ?_
        refine k_icmp_ne C 33 rfl 0 (by decide) (fun hc => ?_) (fun hc => ?_)
        · replace hf := if_f hf hc
          exact k_sub [0, 1] rfl (hk0 M_46 hf)
        · replace hf := if_t hf hc
          refine k_aload_0 C 34 rfl 0 rfl ?_
          refine k_dup C 35 rfl rfl ?_
          refine kg12_13 C 36 rfl qX12_160 0 M_c0 M_f0_13 ?_
          refine k_iconst C 37 rfl ci_1 ?_
          refine k_isub C 38 rfl ?_
          obtain ⟨M_70, hM, hf⟩ := bnd_some hf
          refine kp12_13 (w2 := (mw cy a M_70)) C 39 rfl qX12_160 0 M_c0 (v := ((M_46.1 13) - 1)) M_n0 (M_p0_13.trans (congrArg (fun z => (mw cy a z)) hM)) ?_
          refine k_goto C 40 rfl 0 (by decide) ?_
          exact k_sub [0, 1] rfl (hk0 M_70 hf)
  have hb0 := flW1 hq0
  exact k_sub [0, 1] rfl (hb0 FU M hf)
set_option maxHeartbeats 1000000 in
set_option maxRecDepth 20000 in
theorem c_X12_value (l : Launch) (D : va_G) (cy : Nat → ClassId) (a : Nat → Nat) (M : Sg) (r : Bool) (M1 : Sg) (hf : f_X12_value M = some (r, M1)) : Ct l D cy yX12_value cX12_value 3 (some .boolean) 3 66 0 0 [.ref (a 0)] (mw cy a M) (some (.int (bI r))) (mw cy a M1) := by
  refine Ct_z tX12_value hX12_value (by decide) (Nat.le_of_ble_eq_true rfl) ?_
  intro Z hZ C hR
  subst hZ
  replace C : Cx Z D cy RX12 tX12_value 3 3 66 0 0 := C
  show Wk Z D 3 0 0 (mw cy a M) 0 [(0, .ref (a 0))] []
  unfold f_X12_value at hf
  have hb39 : ∀ (M : Sg), f_X12_value_b39 M = some (r, M1) → Wk Z D 3 0 0 (mw cy a M) 39 [] [] := by
    intro M hf
    unfold f_X12_value_b39 at hf
    refine k_iconst C 20 rfl ci_0 ?_
    exact k_zret (wf := (fun u => (mw cy a u))) hR 21 rfl hf
  refine k_aload_0 C 0 rfl 0 rfl ?_
  obtain ⟨r1, M_1, h5, hf⟩ := ob2_some hf
  refine k_callW C 1 (c_X12_see Z.2.1 D cy a M r1 M_1 h5) rfl qX12_99 mvX12_see 0 12 M_c0 rfl rfl rfl (Nat.le_of_ble_eq_true rfl) ⟨Nat.le_of_ble_eq_true rfl, Nat.le_of_ble_eq_true rfl, Nat.le_refl 0, Nat.le_refl 0⟩ ?_
  refine k_pop C 2 rfl rfl ?_
  refine k_aload_0 C 3 rfl 0 rfl ?_
  refine kg12_8 C 4 rfl qX12_96 0 M_c0 M_f0_8 ?_
  obtain ⟨x1_9, hx, hf⟩ := bnd_some hf
  refine k_topi hx ?_
  refine k_istore_1 C 5 rfl (by decide) rfl ?_
  refine k_sub (lv2 := [(0, .ref (a 0)), (1, .int x1_9)]) [1, 0] rfl ?_
  refine k_aload_0 C 6 rfl 0 rfl ?_
  refine k_aload_0 C 7 rfl 0 rfl ?_
  refine kg12_8 C 8 rfl qX12_96 0 M_c0 M_f0_8 ?_
  obtain ⟨r15, h5, hf⟩ := ob1_some hf
  refine k_callW C 9 (c_X12_isDigit Z.2.1 D cy a M_1 (M_1.1 8) r15 h5) rfl qX12_114 mvX12_isDigit 0 12 M_c0 rfl rfl rfl (Nat.le_of_ble_eq_true rfl) ⟨Nat.le_of_ble_eq_true rfl, Nat.le_of_ble_eq_true rfl, Nat.le_refl 0, Nat.le_refl 0⟩ ?_
  refine k_if_eq C 10 rfl 52 (by decide) (fun hc => ?_) (fun hc => ?_)
  · replace hf := if_t hf hc
    refine k_aload_0 C 29 rfl 0 rfl ?_
    obtain ⟨r53, M_53, h5, hf⟩ := ob2_some hf
    refine k_callW C 30 (c_X12_wordHere Z.2.1 D cy a M_1 r53 M_53 h5) rfl qX12_181 mvX12_wordHere 0 12 M_c0 rfl rfl rfl (Nat.le_of_ble_eq_true rfl) ⟨Nat.le_of_ble_eq_true rfl, Nat.le_of_ble_eq_true rfl, Nat.le_refl 0, Nat.le_refl 0⟩ ?_
    refine k_istore_2 C 31 rfl (by decide) rfl ?_
    refine k_sub (lv2 := [(0, .ref (a 0)), (1, .int x1_9), (2, .int r53)]) [1, 2, 0] rfl ?_
    refine k_iload_2 C 32 rfl 2 rfl ?_
    refine k_if_ge C 33 rfl 68 (by decide) (fun hc => ?_) (fun hc => ?_)
    · replace hf := if_t hf hc
      refine k_aload_0 C 39 rfl 0 rfl ?_
      refine k_iload_1 C 40 rfl 1 rfl ?_
      obtain ⟨r70, M_70, h5, hf⟩ := ob2_some hf
      refine k_callW C 41 (c_X12_makes Z.2.1 D cy a M_53 x1_9 r70 M_70 h5) rfl qX12_178 mvX12_makes 0 12 M_c0 rfl rfl rfl (Nat.le_of_ble_eq_true rfl) ⟨Nat.le_of_ble_eq_true rfl, Nat.le_of_ble_eq_true rfl, Nat.le_refl 0, Nat.le_refl 0⟩ ?_
      refine k_if_ne C 42 rfl 78 (by decide) (fun hc => ?_) (fun hc => ?_)
      · replace hf := if_f hf hc
        refine k_aload_0 C 45 rfl 0 rfl ?_
        obtain ⟨M_79, h5, hf⟩ := ob1_some hf
        refine k_callW C 46 (c_X12_passWord Z.2.1 D cy a M_70 M_79 h5) rfl qX12_111 mvX12_passWord 0 12 M_c0 rfl rfl rfl (Nat.le_of_ble_eq_true rfl) ⟨Nat.le_of_ble_eq_true rfl, Nat.le_of_ble_eq_true rfl, Nat.le_refl 0, Nat.le_refl 0⟩ ?_
        refine k_aload_0 C 47 rfl 0 rfl ?_
        refine k_iconst C 48 rfl ci_1 ?_
        refine k_iload_2 C 49 rfl 2 rfl ?_
        obtain ⟨M_85, h5, hf⟩ := ob1_some hf
        refine k_callW C 50 (c_X12_puts Z.2.1 D cy a M_79 1 r53 M_85 h5) rfl qX12_170 mvX12_puts 0 12 M_c0 rfl rfl rfl (Nat.le_of_ble_eq_true rfl) ⟨Nat.le_of_ble_eq_true rfl, Nat.le_of_ble_eq_true rfl, Nat.le_refl 0, Nat.le_refl 0⟩ ?_
        refine k_iconst C 51 rfl ci_1 ?_
        exact k_zret (wf := (fun u => (mw cy a u))) hR 52 rfl hf
      · replace hf := if_t hf hc
        refine k_iconst C 43 rfl ci_0 ?_
        exact k_zret (wf := (fun u => (mw cy a u))) hR 44 rfl hf
    · replace hf := if_f hf hc
      refine k_aload_0 C 34 rfl 0 rfl ?_
      refine k_iconst C 35 rfl ci_0 ?_
      refine k_iload_1 C 36 rfl 1 rfl ?_
      obtain ⟨r64, M_64, h5, hf⟩ := ob2_some hf
      refine k_callW C 37 (c_X12_fails Z.2.1 D cy a M_53 0 x1_9 r64 M_64 h5) rfl qX12_117 mvX12_fails 0 12 M_c0 rfl rfl rfl (Nat.le_of_ble_eq_true rfl) ⟨Nat.le_of_ble_eq_true rfl, Nat.le_of_ble_eq_true rfl, Nat.le_refl 0, Nat.le_refl 0⟩ ?_
      exact k_zret (wf := (fun u => (mw cy a u))) hR 38 rfl hf
  · replace hf := if_f hf hc
    refine k_aload_0 C 11 rfl 0 rfl ?_
    refine k_iconst C 12 rfl ci_0 ?_
    refine k_ldc C 13 rfl qX12_174 ?_
    obtain ⟨r25, M_25, h5, hf⟩ := ob2_some hf
    refine k_callW C 14 (c_X12_numberHere Z.2.1 D cy a M_1 0 99999 r25 M_25 h5) rfl qX12_175 mvX12_numberHere 0 12 M_c0 rfl rfl rfl (Nat.le_of_ble_eq_true rfl) ⟨Nat.le_of_ble_eq_true rfl, Nat.le_of_ble_eq_true rfl, Nat.le_refl 0, Nat.le_refl 0⟩ ?_
    refine k_if_eq C 15 rfl 39 (by decide) (fun hc => ?_) (fun hc => ?_)
    · replace hf := if_t hf hc
      exact k_sub [] rfl (hb39 M_25 hf)
    · replace hf := if_f hf hc
      refine k_aload_0 C 16 rfl 0 rfl ?_
      refine k_iload_1 C 17 rfl 1 rfl ?_
      obtain ⟨r33, M_33, h5, hf⟩ := ob2_some hf
      refine k_callW C 18 (c_X12_makes Z.2.1 D cy a M_25 x1_9 r33 M_33 h5) rfl qX12_178 mvX12_makes 0 12 M_c0 rfl rfl rfl (Nat.le_of_ble_eq_true rfl) ⟨Nat.le_of_ble_eq_true rfl, Nat.le_of_ble_eq_true rfl, Nat.le_refl 0, Nat.le_refl 0⟩ ?_
      refine k_if_ne C 19 rfl 41 (by decide) (fun hc => ?_) (fun hc => ?_)
      · replace hf := if_f hf hc
        refine k_aload_0 C 22 rfl 0 rfl ?_
        refine k_iconst C 23 rfl ci_0 ?_
        refine k_aload_0 C 24 rfl 0 rfl ?_
        refine kg12_10 C 25 rfl qX12_121 0 M_c0 M_f0_10 ?_
        obtain ⟨M_47, h5, hf⟩ := ob1_some hf
        refine k_callW C 26 (c_X12_puts Z.2.1 D cy a M_33 0 (M_33.1 10) M_47 h5) rfl qX12_170 mvX12_puts 0 12 M_c0 rfl rfl rfl (Nat.le_of_ble_eq_true rfl) ⟨Nat.le_of_ble_eq_true rfl, Nat.le_of_ble_eq_true rfl, Nat.le_refl 0, Nat.le_refl 0⟩ ?_
        refine k_iconst C 27 rfl ci_1 ?_
        exact k_zret (wf := (fun u => (mw cy a u))) hR 28 rfl hf
      · replace hf := if_t hf hc
        exact k_sub [] rfl (hb39 M_33 hf)
set_option maxHeartbeats 1000000 in
set_option maxRecDepth 20000 in
theorem c_X12_term (l : Launch) (D : va_G) (cy : Nat → ClassId) (a : Nat → Nat) (M : Sg) (r : Bool) (M1 : Sg) (hf : f_X12_term M = some (r, M1)) : Ct l D cy yX12_term cX12_term 2 (some .boolean) 4 88 0 0 [.ref (a 0)] (mw cy a M) (some (.int (bI r))) (mw cy a M1) := by
  refine Ct_z tX12_term hX12_term (by decide) (Nat.le_of_ble_eq_true rfl) ?_
  intro Z hZ C hR
  subst hZ
  replace C : Cx Z D cy RX12 tX12_term 2 4 88 0 0 := C
  show Wk Z D 2 0 0 (mw cy a M) 0 [(0, .ref (a 0))] []
  unfold f_X12_term at hf
  have hq9 : ∀ (k9 : Sg → Option (Bool × Sg)), (∀ (M : Sg), k9 M = some (r, M1) → Wk Z D 2 0 0 (mw cy a M) 9 [(0, .ref (a 0))] []) → ∀ (M : Sg), f_X12_term_b9 k9 M = some (r, M1) → Wk Z D 2 0 0 (mw cy a M) 9 [(0, .ref (a 0))] [] := by
    intro k9 hk9 M hf
    unfold f_X12_term_b9 at hf
    have hb74 : ∀ (s0 : Int32) (M : Sg), f_X12_term_b74 k9 s0 M = some (r, M1) → Wk Z D 2 0 0 (mw cy a M) 74 [(0, .ref (a 0))] [.int s0] := by
      intro s0 M hf
      unfold f_X12_term_b74 at hf
      refine k_istore_1 C 36 rfl (by decide) rfl ?_
      refine k_sub (lv2 := [(0, .ref (a 0)), (1, .int s0)]) [1, 0] rfl ?_
      refine k_aload_0 C 37 rfl 0 rfl ?_
      refine k_dup C 38 rfl rfl ?_
      refine kg12_8 C 39 rfl qX12_96 0 M_c0 M_f0_8 ?_
      refine k_iconst C 40 rfl ci_1 ?_
      refine k_iadd C 41 rfl ?_
      obtain ⟨M_82, hM, hf⟩ := bnd_some hf
      refine kp12_8 (w2 := (mw cy a M_82)) C 42 rfl qX12_96 0 M_c0 (v := ((M.1 8) + 1)) M_n0 (M_p0_8.trans (congrArg (fun z => (mw cy a z)) hM)) ?_
      refine k_aload_0 C 43 rfl 0 rfl ?_
      obtain ⟨r86, M_86, h5, hf⟩ := ob2_some hf
      refine k_callW C 44 (c_X12_value Z.2.1 D cy a M_82 r86 M_86 h5) rfl qX12_184 mvX12_value 0 12 M_c0 rfl rfl rfl (Nat.le_of_ble_eq_true rfl) ⟨Nat.le_of_ble_eq_true rfl, Nat.le_of_ble_eq_true rfl, Nat.le_refl 0, Nat.le_refl 0⟩ ?_
      refine k_if_ne C 45 rfl 94 (by decide) (fun hc => ?_) (fun hc => ?_)
      · replace hf := if_f hf hc
        refine k_aload_0 C 48 rfl 0 rfl ?_
        refine k_iload_1 C 49 rfl 1 rfl ?_
        refine k_iconst C 50 rfl ci_0 ?_
        obtain ⟨M_97, h5, hf⟩ := ob1_some hf
        refine k_callW C 51 (c_X12_puts Z.2.1 D cy a M_86 s0 0 M_97 h5) rfl qX12_170 mvX12_puts 0 12 M_c0 rfl rfl rfl (Nat.le_of_ble_eq_true rfl) ⟨Nat.le_of_ble_eq_true rfl, Nat.le_of_ble_eq_true rfl, Nat.le_refl 0, Nat.le_refl 0⟩ ?_
        refine k_goto C 52 rfl 9 (by decide) ?_
        exact k_sub [0] rfl (hk9 M_97 hf)
      · replace hf := if_t hf hc
        refine k_iconst C 46 rfl ci_0 ?_
        exact k_zret (wf := (fun u => (mw cy a u))) hR 47 rfl hf
    have hb36 : ∀ (M : Sg), f_X12_term_b36 k9 M = some (r, M1) → Wk Z D 2 0 0 (mw cy a M) 36 [(0, .ref (a 0))] [] := by
      intro M hf
      unfold f_X12_term_b36 at hf
      refine k_aload_0 C 17 rfl 0 rfl ?_
      refine kg12_0 C 18 rfl qX12_7 0 M_c0 M_f0_0 ?_
      refine k_aload_0 C 19 rfl 0 rfl ?_
      refine kg12_8 C 20 rfl qX12_96 0 M_c0 M_f0_8 ?_
      obtain ⟨i44, hi, hin, hf⟩ := ixd_some hf
      refine k_bald C 21 rfl 1 M_c1 hin hi ?_
      refine k_bipush C 22 rfl cb_42 ?_
      refine k_icmp_ne C 23 rfl 54 (by decide) (fun hc => ?_) (fun hc => ?_)
      · replace hf := if_f hf hc
        refine k_aload_0 C 26 rfl 0 rfl ?_
        refine kg12_0 C 27 rfl qX12_7 0 M_c0 M_f0_0 ?_
        refine k_aload_0 C 28 rfl 0 rfl ?_
        refine kg12_8 C 29 rfl qX12_96 0 M_c0 M_f0_8 ?_
        obtain ⟨i62, hi, hin, hf⟩ := ixd_some hf
        refine k_bald C 30 rfl 1 M_c1 hin hi ?_
        refine k_bipush C 31 rfl cb_47 ?_
        refine k_icmp_ne C 32 rfl 72 (by decide) (fun hc => ?_) (fun hc => ?_)
        · replace hf := if_f hf hc
          refine k_bipush C 35 rfl cb_14 ?_
          exact k_sub [0] rfl (hb74 14 M hf)
        · replace hf := if_t hf hc
          refine k_iconst C 33 rfl ci_5 ?_
          refine k_goto C 34 rfl 74 (by decide) ?_
          exact k_sub [0] rfl (hb74 5 M hf)
      · replace hf := if_t hf hc
        refine k_iconst C 24 rfl ci_4 ?_
        refine k_goto C 25 rfl 74 (by decide) ?_
        exact k_sub [0] rfl (hb74 4 M hf)
    refine k_aload_0 C 5 rfl 0 rfl ?_
    obtain ⟨r10, M_10, h5, hf⟩ := ob2_some hf
    refine k_callW C 6 (c_X12_see Z.2.1 D cy a M r10 M_10 h5) rfl qX12_99 mvX12_see 0 12 M_c0 rfl rfl rfl (Nat.le_of_ble_eq_true rfl) ⟨Nat.le_of_ble_eq_true rfl, Nat.le_of_ble_eq_true rfl, Nat.le_refl 0, Nat.le_refl 0⟩ ?_
    refine k_bipush C 7 rfl cb_42 ?_
    refine k_icmp_eq C 8 rfl 36 (by decide) (fun hc => ?_) (fun hc => ?_)
    · replace hf := if_t hf hc
      exact k_sub [0] rfl (hb36 M_10 hf)
    · replace hf := if_f hf hc
      refine k_aload_0 C 9 rfl 0 rfl ?_
      obtain ⟨r19, M_19, h5, hf⟩ := ob2_some hf
      refine k_callW C 10 (c_X12_see Z.2.1 D cy a M_10 r19 M_19 h5) rfl qX12_99 mvX12_see 0 12 M_c0 rfl rfl rfl (Nat.le_of_ble_eq_true rfl) ⟨Nat.le_of_ble_eq_true rfl, Nat.le_of_ble_eq_true rfl, Nat.le_refl 0, Nat.le_refl 0⟩ ?_
      refine k_bipush C 11 rfl cb_47 ?_
      refine k_icmp_eq C 12 rfl 36 (by decide) (fun hc => ?_) (fun hc => ?_)
      · replace hf := if_t hf hc
        exact k_sub [0] rfl (hb36 M_19 hf)
      · replace hf := if_f hf hc
        refine k_aload_0 C 13 rfl 0 rfl ?_
        obtain ⟨r28, M_28, h5, hf⟩ := ob2_some hf
        refine k_callW C 14 (c_X12_see Z.2.1 D cy a M_19 r28 M_28 h5) rfl qX12_99 mvX12_see 0 12 M_c0 rfl rfl rfl (Nat.le_of_ble_eq_true rfl) ⟨Nat.le_of_ble_eq_true rfl, Nat.le_of_ble_eq_true rfl, Nat.le_refl 0, Nat.le_refl 0⟩ ?_
        refine k_bipush C 15 rfl cb_37 ?_
        refine k_icmp_ne C 16 rfl 103 (by decide) (fun hc => ?_) (fun hc => ?_)
        · replace hf := if_f hf hc
          refine k_iconst C 53 rfl ci_1 ?_
          exact k_zret (wf := (fun u => (mw cy a u))) hR 54 rfl hf
        · replace hf := if_t hf hc
          exact k_sub [0] rfl (hb36 M_28 hf)
  have hb9 := flW1 hq9
  refine k_aload_0 C 0 rfl 0 rfl ?_
  obtain ⟨r1, M_1, h5, hf⟩ := ob2_some hf
  refine k_callW C 1 (c_X12_value Z.2.1 D cy a M r1 M_1 h5) rfl qX12_184 mvX12_value 0 12 M_c0 rfl rfl rfl (Nat.le_of_ble_eq_true rfl) ⟨Nat.le_of_ble_eq_true rfl, Nat.le_of_ble_eq_true rfl, Nat.le_refl 0, Nat.le_refl 0⟩ ?_
  refine k_if_ne C 2 rfl 9 (by decide) (fun hc => ?_) (fun hc => ?_)
  · replace hf := if_f hf hc
    exact k_sub [0] rfl (hb9 FU M_1 hf)
  · replace hf := if_t hf hc
    refine k_iconst C 3 rfl ci_0 ?_
    exact k_zret (wf := (fun u => (mw cy a u))) hR 4 rfl hf
set_option maxHeartbeats 1000000 in
set_option maxRecDepth 20000 in
theorem c_X12_sum (l : Launch) (D : va_G) (cy : Nat → ClassId) (a : Nat → Nat) (M : Sg) (r : Bool) (M1 : Sg) (hf : f_X12_sum M = some (r, M1)) : Ct l D cy yX12_sum cX12_sum 2 (some .boolean) 5 109 0 0 [.ref (a 0)] (mw cy a M) (some (.int (bI r))) (mw cy a M1) := by
  refine Ct_z tX12_sum hX12_sum (by decide) (Nat.le_of_ble_eq_true rfl) ?_
  intro Z hZ C hR
  subst hZ
  replace C : Cx Z D cy RX12 tX12_sum 2 5 109 0 0 := C
  show Wk Z D 2 0 0 (mw cy a M) 0 [(0, .ref (a 0))] []
  unfold f_X12_sum at hf
  have hq9 : ∀ (k9 : Sg → Option (Bool × Sg)), (∀ (M : Sg), k9 M = some (r, M1) → Wk Z D 2 0 0 (mw cy a M) 9 [(0, .ref (a 0))] []) → ∀ (M : Sg), f_X12_sum_b9 k9 M = some (r, M1) → Wk Z D 2 0 0 (mw cy a M) 9 [(0, .ref (a 0))] [] := by
    intro k9 hk9 M hf
    unfold f_X12_sum_b9 at hf
    have hb46 : ∀ (s0 : Int32) (M : Sg), f_X12_sum_b46 k9 s0 M = some (r, M1) → Wk Z D 2 0 0 (mw cy a M) 46 [(0, .ref (a 0))] [.int s0] := by
      intro s0 M hf
      unfold f_X12_sum_b46 at hf
      refine k_istore_1 C 23 rfl (by decide) rfl ?_
      refine k_sub (lv2 := [(0, .ref (a 0)), (1, .int s0)]) [1, 0] rfl ?_
      refine k_aload_0 C 24 rfl 0 rfl ?_
      refine k_dup C 25 rfl rfl ?_
      refine kg12_8 C 26 rfl qX12_96 0 M_c0 M_f0_8 ?_
      refine k_iconst C 27 rfl ci_1 ?_
      refine k_iadd C 28 rfl ?_
      obtain ⟨M_54, hM, hf⟩ := bnd_some hf
      refine kp12_8 (w2 := (mw cy a M_54)) C 29 rfl qX12_96 0 M_c0 (v := ((M.1 8) + 1)) M_n0 (M_p0_8.trans (congrArg (fun z => (mw cy a z)) hM)) ?_
      refine k_aload_0 C 30 rfl 0 rfl ?_
      obtain ⟨r58, M_58, h5, hf⟩ := ob2_some hf
      refine k_callW C 31 (c_X12_term Z.2.1 D cy a M_54 r58 M_58 h5) rfl qX12_188 mvX12_term 0 12 M_c0 rfl rfl rfl (Nat.le_of_ble_eq_true rfl) ⟨Nat.le_of_ble_eq_true rfl, Nat.le_of_ble_eq_true rfl, Nat.le_refl 0, Nat.le_refl 0⟩ ?_
      refine k_if_ne C 32 rfl 66 (by decide) (fun hc => ?_) (fun hc => ?_)
      · replace hf := if_f hf hc
        refine k_aload_0 C 35 rfl 0 rfl ?_
        refine k_iload_1 C 36 rfl 1 rfl ?_
        refine k_iconst C 37 rfl ci_0 ?_
        obtain ⟨M_69, h5, hf⟩ := ob1_some hf
        refine k_callW C 38 (c_X12_puts Z.2.1 D cy a M_58 s0 0 M_69 h5) rfl qX12_170 mvX12_puts 0 12 M_c0 rfl rfl rfl (Nat.le_of_ble_eq_true rfl) ⟨Nat.le_of_ble_eq_true rfl, Nat.le_of_ble_eq_true rfl, Nat.le_refl 0, Nat.le_refl 0⟩ ?_
        refine k_goto C 39 rfl 9 (by decide) ?_
        exact k_sub [0] rfl (hk9 M_69 hf)
      · replace hf := if_t hf hc
        refine k_iconst C 33 rfl ci_0 ?_
        exact k_zret (wf := (fun u => (mw cy a u))) hR 34 rfl hf
    have hb27 : ∀ (M : Sg), f_X12_sum_b27 k9 M = some (r, M1) → Wk Z D 2 0 0 (mw cy a M) 27 [(0, .ref (a 0))] [] := by
      intro M hf
      unfold f_X12_sum_b27 at hf
      refine k_aload_0 C 13 rfl 0 rfl ?_
      refine kg12_0 C 14 rfl qX12_7 0 M_c0 M_f0_0 ?_
      refine k_aload_0 C 15 rfl 0 rfl ?_
      refine kg12_8 C 16 rfl qX12_96 0 M_c0 M_f0_8 ?_
      obtain ⟨i35, hi, hin, hf⟩ := ixd_some hf
      refine k_bald C 17 rfl 1 M_c1 hin hi ?_
      refine k_bipush C 18 rfl cb_43 ?_
      refine k_icmp_ne C 19 rfl 45 (by decide) (fun hc => ?_) (fun hc => ?_)
      · replace hf := if_f hf hc
        refine k_iconst C 22 rfl ci_3 ?_
        exact k_sub [0] rfl (hb46 3 M hf)
      · replace hf := if_t hf hc
        refine k_iconst C 20 rfl ci_2 ?_
        refine k_goto C 21 rfl 46 (by decide) ?_
        exact k_sub [0] rfl (hb46 2 M hf)
    refine k_aload_0 C 5 rfl 0 rfl ?_
    obtain ⟨r10, M_10, h5, hf⟩ := ob2_some hf
    refine k_callW C 6 (c_X12_see Z.2.1 D cy a M r10 M_10 h5) rfl qX12_99 mvX12_see 0 12 M_c0 rfl rfl rfl (Nat.le_of_ble_eq_true rfl) ⟨Nat.le_of_ble_eq_true rfl, Nat.le_of_ble_eq_true rfl, Nat.le_refl 0, Nat.le_refl 0⟩ ?_
    refine k_bipush C 7 rfl cb_43 ?_
    refine k_icmp_eq C 8 rfl 27 (by decide) (fun hc => ?_) (fun hc => ?_)
    · replace hf := if_t hf hc
      exact k_sub [0] rfl (hb27 M_10 hf)
    · replace hf := if_f hf hc
      refine k_aload_0 C 9 rfl 0 rfl ?_
      obtain ⟨r19, M_19, h5, hf⟩ := ob2_some hf
      refine k_callW C 10 (c_X12_see Z.2.1 D cy a M_10 r19 M_19 h5) rfl qX12_99 mvX12_see 0 12 M_c0 rfl rfl rfl (Nat.le_of_ble_eq_true rfl) ⟨Nat.le_of_ble_eq_true rfl, Nat.le_of_ble_eq_true rfl, Nat.le_refl 0, Nat.le_refl 0⟩ ?_
      refine k_bipush C 11 rfl cb_45 ?_
      refine k_icmp_ne C 12 rfl 75 (by decide) (fun hc => ?_) (fun hc => ?_)
      · replace hf := if_f hf hc
        refine k_iconst C 40 rfl ci_1 ?_
        exact k_zret (wf := (fun u => (mw cy a u))) hR 41 rfl hf
      · replace hf := if_t hf hc
        exact k_sub [0] rfl (hb27 M_19 hf)
  have hb9 := flW1 hq9
  refine k_aload_0 C 0 rfl 0 rfl ?_
  obtain ⟨r1, M_1, h5, hf⟩ := ob2_some hf
  refine k_callW C 1 (c_X12_term Z.2.1 D cy a M r1 M_1 h5) rfl qX12_188 mvX12_term 0 12 M_c0 rfl rfl rfl (Nat.le_of_ble_eq_true rfl) ⟨Nat.le_of_ble_eq_true rfl, Nat.le_of_ble_eq_true rfl, Nat.le_refl 0, Nat.le_refl 0⟩ ?_
  refine k_if_ne C 2 rfl 9 (by decide) (fun hc => ?_) (fun hc => ?_)
  · replace hf := if_f hf hc
    exact k_sub [0] rfl (hb9 FU M_1 hf)
  · replace hf := if_t hf hc
    refine k_iconst C 3 rfl ci_0 ?_
    exact k_zret (wf := (fun u => (mw cy a u))) hR 4 rfl hf
set_option maxHeartbeats 1000000 in
set_option maxRecDepth 20000 in
theorem c_X12_compare (l : Launch) (D : va_G) (cy : Nat → ClassId) (a : Nat → Nat) (M : Sg) (r : Bool) (M1 : Sg) (hf : f_X12_compare M = some (r, M1)) : Ct l D cy yX12_compare cX12_compare 5 (some .boolean) 6 130 0 0 [.ref (a 0)] (mw cy a M) (some (.int (bI r))) (mw cy a M1) := by
  refine Ct_z tX12_compare hX12_compare (by decide) (Nat.le_of_ble_eq_true rfl) ?_
  intro Z hZ C hR
  subst hZ
  replace C : Cx Z D cy RX12 tX12_compare 5 6 130 0 0 := C
  show Wk Z D 5 0 0 (mw cy a M) 0 [(0, .ref (a 0))] []
  unfold f_X12_compare at hf
  have hb152 : ∀ (s0 : Int32) (M : Sg), f_X12_compare_b152 s0 M = some (r, M1) → Wk Z D 5 0 0 (mw cy a M) 152 [(0, .ref (a 0))] [.int s0] := by
    intro s0 M hf
    unfold f_X12_compare_b152 at hf
    refine k_istore C 83 rfl (by decide) rfl ?_
    refine k_sub (lv2 := [(0, .ref (a 0)), (4, .int s0)]) [1, 0] rfl ?_
    refine k_aload_0 C 84 rfl 0 rfl ?_
    obtain ⟨r155, M_155, h5, hf⟩ := ob2_some hf
    refine k_callW C 85 (c_X12_sum Z.2.1 D cy a M r155 M_155 h5) rfl qX12_191 mvX12_sum 0 12 M_c0 rfl rfl rfl (Nat.le_of_ble_eq_true rfl) ⟨Nat.le_of_ble_eq_true rfl, Nat.le_of_ble_eq_true rfl, Nat.le_refl 0, Nat.le_refl 0⟩ ?_
    refine k_if_ne C 86 rfl 163 (by decide) (fun hc => ?_) (fun hc => ?_)
    · replace hf := if_f hf hc
      refine k_aload_0 C 89 rfl 0 rfl ?_
      refine k_bipush C 90 rfl cb_6 ?_
      refine k_iload C 91 rfl 1 rfl ?_
      refine k_iadd C 92 rfl ?_
      refine k_iconst C 93 rfl ci_0 ?_
      obtain ⟨M_170, h5, hf⟩ := ob1_some hf
      refine k_callW C 94 (c_X12_puts Z.2.1 D cy a M_155 (6 + s0) 0 M_170 h5) rfl qX12_170 mvX12_puts 0 12 M_c0 rfl rfl rfl (Nat.le_of_ble_eq_true rfl) ⟨Nat.le_of_ble_eq_true rfl, Nat.le_of_ble_eq_true rfl, Nat.le_refl 0, Nat.le_refl 0⟩ ?_
      refine k_iconst C 95 rfl ci_1 ?_
      exact k_zret (wf := (fun u => (mw cy a u))) hR 96 rfl hf
    · replace hf := if_t hf hc
      refine k_iconst C 87 rfl ci_0 ?_
      exact k_zret (wf := (fun u => (mw cy a u))) hR 88 rfl hf
  have hb105 : ∀ (x1 : Int32) (x2 : Int32) (x3 : Int32) (M : Sg), f_X12_compare_b105 x1 x2 x3 M = some (r, M1) → Wk Z D 5 0 0 (mw cy a M) 105 [(0, .ref (a 0)), (1, .int x1), (2, .int x2), (3, .int x3)] [] := by
    intro x1 x2 x3 M hf
    unfold f_X12_compare_b105 at hf
    refine k_aload_0 C 58 rfl 0 rfl ?_
    refine k_iload_2 C 59 rfl 2 rfl ?_
    obtain ⟨r107, M_107, h5, hf⟩ := ob2_some hf
    refine k_callW C 60 (c_X12_makes Z.2.1 D cy a M x2 r107 M_107 h5) rfl qX12_178 mvX12_makes 0 12 M_c0 rfl rfl rfl (Nat.le_of_ble_eq_true rfl) ⟨Nat.le_of_ble_eq_true rfl, Nat.le_of_ble_eq_true rfl, Nat.le_refl 0, Nat.le_refl 0⟩ ?_
    refine k_if_ne C 61 rfl 115 (by decide) (fun hc => ?_) (fun hc => ?_)
    · replace hf := if_f hf hc
      refine k_iload_1 C 64 rfl 1 rfl ?_
      refine k_bipush C 65 rfl cb_60 ?_
      refine k_icmp_ne C 66 rfl 133 (by decide) (fun hc => ?_) (fun hc => ?_)
      · replace hf := if_f hf hc
        refine k_iload_1 C 73 rfl 1 rfl ?_
        refine k_bipush C 74 rfl cb_61 ?_
        refine k_icmp_ne C 75 rfl 143 (by decide) (fun hc => ?_) (fun hc => ?_)
        · replace hf := if_f hf hc
          refine k_iload_3 C 78 rfl 3 rfl ?_
          refine k_if_eq C 79 rfl 151 (by decide) (fun hc => ?_) (fun hc => ?_)
          · replace hf := if_t hf hc
            refine k_iconst C 82 rfl ci_4 ?_
            exact k_sub [0] rfl (hb152 4 M_107 hf)
          · replace hf := if_f hf hc
            refine k_iconst C 80 rfl ci_3 ?_
            refine k_goto C 81 rfl 152 (by decide) ?_
            exact k_sub [0] rfl (hb152 3 M_107 hf)
        · replace hf := if_t hf hc
          refine k_iconst C 76 rfl ci_2 ?_
          refine k_goto C 77 rfl 152 (by decide) ?_
          exact k_sub [0] rfl (hb152 2 M_107 hf)
      · replace hf := if_t hf hc
        refine k_iload_3 C 67 rfl 3 rfl ?_
        refine k_if_eq C 68 rfl 129 (by decide) (fun hc => ?_) (fun hc => ?_)
        · replace hf := if_t hf hc
          refine k_iconst C 71 rfl ci_0 ?_
          refine k_goto C 72 rfl 152 (by decide) ?_
          exact k_sub [0] rfl (hb152 0 M_107 hf)
        · replace hf := if_f hf hc
          refine k_iconst C 69 rfl ci_1 ?_
          refine k_goto C 70 rfl 152 (by decide) ?_
          exact k_sub [0] rfl (hb152 1 M_107 hf)
    · replace hf := if_t hf hc
      refine k_iconst C 62 rfl ci_0 ?_
      exact k_zret (wf := (fun u => (mw cy a u))) hR 63 rfl hf
  have hb90 : ∀ (x1 : Int32) (x2 : Int32) (s0 : Int32) (M : Sg), f_X12_compare_b90 x1 x2 s0 M = some (r, M1) → Wk Z D 5 0 0 (mw cy a M) 90 [(0, .ref (a 0)), (1, .int x1), (2, .int x2)] [.int s0] := by
    intro x1 x2 s0 M hf
    unfold f_X12_compare_b90 at hf
    refine k_istore_3 C 49 rfl (by decide) rfl ?_
    refine k_sub (lv2 := [(0, .ref (a 0)), (1, .int x1), (2, .int x2), (3, .int s0)]) [1, 2, 3, 0] rfl ?_
    refine k_iload_3 C 50 rfl 3 rfl ?_
    refine k_if_eq C 51 rfl 105 (by decide) (fun hc => ?_) (fun hc => ?_)
    · replace hf := if_t hf hc
      exact k_sub [0, 1, 2, 3] rfl (hb105 x1 x2 s0 M hf)
    · replace hf := if_f hf hc
      refine k_aload_0 C 52 rfl 0 rfl ?_
      refine k_dup C 53 rfl rfl ?_
      refine kg12_8 C 54 rfl qX12_96 0 M_c0 M_f0_8 ?_
      refine k_iconst C 55 rfl ci_1 ?_
      refine k_iadd C 56 rfl ?_
      obtain ⟨M_102, hM, hf⟩ := bnd_some hf
      refine kp12_8 (w2 := (mw cy a M_102)) C 57 rfl qX12_96 0 M_c0 (v := ((M.1 8) + 1)) M_n0 (M_p0_8.trans (congrArg (fun z => (mw cy a z)) hM)) ?_
      exact k_sub [0, 1, 2, 3] rfl (hb105 x1 x2 s0 M_102 hf)
  have hb89 : ∀ (x1 : Int32) (x2 : Int32) (M : Sg), f_X12_compare_b89 x1 x2 M = some (r, M1) → Wk Z D 5 0 0 (mw cy a M) 89 [(0, .ref (a 0)), (1, .int x1), (2, .int x2)] [] := by
    intro x1 x2 M hf
    unfold f_X12_compare_b89 at hf
    refine k_iconst C 48 rfl ci_0 ?_
    exact k_sub [0, 1, 2] rfl (hb90 x1 x2 0 M hf)
  have hb44 : ∀ (x1 : Int32) (x2 : Int32) (M : Sg), f_X12_compare_b44 x1 x2 M = some (r, M1) → Wk Z D 5 0 0 (mw cy a M) 44 [(0, .ref (a 0)), (1, .int x1), (2, .int x2)] [] := by
    intro x1 x2 M hf
    unfold f_X12_compare_b44 at hf
    refine k_aload_0 C 25 rfl 0 rfl ?_
    refine k_dup C 26 rfl rfl ?_
    refine kg12_8 C 27 rfl qX12_96 0 M_c0 M_f0_8 ?_
    refine k_iconst C 28 rfl ci_1 ?_
    refine k_iadd C 29 rfl ?_
    obtain ⟨M_51, hM, hf⟩ := bnd_some hf
    refine kp12_8 (w2 := (mw cy a M_51)) C 30 rfl qX12_96 0 M_c0 (v := ((M.1 8) + 1)) M_n0 (M_p0_8.trans (congrArg (fun z => (mw cy a z)) hM)) ?_
    refine k_iload_1 C 31 rfl 1 rfl ?_
    refine k_bipush C 32 rfl cb_61 ?_
    refine k_icmp_eq C 33 rfl 89 (by decide) (fun hc => ?_) (fun hc => ?_)
    · replace hf := if_t hf hc
      exact k_sub [0, 1, 2] rfl (hb89 x1 x2 M_51 hf)
    · replace hf := if_f hf hc
      refine k_aload_0 C 34 rfl 0 rfl ?_
      refine kg12_8 C 35 rfl qX12_96 0 M_c0 M_f0_8 ?_
      refine k_aload_0 C 36 rfl 0 rfl ?_
      refine kg12_1 C 37 rfl qX12_85 0 M_c0 M_f0_1 ?_
      refine k_icmp_ge C 38 rfl 89 (by decide) (fun hc => ?_) (fun hc => ?_)
      · replace hf := if_t hf hc
        exact k_sub [0, 1, 2] rfl (hb89 x1 x2 M_51 hf)
      · replace hf := if_f hf hc
        refine k_aload_0 C 39 rfl 0 rfl ?_
        refine kg12_0 C 40 rfl qX12_7 0 M_c0 M_f0_0 ?_
        refine k_aload_0 C 41 rfl 0 rfl ?_
        refine kg12_8 C 42 rfl qX12_96 0 M_c0 M_f0_8 ?_
        obtain ⟨i79, hi, hin, hf⟩ := ixd_some hf
        refine k_bald C 43 rfl 1 M_c1 hin hi ?_
        refine k_bipush C 44 rfl cb_61 ?_
        refine k_icmp_ne C 45 rfl 89 (by decide) (fun hc => ?_) (fun hc => ?_)
        · replace hf := if_f hf hc
          exact k_sub [0, 1, 2] rfl (hb89 x1 x2 M_51 hf)
        · replace hf := if_t hf hc
          refine k_iconst C 46 rfl ci_1 ?_
          refine k_goto C 47 rfl 90 (by decide) ?_
          exact k_sub [0, 1, 2] rfl (hb90 x1 x2 1 M_51 hf)
  refine k_aload_0 C 0 rfl 0 rfl ?_
  obtain ⟨r1, M_1, h5, hf⟩ := ob2_some hf
  refine k_callW C 1 (c_X12_sum Z.2.1 D cy a M r1 M_1 h5) rfl qX12_191 mvX12_sum 0 12 M_c0 rfl rfl rfl (Nat.le_of_ble_eq_true rfl) ⟨Nat.le_of_ble_eq_true rfl, Nat.le_of_ble_eq_true rfl, Nat.le_refl 0, Nat.le_refl 0⟩ ?_
  refine k_if_ne C 2 rfl 9 (by decide) (fun hc => ?_) (fun hc => ?_)
  · replace hf := if_f hf hc
    refine k_aload_0 C 5 rfl 0 rfl ?_
    obtain ⟨r10, M_10, h5, hf⟩ := ob2_some hf
    refine k_callW C 6 (c_X12_see Z.2.1 D cy a M_1 r10 M_10 h5) rfl qX12_99 mvX12_see 0 12 M_c0 rfl rfl rfl (Nat.le_of_ble_eq_true rfl) ⟨Nat.le_of_ble_eq_true rfl, Nat.le_of_ble_eq_true rfl, Nat.le_refl 0, Nat.le_refl 0⟩ ?_
    refine k_istore_1 C 7 rfl (by decide) rfl ?_
    refine k_sub (lv2 := [(0, .ref (a 0)), (1, .int r10)]) [1, 0] rfl ?_
    refine k_aload_0 C 8 rfl 0 rfl ?_
    refine kg12_8 C 9 rfl qX12_96 0 M_c0 M_f0_8 ?_
    obtain ⟨x2_18, hx, hf⟩ := bnd_some hf
    refine k_topi hx ?_
    refine k_istore_2 C 10 rfl (by decide) rfl ?_
    refine k_sub (lv2 := [(0, .ref (a 0)), (1, .int r10), (2, .int x2_18)]) [1, 2, 0] rfl ?_
    refine k_iload_1 C 11 rfl 1 rfl ?_
    refine k_bipush C 12 rfl cb_60 ?_
    refine k_icmp_eq C 13 rfl 44 (by decide) (fun hc => ?_) (fun hc => ?_)
    · replace hf := if_t hf hc
      exact k_sub [0, 1, 2] rfl (hb44 r10 x2_18 M_10 hf)
    · replace hf := if_f hf hc
      refine k_iload_1 C 14 rfl 1 rfl ?_
      refine k_bipush C 15 rfl cb_61 ?_
      refine k_icmp_eq C 16 rfl 44 (by decide) (fun hc => ?_) (fun hc => ?_)
      · replace hf := if_t hf hc
        exact k_sub [0, 1, 2] rfl (hb44 r10 x2_18 M_10 hf)
      · replace hf := if_f hf hc
        refine k_iload_1 C 17 rfl 1 rfl ?_
        refine k_bipush C 18 rfl cb_62 ?_
        refine k_icmp_eq C 19 rfl 44 (by decide) (fun hc => ?_) (fun hc => ?_)
        · replace hf := if_t hf hc
          exact k_sub [0, 1, 2] rfl (hb44 r10 x2_18 M_10 hf)
        · replace hf := if_f hf hc
          refine k_aload_0 C 20 rfl 0 rfl ?_
          refine k_iconst C 21 rfl ci_0 ?_
          refine k_iload_2 C 22 rfl 2 rfl ?_
          obtain ⟨r40, M_40, h5, hf⟩ := ob2_some hf
          refine k_callW C 23 (c_X12_fails Z.2.1 D cy a M_10 0 x2_18 r40 M_40 h5) rfl qX12_117 mvX12_fails 0 12 M_c0 rfl rfl rfl (Nat.le_of_ble_eq_true rfl) ⟨Nat.le_of_ble_eq_true rfl, Nat.le_of_ble_eq_true rfl, Nat.le_refl 0, Nat.le_refl 0⟩ ?_
          exact k_zret (wf := (fun u => (mw cy a u))) hR 24 rfl hf
  · replace hf := if_t hf hc
    refine k_iconst C 3 rfl ci_0 ?_
    exact k_zret (wf := (fun u => (mw cy a u))) hR 4 rfl hf
