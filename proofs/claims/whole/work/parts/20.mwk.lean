set_option maxHeartbeats 1000000 in
set_option maxRecDepth 20000 in
theorem c_X12_in (l : Launch) (D : va_G) (cy : Nat → ClassId) (p0 : Int64) (p2 : Int64) (p4 : Int64) (r : Bool) (hf : f_X12_in p0 p2 p4 = some r) : Ct l D cy yX12_in cX12_in 6 (some .boolean) 0 0 0 0 [.long p0, .long p2, .long p4] [] (some (.int (bI r))) [] := by
  refine Ct_z tX12_in hX12_in (by decide) (Nat.le_of_ble_eq_true rfl) ?_
  intro Z hZ C hR
  subst hZ
  replace C : Cx Z D cy RX12 tX12_in 6 0 0 0 0 := C
  show Wk Z D 6 0 0 [] 0 [(0, .long p0), (2, .long p2), (4, .long p4)] []
  unfold f_X12_in at hf
  have hb17 : f_X12_in_b17 p0 p2 p4 = some r → Wk Z D 6 0 0 [] 17 [] [] := by
    intro  hf
    unfold f_X12_in_b17 at hf
    refine k_iconst C 10 rfl ci_0 ?_
    exact k_zretP hR 11 rfl hf
  refine k_lload_0 C 0 rfl 0 rfl ?_
  refine k_lload_2 C 1 rfl 1 rfl ?_
  refine k_lcmp C 2 rfl ?_
  refine k_if_lt C 3 rfl 17 (by decide) (fun hc => ?_) (fun hc => ?_)
  · replace hf := if_t hf hc
    exact k_sub [] rfl (hb17  hf)
  · replace hf := if_f hf hc
    refine k_lload_0 C 4 rfl 0 rfl ?_
    refine k_lload C 5 rfl 2 rfl ?_
    refine k_lcmp C 6 rfl ?_
    refine k_if_gt C 7 rfl 17 (by decide) (fun hc => ?_) (fun hc => ?_)
    · replace hf := if_t hf hc
      exact k_sub [] rfl (hb17  hf)
    · replace hf := if_f hf hc
      refine k_iconst C 8 rfl ci_1 ?_
      refine k_goto C 9 rfl 18 (by decide) ?_
      exact k_zretP hR 11 rfl hf
set_option maxHeartbeats 1000000 in
set_option maxRecDepth 20000 in
theorem c_X12_isOf (l : Launch) (D : va_G) (cy : Nat → ClassId) (p0 : Int32) (p1 : Int32) (r : Bool) (hf : f_X12_isOf p0 p1 = some r) : Ct l D cy yX12_isOf cX12_isOf 2 (some .boolean) 0 0 0 0 [.int p0, .int p1] [] (some (.int (bI r))) [] := by
  refine Ct_z tX12_isOf hX12_isOf (by decide) (Nat.le_of_ble_eq_true rfl) ?_
  intro Z hZ C hR
  subst hZ
  replace C : Cx Z D cy RX12 tX12_isOf 2 0 0 0 0 := C
  show Wk Z D 2 0 0 [] 0 [(0, .int p0), (1, .int p1)] []
  unfold f_X12_isOf at hf
  refine k_iload_0 C 0 rfl 0 rfl ?_
  refine k_iload_1 C 1 rfl 1 rfl ?_
  refine k_ishr C 2 rfl ?_
  refine k_iconst C 3 rfl ci_1 ?_
  refine k_iand C 4 rfl ?_
  refine k_iconst C 5 rfl ci_1 ?_
  refine k_icmp_ne C 6 rfl 13 (by decide) (fun hc => ?_) (fun hc => ?_)
  · replace hf := if_f hf hc
    refine k_iconst C 9 rfl ci_0 ?_
    exact k_zretP hR 10 rfl hf
  · replace hf := if_t hf hc
    refine k_iconst C 7 rfl ci_1 ?_
    refine k_goto C 8 rfl 14 (by decide) ?_
    exact k_zretP hR 10 rfl hf
set_option maxHeartbeats 1000000 in
set_option maxRecDepth 20000 in
theorem c_X12_four (l : Launch) (D : va_G) (cy : Nat → ClassId) (a : Nat → Nat) (M : Sg) (p1 : Int32) (M1 : Sg) (hf : f_X12_four M p1 = some M1) : Ct l D cy yX12_four cX12_four 3 none 0 0 0 0 [.ref (a 0), .int p1] (mw cy a M) none (mw cy a M1) := by
  refine Ct_v tX12_four hX12_four (by decide) (Nat.le_of_ble_eq_true rfl) ?_
  intro Z hZ C hR
  subst hZ
  replace C : Cx Z D cy RX12 tX12_four 3 0 0 0 0 := C
  show Wk Z D 3 0 0 (mw cy a M) 0 [(0, .ref (a 0)), (1, .int p1)] []
  unfold f_X12_four at hf
  have hq3 : ∀ (k3 : Int32 → Sg → Option (Sg)), (∀ (x2 : Int32) (M : Sg), k3 x2 M = some M1 → Wk Z D 3 0 0 (mw cy a M) 3 [(0, .ref (a 0)), (1, .int p1), (2, .int x2)] []) → ∀ (x2 : Int32) (M : Sg), f_X12_four_b3 p1 k3 x2 M = some M1 → Wk Z D 3 0 0 (mw cy a M) 3 [(0, .ref (a 0)), (1, .int p1), (2, .int x2)] [] := by
    intro k3 hk3 x2 M hf
    unfold f_X12_four_b3 at hf
    refine k_iload_2 C 2 rfl 2 rfl ?_
    refine k_if_lt C 3 rfl 36 (by decide) (fun hc => ?_) (fun hc => ?_)
    · replace hf := if_t hf hc
      exact k_vret (wf := (fun u => (mw cy a u))) hR 21 rfl hf
    · replace hf := if_f hf hc
      refine k_aload_0 C 4 rfl 0 rfl ?_
      refine kg12_0 C 5 rfl qX12_7 0 M_c0 M_f0_0 ?_
      refine k_aload_0 C 6 rfl 0 rfl ?_
      refine kg12_1 C 7 rfl qX12_85 0 M_c0 M_f0_1 ?_
      refine k_iload_1 C 8 rfl 1 rfl ?_
      refine k_iload_2 C 9 rfl 2 rfl ?_
      refine k_ishr C 10 rfl ?_
      refine k_i2b C 11 rfl ?_
      obtain ⟨i19, hi, hin, hf⟩ := ixd_some hf
      obtain ⟨M_19, hM, hf⟩ := bnd_some hf
      refine k_bast (w2 := (mw cy a M_19)) C 12 rfl 1 M_c1 hin hi (M_s1.trans (congrArg (fun z => (mw cy a z)) hM)) ?_
      refine k_aload_0 C 13 rfl 0 rfl ?_
      refine k_dup C 14 rfl rfl ?_
      refine kg12_1 C 15 rfl qX12_85 0 M_c0 M_f0_1 ?_
      refine k_iconst C 16 rfl ci_1 ?_
      refine k_iadd C 17 rfl ?_
      obtain ⟨M_27, hM, hf⟩ := bnd_some hf
      refine kp12_1 (w2 := (mw cy a M_27)) C 18 rfl qX12_85 0 M_c0 (v := ((M_19.1 1) + 1)) M_n0 (M_p0_1.trans (congrArg (fun z => (mw cy a z)) hM)) ?_
      obtain ⟨x2_30, hx, hf⟩ := bnd_some hf
      refine k_iinc C 19 rfl 2 rfl ((cn_m8 _).trans hx) (by decide) rfl ?_
      refine k_sub (lv2 := [(0, .ref (a 0)), (1, .int p1), (2, .int x2_30)]) [1, 2, 0] rfl ?_
      refine k_goto C 20 rfl 3 (by decide) ?_
      exact k_sub [0, 1, 2] rfl (hk3 x2_30 M_27 hf)
  have hb3 := flW2 hq3
  refine k_bipush C 0 rfl cb_24 ?_
  refine k_istore_2 C 1 rfl (by decide) rfl ?_
  refine k_sub (lv2 := [(0, .ref (a 0)), (1, .int p1), (2, .int 24)]) [1, 2, 0] rfl ?_
  exact k_sub [0, 1, 2] rfl (hb3 FU 24 M hf)
set_option maxHeartbeats 1000000 in
set_option maxRecDepth 20000 in
theorem c_X12_feed (l : Launch) (D : va_G) (cy : Nat → ClassId) (a : Nat → Nat) (M : Sg) (p1 : Int32) (p2 : Int32) (p3 : Int32) (p4 : Int32) (p5 : Int32) (r : Int32) (M1 : Sg) (hf : f_X12_feed M p1 p2 p3 p4 p5 = some (r, M1)) : Ct l D cy yX12_feed cX12_feed 6 (some .int) 1 22 0 0 [.ref (a 0), .int p1, .int p2, .int p3, .int p4, .int p5] (mw cy a M) (some (.int r)) (mw cy a M1) := by
  refine Ct_i tX12_feed hX12_feed (by decide) (Nat.le_of_ble_eq_true rfl) ?_
  intro Z hZ C hR
  subst hZ
  replace C : Cx Z D cy RX12 tX12_feed 6 1 22 0 0 := C
  show Wk Z D 6 0 0 (mw cy a M) 0 [(0, .ref (a 0)), (1, .int p1), (2, .int p2), (3, .int p3), (4, .int p4), (5, .int p5)] []
  unfold f_X12_feed at hf
  refine k_aload_0 C 0 rfl 0 rfl ?_
  refine kg12_1 C 1 rfl qX12_85 0 M_c0 M_f0_1 ?_
  refine k_bipush C 2 rfl cb_20 ?_
  refine k_iadd C 3 rfl ?_
  refine k_sipush C 4 rfl cs_400 ?_
  refine k_icmp_le C 5 rfl 15 (by decide) (fun hc => ?_) (fun hc => ?_)
  · replace hf := if_t hf hc
    refine k_aload_0 C 8 rfl 0 rfl ?_
    refine k_iload_1 C 9 rfl 1 rfl ?_
    obtain ⟨M_17, h5, hf⟩ := ob1_some hf
    refine k_callW C 10 (c_X12_four Z.2.1 D cy a M p1 M_17 h5) rfl qX12_89 mvX12_four 0 12 M_c0 rfl rfl rfl (Nat.le_of_ble_eq_true rfl) ⟨Nat.le_of_ble_eq_true rfl, Nat.le_of_ble_eq_true rfl, Nat.le_refl 0, Nat.le_refl 0⟩ ?_
    refine k_aload_0 C 11 rfl 0 rfl ?_
    refine k_iload_2 C 12 rfl 2 rfl ?_
    obtain ⟨M_22, h5, hf⟩ := ob1_some hf
    refine k_callW C 13 (c_X12_four Z.2.1 D cy a M_17 p2 M_22 h5) rfl qX12_89 mvX12_four 0 12 M_c0 rfl rfl rfl (Nat.le_of_ble_eq_true rfl) ⟨Nat.le_of_ble_eq_true rfl, Nat.le_of_ble_eq_true rfl, Nat.le_refl 0, Nat.le_refl 0⟩ ?_
    refine k_aload_0 C 14 rfl 0 rfl ?_
    refine k_iload_3 C 15 rfl 3 rfl ?_
    obtain ⟨M_27, h5, hf⟩ := ob1_some hf
    refine k_callW C 16 (c_X12_four Z.2.1 D cy a M_22 p3 M_27 h5) rfl qX12_89 mvX12_four 0 12 M_c0 rfl rfl rfl (Nat.le_of_ble_eq_true rfl) ⟨Nat.le_of_ble_eq_true rfl, Nat.le_of_ble_eq_true rfl, Nat.le_refl 0, Nat.le_refl 0⟩ ?_
    refine k_aload_0 C 17 rfl 0 rfl ?_
    refine k_iload C 18 rfl 4 rfl ?_
    obtain ⟨M_33, h5, hf⟩ := ob1_some hf
    refine k_callW C 19 (c_X12_four Z.2.1 D cy a M_27 p4 M_33 h5) rfl qX12_89 mvX12_four 0 12 M_c0 rfl rfl rfl (Nat.le_of_ble_eq_true rfl) ⟨Nat.le_of_ble_eq_true rfl, Nat.le_of_ble_eq_true rfl, Nat.le_refl 0, Nat.le_refl 0⟩ ?_
    refine k_aload_0 C 20 rfl 0 rfl ?_
    refine k_iload C 21 rfl 5 rfl ?_
    obtain ⟨M_39, h5, hf⟩ := ob1_some hf
    refine k_callW C 22 (c_X12_four Z.2.1 D cy a M_33 p5 M_39 h5) rfl qX12_89 mvX12_four 0 12 M_c0 rfl rfl rfl (Nat.le_of_ble_eq_true rfl) ⟨Nat.le_of_ble_eq_true rfl, Nat.le_of_ble_eq_true rfl, Nat.le_refl 0, Nat.le_refl 0⟩ ?_
    refine k_aload_0 C 23 rfl 0 rfl ?_
    refine kg12_1 C 24 rfl qX12_85 0 M_c0 M_f0_1 ?_
    exact k_iret (wf := (fun u => (mw cy a u))) hR 25 rfl hf
  · replace hf := if_f hf hc
    refine k_iconst C 6 rfl ci_m1 ?_
    exact k_iret (wf := (fun u => (mw cy a u))) hR 7 rfl hf
set_option maxHeartbeats 1000000 in
set_option maxRecDepth 20000 in
theorem c_X12_end (l : Launch) (D : va_G) (cy : Nat → ClassId) (a : Nat → Nat) (M : Sg) (p1 : Int32) (r : Int32) (M1 : Sg) (hf : f_X12_end M p1 = some (r, M1)) : Ct l D cy yX12_end cX12_end 2 (some .int) 0 0 0 0 [.ref (a 0), .int p1] (mw cy a M) (some (.int r)) (mw cy a M1) := by
  refine Ct_i tX12_end hX12_end (by decide) (Nat.le_of_ble_eq_true rfl) ?_
  intro Z hZ C hR
  subst hZ
  replace C : Cx Z D cy RX12 tX12_end 2 0 0 0 0 := C
  show Wk Z D 2 0 0 (mw cy a M) 0 [(0, .ref (a 0)), (1, .int p1)] []
  unfold f_X12_end at hf
  have hb12 : ∀ (M : Sg), f_X12_end_b12 p1 M = some (r, M1) → Wk Z D 2 0 0 (mw cy a M) 12 [] [] := by
    intro M hf
    unfold f_X12_end_b12 at hf
    refine k_iconst C 6 rfl ci_m1 ?_
    exact k_iret (wf := (fun u => (mw cy a u))) hR 7 rfl hf
  refine k_iload_1 C 0 rfl 1 rfl ?_
  refine k_if_lt C 1 rfl 12 (by decide) (fun hc => ?_) (fun hc => ?_)
  · replace hf := if_t hf hc
    exact k_sub [] rfl (hb12 M hf)
  · replace hf := if_f hf hc
    refine k_iload_1 C 2 rfl 1 rfl ?_
    refine k_aload_0 C 3 rfl 0 rfl ?_
    refine kg12_1 C 4 rfl qX12_85 0 M_c0 M_f0_1 ?_
    refine k_icmp_le C 5 rfl 14 (by decide) (fun hc => ?_) (fun hc => ?_)
    · replace hf := if_t hf hc
      refine k_aload_0 C 8 rfl 0 rfl ?_
      refine k_iload_1 C 9 rfl 1 rfl ?_
      obtain ⟨M_16, hM, hf⟩ := bnd_some hf
      refine kp12_1 (w2 := (mw cy a M_16)) C 10 rfl qX12_85 0 M_c0 (v := p1) M_n0 (M_p0_1.trans (congrArg (fun z => (mw cy a z)) hM)) ?_
      refine k_iload_1 C 11 rfl 1 rfl ?_
      exact k_iret (wf := (fun u => (mw cy a u))) hR 12 rfl hf
    · replace hf := if_f hf hc
      exact k_sub [] rfl (hb12 M hf)
set_option maxHeartbeats 1000000 in
set_option maxRecDepth 20000 in
theorem c_X12_fails (l : Launch) (D : va_G) (cy : Nat → ClassId) (a : Nat → Nat) (M : Sg) (p1 : Int32) (p2 : Int32) (r : Bool) (M1 : Sg) (hf : f_X12_fails M p1 p2 = some (r, M1)) : Ct l D cy yX12_fails cX12_fails 3 (some .boolean) 0 0 0 0 [.ref (a 0), .int p1, .int p2] (mw cy a M) (some (.int (bI r))) (mw cy a M1) := by
  refine Ct_z tX12_fails hX12_fails (by decide) (Nat.le_of_ble_eq_true rfl) ?_
  intro Z hZ C hR
  subst hZ
  replace C : Cx Z D cy RX12 tX12_fails 3 0 0 0 0 := C
  show Wk Z D 3 0 0 (mw cy a M) 0 [(0, .ref (a 0)), (1, .int p1), (2, .int p2)] []
  unfold f_X12_fails at hf
  have hb19 : ∀ (M : Sg), f_X12_fails_b19 p1 p2 M = some (r, M1) → Wk Z D 3 0 0 (mw cy a M) 19 [] [] := by
    intro M hf
    unfold f_X12_fails_b19 at hf
    refine k_iconst C 12 rfl ci_0 ?_
    exact k_zret (wf := (fun u => (mw cy a u))) hR 13 rfl hf
  refine k_aload_0 C 0 rfl 0 rfl ?_
  refine kg12_9 C 1 rfl qX12_93 0 M_c0 M_f0_9 ?_
  refine k_if_ne C 2 rfl 19 (by decide) (fun hc => ?_) (fun hc => ?_)
  · replace hf := if_f hf hc
    exact k_sub [] rfl (hb19 M hf)
  · replace hf := if_t hf hc
    refine k_aload_0 C 3 rfl 0 rfl ?_
    refine k_iconst C 4 rfl ci_1 ?_
    refine k_bipush C 5 rfl cb_8 ?_
    refine k_iload_2 C 6 rfl 2 rfl ?_
    refine k_imul C 7 rfl ?_
    refine k_iadd C 8 rfl ?_
    refine k_iload_1 C 9 rfl 1 rfl ?_
    refine k_iadd C 10 rfl ?_
    obtain ⟨M_16, hM, hf⟩ := bnd_some hf
    refine kp12_9 (w2 := (mw cy a M_16)) C 11 rfl qX12_93 0 M_c0 (v := ((1 + (8 * p2)) + p1)) M_n0 (M_p0_9.trans (congrArg (fun z => (mw cy a z)) hM)) ?_
    exact k_sub [] rfl (hb19 M_16 hf)
set_option maxHeartbeats 1000000 in
set_option maxRecDepth 20000 in
theorem c_X12_see (l : Launch) (D : va_G) (cy : Nat → ClassId) (a : Nat → Nat) (M : Sg) (r : Int32) (M1 : Sg) (hf : f_X12_see M = some (r, M1)) : Ct l D cy yX12_see cX12_see 1 (some .int) 0 0 0 0 [.ref (a 0)] (mw cy a M) (some (.int r)) (mw cy a M1) := by
  refine Ct_i tX12_see hX12_see (by decide) (Nat.le_of_ble_eq_true rfl) ?_
  intro Z hZ C hR
  subst hZ
  replace C : Cx Z D cy RX12 tX12_see 1 0 0 0 0 := C
  show Wk Z D 1 0 0 (mw cy a M) 0 [(0, .ref (a 0))] []
  unfold f_X12_see at hf
  have hb38 : ∀ (M : Sg), f_X12_see_b38 M = some (r, M1) → Wk Z D 1 0 0 (mw cy a M) 38 [(0, .ref (a 0))] [] := by
    intro M hf
    unfold f_X12_see_b38 at hf
    refine k_aload_0 C 19 rfl 0 rfl ?_
    refine kg12_8 C 20 rfl qX12_96 0 M_c0 M_f0_8 ?_
    refine k_aload_0 C 21 rfl 0 rfl ?_
    refine kg12_1 C 22 rfl qX12_85 0 M_c0 M_f0_1 ?_
    refine k_icmp_ge C 23 rfl 65 (by decide) (fun hc => ?_) (fun hc => ?_)
    · replace hf := if_t hf hc
      refine k_iconst C 32 rfl ci_m1 ?_
      exact k_iret (wf := (fun u => (mw cy a u))) hR 33 rfl hf
    · replace hf := if_f hf hc
      refine k_aload_0 C 24 rfl 0 rfl ?_
      refine kg12_0 C 25 rfl qX12_7 0 M_c0 M_f0_0 ?_
      refine k_aload_0 C 26 rfl 0 rfl ?_
      refine kg12_8 C 27 rfl qX12_96 0 M_c0 M_f0_8 ?_
      obtain ⟨i57, hi, hin, hf⟩ := ixd_some hf
      refine k_bald C 28 rfl 1 M_c1 hin hi ?_
      refine k_sipush C 29 rfl cs_255 ?_
      refine k_iand C 30 rfl ?_
      refine k_goto C 31 rfl 66 (by decide) ?_
      exact k_iret (wf := (fun u => (mw cy a u))) hR 33 rfl hf
  have hq0 : ∀ (k0 : Sg → Option (Int32 × Sg)), (∀ (M : Sg), k0 M = some (r, M1) → Wk Z D 1 0 0 (mw cy a M) 0 [(0, .ref (a 0))] []) → ∀ (M : Sg), f_X12_see_b0 k0 M = some (r, M1) → Wk Z D 1 0 0 (mw cy a M) 0 [(0, .ref (a 0))] [] := by
    intro k0 hk0 M hf
    unfold f_X12_see_b0 at hf
    refine k_aload_0 C 0 rfl 0 rfl ?_
    refine kg12_8 C 1 rfl qX12_96 0 M_c0 M_f0_8 ?_
    refine k_aload_0 C 2 rfl 0 rfl ?_
    refine kg12_1 C 3 rfl qX12_85 0 M_c0 M_f0_1 ?_
    refine k_icmp_ge C 4 rfl 38 (by decide) (fun hc => ?_) (fun hc => ?_)
    · replace hf := if_t hf hc
      exact k_sub [0] rfl (hb38 M hf)
    · replace hf := if_f hf hc
      refine k_aload_0 C 5 rfl 0 rfl ?_
      refine kg12_0 C 6 rfl qX12_7 0 M_c0 M_f0_0 ?_
      refine k_aload_0 C 7 rfl 0 rfl ?_
      refine kg12_8 C 8 rfl qX12_96 0 M_c0 M_f0_8 ?_
      obtain ⟨i19, hi, hin, hf⟩ := ixd_some hf
      refine k_bald C 9 rfl 1 M_c1 hin hi ?_
      refine k_bipush C 10 rfl cb_32 ?_
      refine k_icmp_ne C 11 rfl 38 (by decide) (fun hc => ?_) (fun hc => ?_)
      · replace hf := if_f hf hc
        exact k_sub [0] rfl (hb38 M hf)
      · replace hf := if_t hf hc
        refine k_aload_0 C 12 rfl 0 rfl ?_
        refine k_dup C 13 rfl rfl ?_
        refine kg12_8 C 14 rfl qX12_96 0 M_c0 M_f0_8 ?_
        refine k_iconst C 15 rfl ci_1 ?_
        refine k_iadd C 16 rfl ?_
        obtain ⟨M_32, hM, hf⟩ := bnd_some hf
        refine kp12_8 (w2 := (mw cy a M_32)) C 17 rfl qX12_96 0 M_c0 (v := ((M.1 8) + 1)) M_n0 (M_p0_8.trans (congrArg (fun z => (mw cy a z)) hM)) ?_
        refine k_goto C 18 rfl 0 (by decide) ?_
        exact k_sub [0] rfl (hk0 M_32 hf)
  have hb0 := flW1 hq0
  exact k_sub [0] rfl (hb0 FU M hf)
set_option maxHeartbeats 1000000 in
set_option maxRecDepth 20000 in
theorem c_X12_isDigit (l : Launch) (D : va_G) (cy : Nat → ClassId) (a : Nat → Nat) (M : Sg) (p1 : Int32) (r : Bool) (hf : f_X12_isDigit M p1 = some r) : Ct l D cy yX12_isDigit cX12_isDigit 2 (some .boolean) 0 0 0 0 [.ref (a 0), .int p1] (mw cy a M) (some (.int (bI r))) (mw cy a M) := by
  refine Ct_z tX12_isDigit hX12_isDigit (by decide) (Nat.le_of_ble_eq_true rfl) ?_
  intro Z hZ C hR
  subst hZ
  replace C : Cx Z D cy RX12 tX12_isDigit 2 0 0 0 0 := C
  show Wk Z D 2 0 0 (mw cy a M) 0 [(0, .ref (a 0)), (1, .int p1)] []
  unfold f_X12_isDigit at hf
  have hb34 : f_X12_isDigit_b34 M p1 = some r → Wk Z D 2 0 0 (mw cy a M) 34 [] [] := by
    intro  hf
    unfold f_X12_isDigit_b34 at hf
    refine k_iconst C 18 rfl ci_0 ?_
    exact k_zretP hR 19 rfl hf
  refine k_iload_1 C 0 rfl 1 rfl ?_
  refine k_aload_0 C 1 rfl 0 rfl ?_
  refine kg12_1 C 2 rfl qX12_85 0 M_c0 M_f0_1 ?_
  refine k_icmp_ge C 3 rfl 34 (by decide) (fun hc => ?_) (fun hc => ?_)
  · replace hf := if_t hf hc
    exact k_sub [] rfl (hb34  hf)
  · replace hf := if_f hf hc
    refine k_aload_0 C 4 rfl 0 rfl ?_
    refine kg12_0 C 5 rfl qX12_7 0 M_c0 M_f0_0 ?_
    refine k_iload_1 C 6 rfl 1 rfl ?_
    obtain ⟨i13, hi, hin, hf⟩ := ixd_some hf
    refine k_bald C 7 rfl 1 M_c1 hin hi ?_
    refine k_bipush C 8 rfl cb_48 ?_
    refine k_icmp_lt C 9 rfl 34 (by decide) (fun hc => ?_) (fun hc => ?_)
    · replace hf := if_t hf hc
      exact k_sub [] rfl (hb34  hf)
    · replace hf := if_f hf hc
      refine k_aload_0 C 10 rfl 0 rfl ?_
      refine kg12_0 C 11 rfl qX12_7 0 M_c0 M_f0_0 ?_
      refine k_iload_1 C 12 rfl 1 rfl ?_
      obtain ⟨i24, hi, hin, hf⟩ := ixd_some hf
      refine k_bald C 13 rfl 1 M_c1 hin hi ?_
      refine k_bipush C 14 rfl cb_57 ?_
      refine k_icmp_gt C 15 rfl 34 (by decide) (fun hc => ?_) (fun hc => ?_)
      · replace hf := if_t hf hc
        exact k_sub [] rfl (hb34  hf)
      · replace hf := if_f hf hc
        refine k_iconst C 16 rfl ci_1 ?_
        refine k_goto C 17 rfl 35 (by decide) ?_
        exact k_zretP hR 19 rfl hf
set_option maxHeartbeats 1000000 in
set_option maxRecDepth 20000 in
theorem c_X12_isLetter (l : Launch) (D : va_G) (cy : Nat → ClassId) (a : Nat → Nat) (M : Sg) (p1 : Int32) (r : Bool) (hf : f_X12_isLetter M p1 = some r) : Ct l D cy yX12_isLetter cX12_isLetter 2 (some .boolean) 0 0 0 0 [.ref (a 0), .int p1] (mw cy a M) (some (.int (bI r))) (mw cy a M) := by
  refine Ct_z tX12_isLetter hX12_isLetter (by decide) (Nat.le_of_ble_eq_true rfl) ?_
  intro Z hZ C hR
  subst hZ
  replace C : Cx Z D cy RX12 tX12_isLetter 2 0 0 0 0 := C
  show Wk Z D 2 0 0 (mw cy a M) 0 [(0, .ref (a 0)), (1, .int p1)] []
  unfold f_X12_isLetter at hf
  have hb34 : f_X12_isLetter_b34 M p1 = some r → Wk Z D 2 0 0 (mw cy a M) 34 [] [] := by
    intro  hf
    unfold f_X12_isLetter_b34 at hf
    refine k_iconst C 18 rfl ci_0 ?_
    exact k_zretP hR 19 rfl hf
  refine k_iload_1 C 0 rfl 1 rfl ?_
  refine k_aload_0 C 1 rfl 0 rfl ?_
  refine kg12_1 C 2 rfl qX12_85 0 M_c0 M_f0_1 ?_
  refine k_icmp_ge C 3 rfl 34 (by decide) (fun hc => ?_) (fun hc => ?_)
  · replace hf := if_t hf hc
    exact k_sub [] rfl (hb34  hf)
  · replace hf := if_f hf hc
    refine k_aload_0 C 4 rfl 0 rfl ?_
    refine kg12_0 C 5 rfl qX12_7 0 M_c0 M_f0_0 ?_
    refine k_iload_1 C 6 rfl 1 rfl ?_
    obtain ⟨i13, hi, hin, hf⟩ := ixd_some hf
    refine k_bald C 7 rfl 1 M_c1 hin hi ?_
    refine k_bipush C 8 rfl cb_97 ?_
    refine k_icmp_lt C 9 rfl 34 (by decide) (fun hc => ?_) (fun hc => ?_)
    · replace hf := if_t hf hc
      exact k_sub [] rfl (hb34  hf)
    · replace hf := if_f hf hc
      refine k_aload_0 C 10 rfl 0 rfl ?_
      refine kg12_0 C 11 rfl qX12_7 0 M_c0 M_f0_0 ?_
      refine k_iload_1 C 12 rfl 1 rfl ?_
      obtain ⟨i24, hi, hin, hf⟩ := ixd_some hf
      refine k_bald C 13 rfl 1 M_c1 hin hi ?_
      refine k_bipush C 14 rfl cb_122 ?_
      refine k_icmp_gt C 15 rfl 34 (by decide) (fun hc => ?_) (fun hc => ?_)
      · replace hf := if_t hf hc
        exact k_sub [] rfl (hb34  hf)
      · replace hf := if_f hf hc
        refine k_iconst C 16 rfl ci_1 ?_
        refine k_goto C 17 rfl 35 (by decide) ?_
        exact k_zretP hR 19 rfl hf
set_option maxHeartbeats 1000000 in
set_option maxRecDepth 20000 in
theorem c_X12_isWord (l : Launch) (D : va_G) (cy : Nat → ClassId) (a : Nat → Nat) (M : Sg) (p1 : Int64) (r : Bool) (M1 : Sg) (hf : f_X12_isWord M p1 = some (r, M1)) : Ct l D cy yX12_isWord cX12_isWord 6 (some .boolean) 1 21 0 0 [.ref (a 0), .long p1] (mw cy a M) (some (.int (bI r))) (mw cy a M1) := by
  refine Ct_z tX12_isWord hX12_isWord (by decide) (Nat.le_of_ble_eq_true rfl) ?_
  intro Z hZ C hR
  subst hZ
  replace C : Cx Z D cy RX12 tX12_isWord 6 1 21 0 0 := C
  show Wk Z D 6 0 0 (mw cy a M) 0 [(0, .ref (a 0)), (1, .long p1)] []
  unfold f_X12_isWord at hf
  have hb78 : ∀ (M : Sg), f_X12_isWord_b78 p1 M = some (r, M1) → Wk Z D 6 0 0 (mw cy a M) 78 [] [] := by
    intro M hf
    unfold f_X12_isWord_b78 at hf
    refine k_iconst C 43 rfl ci_0 ?_
    exact k_zret (wf := (fun u => (mw cy a u))) hR 44 rfl hf
  have hq10 : ∀ (k10 : Int64 → Int32 → Sg → Option (Bool × Sg)), (∀ (x3 : Int64) (x5 : Int32) (M : Sg), k10 x3 x5 M = some (r, M1) → Wk Z D 6 0 0 (mw cy a M) 10 [(0, .ref (a 0)), (1, .long p1), (3, .long x3), (5, .int x5)] []) → ∀ (x3 : Int64) (x5 : Int32) (M : Sg), f_X12_isWord_b10 p1 k10 x3 x5 M = some (r, M1) → Wk Z D 6 0 0 (mw cy a M) 10 [(0, .ref (a 0)), (1, .long p1), (3, .long x3), (5, .int x5)] [] := by
    intro k10 hk10 x3 x5 M hf
    unfold f_X12_isWord_b10 at hf
    have hb50 : ∀ (x3 : Int64) (x5 : Int32) (M : Sg), f_X12_isWord_b50 p1 k10 x3 x5 M = some (r, M1) → Wk Z D 6 0 0 (mw cy a M) 50 [(0, .ref (a 0)), (1, .long p1), (3, .long x3), (5, .int x5)] [] := by
      intro x3 x5 M hf
      unfold f_X12_isWord_b50 at hf
      obtain ⟨x5_50, hx, hf⟩ := bnd_some hf
      refine k_iinc C 30 rfl 3 rfl ((cn_1 _).trans hx) (by decide) rfl ?_
      refine k_sub (lv2 := [(0, .ref (a 0)), (1, .long p1), (3, .long x3), (5, .int x5_50)]) [1, 2, 3, 0] rfl ?_
      refine k_goto C 31 rfl 10 (by decide) ?_
      exact k_sub [0, 1, 2, 3] rfl (hk10 x3 x5_50 M hf)
    refine k_aload_0 C 7 rfl 0 rfl ?_
    refine k_aload_0 C 8 rfl 0 rfl ?_
    refine kg12_8 C 9 rfl qX12_96 0 M_c0 M_f0_8 ?_
    refine k_iload C 10 rfl 3 rfl ?_
    refine k_iadd C 11 rfl ?_
    obtain ⟨r18, h5, hf⟩ := ob1_some hf
    refine k_callW C 12 (c_X12_isLetter Z.2.1 D cy a M ((M.1 8) + x5) r18 h5) rfl qX12_103 mvX12_isLetter 0 12 M_c0 rfl rfl rfl (Nat.le_of_ble_eq_true rfl) ⟨Nat.le_of_ble_eq_true rfl, Nat.le_of_ble_eq_true rfl, Nat.le_refl 0, Nat.le_refl 0⟩ ?_
    refine k_if_eq C 13 rfl 56 (by decide) (fun hc => ?_) (fun hc => ?_)
    · replace hf := if_t hf hc
      refine k_iload C 32 rfl 3 rfl ?_
      refine k_if_le C 33 rfl 78 (by decide) (fun hc => ?_) (fun hc => ?_)
      · replace hf := if_t hf hc
        exact k_sub [] rfl (hb78 M hf)
      · replace hf := if_f hf hc
        refine k_iload C 34 rfl 3 rfl ?_
        refine k_bipush C 35 rfl cb_9 ?_
        refine k_icmp_ge C 36 rfl 78 (by decide) (fun hc => ?_) (fun hc => ?_)
        · replace hf := if_t hf hc
          exact k_sub [] rfl (hb78 M hf)
        · replace hf := if_f hf hc
          refine k_lload_3 C 37 rfl 2 rfl ?_
          refine k_lload_1 C 38 rfl 1 rfl ?_
          refine k_lcmp C 39 rfl ?_
          refine k_if_ne C 40 rfl 78 (by decide) (fun hc => ?_) (fun hc => ?_)
          · replace hf := if_f hf hc
            exact k_sub [] rfl (hb78 M hf)
          · replace hf := if_t hf hc
            refine k_iconst C 41 rfl ci_1 ?_
            refine k_goto C 42 rfl 79 (by decide) ?_
            exact k_zret (wf := (fun u => (mw cy a u))) hR 44 rfl hf
    · replace hf := if_f hf hc
      refine k_iload C 14 rfl 3 rfl ?_
      refine k_bipush C 15 rfl cb_8 ?_
      refine k_icmp_ge C 16 rfl 50 (by decide) (fun hc => ?_) (fun hc => ?_)
      · replace hf := if_t hf hc
        exact k_sub [0, 1, 2, 3] rfl (hb50 x3 x5 M hf)
      · replace hf := if_f hf hc
        refine k_lload_3 C 17 rfl 2 rfl ?_
        refine k_bipush C 18 rfl cb_8 ?_
        refine k_lshl C 19 rfl ?_
        refine k_aload_0 C 20 rfl 0 rfl ?_
        refine kg12_0 C 21 rfl qX12_7 0 M_c0 M_f0_0 ?_
        refine k_aload_0 C 22 rfl 0 rfl ?_
        refine kg12_8 C 23 rfl qX12_96 0 M_c0 M_f0_8 ?_
        refine k_iload C 24 rfl 3 rfl ?_
        refine k_iadd C 25 rfl ?_
        obtain ⟨i46, hi, hin, hf⟩ := ixd_some hf
        refine k_bald C 26 rfl 1 M_c1 hin hi ?_
        refine k_i2l C 27 rfl ?_
        refine k_lor C 28 rfl ?_
        obtain ⟨x3_49, hx, hf⟩ := bnd_some hf
        refine k_topl hx ?_
        refine k_lstore_3 C 29 rfl (by decide) rfl ?_
        refine k_sub (lv2 := [(0, .ref (a 0)), (1, .long p1), (3, .long x3_49), (5, .int x5)]) [1, 2, 0, 3] rfl ?_
        exact k_sub [0, 1, 2, 3] rfl (hb50 x3_49 x5 M hf)
  have hb10 := flW3 hq10
  refine k_aload_0 C 0 rfl 0 rfl ?_
  obtain ⟨r1, M_1, h5, hf⟩ := ob2_some hf
  refine k_callW C 1 (c_X12_see Z.2.1 D cy a M r1 M_1 h5) rfl qX12_99 mvX12_see 0 12 M_c0 rfl rfl rfl (Nat.le_of_ble_eq_true rfl) ⟨Nat.le_of_ble_eq_true rfl, Nat.le_of_ble_eq_true rfl, Nat.le_refl 0, Nat.le_refl 0⟩ ?_
  refine k_pop C 2 rfl rfl ?_
  refine k_lconst0 C 3 rfl ?_
  obtain ⟨x3_6, hx, hf⟩ := bnd_some hf
  refine k_topl hx ?_
  refine k_lstore_3 C 4 rfl (by decide) rfl ?_
  refine k_sub (lv2 := [(0, .ref (a 0)), (1, .long p1), (3, .long x3_6)]) [1, 2, 0] rfl ?_
  refine k_iconst C 5 rfl ci_0 ?_
  refine k_istore C 6 rfl (by decide) rfl ?_
  refine k_sub (lv2 := [(0, .ref (a 0)), (1, .long p1), (3, .long x3_6), (5, .int 0)]) [1, 2, 3, 0] rfl ?_
  exact k_sub [0, 1, 2, 3] rfl (hb10 FU x3_6 0 M_1 hf)
set_option maxHeartbeats 1000000 in
set_option maxRecDepth 20000 in
theorem c_X12_passWord (l : Launch) (D : va_G) (cy : Nat → ClassId) (a : Nat → Nat) (M : Sg) (M1 : Sg) (hf : f_X12_passWord M = some M1) : Ct l D cy yX12_passWord cX12_passWord 1 none 1 21 0 0 [.ref (a 0)] (mw cy a M) none (mw cy a M1) := by
  refine Ct_v tX12_passWord hX12_passWord (by decide) (Nat.le_of_ble_eq_true rfl) ?_
  intro Z hZ C hR
  subst hZ
  replace C : Cx Z D cy RX12 tX12_passWord 1 1 21 0 0 := C
  show Wk Z D 1 0 0 (mw cy a M) 0 [(0, .ref (a 0))] []
  unfold f_X12_passWord at hf
  have hq0 : ∀ (k0 : Sg → Option (Sg)), (∀ (M : Sg), k0 M = some M1 → Wk Z D 1 0 0 (mw cy a M) 0 [(0, .ref (a 0))] []) → ∀ (M : Sg), f_X12_passWord_b0 k0 M = some M1 → Wk Z D 1 0 0 (mw cy a M) 0 [(0, .ref (a 0))] [] := by
    intro k0 hk0 M hf
    unfold f_X12_passWord_b0 at hf
    refine k_aload_0 C 0 rfl 0 rfl ?_
    refine k_aload_0 C 1 rfl 0 rfl ?_
    refine kg12_8 C 2 rfl qX12_96 0 M_c0 M_f0_8 ?_
    obtain ⟨r5, h5, hf⟩ := ob1_some hf
    refine k_callW C 3 (c_X12_isLetter Z.2.1 D cy a M (M.1 8) r5 h5) rfl qX12_103 mvX12_isLetter 0 12 M_c0 rfl rfl rfl (Nat.le_of_ble_eq_true rfl) ⟨Nat.le_of_ble_eq_true rfl, Nat.le_of_ble_eq_true rfl, Nat.le_refl 0, Nat.le_refl 0⟩ ?_
    refine k_if_eq C 4 rfl 24 (by decide) (fun hc => ?_) (fun hc => ?_)
    · replace hf := if_t hf hc
      exact k_vret (wf := (fun u => (mw cy a u))) hR 12 rfl hf
    · replace hf := if_f hf hc
      refine k_aload_0 C 5 rfl 0 rfl ?_
      refine k_dup C 6 rfl rfl ?_
      refine kg12_8 C 7 rfl qX12_96 0 M_c0 M_f0_8 ?_
      refine k_iconst C 8 rfl ci_1 ?_
      refine k_iadd C 9 rfl ?_
      obtain ⟨M_18, hM, hf⟩ := bnd_some hf
      refine kp12_8 (w2 := (mw cy a M_18)) C 10 rfl qX12_96 0 M_c0 (v := ((M.1 8) + 1)) M_n0 (M_p0_8.trans (congrArg (fun z => (mw cy a z)) hM)) ?_
      refine k_goto C 11 rfl 0 (by decide) ?_
      exact k_sub [0] rfl (hk0 M_18 hf)
  have hb0 := flW1 hq0
  exact k_sub [0] rfl (hb0 FU M hf)
set_option maxHeartbeats 1000000 in
set_option maxRecDepth 20000 in
theorem c_X12_takesWord (l : Launch) (D : va_G) (cy : Nat → ClassId) (a : Nat → Nat) (M : Sg) (p1 : Int64) (r : Bool) (M1 : Sg) (hf : f_X12_takesWord M p1 = some (r, M1)) : Ct l D cy yX12_takesWord cX12_takesWord 3 (some .boolean) 2 46 0 0 [.ref (a 0), .long p1] (mw cy a M) (some (.int (bI r))) (mw cy a M1) := by
  refine Ct_z tX12_takesWord hX12_takesWord (by decide) (Nat.le_of_ble_eq_true rfl) ?_
  intro Z hZ C hR
  subst hZ
  replace C : Cx Z D cy RX12 tX12_takesWord 3 2 46 0 0 := C
  show Wk Z D 3 0 0 (mw cy a M) 0 [(0, .ref (a 0)), (1, .long p1)] []
  unfold f_X12_takesWord at hf
  refine k_aload_0 C 0 rfl 0 rfl ?_
  refine k_lload_1 C 1 rfl 1 rfl ?_
  obtain ⟨r2, M_2, h5, hf⟩ := ob2_some hf
  refine k_callW C 2 (c_X12_isWord Z.2.1 D cy a M p1 r2 M_2 h5) rfl qX12_107 mvX12_isWord 0 12 M_c0 rfl rfl rfl (Nat.le_of_ble_eq_true rfl) ⟨Nat.le_of_ble_eq_true rfl, Nat.le_of_ble_eq_true rfl, Nat.le_refl 0, Nat.le_refl 0⟩ ?_
  refine k_if_ne C 3 rfl 10 (by decide) (fun hc => ?_) (fun hc => ?_)
  · replace hf := if_f hf hc
    refine k_aload_0 C 6 rfl 0 rfl ?_
    obtain ⟨M_11, h5, hf⟩ := ob1_some hf
    refine k_callW C 7 (c_X12_passWord Z.2.1 D cy a M_2 M_11 h5) rfl qX12_111 mvX12_passWord 0 12 M_c0 rfl rfl rfl (Nat.le_of_ble_eq_true rfl) ⟨Nat.le_of_ble_eq_true rfl, Nat.le_of_ble_eq_true rfl, Nat.le_refl 0, Nat.le_refl 0⟩ ?_
    refine k_iconst C 8 rfl ci_1 ?_
    exact k_zret (wf := (fun u => (mw cy a u))) hR 9 rfl hf
  · replace hf := if_t hf hc
    refine k_iconst C 4 rfl ci_0 ?_
    exact k_zret (wf := (fun u => (mw cy a u))) hR 5 rfl hf
set_option maxHeartbeats 1000000 in
set_option maxRecDepth 20000 in
theorem c_X12_numberHere (l : Launch) (D : va_G) (cy : Nat → ClassId) (a : Nat → Nat) (M : Sg) (p1 : Int32) (p2 : Int32) (r : Bool) (M1 : Sg) (hf : f_X12_numberHere M p1 p2 = some (r, M1)) : Ct l D cy yX12_numberHere cX12_numberHere 5 (some .boolean) 1 25 0 0 [.ref (a 0), .int p1, .int p2] (mw cy a M) (some (.int (bI r))) (mw cy a M1) := by
  refine Ct_z tX12_numberHere hX12_numberHere (by decide) (Nat.le_of_ble_eq_true rfl) ?_
  intro Z hZ C hR
  subst hZ
  replace C : Cx Z D cy RX12 tX12_numberHere 5 1 25 0 0 := C
  show Wk Z D 5 0 0 (mw cy a M) 0 [(0, .ref (a 0)), (1, .int p1), (2, .int p2)] []
  unfold f_X12_numberHere at hf
  have hb126 : ∀ (M : Sg), f_X12_numberHere_b126 p1 p2 M = some (r, M1) → Wk Z D 5 0 0 (mw cy a M) 126 [] [] := by
    intro M hf
    unfold f_X12_numberHere_b126 at hf
    refine k_iconst C 71 rfl ci_1 ?_
    refine k_goto C 72 rfl 131 (by decide) ?_
    exact k_zret (wf := (fun u => (mw cy a u))) hR 74 rfl hf
  have hb117 : ∀ (x3 : Int32) (M : Sg), f_X12_numberHere_b117 p1 p2 x3 M = some (r, M1) → Wk Z D 5 0 0 (mw cy a M) 117 [(0, .ref (a 0)), (3, .int x3)] [] := by
    intro x3 M hf
    unfold f_X12_numberHere_b117 at hf
    refine k_aload_0 C 66 rfl 0 rfl ?_
    refine k_iconst C 67 rfl ci_1 ?_
    refine k_iload_3 C 68 rfl 1 rfl ?_
    obtain ⟨r120, M_120, h5, hf⟩ := ob2_some hf
    refine k_callW C 69 (c_X12_fails Z.2.1 D cy a M 1 x3 r120 M_120 h5) rfl qX12_117 mvX12_fails 0 12 M_c0 rfl rfl rfl (Nat.le_of_ble_eq_true rfl) ⟨Nat.le_of_ble_eq_true rfl, Nat.le_of_ble_eq_true rfl, Nat.le_refl 0, Nat.le_refl 0⟩ ?_
    refine k_if_eq C 70 rfl 130 (by decide) (fun hc => ?_) (fun hc => ?_)
    · replace hf := if_t hf hc
      refine k_iconst C 73 rfl ci_0 ?_
      exact k_zret (wf := (fun u => (mw cy a u))) hR 74 rfl hf
    · replace hf := if_f hf hc
      exact k_sub [] rfl (hb126 M_120 hf)
  have hq34 : ∀ (k34 : Int32 → Int32 → Sg → Option (Bool × Sg)), (∀ (x3 : Int32) (x4 : Int32) (M : Sg), k34 x3 x4 M = some (r, M1) → Wk Z D 5 0 0 (mw cy a M) 34 [(0, .ref (a 0)), (1, .int p1), (2, .int p2), (3, .int x3), (4, .int x4)] []) → ∀ (x3 : Int32) (x4 : Int32) (M : Sg), f_X12_numberHere_b34 p1 p2 k34 x3 x4 M = some (r, M1) → Wk Z D 5 0 0 (mw cy a M) 34 [(0, .ref (a 0)), (1, .int p1), (2, .int p2), (3, .int x3), (4, .int x4)] [] := by
    intro k34 hk34 x3 x4 M hf
    unfold f_X12_numberHere_b34 at hf
    have hb75 : ∀ (x3 : Int32) (x4 : Int32) (M : Sg), f_X12_numberHere_b75 p1 p2 k34 x3 x4 M = some (r, M1) → Wk Z D 5 0 0 (mw cy a M) 75 [(0, .ref (a 0)), (1, .int p1), (2, .int p2), (3, .int x3), (4, .int x4)] [] := by
      intro x3 x4 M hf
      unfold f_X12_numberHere_b75 at hf
      refine k_aload_0 C 42 rfl 0 rfl ?_
      refine k_dup C 43 rfl rfl ?_
      refine kg12_8 C 44 rfl qX12_96 0 M_c0 M_f0_8 ?_
      refine k_iconst C 45 rfl ci_1 ?_
      refine k_iadd C 46 rfl ?_
      obtain ⟨M_82, hM, hf⟩ := bnd_some hf
      refine kp12_8 (w2 := (mw cy a M_82)) C 47 rfl qX12_96 0 M_c0 (v := ((M.1 8) + 1)) M_n0 (M_p0_8.trans (congrArg (fun z => (mw cy a z)) hM)) ?_
      refine k_goto C 48 rfl 34 (by decide) ?_
      exact k_sub [0, 1, 2, 3, 4] rfl (hk34 x3 x4 M_82 hf)
    refine k_aload_0 C 19 rfl 0 rfl ?_
    refine k_aload_0 C 20 rfl 0 rfl ?_
    refine kg12_8 C 21 rfl qX12_96 0 M_c0 M_f0_8 ?_
    obtain ⟨r39, h5, hf⟩ := ob1_some hf
    refine k_callW C 22 (c_X12_isDigit Z.2.1 D cy a M (M.1 8) r39 h5) rfl qX12_114 mvX12_isDigit 0 12 M_c0 rfl rfl rfl (Nat.le_of_ble_eq_true rfl) ⟨Nat.le_of_ble_eq_true rfl, Nat.le_of_ble_eq_true rfl, Nat.le_refl 0, Nat.le_refl 0⟩ ?_
    refine k_if_eq C 23 rfl 88 (by decide) (fun hc => ?_) (fun hc => ?_)
    · replace hf := if_t hf hc
      refine k_aload_0 C 49 rfl 0 rfl ?_
      refine k_iload C 50 rfl 4 rfl ?_
      obtain ⟨M_91, hM, hf⟩ := bnd_some hf
      refine kp12_10 (w2 := (mw cy a M_91)) C 51 rfl qX12_121 0 M_c0 (v := x4) M_n0 (M_p0_10.trans (congrArg (fun z => (mw cy a z)) hM)) ?_
      refine k_aload_0 C 52 rfl 0 rfl ?_
      refine kg12_8 C 53 rfl qX12_96 0 M_c0 M_f0_8 ?_
      refine k_iload_3 C 54 rfl 3 rfl ?_
      refine k_isub C 55 rfl ?_
      refine k_iconst C 56 rfl ci_5 ?_
      refine k_icmp_gt C 57 rfl 117 (by decide) (fun hc => ?_) (fun hc => ?_)
      · replace hf := if_t hf hc
        exact k_sub [0, 3] rfl (hb117 x3 M_91 hf)
      · replace hf := if_f hf hc
        refine k_iload C 58 rfl 4 rfl ?_
        refine k_i2l C 59 rfl ?_
        refine k_iload_1 C 60 rfl 1 rfl ?_
        refine k_i2l C 61 rfl ?_
        refine k_iload_2 C 62 rfl 2 rfl ?_
        refine k_i2l C 63 rfl ?_
        obtain ⟨r111, h5, hf⟩ := ob1_some hf
        refine k_callE C 64 (c_X12_in Z.2.1 D cy x4.toInt64 p1.toInt64 p2.toInt64 r111 h5) rfl qX12_124 msX12_in rfl rfl (Nat.le_of_ble_eq_true rfl) ⟨Nat.le_of_ble_eq_true rfl, Nat.le_of_ble_eq_true rfl, Nat.le_refl 0, Nat.le_refl 0⟩ ?_
        refine k_if_ne C 65 rfl 126 (by decide) (fun hc => ?_) (fun hc => ?_)
        · replace hf := if_f hf hc
          exact k_sub [] rfl (hb126 M_91 hf)
        · replace hf := if_t hf hc
          exact k_sub [0, 3] rfl (hb117 x3 M_91 hf)
    · replace hf := if_f hf hc
      refine k_aload_0 C 24 rfl 0 rfl ?_
      refine kg12_8 C 25 rfl qX12_96 0 M_c0 M_f0_8 ?_
      refine k_iload_3 C 26 rfl 3 rfl ?_
      refine k_isub C 27 rfl ?_
      refine k_iconst C 28 rfl ci_5 ?_
      refine k_icmp_ge C 29 rfl 75 (by decide) (fun hc => ?_) (fun hc => ?_)
      · replace hf := if_t hf hc
        exact k_sub [0, 1, 2, 3, 4] rfl (hb75 x3 x4 M hf)
      · replace hf := if_f hf hc
        refine k_bipush C 30 rfl cb_10 ?_
        refine k_iload C 31 rfl 4 rfl ?_
        refine k_imul C 32 rfl ?_
        refine k_aload_0 C 33 rfl 0 rfl ?_
        refine kg12_0 C 34 rfl qX12_7 0 M_c0 M_f0_0 ?_
        refine k_aload_0 C 35 rfl 0 rfl ?_
        refine kg12_8 C 36 rfl qX12_96 0 M_c0 M_f0_8 ?_
        obtain ⟨i68, hi, hin, hf⟩ := ixd_some hf
        refine k_bald C 37 rfl 1 M_c1 hin hi ?_
        refine k_iadd C 38 rfl ?_
        refine k_bipush C 39 rfl cb_48 ?_
        refine k_isub C 40 rfl ?_
        obtain ⟨x4_73, hx, hf⟩ := bnd_some hf
        refine k_topi hx ?_
        refine k_istore C 41 rfl (by decide) rfl ?_
        refine k_sub (lv2 := [(0, .ref (a 0)), (1, .int p1), (2, .int p2), (3, .int x3), (4, .int x4_73)]) [1, 2, 3, 4, 0] rfl ?_
        exact k_sub [0, 1, 2, 3, 4] rfl (hb75 x3 x4_73 M hf)
  have hb34 := flW3 hq34
  refine k_aload_0 C 0 rfl 0 rfl ?_
  obtain ⟨r1, M_1, h5, hf⟩ := ob2_some hf
  refine k_callW C 1 (c_X12_see Z.2.1 D cy a M r1 M_1 h5) rfl qX12_99 mvX12_see 0 12 M_c0 rfl rfl rfl (Nat.le_of_ble_eq_true rfl) ⟨Nat.le_of_ble_eq_true rfl, Nat.le_of_ble_eq_true rfl, Nat.le_refl 0, Nat.le_refl 0⟩ ?_
  refine k_pop C 2 rfl rfl ?_
  refine k_aload_0 C 3 rfl 0 rfl ?_
  refine k_aload_0 C 4 rfl 0 rfl ?_
  refine kg12_8 C 5 rfl qX12_96 0 M_c0 M_f0_8 ?_
  obtain ⟨r10, h5, hf⟩ := ob1_some hf
  refine k_callW C 6 (c_X12_isDigit Z.2.1 D cy a M_1 (M_1.1 8) r10 h5) rfl qX12_114 mvX12_isDigit 0 12 M_c0 rfl rfl rfl (Nat.le_of_ble_eq_true rfl) ⟨Nat.le_of_ble_eq_true rfl, Nat.le_of_ble_eq_true rfl, Nat.le_refl 0, Nat.le_refl 0⟩ ?_
  refine k_if_ne C 7 rfl 26 (by decide) (fun hc => ?_) (fun hc => ?_)
  · replace hf := if_f hf hc
    refine k_aload_0 C 14 rfl 0 rfl ?_
    refine kg12_8 C 15 rfl qX12_96 0 M_c0 M_f0_8 ?_
    obtain ⟨x3_30, hx, hf⟩ := bnd_some hf
    refine k_topi hx ?_
    refine k_istore_3 C 16 rfl (by decide) rfl ?_
    refine k_sub (lv2 := [(0, .ref (a 0)), (1, .int p1), (2, .int p2), (3, .int x3_30)]) [1, 2, 3, 0] rfl ?_
    refine k_iconst C 17 rfl ci_0 ?_
    refine k_istore C 18 rfl (by decide) rfl ?_
    refine k_sub (lv2 := [(0, .ref (a 0)), (1, .int p1), (2, .int p2), (3, .int x3_30), (4, .int 0)]) [1, 2, 3, 4, 0] rfl ?_
    exact k_sub [0, 1, 2, 3, 4] rfl (hb34 FU x3_30 0 M_1 hf)
  · replace hf := if_t hf hc
    refine k_aload_0 C 8 rfl 0 rfl ?_
    refine k_iconst C 9 rfl ci_0 ?_
    refine k_aload_0 C 10 rfl 0 rfl ?_
    refine kg12_8 C 11 rfl qX12_96 0 M_c0 M_f0_8 ?_
    obtain ⟨r22, M_22, h5, hf⟩ := ob2_some hf
    refine k_callW C 12 (c_X12_fails Z.2.1 D cy a M_1 0 (M_1.1 8) r22 M_22 h5) rfl qX12_117 mvX12_fails 0 12 M_c0 rfl rfl rfl (Nat.le_of_ble_eq_true rfl) ⟨Nat.le_of_ble_eq_true rfl, Nat.le_of_ble_eq_true rfl, Nat.le_refl 0, Nat.le_refl 0⟩ ?_
    exact k_zret (wf := (fun u => (mw cy a u))) hR 13 rfl hf
