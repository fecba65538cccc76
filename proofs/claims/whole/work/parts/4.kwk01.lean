set_option maxHeartbeats 1000000 in
set_option maxRecDepth 20000 in
theorem c_X10_mayGoInside (l : Launch) (D : va_G) (cy : Nat → ClassId) (a : Nat → Nat) (T : Sg) (O : Sg) (E : Sg) (X : Sg) (p1 : Int32) (p2 : Int32) (r : Bool) (hf : f_X10_mayGoInside T O p1 p2 = some r) : Ct l D cy yX10_mayGoInside cX10_mayGoInside 5 (some .boolean) 2 227 0 0 [.ref (a 0), .int p1, .int p2] (wW cy a T O E X) (some (.int (bI r))) (wW cy a T O E X) := by
  refine Ct_z tX10_mayGoInside hX10_mayGoInside (by decide) (Nat.le_of_ble_eq_true rfl) ?_
  intro Z hZ C hR
  subst hZ
  replace C : Cx Z D cy RX10 tX10_mayGoInside 5 2 227 0 0 := C
  show Wk Z D 5 0 0 (wW cy a T O E X) 0 [(0, .ref (a 0)), (1, .int p1), (2, .int p2)] []
  unfold f_X10_mayGoInside at hf
  have hb81 : f_X10_mayGoInside_b81 T O p1 p2 = some r → Wk Z D 5 0 0 (wW cy a T O E X) 81 [] [] := by
    intro  hf
    unfold f_X10_mayGoInside_b81 at hf
    refine k_iconst C 43 rfl ci_0 ?_
    exact k_zretP hR 44 rfl hf
  have hb46 : ∀ (x3 : Int32) (s0 : Int32), f_X10_mayGoInside_b46 T O p1 p2 x3 s0 = some r → Wk Z D 5 0 0 (wW cy a T O E X) 46 [(0, .ref (a 0)), (1, .int p1), (2, .int p2), (3, .int x3)] [.int s0] := by
    intro x3 s0 hf
    unfold f_X10_mayGoInside_b46 at hf
    refine k_istore C 26 rfl (by decide) rfl ?_
    refine k_sub (lv2 := [(0, .ref (a 0)), (1, .int p1), (2, .int p2), (3, .int x3), (4, .int s0)]) [1, 2, 3, 4, 0] rfl ?_
    refine k_iload C 27 rfl 4 rfl ?_
    refine k_if_eq C 28 rfl 81 (by decide) (fun hc => ?_) (fun hc => ?_)
    · replace hf := if_t hf hc
      exact k_sub [] rfl (hb81  hf)
    · replace hf := if_f hf hc
      refine k_aload_0 C 29 rfl 0 rfl ?_
      refine k_iload_1 C 30 rfl 1 rfl ?_
      refine k_iload_3 C 31 rfl 3 rfl ?_
      refine k_iload_2 C 32 rfl 2 rfl ?_
      refine k_aload_0 C 33 rfl 0 rfl ?_
      refine kg10_1 C 34 rfl qX10_21 0 W_c0 W_f0_1 ?_
      refine kg2_0 C 35 rfl qX10_64 13 W_c13 W_f13_0 ?_
      obtain ⟨r64, h5, hf⟩ := ob1_some hf
      refine k_callW C 36 (c_X10_insideBegin Z.2.1 D cy a T O E X p1 x3 p2 (O.1 0) r64 h5) rfl qX10_134 mvX10_insideBegin 0 10 W_c0 rfl rfl rfl (Nat.le_of_ble_eq_true rfl) ⟨Nat.le_of_ble_eq_true rfl, Nat.le_of_ble_eq_true rfl, Nat.le_refl 0, Nat.le_refl 0⟩ ?_
      refine k_aload_0 C 37 rfl 0 rfl ?_
      refine kg10_1 C 38 rfl qX10_21 0 W_c0 W_f0_1 ?_
      refine kg2_0 C 39 rfl qX10_64 13 W_c13 W_f13_0 ?_
      refine k_icmp_ne C 40 rfl 81 (by decide) (fun hc => ?_) (fun hc => ?_)
      · replace hf := if_f hf hc
        exact k_sub [] rfl (hb81  hf)
      · replace hf := if_t hf hc
        refine k_iconst C 41 rfl ci_1 ?_
        refine k_goto C 42 rfl 82 (by decide) ?_
        exact k_zretP hR 44 rfl hf
  have hb16 : f_X10_mayGoInside_b16 T O p1 p2 = some r → Wk Z D 5 0 0 (wW cy a T O E X) 16 [] [] := by
    intro  hf
    unfold f_X10_mayGoInside_b16 at hf
    refine k_iconst C 8 rfl ci_0 ?_
    exact k_zretP hR 9 rfl hf
  refine k_aload_0 C 0 rfl 0 rfl ?_
  refine k_iload_1 C 1 rfl 1 rfl ?_
  obtain ⟨r2, h5, hf⟩ := ob1_some hf
  refine k_callW C 2 (c_X10_isGoing Z.2.1 D cy a T O E X p1 r2 h5) rfl qX10_82 mvX10_isGoing 0 10 W_c0 rfl rfl rfl (Nat.le_of_ble_eq_true rfl) ⟨Nat.le_of_ble_eq_true rfl, Nat.le_of_ble_eq_true rfl, Nat.le_refl 0, Nat.le_refl 0⟩ ?_
  refine k_if_ne C 3 rfl 16 (by decide) (fun hc => ?_) (fun hc => ?_)
  · replace hf := if_f hf hc
    exact k_sub [] rfl (hb16  hf)
  · replace hf := if_t hf hc
    refine k_aload_0 C 4 rfl 0 rfl ?_
    refine k_iload_2 C 5 rfl 2 rfl ?_
    obtain ⟨r10, h5, hf⟩ := ob1_some hf
    refine k_callW C 6 (c_X10_hasCoach Z.2.1 D cy a T O E X p2 r10 h5) rfl qX10_128 mvX10_hasCoach 0 10 W_c0 rfl rfl rfl (Nat.le_of_ble_eq_true rfl) ⟨Nat.le_of_ble_eq_true rfl, Nat.le_of_ble_eq_true rfl, Nat.le_refl 0, Nat.le_refl 0⟩ ?_
    refine k_if_ne C 7 rfl 18 (by decide) (fun hc => ?_) (fun hc => ?_)
    · replace hf := if_f hf hc
      refine k_aload_0 C 10 rfl 0 rfl ?_
      refine kg10_1 C 11 rfl qX10_21 0 W_c0 W_f0_1 ?_
      refine kg2_2 C 12 rfl qX10_86 13 W_c13 W_f13_2 ?_
      refine k_iload_1 C 13 rfl 1 rfl ?_
      obtain ⟨i26, hi, hin, hf⟩ := ixd_some hf
      refine k_iald C 14 rfl 14 W_c14 hin hi ?_
      obtain ⟨x3_27, hx, hf⟩ := bnd_some hf
      refine k_topi hx ?_
      refine k_istore_3 C 15 rfl (by decide) rfl ?_
      refine k_sub (lv2 := [(0, .ref (a 0)), (1, .int p1), (2, .int p2), (3, .int x3_27)]) [1, 2, 3, 0] rfl ?_
      refine k_aload_0 C 16 rfl 0 rfl ?_
      refine k_iload_3 C 17 rfl 3 rfl ?_
      refine k_iload_2 C 18 rfl 2 rfl ?_
      refine k_mmin C 19 rfl qX10_96 jw_min (Nat.le_of_ble_eq_true rfl) (Nat.le_of_ble_eq_true rfl) (Nat.le_of_ble_eq_true rfl) ⟨Nat.le_refl 0, Nat.le_refl 0⟩ ?_
      obtain ⟨r34, h5, hf⟩ := ob1_some hf
      refine k_callW C 20 (c_X10_goerThrough Z.2.1 D cy a T O E X (jmin x3_27 p2) r34 h5) rfl qX10_131 mvX10_goerThrough 0 10 W_c0 rfl rfl rfl (Nat.le_of_ble_eq_true rfl) ⟨Nat.le_of_ble_eq_true rfl, Nat.le_of_ble_eq_true rfl, Nat.le_refl 0, Nat.le_refl 0⟩ ?_
      refine k_iconst C 21 rfl ci_m1 ?_
      refine k_icmp_ne C 22 rfl 45 (by decide) (fun hc => ?_) (fun hc => ?_)
      · replace hf := if_f hf hc
        refine k_iconst C 25 rfl ci_0 ?_
        exact k_sub [0, 1, 2, 3] rfl (hb46 x3_27 0 hf)
      · replace hf := if_t hf hc
        refine k_iconst C 23 rfl ci_1 ?_
        refine k_goto C 24 rfl 46 (by decide) ?_
        exact k_sub [0, 1, 2, 3] rfl (hb46 x3_27 1 hf)
    · replace hf := if_t hf hc
      exact k_sub [] rfl (hb16  hf)
set_option maxHeartbeats 1000000 in
set_option maxRecDepth 20000 in
theorem c_X10_go (l : Launch) (D : va_G) (cy : Nat → ClassId) (a : Nat → Nat) (T : Sg) (O : Sg) (E : Sg) (X : Sg) (p1 : Int32) (p2 : Int32) (p3 : Int32) (r : Int32) (O1 : Sg) (hf : f_X10_go O p1 p2 p3 = some (r, O1)) : Ct l D cy yX10_go cX10_go 4 (some .int) 0 0 0 0 [.ref (a 0), .int p1, .int p2, .int p3] (wW cy a T O E X) (some (.int r)) (wW cy a T O1 E X) := by
  refine Ct_i tX10_go hX10_go (by decide) (Nat.le_of_ble_eq_true rfl) ?_
  intro Z hZ C hR
  subst hZ
  replace C : Cx Z D cy RX10 tX10_go 4 0 0 0 0 := C
  show Wk Z D 4 0 0 (wW cy a T O E X) 0 [(0, .ref (a 0)), (1, .int p1), (2, .int p2), (3, .int p3)] []
  unfold f_X10_go at hf
  refine k_aload_0 C 0 rfl 0 rfl ?_
  refine kg10_1 C 1 rfl qX10_21 0 W_c0 W_f0_1 ?_
  refine kg2_3 C 2 rfl qX10_79 13 W_c13 W_f13_3 ?_
  refine k_iload_1 C 3 rfl 1 rfl ?_
  refine k_iload_2 C 4 rfl 2 rfl ?_
  obtain ⟨i9, hi, hin, hf⟩ := ixd_some hf
  obtain ⟨O_9, hM, hf⟩ := bnd_some hf
  refine k_iast (w2 := (wW cy a T O_9 E X)) C 5 rfl 15 W_c15 hin hi (W_s15.trans (congrArg (fun z => (wW cy a T z E X)) hM)) ?_
  refine k_aload_0 C 6 rfl 0 rfl ?_
  refine kg10_1 C 7 rfl qX10_21 0 W_c0 W_f0_1 ?_
  refine kg2_4 C 8 rfl qX10_148 13 W_c13 W_f13_4 ?_
  refine k_iload_1 C 9 rfl 1 rfl ?_
  refine k_aload_0 C 10 rfl 0 rfl ?_
  refine kg10_1 C 11 rfl qX10_21 0 W_c0 W_f0_1 ?_
  refine kg2_0 C 12 rfl qX10_64 13 W_c13 W_f13_0 ?_
  refine k_iload_3 C 13 rfl 3 rfl ?_
  refine k_iadd C 14 rfl ?_
  obtain ⟨i27, hi, hin, hf⟩ := ixd_some hf
  obtain ⟨O_27, hM, hf⟩ := bnd_some hf
  refine k_iast (w2 := (wW cy a T O_27 E X)) C 15 rfl 16 W_c16 hin hi (W_s16.trans (congrArg (fun z => (wW cy a T z E X)) hM)) ?_
  refine k_aload_0 C 16 rfl 0 rfl ?_
  refine kg10_1 C 17 rfl qX10_21 0 W_c0 W_f0_1 ?_
  refine kg2_6 C 18 rfl qX10_151 13 W_c13 W_f13_6 ?_
  refine k_iload_1 C 19 rfl 1 rfl ?_
  refine k_dup2 C 20 rfl rfl rfl ?_
  obtain ⟨i37, hi, hin, hf⟩ := ixd_some hf
  refine k_iald C 21 rfl 18 W_c18 hin hi ?_
  refine k_iconst C 22 rfl ci_1 ?_
  refine k_iadd C 23 rfl ?_
  obtain ⟨i40, hi, hin, hf⟩ := ixd_some hf
  obtain ⟨O_40, hM, hf⟩ := bnd_some hf
  refine k_iast (w2 := (wW cy a T O_40 E X)) C 24 rfl 18 W_c18 hin hi (W_s18.trans (congrArg (fun z => (wW cy a T z E X)) hM)) ?_
  refine k_aload_0 C 25 rfl 0 rfl ?_
  refine kg10_1 C 26 rfl qX10_21 0 W_c0 W_f0_1 ?_
  refine kg2_4 C 27 rfl qX10_148 13 W_c13 W_f13_4 ?_
  refine k_iload_1 C 28 rfl 1 rfl ?_
  obtain ⟨i49, hi, hin, hf⟩ := ixd_some hf
  refine k_iald C 29 rfl 16 W_c16 hin hi ?_
  exact k_iret (wf := (fun u => (wW cy a T u E X))) hR 30 rfl hf
set_option maxHeartbeats 1000000 in
set_option maxRecDepth 20000 in
theorem c_X10_goInside (l : Launch) (D : va_G) (cy : Nat → ClassId) (a : Nat → Nat) (T : Sg) (O : Sg) (E : Sg) (X : Sg) (p1 : Int32) (p2 : Int32) (r : Int32) (O1 : Sg) (hf : f_X10_goInside T O p1 p2 = some (r, O1)) : Ct l D cy yX10_goInside cX10_goInside 3 (some .int) 1 200 0 0 [.ref (a 0), .int p1, .int p2] (wW cy a T O E X) (some (.int r)) (wW cy a T O1 E X) := by
  refine Ct_i tX10_goInside hX10_goInside (by decide) (Nat.le_of_ble_eq_true rfl) ?_
  intro Z hZ C hR
  subst hZ
  replace C : Cx Z D cy RX10 tX10_goInside 3 1 200 0 0 := C
  show Wk Z D 3 0 0 (wW cy a T O E X) 0 [(0, .ref (a 0)), (1, .int p1), (2, .int p2)] []
  unfold f_X10_goInside at hf
  refine k_aload_0 C 0 rfl 0 rfl ?_
  refine kg10_1 C 1 rfl qX10_21 0 W_c0 W_f0_1 ?_
  refine kg2_5 C 2 rfl qX10_89 13 W_c13 W_f13_5 ?_
  refine k_iload_1 C 3 rfl 1 rfl ?_
  refine k_aload_0 C 4 rfl 0 rfl ?_
  refine kg10_1 C 5 rfl qX10_21 0 W_c0 W_f0_1 ?_
  refine kg2_2 C 6 rfl qX10_86 13 W_c13 W_f13_2 ?_
  refine k_iload_1 C 7 rfl 1 rfl ?_
  obtain ⟨i16, hi, hin, hf⟩ := ixd_some hf
  refine k_iald C 8 rfl 14 W_c14 hin hi ?_
  refine k_iload_2 C 9 rfl 2 rfl ?_
  refine k_mmin C 10 rfl qX10_96 jw_min (Nat.le_of_ble_eq_true rfl) (Nat.le_of_ble_eq_true rfl) (Nat.le_of_ble_eq_true rfl) ⟨Nat.le_refl 0, Nat.le_refl 0⟩ ?_
  obtain ⟨i21, hi, hin, hf⟩ := ixd_some hf
  obtain ⟨O_21, hM, hf⟩ := bnd_some hf
  refine k_iast (w2 := (wW cy a T O_21 E X)) C 11 rfl 17 W_c17 hin hi (W_s17.trans (congrArg (fun z => (wW cy a T z E X)) hM)) ?_
  refine k_aload_0 C 12 rfl 0 rfl ?_
  refine k_iload_1 C 13 rfl 1 rfl ?_
  refine k_iload_2 C 14 rfl 2 rfl ?_
  refine k_aload_0 C 15 rfl 0 rfl ?_
  refine kg10_0 C 16 rfl qX10_12 0 W_c0 W_f0_0 ?_
  refine kg9_15 C 17 rfl qX10_112 1 W_c1 W_f1_15 ?_
  refine k_iload_1 C 18 rfl 1 rfl ?_
  obtain ⟨i33, hi, hin, hf⟩ := ixd_some hf
  refine k_iald C 19 rfl 11 W_c11 hin hi ?_
  obtain ⟨r34, O_34, h5, hf⟩ := ob2_some hf
  refine k_callW C 20 (c_X10_go Z.2.1 D cy a T O_21 E X p1 p2 (T.2.1 15 i33) r34 O_34 h5) rfl qX10_138 mvX10_go 0 10 W_c0 rfl rfl rfl (Nat.le_of_ble_eq_true rfl) ⟨Nat.le_of_ble_eq_true rfl, Nat.le_of_ble_eq_true rfl, Nat.le_refl 0, Nat.le_refl 0⟩ ?_
  exact k_iret (wf := (fun u => (wW cy a T u E X))) hR 21 rfl hf
set_option maxHeartbeats 1000000 in
set_option maxRecDepth 20000 in
theorem c_X10_mayGoOutside (l : Launch) (D : va_G) (cy : Nat → ClassId) (a : Nat → Nat) (T : Sg) (O : Sg) (E : Sg) (X : Sg) (p1 : Int32) (p2 : Int32) (r : Bool) (hf : f_X10_mayGoOutside T O p1 p2 = some r) : Ct l D cy yX10_mayGoOutside cX10_mayGoOutside 4 (some .boolean) 2 224 0 0 [.ref (a 0), .int p1, .int p2] (wW cy a T O E X) (some (.int (bI r))) (wW cy a T O E X) := by
  refine Ct_z tX10_mayGoOutside hX10_mayGoOutside (by decide) (Nat.le_of_ble_eq_true rfl) ?_
  intro Z hZ C hR
  subst hZ
  replace C : Cx Z D cy RX10 tX10_mayGoOutside 4 2 224 0 0 := C
  show Wk Z D 4 0 0 (wW cy a T O E X) 0 [(0, .ref (a 0)), (1, .int p1), (2, .int p2)] []
  unfold f_X10_mayGoOutside at hf
  have hb31 : f_X10_mayGoOutside_b31 T O p1 p2 = some r → Wk Z D 4 0 0 (wW cy a T O E X) 31 [] [] := by
    intro  hf
    unfold f_X10_mayGoOutside_b31 at hf
    refine k_iconst C 17 rfl ci_0 ?_
    exact k_zretP hR 18 rfl hf
  refine k_aload_0 C 0 rfl 0 rfl ?_
  refine kg10_1 C 1 rfl qX10_21 0 W_c0 W_f0_1 ?_
  refine kg2_2 C 2 rfl qX10_86 13 W_c13 W_f13_2 ?_
  refine k_iload_1 C 3 rfl 1 rfl ?_
  obtain ⟨i8, hi, hin, hf⟩ := ixd_some hf
  refine k_iald C 4 rfl 14 W_c14 hin hi ?_
  obtain ⟨x3_9, hx, hf⟩ := bnd_some hf
  refine k_topi hx ?_
  refine k_istore_3 C 5 rfl (by decide) rfl ?_
  refine k_sub (lv2 := [(0, .ref (a 0)), (1, .int p1), (2, .int p2), (3, .int x3_9)]) [1, 2, 3, 0] rfl ?_
  refine k_aload_0 C 6 rfl 0 rfl ?_
  refine k_iload_1 C 7 rfl 1 rfl ?_
  obtain ⟨r12, h5, hf⟩ := ob1_some hf
  refine k_callW C 8 (c_X10_isGoing Z.2.1 D cy a T O E X p1 r12 h5) rfl qX10_82 mvX10_isGoing 0 10 W_c0 rfl rfl rfl (Nat.le_of_ble_eq_true rfl) ⟨Nat.le_of_ble_eq_true rfl, Nat.le_of_ble_eq_true rfl, Nat.le_refl 0, Nat.le_refl 0⟩ ?_
  refine k_if_ne C 9 rfl 31 (by decide) (fun hc => ?_) (fun hc => ?_)
  · replace hf := if_f hf hc
    exact k_sub [] rfl (hb31  hf)
  · replace hf := if_t hf hc
    refine k_aload_0 C 10 rfl 0 rfl ?_
    refine k_iload_2 C 11 rfl 2 rfl ?_
    obtain ⟨r20, h5, hf⟩ := ob1_some hf
    refine k_callW C 12 (c_X10_hasCoach Z.2.1 D cy a T O E X p2 r20 h5) rfl qX10_128 mvX10_hasCoach 0 10 W_c0 rfl rfl rfl (Nat.le_of_ble_eq_true rfl) ⟨Nat.le_of_ble_eq_true rfl, Nat.le_of_ble_eq_true rfl, Nat.le_refl 0, Nat.le_refl 0⟩ ?_
    refine k_if_eq C 13 rfl 31 (by decide) (fun hc => ?_) (fun hc => ?_)
    · replace hf := if_t hf hc
      exact k_sub [] rfl (hb31  hf)
    · replace hf := if_f hf hc
      refine k_iload_2 C 14 rfl 2 rfl ?_
      refine k_iload_3 C 15 rfl 3 rfl ?_
      refine k_icmp_ne C 16 rfl 33 (by decide) (fun hc => ?_) (fun hc => ?_)
      · replace hf := if_f hf hc
        refine k_aload_0 C 19 rfl 0 rfl ?_
        refine k_aload_0 C 20 rfl 0 rfl ?_
        refine k_iload_1 C 21 rfl 1 rfl ?_
        refine k_iload_3 C 22 rfl 3 rfl ?_
        refine k_iload_2 C 23 rfl 2 rfl ?_
        obtain ⟨r38, h5, hf⟩ := ob1_some hf
        refine k_callW C 24 (c_X10_outsideSeconds Z.2.1 D cy a T O E X p1 x3_9 p2 r38 h5) rfl qX10_142 mvX10_outsideSeconds 0 10 W_c0 rfl rfl rfl (Nat.le_of_ble_eq_true rfl) ⟨Nat.le_of_ble_eq_true rfl, Nat.le_of_ble_eq_true rfl, Nat.le_refl 0, Nat.le_refl 0⟩ ?_
        refine k_aload_0 C 25 rfl 0 rfl ?_
        refine kg10_1 C 26 rfl qX10_21 0 W_c0 W_f0_1 ?_
        refine kg2_0 C 27 rfl qX10_64 13 W_c13 W_f13_0 ?_
        obtain ⟨r48, h5, hf⟩ := ob1_some hf
        refine k_callW C 28 (c_X10_outsideBegin Z.2.1 D cy a T O E X r38 (O.1 0) r48 h5) rfl qX10_145 mvX10_outsideBegin 0 10 W_c0 rfl rfl rfl (Nat.le_of_ble_eq_true rfl) ⟨Nat.le_of_ble_eq_true rfl, Nat.le_of_ble_eq_true rfl, Nat.le_refl 0, Nat.le_refl 0⟩ ?_
        refine k_aload_0 C 29 rfl 0 rfl ?_
        refine kg10_1 C 30 rfl qX10_21 0 W_c0 W_f0_1 ?_
        refine kg2_0 C 31 rfl qX10_64 13 W_c13 W_f13_0 ?_
        refine k_icmp_ne C 32 rfl 65 (by decide) (fun hc => ?_) (fun hc => ?_)
        · replace hf := if_f hf hc
          refine k_iconst C 35 rfl ci_0 ?_
          exact k_zretP hR 36 rfl hf
        · replace hf := if_t hf hc
          refine k_iconst C 33 rfl ci_1 ?_
          refine k_goto C 34 rfl 66 (by decide) ?_
          exact k_zretP hR 36 rfl hf
      · replace hf := if_t hf hc
        exact k_sub [] rfl (hb31  hf)
set_option maxHeartbeats 1000000 in
set_option maxRecDepth 20000 in
theorem c_X10_goOutside (l : Launch) (D : va_G) (cy : Nat → ClassId) (a : Nat → Nat) (T : Sg) (O : Sg) (E : Sg) (X : Sg) (p1 : Int32) (p2 : Int32) (r : Int32) (O1 : Sg) (hf : f_X10_goOutside T O p1 p2 = some (r, O1)) : Ct l D cy yX10_goOutside cX10_goOutside 3 (some .int) 2 223 0 0 [.ref (a 0), .int p1, .int p2] (wW cy a T O E X) (some (.int r)) (wW cy a T O1 E X) := by
  refine Ct_i tX10_goOutside hX10_goOutside (by decide) (Nat.le_of_ble_eq_true rfl) ?_
  intro Z hZ C hR
  subst hZ
  replace C : Cx Z D cy RX10 tX10_goOutside 3 2 223 0 0 := C
  show Wk Z D 3 0 0 (wW cy a T O E X) 0 [(0, .ref (a 0)), (1, .int p1), (2, .int p2)] []
  unfold f_X10_goOutside at hf
  refine k_aload_0 C 0 rfl 0 rfl ?_
  refine k_iload_1 C 1 rfl 1 rfl ?_
  refine k_iload_2 C 2 rfl 2 rfl ?_
  refine k_aload_0 C 3 rfl 0 rfl ?_
  refine k_iload_1 C 4 rfl 1 rfl ?_
  refine k_aload_0 C 5 rfl 0 rfl ?_
  refine kg10_1 C 6 rfl qX10_21 0 W_c0 W_f0_1 ?_
  refine kg2_2 C 7 rfl qX10_86 13 W_c13 W_f13_2 ?_
  refine k_iload_1 C 8 rfl 1 rfl ?_
  obtain ⟨i13, hi, hin, hf⟩ := ixd_some hf
  refine k_iald C 9 rfl 14 W_c14 hin hi ?_
  refine k_iload_2 C 10 rfl 2 rfl ?_
  obtain ⟨r15, h5, hf⟩ := ob1_some hf
  refine k_callW C 11 (c_X10_outsideSeconds Z.2.1 D cy a T O E X p1 (O.2.1 2 i13) p2 r15 h5) rfl qX10_142 mvX10_outsideSeconds 0 10 W_c0 rfl rfl rfl (Nat.le_of_ble_eq_true rfl) ⟨Nat.le_of_ble_eq_true rfl, Nat.le_of_ble_eq_true rfl, Nat.le_refl 0, Nat.le_refl 0⟩ ?_
  obtain ⟨r18, O_18, h5, hf⟩ := ob2_some hf
  refine k_callW C 12 (c_X10_go Z.2.1 D cy a T O E X p1 p2 r15 r18 O_18 h5) rfl qX10_138 mvX10_go 0 10 W_c0 rfl rfl rfl (Nat.le_of_ble_eq_true rfl) ⟨Nat.le_of_ble_eq_true rfl, Nat.le_of_ble_eq_true rfl, Nat.le_refl 0, Nat.le_refl 0⟩ ?_
  exact k_iret (wf := (fun u => (wW cy a T u E X))) hR 13 rfl hf
set_option maxHeartbeats 1000000 in
set_option maxRecDepth 20000 in
theorem c_X10_goBy (l : Launch) (D : va_G) (cy : Nat → ClassId) (a : Nat → Nat) (T : Sg) (O : Sg) (E : Sg) (X : Sg) (p1 : Int32) (O1 : Sg) (hf : f_X10_goBy T O p1 = some O1) : Ct l D cy yX10_goBy cX10_goBy 3 none 1 21 0 0 [.ref (a 0), .int p1] (wW cy a T O E X) none (wW cy a T O1 E X) := by
  refine Ct_v tX10_goBy hX10_goBy (by decide) (Nat.le_of_ble_eq_true rfl) ?_
  intro Z hZ C hR
  subst hZ
  replace C : Cx Z D cy RX10 tX10_goBy 3 1 21 0 0 := C
  show Wk Z D 3 0 0 (wW cy a T O E X) 0 [(0, .ref (a 0)), (1, .int p1)] []
  unfold f_X10_goBy at hf
  have hq15 : ∀ (k15 : Int32 → Sg → Option (Sg)), (∀ (x2 : Int32) (O : Sg), k15 x2 O = some O1 → Wk Z D 3 0 0 (wW cy a T O E X) 15 [(0, .ref (a 0)), (2, .int x2)] []) → ∀ (x2 : Int32) (O : Sg), f_X10_goBy_b15 T p1 k15 x2 O = some O1 → Wk Z D 3 0 0 (wW cy a T O E X) 15 [(0, .ref (a 0)), (2, .int x2)] [] := by
    intro k15 hk15 x2 O hf
    unfold f_X10_goBy_b15 at hf
    have hb101 : ∀ (x2 : Int32) (O : Sg), f_X10_goBy_b101 T p1 k15 x2 O = some O1 → Wk Z D 3 0 0 (wW cy a T O E X) 101 [(0, .ref (a 0)), (2, .int x2)] [] := by
      intro x2 O hf
      unfold f_X10_goBy_b101 at hf
      obtain ⟨x2_101, hx, hf⟩ := bnd_some hf
      refine k_iinc C 55 rfl 1 rfl ((cn_1 _).trans hx) (by decide) rfl ?_
      refine k_sub (lv2 := [(0, .ref (a 0)), (2, .int x2_101)]) [1, 0] rfl ?_
      refine k_goto C 56 rfl 15 (by decide) ?_
      exact k_sub [0, 1] rfl (hk15 x2_101 O hf)
    refine k_iload_2 C 9 rfl 1 rfl ?_
    refine k_aload_0 C 10 rfl 0 rfl ?_
    refine kg10_0 C 11 rfl qX10_12 0 W_c0 W_f0_0 ?_
    refine kg9_2 C 12 rfl qX10_54 1 W_c1 W_f1_2 ?_
    refine k_icmp_ge C 13 rfl 107 (by decide) (fun hc => ?_) (fun hc => ?_)
    · replace hf := if_t hf hc
      exact k_vret (wf := (fun u => (wW cy a T u E X))) hR 57 rfl hf
    · replace hf := if_f hf hc
      refine k_aload_0 C 14 rfl 0 rfl ?_
      refine k_iload_2 C 15 rfl 1 rfl ?_
      obtain ⟨r28, h5, hf⟩ := ob1_some hf
      refine k_callW C 16 (c_X10_isGoing Z.2.1 D cy a T O E X x2 r28 h5) rfl qX10_82 mvX10_isGoing 0 10 W_c0 rfl rfl rfl (Nat.le_of_ble_eq_true rfl) ⟨Nat.le_of_ble_eq_true rfl, Nat.le_of_ble_eq_true rfl, Nat.le_refl 0, Nat.le_refl 0⟩ ?_
      refine k_if_eq C 17 rfl 101 (by decide) (fun hc => ?_) (fun hc => ?_)
      · replace hf := if_t hf hc
        exact k_sub [0, 1] rfl (hb101 x2 O hf)
      · replace hf := if_f hf hc
        refine k_aload_0 C 18 rfl 0 rfl ?_
        refine kg10_1 C 19 rfl qX10_21 0 W_c0 W_f0_1 ?_
        refine kg2_4 C 20 rfl qX10_148 13 W_c13 W_f13_4 ?_
        refine k_iload_2 C 21 rfl 1 rfl ?_
        obtain ⟨i42, hi, hin, hf⟩ := ixd_some hf
        refine k_iald C 22 rfl 16 W_c16 hin hi ?_
        refine k_aload_0 C 23 rfl 0 rfl ?_
        refine kg10_1 C 24 rfl qX10_21 0 W_c0 W_f0_1 ?_
        refine kg2_0 C 25 rfl qX10_64 13 W_c13 W_f13_0 ?_
        refine k_icmp_gt C 26 rfl 101 (by decide) (fun hc => ?_) (fun hc => ?_)
        · replace hf := if_t hf hc
          exact k_sub [0, 1] rfl (hb101 x2 O hf)
        · replace hf := if_f hf hc
          refine k_aload_0 C 27 rfl 0 rfl ?_
          refine kg10_1 C 28 rfl qX10_21 0 W_c0 W_f0_1 ?_
          refine kg2_2 C 29 rfl qX10_86 13 W_c13 W_f13_2 ?_
          refine k_iload_2 C 30 rfl 1 rfl ?_
          refine k_aload_0 C 31 rfl 0 rfl ?_
          refine kg10_1 C 32 rfl qX10_21 0 W_c0 W_f0_1 ?_
          refine kg2_3 C 33 rfl qX10_79 13 W_c13 W_f13_3 ?_
          refine k_iload_2 C 34 rfl 1 rfl ?_
          obtain ⟨i69, hi, hin, hf⟩ := ixd_some hf
          refine k_iald C 35 rfl 15 W_c15 hin hi ?_
          obtain ⟨i70, hi, hin, hf⟩ := ixd_some hf
          obtain ⟨O_70, hM, hf⟩ := bnd_some hf
          refine k_iast (w2 := (wW cy a T O_70 E X)) C 36 rfl 14 W_c14 hin hi (W_s14.trans (congrArg (fun z => (wW cy a T z E X)) hM)) ?_
          refine k_aload_0 C 37 rfl 0 rfl ?_
          refine kg10_1 C 38 rfl qX10_21 0 W_c0 W_f0_1 ?_
          refine kg2_3 C 39 rfl qX10_79 13 W_c13 W_f13_3 ?_
          refine k_iload_2 C 40 rfl 1 rfl ?_
          refine k_iconst C 41 rfl ci_m1 ?_
          obtain ⟨i80, hi, hin, hf⟩ := ixd_some hf
          obtain ⟨O_80, hM, hf⟩ := bnd_some hf
          refine k_iast (w2 := (wW cy a T O_80 E X)) C 42 rfl 15 W_c15 hin hi (W_s15.trans (congrArg (fun z => (wW cy a T z E X)) hM)) ?_
          refine k_aload_0 C 43 rfl 0 rfl ?_
          refine kg10_1 C 44 rfl qX10_21 0 W_c0 W_f0_1 ?_
          refine kg2_4 C 45 rfl qX10_148 13 W_c13 W_f13_4 ?_
          refine k_iload_2 C 46 rfl 1 rfl ?_
          refine k_iconst C 47 rfl ci_m1 ?_
          obtain ⟨i90, hi, hin, hf⟩ := ixd_some hf
          obtain ⟨O_90, hM, hf⟩ := bnd_some hf
          refine k_iast (w2 := (wW cy a T O_90 E X)) C 48 rfl 16 W_c16 hin hi (W_s16.trans (congrArg (fun z => (wW cy a T z E X)) hM)) ?_
          refine k_aload_0 C 49 rfl 0 rfl ?_
          refine kg10_1 C 50 rfl qX10_21 0 W_c0 W_f0_1 ?_
          refine kg2_5 C 51 rfl qX10_89 13 W_c13 W_f13_5 ?_
          refine k_iload_2 C 52 rfl 1 rfl ?_
          refine k_iconst C 53 rfl ci_m1 ?_
          obtain ⟨i100, hi, hin, hf⟩ := ixd_some hf
          obtain ⟨O_100, hM, hf⟩ := bnd_some hf
          refine k_iast (w2 := (wW cy a T O_100 E X)) C 54 rfl 17 W_c17 hin hi (W_s17.trans (congrArg (fun z => (wW cy a T z E X)) hM)) ?_
          exact k_sub [0, 1] rfl (hb101 x2 O_100 hf)
  have hb15 := flW2 hq15
  refine k_aload_0 C 0 rfl 0 rfl ?_
  refine kg10_1 C 1 rfl qX10_21 0 W_c0 W_f0_1 ?_
  refine k_dup C 2 rfl rfl ?_
  refine kg2_0 C 3 rfl qX10_64 13 W_c13 W_f13_0 ?_
  refine k_iload_1 C 4 rfl 1 rfl ?_
  refine k_iadd C 5 rfl ?_
  obtain ⟨O_10, hM, hf⟩ := bnd_some hf
  refine kp2_0 (w2 := (wW cy a T O_10 E X)) C 6 rfl qX10_64 13 W_c13 (v := ((O.1 0) + p1)) W_n13 (W_p13_0.trans (congrArg (fun z => (wW cy a T z E X)) hM)) ?_
  refine k_iconst C 7 rfl ci_0 ?_
  refine k_istore_2 C 8 rfl (by decide) rfl ?_
  refine k_sub (lv2 := [(0, .ref (a 0)), (1, .int p1), (2, .int 0)]) [1, 2, 0] rfl ?_
  exact k_sub [0, 2] rfl (hb15 FU 0 O_10 hf)
set_option maxHeartbeats 1000000 in
set_option maxRecDepth 20000 in
theorem c_X10_nearestRight (l : Launch) (D : va_G) (cy : Nat → ClassId) (a : Nat → Nat) (T : Sg) (O : Sg) (E : Sg) (X : Sg) (p1 : Int32) (r : Int32) (hf : f_X10_nearestRight T O p1 = some r) : Ct l D cy yX10_nearestRight cX10_nearestRight 6 (some .int) 1 200 0 0 [.ref (a 0), .int p1] (wW cy a T O E X) (some (.int r)) (wW cy a T O E X) := by
  refine Ct_i tX10_nearestRight hX10_nearestRight (by decide) (Nat.le_of_ble_eq_true rfl) ?_
  intro Z hZ C hR
  subst hZ
  replace C : Cx Z D cy RX10 tX10_nearestRight 6 1 200 0 0 := C
  show Wk Z D 6 0 0 (wW cy a T O E X) 0 [(0, .ref (a 0)), (1, .int p1)] []
  unfold f_X10_nearestRight at hf
  have hq9 : ∀ (k9 : Int32 → Int32 → Int32 → Option (Int32)), (∀ (x2 : Int32) (x3 : Int32) (x4 : Int32), k9 x2 x3 x4 = some r → Wk Z D 6 0 0 (wW cy a T O E X) 9 [(0, .ref (a 0)), (1, .int p1), (2, .int x2), (3, .int x3), (4, .int x4)] []) → ∀ (x2 : Int32) (x3 : Int32) (x4 : Int32), f_X10_nearestRight_b9 T O p1 k9 x2 x3 x4 = some r → Wk Z D 6 0 0 (wW cy a T O E X) 9 [(0, .ref (a 0)), (1, .int p1), (2, .int x2), (3, .int x3), (4, .int x4)] [] := by
    intro k9 hk9 x2 x3 x4 hf
    unfold f_X10_nearestRight_b9 at hf
    have hb72 : ∀ (x2 : Int32) (x3 : Int32) (x4 : Int32), f_X10_nearestRight_b72 T O p1 k9 x2 x3 x4 = some r → Wk Z D 6 0 0 (wW cy a T O E X) 72 [(0, .ref (a 0)), (1, .int p1), (2, .int x2), (3, .int x3), (4, .int x4)] [] := by
      intro x2 x3 x4 hf
      unfold f_X10_nearestRight_b72 at hf
      obtain ⟨x4_72, hx, hf⟩ := bnd_some hf
      refine k_iinc C 38 rfl 4 rfl ((cn_1 _).trans hx) (by decide) rfl ?_
      refine k_sub (lv2 := [(0, .ref (a 0)), (1, .int p1), (2, .int x2), (3, .int x3), (4, .int x4_72)]) [1, 2, 3, 4, 0] rfl ?_
      refine k_goto C 39 rfl 9 (by decide) ?_
      exact k_sub [0, 1, 2, 3, 4] rfl (hk9 x2 x3 x4_72 hf)
    refine k_iload C 6 rfl 4 rfl ?_
    refine k_aload_0 C 7 rfl 0 rfl ?_
    refine kg10_0 C 8 rfl qX10_12 0 W_c0 W_f0_0 ?_
    refine kg9_0 C 9 rfl qX10_51 1 W_c1 W_f1_0 ?_
    refine k_icmp_ge C 10 rfl 78 (by decide) (fun hc => ?_) (fun hc => ?_)
    · replace hf := if_t hf hc
      refine k_iload_2 C 40 rfl 2 rfl ?_
      exact k_iretP hR 41 rfl hf
    · replace hf := if_f hf hc
      refine k_iload C 11 rfl 4 rfl ?_
      refine k_aload_0 C 12 rfl 0 rfl ?_
      refine kg10_1 C 13 rfl qX10_21 0 W_c0 W_f0_1 ?_
      refine kg2_2 C 14 rfl qX10_86 13 W_c13 W_f13_2 ?_
      refine k_iload_1 C 15 rfl 1 rfl ?_
      obtain ⟨i31, hi, hin, hf⟩ := ixd_some hf
      refine k_iald C 16 rfl 14 W_c14 hin hi ?_
      refine k_isub C 17 rfl ?_
      refine k_mabs C 18 rfl qX10_118 jw_abs (Nat.le_of_ble_eq_true rfl) (Nat.le_of_ble_eq_true rfl) (Nat.le_of_ble_eq_true rfl) ⟨Nat.le_refl 0, Nat.le_refl 0⟩ ?_
      obtain ⟨x5_36, hx, hf⟩ := bnd_some hf
      refine k_topi hx ?_
      refine k_istore C 19 rfl (by decide) rfl ?_
      refine k_sub (lv2 := [(0, .ref (a 0)), (1, .int p1), (2, .int x2), (3, .int x3), (4, .int x4), (5, .int x5_36)]) [1, 2, 3, 4, 5, 0] rfl ?_
      refine k_aload_0 C 20 rfl 0 rfl ?_
      refine kg10_0 C 21 rfl qX10_12 0 W_c0 W_f0_0 ?_
      refine kg9_6 C 22 rfl qX10_73 1 W_c1 W_f1_6 ?_
      refine k_iload C 23 rfl 4 rfl ?_
      obtain ⟨i47, hi, hin, hf⟩ := ixd_some hf
      refine k_iald C 24 rfl 2 W_c2 hin hi ?_
      refine k_aload_0 C 25 rfl 0 rfl ?_
      refine kg10_0 C 26 rfl qX10_12 0 W_c0 W_f0_0 ?_
      refine kg9_11 C 27 rfl qX10_76 1 W_c1 W_f1_11 ?_
      refine k_iload_1 C 28 rfl 1 rfl ?_
      obtain ⟨i56, hi, hin, hf⟩ := ixd_some hf
      refine k_iald C 29 rfl 7 W_c7 hin hi ?_
      refine k_icmp_ne C 30 rfl 72 (by decide) (fun hc => ?_) (fun hc => ?_)
      · replace hf := if_f hf hc
        exact k_sub [0, 1, 2, 3, 4] rfl (hb72 x2 x3 x4 hf)
      · replace hf := if_t hf hc
        refine k_iload C 31 rfl 5 rfl ?_
        refine k_iload_3 C 32 rfl 3 rfl ?_
        refine k_icmp_ge C 33 rfl 72 (by decide) (fun hc => ?_) (fun hc => ?_)
        · replace hf := if_t hf hc
          exact k_sub [0, 1, 2, 3, 4] rfl (hb72 x2 x3 x4 hf)
        · replace hf := if_f hf hc
          refine k_iload C 34 rfl 4 rfl ?_
          refine k_istore_2 C 35 rfl (by decide) rfl ?_
          refine k_sub (lv2 := [(0, .ref (a 0)), (1, .int p1), (2, .int x4), (3, .int x3), (4, .int x4), (5, .int x5_36)]) [1, 2, 0, 3, 4, 5] rfl ?_
          refine k_iload C 36 rfl 5 rfl ?_
          refine k_istore_3 C 37 rfl (by decide) rfl ?_
          refine k_sub (lv2 := [(0, .ref (a 0)), (1, .int p1), (2, .int x4), (3, .int x5_36), (4, .int x4), (5, .int x5_36)]) [1, 2, 3, 0, 4, 5] rfl ?_
          exact k_sub [0, 1, 2, 3, 4] rfl (hb72 x4 x5_36 x4 hf)
  have hb9 := flW3 hq9
  refine k_bipush C 0 rfl cb_99 ?_
  refine k_istore_2 C 1 rfl (by decide) rfl ?_
  refine k_sub (lv2 := [(0, .ref (a 0)), (1, .int p1), (2, .int 99)]) [1, 2, 0] rfl ?_
  refine k_ldc C 2 rfl qX10_105 ?_
  refine k_istore_3 C 3 rfl (by decide) rfl ?_
  refine k_sub (lv2 := [(0, .ref (a 0)), (1, .int p1), (2, .int 99), (3, .int 1000000)]) [1, 2, 3, 0] rfl ?_
  refine k_iconst C 4 rfl ci_0 ?_
  refine k_istore C 5 rfl (by decide) rfl ?_
  refine k_sub (lv2 := [(0, .ref (a 0)), (1, .int p1), (2, .int 99), (3, .int 1000000), (4, .int 0)]) [1, 2, 3, 4, 0] rfl ?_
  exact k_sub [0, 1, 2, 3, 4] rfl (hb9 FU 99 1000000 0 hf)
set_option maxHeartbeats 1000000 in
set_option maxRecDepth 20000 in
theorem c_X10_wordOf (l : Launch) (D : va_G) (cy : Nat → ClassId) (a : Nat → Nat) (T : Sg) (O : Sg) (E : Sg) (X : Sg) (p1 : Int32) (p2 : Int32) (r : Int32) (hf : f_X10_wordOf T O p1 p2 = some r) : Ct l D cy yX10_wordOf cX10_wordOf 5 (some .int) 2 225 0 0 [.ref (a 0), .int p1, .int p2] (wW cy a T O E X) (some (.int r)) (wW cy a T O E X) := by
  refine Ct_i tX10_wordOf hX10_wordOf (by decide) (Nat.le_of_ble_eq_true rfl) ?_
  intro Z hZ C hR
  subst hZ
  replace C : Cx Z D cy RX10 tX10_wordOf 5 2 225 0 0 := C
  show Wk Z D 5 0 0 (wW cy a T O E X) 0 [(0, .ref (a 0)), (1, .int p1), (2, .int p2)] []
  unfold f_X10_wordOf at hf
  refine k_aload_0 C 0 rfl 0 rfl ?_
  refine kg10_1 C 1 rfl qX10_21 0 W_c0 W_f0_1 ?_
  refine kg2_2 C 2 rfl qX10_86 13 W_c13 W_f13_2 ?_
  refine k_iload_1 C 3 rfl 1 rfl ?_
  obtain ⟨i8, hi, hin, hf⟩ := ixd_some hf
  refine k_iald C 4 rfl 14 W_c14 hin hi ?_
  obtain ⟨x3_9, hx, hf⟩ := bnd_some hf
  refine k_topi hx ?_
  refine k_istore_3 C 5 rfl (by decide) rfl ?_
  refine k_sub (lv2 := [(0, .ref (a 0)), (1, .int p1), (2, .int p2), (3, .int x3_9)]) [1, 2, 3, 0] rfl ?_
  refine k_iload_2 C 6 rfl 2 rfl ?_
  obtain ⟨sw11, hx, hf⟩ := bnd_some hf
  refine k_topi hx ?_
  clear hx
  by_cases hs1 : sw11 = 1
  · subst hs1
    replace hf := if_t hf rfl
    refine k_tabIn C 7 rfl 126 (by decide) (by decide) rfl (by decide) ?_
    refine k_aload_0 C 10 rfl 0 rfl ?_
    refine kg10_0 C 11 rfl qX10_12 0 W_c0 W_f0_0 ?_
    refine kg9_11 C 12 rfl qX10_76 1 W_c1 W_f1_11 ?_
    refine k_iload_1 C 13 rfl 1 rfl ?_
    obtain ⟨i134, hi, hin, hf⟩ := ixd_some hf
    refine k_iald C 14 rfl 7 W_c7 hin hi ?_
    exact k_iretP hR 15 rfl hf
  by_cases hs2 : sw11 = 2
  · subst hs2
    replace hf := if_f hf (by decide)
    replace hf := if_f hf (by decide)
    replace hf := if_f hf (by decide)
    replace hf := if_f hf (by decide)
    replace hf := if_f hf (by decide)
    replace hf := if_f hf (by decide)
    replace hf := if_f hf (by decide)
    replace hf := if_f hf (by decide)
    replace hf := if_f hf (by decide)
    replace hf := if_f hf (by decide)
    replace hf := if_f hf (by decide)
    replace hf := if_f hf (by decide)
    refine k_tabIn C 7 rfl 261 (by decide) (by decide) rfl (by decide) ?_
    refine k_aload_0 C 86 rfl 0 rfl ?_
    refine kg10_1 C 87 rfl qX10_21 0 W_c0 W_f0_1 ?_
    refine kg2_6 C 88 rfl qX10_151 13 W_c13 W_f13_6 ?_
    refine k_iload_1 C 89 rfl 1 rfl ?_
    obtain ⟨i269, hi, hin, hf⟩ := ixd_some hf
    refine k_iald C 90 rfl 18 W_c18 hin hi ?_
    exact k_iretP hR 91 rfl hf
  by_cases hs3 : sw11 = 3
  · subst hs3
    replace hf := if_f hf (by decide)
    replace hf := if_f hf (by decide)
    replace hf := if_f hf (by decide)
    replace hf := if_f hf (by decide)
    replace hf := if_f hf (by decide)
    replace hf := if_f hf (by decide)
    replace hf := if_f hf (by decide)
    replace hf := if_f hf (by decide)
    replace hf := if_f hf (by decide)
    replace hf := if_f hf (by decide)
    replace hf := if_f hf (by decide)
    replace hf := if_f hf (by decide)
    refine k_tabIn C 7 rfl 261 (by decide) (by decide) rfl (by decide) ?_
    refine k_aload_0 C 86 rfl 0 rfl ?_
    refine kg10_1 C 87 rfl qX10_21 0 W_c0 W_f0_1 ?_
    refine kg2_6 C 88 rfl qX10_151 13 W_c13 W_f13_6 ?_
    refine k_iload_1 C 89 rfl 1 rfl ?_
    obtain ⟨i269, hi, hin, hf⟩ := ixd_some hf
    refine k_iald C 90 rfl 18 W_c18 hin hi ?_
    exact k_iretP hR 91 rfl hf
  by_cases hs4 : sw11 = 4
  · subst hs4
    replace hf := if_f hf (by decide)
    replace hf := if_f hf (by decide)
    replace hf := if_f hf (by decide)
    replace hf := if_f hf (by decide)
    replace hf := if_f hf (by decide)
    replace hf := if_f hf (by decide)
    replace hf := if_f hf (by decide)
    replace hf := if_f hf (by decide)
    replace hf := if_f hf (by decide)
    replace hf := if_f hf (by decide)
    replace hf := if_f hf (by decide)
    replace hf := if_f hf (by decide)
    refine k_tabIn C 7 rfl 261 (by decide) (by decide) rfl (by decide) ?_
    refine k_aload_0 C 86 rfl 0 rfl ?_
    refine kg10_1 C 87 rfl qX10_21 0 W_c0 W_f0_1 ?_
    refine kg2_6 C 88 rfl qX10_151 13 W_c13 W_f13_6 ?_
    refine k_iload_1 C 89 rfl 1 rfl ?_
    obtain ⟨i269, hi, hin, hf⟩ := ixd_some hf
    refine k_iald C 90 rfl 18 W_c18 hin hi ?_
    exact k_iretP hR 91 rfl hf
  by_cases hs5 : sw11 = 5
  · subst hs5
    replace hf := if_f hf (by decide)
    replace hf := if_f hf (by decide)
    replace hf := if_f hf (by decide)
    replace hf := if_f hf (by decide)
    replace hf := if_f hf (by decide)
    replace hf := if_f hf (by decide)
    replace hf := if_f hf (by decide)
    replace hf := if_f hf (by decide)
    replace hf := if_f hf (by decide)
    replace hf := if_f hf (by decide)
    replace hf := if_f hf (by decide)
    replace hf := if_f hf (by decide)
    refine k_tabIn C 7 rfl 261 (by decide) (by decide) rfl (by decide) ?_
    refine k_aload_0 C 86 rfl 0 rfl ?_
    refine kg10_1 C 87 rfl qX10_21 0 W_c0 W_f0_1 ?_
    refine kg2_6 C 88 rfl qX10_151 13 W_c13 W_f13_6 ?_
    refine k_iload_1 C 89 rfl 1 rfl ?_
    obtain ⟨i269, hi, hin, hf⟩ := ixd_some hf
    refine k_iald C 90 rfl 18 W_c18 hin hi ?_
    exact k_iretP hR 91 rfl hf
  by_cases hs6 : sw11 = 6
  · subst hs6
    replace hf := if_f hf (by decide)
    replace hf := if_t hf rfl
    refine k_tabIn C 7 rfl 251 (by decide) (by decide) rfl (by decide) ?_
    refine k_aload_0 C 80 rfl 0 rfl ?_
    refine kg10_0 C 81 rfl qX10_12 0 W_c0 W_f0_0 ?_
    refine kg9_7 C 82 rfl qX10_175 1 W_c1 W_f1_7 ?_
    refine k_iload_3 C 83 rfl 3 rfl ?_
    obtain ⟨i259, hi, hin, hf⟩ := ixd_some hf
    refine k_iald C 84 rfl 3 W_c3 hin hi ?_
    exact k_iretP hR 85 rfl hf
  by_cases hs7 : sw11 = 7
  · subst hs7
    replace hf := if_f hf (by decide)
    replace hf := if_f hf (by decide)
    replace hf := if_t hf rfl
    refine k_tabIn C 7 rfl 124 (by decide) (by decide) rfl (by decide) ?_
    refine k_iload_1 C 8 rfl 1 rfl ?_
    exact k_iretP hR 9 rfl hf
  by_cases hs8 : sw11 = 8
  · subst hs8
    replace hf := if_f hf (by decide)
    replace hf := if_f hf (by decide)
    replace hf := if_f hf (by decide)
    replace hf := if_f hf (by decide)
    replace hf := if_f hf (by decide)
    replace hf := if_f hf (by decide)
    replace hf := if_f hf (by decide)
    replace hf := if_f hf (by decide)
    replace hf := if_f hf (by decide)
    replace hf := if_f hf (by decide)
    replace hf := if_f hf (by decide)
    replace hf := if_f hf (by decide)
    refine k_tabIn C 7 rfl 261 (by decide) (by decide) rfl (by decide) ?_
    refine k_aload_0 C 86 rfl 0 rfl ?_
    refine kg10_1 C 87 rfl qX10_21 0 W_c0 W_f0_1 ?_
    refine kg2_6 C 88 rfl qX10_151 13 W_c13 W_f13_6 ?_
    refine k_iload_1 C 89 rfl 1 rfl ?_
    obtain ⟨i269, hi, hin, hf⟩ := ixd_some hf
    refine k_iald C 90 rfl 18 W_c18 hin hi ?_
    exact k_iretP hR 91 rfl hf
  by_cases hs9 : sw11 = 9
  · subst hs9
    replace hf := if_f hf (by decide)
    replace hf := if_f hf (by decide)
    replace hf := if_f hf (by decide)
    replace hf := if_f hf (by decide)
    replace hf := if_f hf (by decide)
    replace hf := if_f hf (by decide)
    replace hf := if_f hf (by decide)
    replace hf := if_f hf (by decide)
    replace hf := if_f hf (by decide)
    replace hf := if_f hf (by decide)
    replace hf := if_f hf (by decide)
    replace hf := if_f hf (by decide)
    refine k_tabIn C 7 rfl 261 (by decide) (by decide) rfl (by decide) ?_
    refine k_aload_0 C 86 rfl 0 rfl ?_
    refine kg10_1 C 87 rfl qX10_21 0 W_c0 W_f0_1 ?_
    refine kg2_6 C 88 rfl qX10_151 13 W_c13 W_f13_6 ?_
    refine k_iload_1 C 89 rfl 1 rfl ?_
    obtain ⟨i269, hi, hin, hf⟩ := ixd_some hf
    refine k_iald C 90 rfl 18 W_c18 hin hi ?_
    exact k_iretP hR 91 rfl hf
  by_cases hs10 : sw11 = 10
  · subst hs10
    replace hf := if_f hf (by decide)
    replace hf := if_f hf (by decide)
    replace hf := if_f hf (by decide)
    replace hf := if_f hf (by decide)
    replace hf := if_f hf (by decide)
    replace hf := if_f hf (by decide)
    replace hf := if_f hf (by decide)
    replace hf := if_f hf (by decide)
    replace hf := if_f hf (by decide)
    replace hf := if_f hf (by decide)
    replace hf := if_f hf (by decide)
    replace hf := if_f hf (by decide)
    refine k_tabIn C 7 rfl 261 (by decide) (by decide) rfl (by decide) ?_
    refine k_aload_0 C 86 rfl 0 rfl ?_
    refine kg10_1 C 87 rfl qX10_21 0 W_c0 W_f0_1 ?_
    refine kg2_6 C 88 rfl qX10_151 13 W_c13 W_f13_6 ?_
    refine k_iload_1 C 89 rfl 1 rfl ?_
    obtain ⟨i269, hi, hin, hf⟩ := ixd_some hf
    refine k_iald C 90 rfl 18 W_c18 hin hi ?_
    exact k_iretP hR 91 rfl hf
  by_cases hs11 : sw11 = 11
  · subst hs11
    replace hf := if_f hf (by decide)
    replace hf := if_f hf (by decide)
    replace hf := if_f hf (by decide)
    replace hf := if_f hf (by decide)
    replace hf := if_f hf (by decide)
    replace hf := if_f hf (by decide)
    replace hf := if_f hf (by decide)
    replace hf := if_f hf (by decide)
    replace hf := if_f hf (by decide)
    replace hf := if_f hf (by decide)
    replace hf := if_f hf (by decide)
    replace hf := if_f hf (by decide)
    refine k_tabIn C 7 rfl 261 (by decide) (by decide) rfl (by decide) ?_
    refine k_aload_0 C 86 rfl 0 rfl ?_
    refine kg10_1 C 87 rfl qX10_21 0 W_c0 W_f0_1 ?_
    refine kg2_6 C 88 rfl qX10_151 13 W_c13 W_f13_6 ?_
    refine k_iload_1 C 89 rfl 1 rfl ?_
    obtain ⟨i269, hi, hin, hf⟩ := ixd_some hf
    refine k_iald C 90 rfl 18 W_c18 hin hi ?_
    exact k_iretP hR 91 rfl hf
  by_cases hs12 : sw11 = 12
  · subst hs12
    replace hf := if_f hf (by decide)
    replace hf := if_f hf (by decide)
    replace hf := if_f hf (by decide)
    replace hf := if_f hf (by decide)
    replace hf := if_f hf (by decide)
    replace hf := if_f hf (by decide)
    replace hf := if_f hf (by decide)
    replace hf := if_f hf (by decide)
    replace hf := if_f hf (by decide)
    replace hf := if_f hf (by decide)
    replace hf := if_f hf (by decide)
    replace hf := if_f hf (by decide)
    refine k_tabIn C 7 rfl 261 (by decide) (by decide) rfl (by decide) ?_
    refine k_aload_0 C 86 rfl 0 rfl ?_
    refine kg10_1 C 87 rfl qX10_21 0 W_c0 W_f0_1 ?_
    refine kg2_6 C 88 rfl qX10_151 13 W_c13 W_f13_6 ?_
    refine k_iload_1 C 89 rfl 1 rfl ?_
    obtain ⟨i269, hi, hin, hf⟩ := ixd_some hf
    refine k_iald C 90 rfl 18 W_c18 hin hi ?_
    exact k_iretP hR 91 rfl hf
  by_cases hs13 : sw11 = 13
  · subst hs13
    replace hf := if_f hf (by decide)
    replace hf := if_f hf (by decide)
    replace hf := if_f hf (by decide)
    replace hf := if_f hf (by decide)
    replace hf := if_f hf (by decide)
    replace hf := if_f hf (by decide)
    replace hf := if_f hf (by decide)
    replace hf := if_f hf (by decide)
    replace hf := if_f hf (by decide)
    replace hf := if_f hf (by decide)
    replace hf := if_f hf (by decide)
    replace hf := if_f hf (by decide)
    refine k_tabIn C 7 rfl 261 (by decide) (by decide) rfl (by decide) ?_
    refine k_aload_0 C 86 rfl 0 rfl ?_
    refine kg10_1 C 87 rfl qX10_21 0 W_c0 W_f0_1 ?_
    refine kg2_6 C 88 rfl qX10_151 13 W_c13 W_f13_6 ?_
    refine k_iload_1 C 89 rfl 1 rfl ?_
    obtain ⟨i269, hi, hin, hf⟩ := ixd_some hf
    refine k_iald C 90 rfl 18 W_c18 hin hi ?_
    exact k_iretP hR 91 rfl hf
  by_cases hs14 : sw11 = 14
  · subst hs14
    replace hf := if_f hf (by decide)
    replace hf := if_f hf (by decide)
    replace hf := if_f hf (by decide)
    replace hf := if_f hf (by decide)
    replace hf := if_f hf (by decide)
    replace hf := if_f hf (by decide)
    replace hf := if_f hf (by decide)
    replace hf := if_f hf (by decide)
    replace hf := if_f hf (by decide)
    replace hf := if_f hf (by decide)
    replace hf := if_f hf (by decide)
    replace hf := if_f hf (by decide)
    refine k_tabIn C 7 rfl 261 (by decide) (by decide) rfl (by decide) ?_
    refine k_aload_0 C 86 rfl 0 rfl ?_
    refine kg10_1 C 87 rfl qX10_21 0 W_c0 W_f0_1 ?_
    refine kg2_6 C 88 rfl qX10_151 13 W_c13 W_f13_6 ?_
    refine k_iload_1 C 89 rfl 1 rfl ?_
    obtain ⟨i269, hi, hin, hf⟩ := ixd_some hf
    refine k_iald C 90 rfl 18 W_c18 hin hi ?_
    exact k_iretP hR 91 rfl hf
  by_cases hs15 : sw11 = 15
  · subst hs15
    replace hf := if_f hf (by decide)
    replace hf := if_f hf (by decide)
    replace hf := if_f hf (by decide)
    replace hf := if_f hf (by decide)
    replace hf := if_f hf (by decide)
    replace hf := if_f hf (by decide)
    replace hf := if_f hf (by decide)
    replace hf := if_f hf (by decide)
    replace hf := if_f hf (by decide)
    replace hf := if_f hf (by decide)
    replace hf := if_f hf (by decide)
    replace hf := if_f hf (by decide)
    refine k_tabIn C 7 rfl 261 (by decide) (by decide) rfl (by decide) ?_
    refine k_aload_0 C 86 rfl 0 rfl ?_
    refine kg10_1 C 87 rfl qX10_21 0 W_c0 W_f0_1 ?_
    refine kg2_6 C 88 rfl qX10_151 13 W_c13 W_f13_6 ?_
    refine k_iload_1 C 89 rfl 1 rfl ?_
    obtain ⟨i269, hi, hin, hf⟩ := ixd_some hf
    refine k_iald C 90 rfl 18 W_c18 hin hi ?_
    exact k_iretP hR 91 rfl hf
  by_cases hs16 : sw11 = 16
  · subst hs16
    replace hf := if_f hf (by decide)
    replace hf := if_f hf (by decide)
    replace hf := if_f hf (by decide)
    replace hf := if_f hf (by decide)
    replace hf := if_f hf (by decide)
    replace hf := if_f hf (by decide)
    replace hf := if_f hf (by decide)
    replace hf := if_f hf (by decide)
    replace hf := if_f hf (by decide)
    replace hf := if_f hf (by decide)
    replace hf := if_f hf (by decide)
    replace hf := if_f hf (by decide)
    refine k_tabIn C 7 rfl 261 (by decide) (by decide) rfl (by decide) ?_
    refine k_aload_0 C 86 rfl 0 rfl ?_
    refine kg10_1 C 87 rfl qX10_21 0 W_c0 W_f0_1 ?_
    refine kg2_6 C 88 rfl qX10_151 13 W_c13 W_f13_6 ?_
    refine k_iload_1 C 89 rfl 1 rfl ?_
    obtain ⟨i269, hi, hin, hf⟩ := ixd_some hf
    refine k_iald C 90 rfl 18 W_c18 hin hi ?_
    exact k_iretP hR 91 rfl hf
  by_cases hs17 : sw11 = 17
  · subst hs17
    replace hf := if_f hf (by decide)
    replace hf := if_f hf (by decide)
    replace hf := if_f hf (by decide)
    replace hf := if_t hf rfl
    refine k_tabIn C 7 rfl 136 (by decide) (by decide) rfl (by decide) ?_
    refine k_iload_3 C 16 rfl 3 rfl ?_
    exact k_iretP hR 17 rfl hf
  by_cases hs18 : sw11 = 18
  · subst hs18
    replace hf := if_f hf (by decide)
    replace hf := if_f hf (by decide)
    replace hf := if_f hf (by decide)
    replace hf := if_f hf (by decide)
    replace hf := if_t hf rfl
    refine k_tabIn C 7 rfl 138 (by decide) (by decide) rfl (by decide) ?_
    refine k_aload_0 C 18 rfl 0 rfl ?_
    refine kg10_1 C 19 rfl qX10_21 0 W_c0 W_f0_1 ?_
    refine kg2_0 C 20 rfl qX10_64 13 W_c13 W_f13_0 ?_
    exact k_iretP hR 21 rfl hf
  by_cases hs19 : sw11 = 19
  · subst hs19
    replace hf := if_f hf (by decide)
    replace hf := if_f hf (by decide)
    replace hf := if_f hf (by decide)
    replace hf := if_f hf (by decide)
    replace hf := if_f hf (by decide)
    replace hf := if_t hf rfl
    refine k_tabIn C 7 rfl 146 (by decide) (by decide) rfl (by decide) ?_
    refine k_iconst C 22 rfl ci_0 ?_
    refine k_aload_0 C 23 rfl 0 rfl ?_
    refine kg10_0 C 24 rfl qX10_12 0 W_c0 W_f0_0 ?_
    refine kg9_4 C 25 rfl qX10_115 1 W_c1 W_f1_4 ?_
    refine k_aload_0 C 26 rfl 0 rfl ?_
    refine kg10_1 C 27 rfl qX10_21 0 W_c0 W_f0_1 ?_
    refine kg2_0 C 28 rfl qX10_64 13 W_c13 W_f13_0 ?_
    refine k_isub C 29 rfl ?_
    refine k_mmax C 30 rfl qX10_109 jw_max (Nat.le_of_ble_eq_true rfl) (Nat.le_of_ble_eq_true rfl) (Nat.le_of_ble_eq_true rfl) ⟨Nat.le_refl 0, Nat.le_refl 0⟩ ?_
    exact k_iretP hR 31 rfl hf
  by_cases hs20 : sw11 = 20
  · subst hs20
    replace hf := if_f hf (by decide)
    replace hf := if_f hf (by decide)
    replace hf := if_f hf (by decide)
    replace hf := if_f hf (by decide)
    replace hf := if_f hf (by decide)
    replace hf := if_f hf (by decide)
    replace hf := if_t hf rfl
    refine k_tabIn C 7 rfl 166 (by decide) (by decide) rfl (by decide) ?_
    refine k_aload_0 C 32 rfl 0 rfl ?_
    refine k_iload_1 C 33 rfl 1 rfl ?_
    refine k_iload_3 C 34 rfl 3 rfl ?_
    obtain ⟨r169, h5, hf⟩ := ob1_some hf
    refine k_callW C 35 (c_X10_isRight Z.2.1 D cy a T O E X p1 x3_9 r169 h5) rfl qX10_92 mvX10_isRight 0 10 W_c0 rfl rfl rfl (Nat.le_of_ble_eq_true rfl) ⟨Nat.le_of_ble_eq_true rfl, Nat.le_of_ble_eq_true rfl, Nat.le_refl 0, Nat.le_refl 0⟩ ?_
    refine k_if_eq C 36 rfl 179 (by decide) (fun hc => ?_) (fun hc => ?_)
    · replace hf := if_t hf hc
      refine k_iconst C 39 rfl ci_0 ?_
      exact k_iretP hR 40 rfl hf
    · replace hf := if_f hf hc
      refine k_iconst C 37 rfl ci_1 ?_
      refine k_goto C 38 rfl 180 (by decide) ?_
      exact k_iretP hR 40 rfl hf
  by_cases hs21 : sw11 = 21
  · subst hs21
    replace hf := if_f hf (by decide)
    replace hf := if_f hf (by decide)
    replace hf := if_f hf (by decide)
    replace hf := if_f hf (by decide)
    replace hf := if_f hf (by decide)
    replace hf := if_f hf (by decide)
    replace hf := if_f hf (by decide)
    replace hf := if_t hf rfl
    refine k_tabIn C 7 rfl 181 (by decide) (by decide) rfl (by decide) ?_
    refine k_aload_0 C 41 rfl 0 rfl ?_
    refine k_iload_1 C 42 rfl 1 rfl ?_
    obtain ⟨r183, h5, hf⟩ := ob1_some hf
    refine k_callW C 43 (c_X10_nearestRight Z.2.1 D cy a T O E X p1 r183 h5) rfl qX10_154 mvX10_nearestRight 0 10 W_c0 rfl rfl rfl (Nat.le_of_ble_eq_true rfl) ⟨Nat.le_of_ble_eq_true rfl, Nat.le_of_ble_eq_true rfl, Nat.le_refl 0, Nat.le_refl 0⟩ ?_
    exact k_iretP hR 44 rfl hf
  by_cases hs22 : sw11 = 22
  · subst hs22
    replace hf := if_f hf (by decide)
    replace hf := if_f hf (by decide)
    replace hf := if_f hf (by decide)
    replace hf := if_f hf (by decide)
    replace hf := if_f hf (by decide)
    replace hf := if_f hf (by decide)
    replace hf := if_f hf (by decide)
    replace hf := if_f hf (by decide)
    replace hf := if_t hf rfl
    refine k_tabIn C 7 rfl 187 (by decide) (by decide) rfl (by decide) ?_
    refine k_aload_0 C 45 rfl 0 rfl ?_
    obtain ⟨r188, h5, hf⟩ := ob1_some hf
    refine k_callW C 46 (c_X10_haltingStop Z.2.1 D cy a T O E X r188 h5) rfl qX10_157 mvX10_haltingStop 0 10 W_c0 rfl rfl rfl (Nat.le_of_ble_eq_true rfl) ⟨Nat.le_of_ble_eq_true rfl, Nat.le_of_ble_eq_true rfl, Nat.le_refl 0, Nat.le_refl 0⟩ ?_
    refine k_istore C 47 rfl (by decide) rfl ?_
    refine k_sub (lv2 := [(0, .ref (a 0)), (1, .int p1), (2, .int p2), (3, .int x3_9), (4, .int r188)]) [1, 2, 3, 4, 0] rfl ?_
    refine k_iload C 48 rfl 4 rfl ?_
    refine k_iconst C 49 rfl ci_m1 ?_
    refine k_icmp_ne C 50 rfl 203 (by decide) (fun hc => ?_) (fun hc => ?_)
    · replace hf := if_f hf hc
      refine k_aload_0 C 53 rfl 0 rfl ?_
      refine kg10_0 C 54 rfl qX10_12 0 W_c0 W_f0_0 ?_
      refine kg9_10 C 55 rfl qX10_67 1 W_c1 W_f1_10 ?_
      refine k_iload C 56 rfl 4 rfl ?_
      obtain ⟨i212, hi, hin, hf⟩ := ixd_some hf
      refine k_iald C 57 rfl 6 W_c6 hin hi ?_
      refine k_aload_0 C 58 rfl 0 rfl ?_
      refine kg10_1 C 59 rfl qX10_21 0 W_c0 W_f0_1 ?_
      refine kg2_0 C 60 rfl qX10_64 13 W_c13 W_f13_0 ?_
      refine k_isub C 61 rfl ?_
      exact k_iretP hR 62 rfl hf
    · replace hf := if_t hf hc
      refine k_iconst C 51 rfl ci_0 ?_
      refine k_goto C 52 rfl 221 (by decide) ?_
      exact k_iretP hR 62 rfl hf
  by_cases hs23 : sw11 = 23
  · subst hs23
    replace hf := if_f hf (by decide)
    replace hf := if_f hf (by decide)
    replace hf := if_f hf (by decide)
    replace hf := if_f hf (by decide)
    replace hf := if_f hf (by decide)
    replace hf := if_f hf (by decide)
    replace hf := if_f hf (by decide)
    replace hf := if_f hf (by decide)
    replace hf := if_f hf (by decide)
    replace hf := if_t hf rfl
    refine k_tabIn C 7 rfl 222 (by decide) (by decide) rfl (by decide) ?_
    refine k_aload_0 C 63 rfl 0 rfl ?_
    refine kg10_0 C 64 rfl qX10_12 0 W_c0 W_f0_0 ?_
    refine kg9_13 C 65 rfl qX10_161 1 W_c1 W_f1_13 ?_
    refine k_iload_1 C 66 rfl 1 rfl ?_
    obtain ⟨i230, hi, hin, hf⟩ := ixd_some hf
    refine k_iald C 67 rfl 9 W_c9 hin hi ?_
    exact k_iretP hR 68 rfl hf
  by_cases hs24 : sw11 = 24
  · subst hs24
    replace hf := if_f hf (by decide)
    replace hf := if_f hf (by decide)
    replace hf := if_f hf (by decide)
    replace hf := if_f hf (by decide)
    replace hf := if_f hf (by decide)
    replace hf := if_f hf (by decide)
    replace hf := if_f hf (by decide)
    replace hf := if_f hf (by decide)
    replace hf := if_f hf (by decide)
    replace hf := if_f hf (by decide)
    replace hf := if_t hf rfl
    refine k_tabIn C 7 rfl 232 (by decide) (by decide) rfl (by decide) ?_
    refine k_aload_0 C 69 rfl 0 rfl ?_
    refine kg10_0 C 70 rfl qX10_12 0 W_c0 W_f0_0 ?_
    refine kg9_12 C 71 rfl qX10_164 1 W_c1 W_f1_12 ?_
    refine k_iload_1 C 72 rfl 1 rfl ?_
    obtain ⟨i240, hi, hin, hf⟩ := ixd_some hf
    refine k_iald C 73 rfl 8 W_c8 hin hi ?_
    exact k_iretP hR 74 rfl hf
  by_cases hs25 : sw11 = 25
  · subst hs25
    replace hf := if_f hf (by decide)
    replace hf := if_f hf (by decide)
    replace hf := if_f hf (by decide)
    replace hf := if_f hf (by decide)
    replace hf := if_f hf (by decide)
    replace hf := if_f hf (by decide)
    replace hf := if_f hf (by decide)
    replace hf := if_f hf (by decide)
    replace hf := if_f hf (by decide)
    replace hf := if_f hf (by decide)
    replace hf := if_f hf (by decide)
    replace hf := if_t hf rfl
    refine k_tabIn C 7 rfl 242 (by decide) (by decide) rfl (by decide) ?_
    refine k_aload_0 C 75 rfl 0 rfl ?_
    refine k_iload_3 C 76 rfl 3 rfl ?_
    obtain ⟨r244, h5, hf⟩ := ob1_some hf
    refine k_callW C 77 (c_X10_ridersIn Z.2.1 D cy a T O E X x3_9 r244 h5) rfl qX10_167 mvX10_ridersIn 0 10 W_c0 rfl rfl rfl (Nat.le_of_ble_eq_true rfl) ⟨Nat.le_of_ble_eq_true rfl, Nat.le_of_ble_eq_true rfl, Nat.le_refl 0, Nat.le_refl 0⟩ ?_
    obtain ⟨r247, h5, hf⟩ := ob1_some hf
    refine k_callE C 78 (c_J6_bitCount_0f7a4 Z.2.1 D cy r244 r247 h5) rfl qX10_170 msJ6_bitCount_0f7a4 rfl rfl (Nat.le_of_ble_eq_true rfl) ⟨Nat.le_of_ble_eq_true rfl, Nat.le_of_ble_eq_true rfl, Nat.le_refl 0, Nat.le_refl 0⟩ ?_
    exact k_iretP hR 79 rfl hf
  replace hf := if_f hf hs1
  replace hf := if_f hf hs6
  replace hf := if_f hf hs7
  replace hf := if_f hf hs17
  replace hf := if_f hf hs18
  replace hf := if_f hf hs19
  replace hf := if_f hf hs20
  replace hf := if_f hf hs21
  replace hf := if_f hf hs22
  replace hf := if_f hf hs23
  replace hf := if_f hf hs24
  replace hf := if_f hf hs25
  refine k_tabOut C 7 rfl 261 (sw_out [1, 2, 3, 4, 5, 6, 7, 8, 9, 10, 11, 12, 13, 14, 15, 16, 17, 18, 19, 20, 21, 22, 23, 24, 25] (by intro v hv; simp only [List.mem_cons, List.not_mem_nil, or_false] at hv; rcases hv with rfl | rfl | rfl | rfl | rfl | rfl | rfl | rfl | rfl | rfl | rfl | rfl | rfl | rfl | rfl | rfl | rfl | rfl | rfl | rfl | rfl | rfl | rfl | rfl | rfl <;> assumption) (by decide)) (by decide) ?_
  refine k_aload_0 C 86 rfl 0 rfl ?_
  refine kg10_1 C 87 rfl qX10_21 0 W_c0 W_f0_1 ?_
  refine kg2_6 C 88 rfl qX10_151 13 W_c13 W_f13_6 ?_
  refine k_iload_1 C 89 rfl 1 rfl ?_
  obtain ⟨i269, hi, hin, hf⟩ := ixd_some hf
  refine k_iald C 90 rfl 18 W_c18 hin hi ?_
  exact k_iretP hR 91 rfl hf
set_option maxHeartbeats 1000000 in
set_option maxRecDepth 20000 in
theorem c_X8_append (l : Launch) (D : va_G) (cy : Nat → ClassId) (a : Nat → Nat) (Q : Sg) (p1 : Int32) (Q1 : Sg) (hf : f_X8_append Q p1 = some Q1) : Ct l D cy yX8_append cX8_append 3 none 0 0 0 0 [.ref (a 0), .int p1] (wQ cy a Q) none (wQ cy a Q1) := by
  refine Ct_v tX8_append hX8_append (by decide) (Nat.le_of_ble_eq_true rfl) ?_
  intro Z hZ C hR
  subst hZ
  replace C : Cx Z D cy RX8 tX8_append 3 0 0 0 0 := C
  show Wk Z D 3 0 0 (wQ cy a Q) 0 [(0, .ref (a 0)), (1, .int p1)] []
  unfold f_X8_append at hf
  have hq3 : ∀ (k3 : Int32 → Sg → Option (Sg)), (∀ (x2 : Int32) (Q : Sg), k3 x2 Q = some Q1 → Wk Z D 3 0 0 (wQ cy a Q) 3 [(0, .ref (a 0)), (1, .int p1), (2, .int x2)] []) → ∀ (x2 : Int32) (Q : Sg), f_X8_append_b3 p1 k3 x2 Q = some Q1 → Wk Z D 3 0 0 (wQ cy a Q) 3 [(0, .ref (a 0)), (1, .int p1), (2, .int x2)] [] := by
    intro k3 hk3 x2 Q hf
    unfold f_X8_append_b3 at hf
    have hb40 : ∀ (x2 : Int32) (Q : Sg), f_X8_append_b40 p1 k3 x2 Q = some Q1 → Wk Z D 3 0 0 (wQ cy a Q) 40 [(0, .ref (a 0)), (1, .int p1), (2, .int x2)] [] := by
      intro x2 Q hf
      unfold f_X8_append_b40 at hf
      obtain ⟨x2_40, hx, hf⟩ := bnd_some hf
      refine k_iinc C 23 rfl 2 rfl ((cn_m8 _).trans hx) (by decide) rfl ?_
      refine k_sub (lv2 := [(0, .ref (a 0)), (1, .int p1), (2, .int x2_40)]) [1, 2, 0] rfl ?_
      refine k_goto C 24 rfl 3 (by decide) ?_
      exact k_sub [0, 1, 2] rfl (hk3 x2_40 Q hf)
    refine k_iload_2 C 2 rfl 2 rfl ?_
    refine k_if_lt C 3 rfl 46 (by decide) (fun hc => ?_) (fun hc => ?_)
    · replace hf := if_t hf hc
      exact k_vret (wf := (fun u => (wQ cy a u))) hR 25 rfl hf
    · replace hf := if_f hf hc
      refine k_aload_0 C 4 rfl 0 rfl ?_
      refine kg8_1 C 5 rfl qX8_25 0 Q_c0 Q_f0_1 ?_
      refine k_sipush C 6 rfl cs_400 ?_
      refine k_icmp_ge C 7 rfl 40 (by decide) (fun hc => ?_) (fun hc => ?_)
      · replace hf := if_t hf hc
        exact k_sub [0, 1, 2] rfl (hb40 x2 Q hf)
      · replace hf := if_f hf hc
        refine k_aload_0 C 8 rfl 0 rfl ?_
        refine kg8_0 C 9 rfl qX8_9 0 Q_c0 Q_f0_0 ?_
        refine k_aload_0 C 10 rfl 0 rfl ?_
        refine kg8_1 C 11 rfl qX8_25 0 Q_c0 Q_f0_1 ?_
        refine k_iload_1 C 12 rfl 1 rfl ?_
        refine k_iload_2 C 13 rfl 2 rfl ?_
        refine k_ishr C 14 rfl ?_
        refine k_i2b C 15 rfl ?_
        obtain ⟨i29, hi, hin, hf⟩ := ixd_some hf
        obtain ⟨Q_29, hM, hf⟩ := bnd_some hf
        refine k_bast (w2 := (wQ cy a Q_29)) C 16 rfl 1 Q_c1 hin hi (Q_s1.trans (congrArg (fun z => (wQ cy a z)) hM)) ?_
        refine k_aload_0 C 17 rfl 0 rfl ?_
        refine k_dup C 18 rfl rfl ?_
        refine kg8_1 C 19 rfl qX8_25 0 Q_c0 Q_f0_1 ?_
        refine k_iconst C 20 rfl ci_1 ?_
        refine k_iadd C 21 rfl ?_
        obtain ⟨Q_37, hM, hf⟩ := bnd_some hf
        refine kp8_1 (w2 := (wQ cy a Q_37)) C 22 rfl qX8_25 0 Q_c0 (v := ((Q_29.1 1) + 1)) Q_n0 (Q_p0_1.trans (congrArg (fun z => (wQ cy a z)) hM)) ?_
        exact k_sub [0, 1, 2] rfl (hb40 x2 Q_37 hf)
  have hb3 := flW2 hq3
  refine k_bipush C 0 rfl cb_24 ?_
  refine k_istore_2 C 1 rfl (by decide) rfl ?_
  refine k_sub (lv2 := [(0, .ref (a 0)), (1, .int p1), (2, .int 24)]) [1, 2, 0] rfl ?_
  exact k_sub [0, 1, 2] rfl (hb3 FU 24 Q hf)
set_option maxHeartbeats 1000000 in
set_option maxRecDepth 20000 in
theorem c_X8_isDigit (l : Launch) (D : va_G) (cy : Nat → ClassId) (p0 : Int32) (r : Bool) (hf : f_X8_isDigit p0 = some r) : Ct l D cy yX8_isDigit cX8_isDigit 1 (some .boolean) 0 0 0 0 [.int p0] [] (some (.int (bI r))) [] := by
  refine Ct_z tX8_isDigit hX8_isDigit (by decide) (Nat.le_of_ble_eq_true rfl) ?_
  intro Z hZ C hR
  subst hZ
  replace C : Cx Z D cy RX8 tX8_isDigit 1 0 0 0 0 := C
  show Wk Z D 1 0 0 [] 0 [(0, .int p0)] []
  unfold f_X8_isDigit at hf
  have hb16 : f_X8_isDigit_b16 p0 = some r → Wk Z D 1 0 0 [] 16 [] [] := by
    intro  hf
    unfold f_X8_isDigit_b16 at hf
    refine k_iconst C 8 rfl ci_0 ?_
    exact k_zretP hR 9 rfl hf
  refine k_iload_0 C 0 rfl 0 rfl ?_
  refine k_bipush C 1 rfl cb_48 ?_
  refine k_icmp_lt C 2 rfl 16 (by decide) (fun hc => ?_) (fun hc => ?_)
  · replace hf := if_t hf hc
    exact k_sub [] rfl (hb16  hf)
  · replace hf := if_f hf hc
    refine k_iload_0 C 3 rfl 0 rfl ?_
    refine k_bipush C 4 rfl cb_57 ?_
    refine k_icmp_gt C 5 rfl 16 (by decide) (fun hc => ?_) (fun hc => ?_)
    · replace hf := if_t hf hc
      exact k_sub [] rfl (hb16  hf)
    · replace hf := if_f hf hc
      refine k_iconst C 6 rfl ci_1 ?_
      refine k_goto C 7 rfl 17 (by decide) ?_
      exact k_zretP hR 9 rfl hf
set_option maxHeartbeats 1000000 in
set_option maxRecDepth 20000 in
theorem c_X8_scanNumber (l : Launch) (D : va_G) (cy : Nat → ClassId) (a : Nat → Nat) (Q : Sg) (p1 : Int32) (r : Int32) (Q1 : Sg) (hf : f_X8_scanNumber Q p1 = some (r, Q1)) : Ct l D cy yX8_scanNumber cX8_scanNumber 4 (some .int) 1 20 0 0 [.ref (a 0), .int p1] (wQ cy a Q) (some (.int r)) (wQ cy a Q1) := by
  refine Ct_i tX8_scanNumber hX8_scanNumber (by decide) (Nat.le_of_ble_eq_true rfl) ?_
  intro Z hZ C hR
  subst hZ
  replace C : Cx Z D cy RX8 tX8_scanNumber 4 1 20 0 0 := C
  show Wk Z D 4 0 0 (wQ cy a Q) 0 [(0, .ref (a 0)), (1, .int p1)] []
  unfold f_X8_scanNumber at hf
  have hb82 : ∀ (x3 : Int32) (s1 : Int32) (s2 : Int32) (Q : Sg), f_X8_scanNumber_b82 p1 x3 s1 s2 Q = some (r, Q1) → Wk Z D 4 0 0 (wQ cy a Q) 82 [(3, .int x3)] [.int s2, .int s1, .ref (a 3)] := by
    intro x3 s1 s2 Q hf
    unfold f_X8_scanNumber_b82 at hf
    obtain ⟨i82, hi, hin, hf⟩ := ixd_some hf
    obtain ⟨Q_82, hM, hf⟩ := bnd_some hf
    refine k_iast (w2 := (wQ cy a Q_82)) C 50 rfl 3 Q_c3 hin hi (Q_s3.trans (congrArg (fun z => (wQ cy a z)) hM)) ?_
    refine k_iload_3 C 51 rfl 0 rfl ?_
    exact k_iret (wf := (fun u => (wQ cy a u))) hR 52 rfl hf
  have hb52 : ∀ (x2 : Int32) (x3 : Int32) (Q : Sg), f_X8_scanNumber_b52 p1 x2 x3 Q = some (r, Q1) → Wk Z D 4 0 0 (wQ cy a Q) 52 [(0, .ref (a 0)), (1, .int p1), (2, .int x2), (3, .int x3)] [] := by
    intro x2 x3 Q hf
    unfold f_X8_scanNumber_b52 at hf
    refine k_aload_0 C 32 rfl 0 rfl ?_
    refine kg8_3 C 33 rfl qX8_15 0 Q_c0 Q_f0_3 ?_
    refine k_aload_0 C 34 rfl 0 rfl ?_
    refine kg8_6 C 35 rfl qX8_35 0 Q_c0 Q_f0_6 ?_
    refine k_iconst C 36 rfl ci_1 ?_
    obtain ⟨i61, hi, hin, hf⟩ := ixd_some hf
    obtain ⟨Q_61, hM, hf⟩ := bnd_some hf
    refine k_iast (w2 := (wQ cy a Q_61)) C 37 rfl 2 Q_c2 hin hi (Q_s2.trans (congrArg (fun z => (wQ cy a z)) hM)) ?_
    refine k_aload_0 C 38 rfl 0 rfl ?_
    refine kg8_4 C 39 rfl qX8_19 0 Q_c0 Q_f0_4 ?_
    refine k_aload_0 C 40 rfl 0 rfl ?_
    refine kg8_6 C 41 rfl qX8_35 0 Q_c0 Q_f0_6 ?_
    refine k_iload_3 C 42 rfl 3 rfl ?_
    refine k_iload_1 C 43 rfl 1 rfl ?_
    refine k_isub C 44 rfl ?_
    refine k_iconst C 45 rfl ci_5 ?_
    refine k_icmp_le C 46 rfl 81 (by decide) (fun hc => ?_) (fun hc => ?_)
    · replace hf := if_t hf hc
      refine k_iload_2 C 49 rfl 2 rfl ?_
      exact k_sub [3] rfl (hb82 x3 (Q_61.1 6) x2 Q_61 hf)
    · replace hf := if_f hf hc
      refine k_iconst C 47 rfl ci_m1 ?_
      refine k_goto C 48 rfl 82 (by decide) ?_
      exact k_sub [3] rfl (hb82 x3 (Q_61.1 6) (-1) Q_61 hf)
  have hq4 : ∀ (k4 : Int32 → Int32 → Sg → Option (Int32 × Sg)), (∀ (x2 : Int32) (x3 : Int32) (Q : Sg), k4 x2 x3 Q = some (r, Q1) → Wk Z D 4 0 0 (wQ cy a Q) 4 [(0, .ref (a 0)), (1, .int p1), (2, .int x2), (3, .int x3)] []) → ∀ (x2 : Int32) (x3 : Int32) (Q : Sg), f_X8_scanNumber_b4 p1 k4 x2 x3 Q = some (r, Q1) → Wk Z D 4 0 0 (wQ cy a Q) 4 [(0, .ref (a 0)), (1, .int p1), (2, .int x2), (3, .int x3)] [] := by
    intro k4 hk4 x2 x3 Q hf
    unfold f_X8_scanNumber_b4 at hf
    have hb46 : ∀ (x2 : Int32) (x3 : Int32) (Q : Sg), f_X8_scanNumber_b46 p1 k4 x2 x3 Q = some (r, Q1) → Wk Z D 4 0 0 (wQ cy a Q) 46 [(0, .ref (a 0)), (1, .int p1), (2, .int x2), (3, .int x3)] [] := by
      intro x2 x3 Q hf
      unfold f_X8_scanNumber_b46 at hf
      obtain ⟨x3_46, hx, hf⟩ := bnd_some hf
      refine k_iinc C 30 rfl 3 rfl ((cn_1 _).trans hx) (by decide) rfl ?_
      refine k_sub (lv2 := [(0, .ref (a 0)), (1, .int p1), (2, .int x2), (3, .int x3_46)]) [1, 2, 3, 0] rfl ?_
      refine k_goto C 31 rfl 4 (by decide) ?_
      exact k_sub [0, 1, 2, 3] rfl (hk4 x2 x3_46 Q hf)
    refine k_iload_3 C 4 rfl 3 rfl ?_
    refine k_aload_0 C 5 rfl 0 rfl ?_
    refine kg8_1 C 6 rfl qX8_25 0 Q_c0 Q_f0_1 ?_
    refine k_icmp_ge C 7 rfl 52 (by decide) (fun hc => ?_) (fun hc => ?_)
    · replace hf := if_t hf hc
      exact k_sub [0, 1, 2, 3] rfl (hb52 x2 x3 Q hf)
    · replace hf := if_f hf hc
      refine k_aload_0 C 8 rfl 0 rfl ?_
      refine kg8_0 C 9 rfl qX8_9 0 Q_c0 Q_f0_0 ?_
      refine k_iload_3 C 10 rfl 3 rfl ?_
      obtain ⟨i17, hi, hin, hf⟩ := ixd_some hf
      refine k_bald C 11 rfl 1 Q_c1 hin hi ?_
      obtain ⟨r18, h5, hf⟩ := ob1_some hf
      refine k_callE C 12 (c_X8_isDigit Z.2.1 D cy (Q.2.1 0 i17) r18 h5) rfl qX8_42 msX8_isDigit rfl rfl (Nat.le_of_ble_eq_true rfl) ⟨Nat.le_of_ble_eq_true rfl, Nat.le_of_ble_eq_true rfl, Nat.le_refl 0, Nat.le_refl 0⟩ ?_
      refine k_if_eq C 13 rfl 52 (by decide) (fun hc => ?_) (fun hc => ?_)
      · replace hf := if_t hf hc
        exact k_sub [0, 1, 2, 3] rfl (hb52 x2 x3 Q hf)
      · replace hf := if_f hf hc
        refine k_iload_3 C 14 rfl 3 rfl ?_
        refine k_iload_1 C 15 rfl 1 rfl ?_
        refine k_isub C 16 rfl ?_
        refine k_iconst C 17 rfl ci_5 ?_
        refine k_icmp_ge C 18 rfl 46 (by decide) (fun hc => ?_) (fun hc => ?_)
        · replace hf := if_t hf hc
          exact k_sub [0, 1, 2, 3] rfl (hb46 x2 x3 Q hf)
        · replace hf := if_f hf hc
          refine k_iload_2 C 19 rfl 2 rfl ?_
          refine k_bipush C 20 rfl cb_10 ?_
          refine k_imul C 21 rfl ?_
          refine k_aload_0 C 22 rfl 0 rfl ?_
          refine kg8_0 C 23 rfl qX8_9 0 Q_c0 Q_f0_0 ?_
          refine k_iload_3 C 24 rfl 3 rfl ?_
          obtain ⟨i40, hi, hin, hf⟩ := ixd_some hf
          refine k_bald C 25 rfl 1 Q_c1 hin hi ?_
          refine k_iadd C 26 rfl ?_
          refine k_bipush C 27 rfl cb_48 ?_
          refine k_isub C 28 rfl ?_
          obtain ⟨x2_45, hx, hf⟩ := bnd_some hf
          refine k_topi hx ?_
          refine k_istore_2 C 29 rfl (by decide) rfl ?_
          refine k_sub (lv2 := [(0, .ref (a 0)), (1, .int p1), (2, .int x2_45), (3, .int x3)]) [1, 2, 0, 3] rfl ?_
          exact k_sub [0, 1, 2, 3] rfl (hb46 x2_45 x3 Q hf)
  have hb4 := flW3 hq4
  refine k_iconst C 0 rfl ci_0 ?_
  refine k_istore_2 C 1 rfl (by decide) rfl ?_
  refine k_sub (lv2 := [(0, .ref (a 0)), (1, .int p1), (2, .int 0)]) [1, 2, 0] rfl ?_
  refine k_iload_1 C 2 rfl 1 rfl ?_
  refine k_istore_3 C 3 rfl (by decide) rfl ?_
  refine k_sub (lv2 := [(0, .ref (a 0)), (1, .int p1), (2, .int 0), (3, .int p1)]) [1, 2, 3, 0] rfl ?_
  exact k_sub [0, 1, 2, 3] rfl (hb4 FU 0 p1 Q hf)
set_option maxHeartbeats 1000000 in
set_option maxRecDepth 20000 in
theorem c_X8_isSmall (l : Launch) (D : va_G) (cy : Nat → ClassId) (p0 : Int32) (r : Bool) (hf : f_X8_isSmall p0 = some r) : Ct l D cy yX8_isSmall cX8_isSmall 1 (some .boolean) 0 0 0 0 [.int p0] [] (some (.int (bI r))) [] := by
  refine Ct_z tX8_isSmall hX8_isSmall (by decide) (Nat.le_of_ble_eq_true rfl) ?_
  intro Z hZ C hR
  subst hZ
  replace C : Cx Z D cy RX8 tX8_isSmall 1 0 0 0 0 := C
  show Wk Z D 1 0 0 [] 0 [(0, .int p0)] []
  unfold f_X8_isSmall at hf
  have hb16 : f_X8_isSmall_b16 p0 = some r → Wk Z D 1 0 0 [] 16 [] [] := by
    intro  hf
    unfold f_X8_isSmall_b16 at hf
    refine k_iconst C 8 rfl ci_0 ?_
    exact k_zretP hR 9 rfl hf
  refine k_iload_0 C 0 rfl 0 rfl ?_
  refine k_bipush C 1 rfl cb_97 ?_
  refine k_icmp_lt C 2 rfl 16 (by decide) (fun hc => ?_) (fun hc => ?_)
  · replace hf := if_t hf hc
    exact k_sub [] rfl (hb16  hf)
  · replace hf := if_f hf hc
    refine k_iload_0 C 3 rfl 0 rfl ?_
    refine k_bipush C 4 rfl cb_122 ?_
    refine k_icmp_gt C 5 rfl 16 (by decide) (fun hc => ?_) (fun hc => ?_)
    · replace hf := if_t hf hc
      exact k_sub [] rfl (hb16  hf)
    · replace hf := if_f hf hc
      refine k_iconst C 6 rfl ci_1 ?_
      refine k_goto C 7 rfl 17 (by decide) ?_
      exact k_zretP hR 9 rfl hf
set_option maxHeartbeats 1000000 in
set_option maxRecDepth 20000 in
theorem c_X8_isSame (l : Launch) (D : va_G) (cy : Nat → ClassId) (a : Nat → Nat) (Q : Sg) (p1 : Int32) (p2 : Int32) (p3 : Int32) (p4 : Int32) (r : Bool) (hf : f_X8_isSame Q p1 p2 p3 p4 = some r) : Ct l D cy yX8_isSame cX8_isSame 6 (some .boolean) 4 160 0 0 [.ref (a 0), .int p1, .int p2, .int p3, .int p4] (wQ cy a Q) (some (.int (bI r))) (wQ cy a Q) := by
  refine Ct_z tX8_isSame hX8_isSame (by decide) (Nat.le_of_ble_eq_true rfl) ?_
  intro Z hZ C hR
  subst hZ
  replace C : Cx Z D cy RX8 tX8_isSame 6 4 160 0 0 := C
  show Wk Z D 6 0 0 (wQ cy a Q) 0 [(0, .ref (a 0)), (1, .int p1), (2, .int p2), (3, .int p3), (4, .int p4)] []
  unfold f_X8_isSame at hf
  have hq15 : ∀ (k15 : Int32 → Option (Bool)), (∀ (x5 : Int32), k15 x5 = some r → Wk Z D 6 0 0 (wQ cy a Q) 15 [(0, .ref (a 0)), (1, .int p1), (2, .int p2), (3, .int p3), (5, .int x5)] []) → ∀ (x5 : Int32), f_X8_isSame_b15 Q p1 p2 p3 p4 k15 x5 = some r → Wk Z D 6 0 0 (wQ cy a Q) 15 [(0, .ref (a 0)), (1, .int p1), (2, .int p2), (3, .int p3), (5, .int x5)] [] := by
    intro k15 hk15 x5 hf
    unfold f_X8_isSame_b15 at hf
    refine k_iload C 11 rfl 4 rfl ?_
    refine k_iload_2 C 12 rfl 2 rfl ?_
    refine k_iload_1 C 13 rfl 1 rfl ?_
    refine k_isub C 14 rfl ?_
    refine k_icmp_ge C 15 rfl 52 (by decide) (fun hc => ?_) (fun hc => ?_)
    · replace hf := if_t hf hc
      refine k_iconst C 32 rfl ci_1 ?_
      exact k_zretP hR 33 rfl hf
    · replace hf := if_f hf hc
      refine k_aload_0 C 16 rfl 0 rfl ?_
      refine kg8_0 C 17 rfl qX8_9 0 Q_c0 Q_f0_0 ?_
      refine k_iload_1 C 18 rfl 1 rfl ?_
      refine k_iload C 19 rfl 4 rfl ?_
      refine k_iadd C 20 rfl ?_
      obtain ⟨i31, hi, hin, hf⟩ := ixd_some hf
      refine k_bald C 21 rfl 1 Q_c1 hin hi ?_
      refine k_ldcS C 22 rfl ?_
      refine k_iload_3 C 23 rfl 3 rfl ?_
      refine k_iload C 24 rfl 4 rfl ?_
      refine k_iadd C 25 rfl ?_
      obtain ⟨i38, hi, hin, hf⟩ := ixd_some hf
      refine k_callK C 26 (c_chr Z.2.1 D cy _ hin) rfl qX8_69 mvJ0_charAt_5068e rfl rfl (Nat.le_of_ble_eq_true rfl) ⟨Nat.le_of_ble_eq_true rfl, Nat.le_of_ble_eq_true rfl, Nat.le_refl 0, Nat.le_refl 0⟩ ?_
      refine k_topi (z := WB.getD i38 0) (by rw [hi]) ?_
      refine k_icmp_eq C 27 rfl 46 (by decide) (fun hc => ?_) (fun hc => ?_)
      · replace hf := if_t hf hc
        obtain ⟨x5_46, hx, hf⟩ := bnd_some hf
        refine k_iinc C 30 rfl 4 rfl ((cn_1 _).trans hx) (by decide) rfl ?_
        refine k_sub (lv2 := [(0, .ref (a 0)), (1, .int p1), (2, .int p2), (3, .int p3), (5, .int x5_46)]) [1, 2, 3, 4, 0] rfl ?_
        refine k_goto C 31 rfl 15 (by decide) ?_
        exact k_sub [0, 1, 2, 3, 4] rfl (hk15 x5_46 hf)
      · replace hf := if_f hf hc
        refine k_iconst C 28 rfl ci_0 ?_
        exact k_zretP hR 29 rfl hf
  have hb15 := flW1 hq15
  refine k_iload_2 C 0 rfl 2 rfl ?_
  refine k_iload_1 C 1 rfl 1 rfl ?_
  refine k_isub C 2 rfl ?_
  refine k_iload C 3 rfl 4 rfl ?_
  refine k_iload_3 C 4 rfl 3 rfl ?_
  refine k_isub C 5 rfl ?_
  refine k_icmp_eq C 6 rfl 12 (by decide) (fun hc => ?_) (fun hc => ?_)
  · replace hf := if_t hf hc
    refine k_iconst C 9 rfl ci_0 ?_
    refine k_istore C 10 rfl (by decide) rfl ?_
    refine k_sub (lv2 := [(0, .ref (a 0)), (1, .int p1), (2, .int p2), (3, .int p3), (4, .int p4), (5, .int 0)]) [1, 2, 3, 4, 5, 0] rfl ?_
    exact k_sub [0, 1, 2, 3, 5] rfl (hb15 FU 0 hf)
  · replace hf := if_f hf hc
    refine k_iconst C 7 rfl ci_0 ?_
    exact k_zretP hR 8 rfl hf
set_option maxHeartbeats 1000000 in
set_option maxRecDepth 20000 in
theorem c_X8_wordNumber (l : Launch) (D : va_G) (cy : Nat → ClassId) (a : Nat → Nat) (Q : Sg) (p1 : Int32) (p2 : Int32) (r : Int32) (hf : f_X8_wordNumber Q p1 p2 = some r) : Ct l D cy yX8_wordNumber cX8_wordNumber 6 (some .int) 5 185 0 0 [.ref (a 0), .int p1, .int p2] (wQ cy a Q) (some (.int r)) (wQ cy a Q) := by
  refine Ct_i tX8_wordNumber hX8_wordNumber (by decide) (Nat.le_of_ble_eq_true rfl) ?_
  intro Z hZ C hR
  subst hZ
  replace C : Cx Z D cy RX8 tX8_wordNumber 6 5 185 0 0 := C
  show Wk Z D 6 0 0 (wQ cy a Q) 0 [(0, .ref (a 0)), (1, .int p1), (2, .int p2)] []
  unfold f_X8_wordNumber at hf
  have hq8 : ∀ (k8 : Int32 → Int32 → Int32 → Option (Int32)), (∀ (x3 : Int32) (x4 : Int32) (x5 : Int32), k8 x3 x4 x5 = some r → Wk Z D 6 0 0 (wQ cy a Q) 8 [(0, .ref (a 0)), (1, .int p1), (2, .int p2), (3, .int x3), (4, .int x4), (5, .int x5)] []) → ∀ (x3 : Int32) (x4 : Int32) (x5 : Int32), f_X8_wordNumber_b8 Q p1 p2 k8 x3 x4 x5 = some r → Wk Z D 6 0 0 (wQ cy a Q) 8 [(0, .ref (a 0)), (1, .int p1), (2, .int p2), (3, .int x3), (4, .int x4), (5, .int x5)] [] := by
    intro k8 hk8 x3 x4 x5 hf
    unfold f_X8_wordNumber_b8 at hf
    have hb64 : ∀ (x3 : Int32) (x4 : Int32) (x5 : Int32), f_X8_wordNumber_b64 Q p1 p2 k8 x3 x4 x5 = some r → Wk Z D 6 0 0 (wQ cy a Q) 64 [(0, .ref (a 0)), (1, .int p1), (2, .int p2), (3, .int x3), (4, .int x4), (5, .int x5)] [] := by
      intro x3 x4 x5 hf
      unfold f_X8_wordNumber_b64 at hf
      obtain ⟨x5_64, hx, hf⟩ := bnd_some hf
      refine k_iinc C 33 rfl 5 rfl ((cn_1 _).trans hx) (by decide) rfl ?_
      refine k_sub (lv2 := [(0, .ref (a 0)), (1, .int p1), (2, .int p2), (3, .int x3), (4, .int x4), (5, .int x5_64)]) [1, 2, 3, 4, 5, 0] rfl ?_
      refine k_goto C 34 rfl 8 (by decide) ?_
      exact k_sub [0, 1, 2, 3, 4, 5] rfl (hk8 x3 x4 x5_64 hf)
    have hb40 : ∀ (x3 : Int32) (x4 : Int32) (x5 : Int32), f_X8_wordNumber_b40 Q p1 p2 k8 x3 x4 x5 = some r → Wk Z D 6 0 0 (wQ cy a Q) 40 [(0, .ref (a 0)), (1, .int p1), (2, .int p2), (3, .int x3), (4, .int x4), (5, .int x5)] [] := by
      intro x3 x4 x5 hf
      unfold f_X8_wordNumber_b40 at hf
      refine k_aload_0 C 19 rfl 0 rfl ?_
      refine k_iload_1 C 20 rfl 1 rfl ?_
      refine k_iload_2 C 21 rfl 2 rfl ?_
      refine k_iload C 22 rfl 4 rfl ?_
      refine k_iload C 23 rfl 5 rfl ?_
      obtain ⟨r47, h5, hf⟩ := ob1_some hf
      refine k_callW C 24 (c_X8_isSame Z.2.1 D cy a Q p1 p2 x4 x5 r47 h5) rfl qX8_73 mvX8_isSame 0 8 Q_c0 rfl rfl rfl (Nat.le_of_ble_eq_true rfl) ⟨Nat.le_of_ble_eq_true rfl, Nat.le_of_ble_eq_true rfl, Nat.le_refl 0, Nat.le_refl 0⟩ ?_
      refine k_if_eq C 25 rfl 55 (by decide) (fun hc => ?_) (fun hc => ?_)
      · replace hf := if_t hf hc
        obtain ⟨x3_55, hx, hf⟩ := bnd_some hf
        refine k_iinc C 28 rfl 3 rfl ((cn_1 _).trans hx) (by decide) rfl ?_
        refine k_sub (lv2 := [(0, .ref (a 0)), (1, .int p1), (2, .int p2), (3, .int x3_55), (4, .int x4), (5, .int x5)]) [1, 2, 3, 0, 4, 5] rfl ?_
        refine k_iload C 29 rfl 5 rfl ?_
        refine k_iconst C 30 rfl ci_1 ?_
        refine k_iadd C 31 rfl ?_
        obtain ⟨x4_62, hx, hf⟩ := bnd_some hf
        refine k_topi hx ?_
        refine k_istore C 32 rfl (by decide) rfl ?_
        refine k_sub (lv2 := [(0, .ref (a 0)), (1, .int p1), (2, .int p2), (3, .int x3_55), (4, .int x4_62), (5, .int x5)]) [1, 2, 3, 4, 0, 5] rfl ?_
        exact k_sub [0, 1, 2, 3, 4, 5] rfl (hb64 x3_55 x4_62 x5 hf)
      · replace hf := if_f hf hc
        refine k_iload_3 C 26 rfl 3 rfl ?_
        exact k_iretP hR 27 rfl hf
    refine k_iload C 6 rfl 5 rfl ?_
    refine k_ldcS C 7 rfl ?_
    refine k_callK C 8 (c_len Z.2.1 D cy) rfl qX8_64 mvJ0_length_8abf5 rfl rfl (Nat.le_of_ble_eq_true rfl) ⟨Nat.le_of_ble_eq_true rfl, Nat.le_of_ble_eq_true rfl, Nat.le_refl 0, Nat.le_refl 0⟩ ?_
    refine k_icmp_gt C 9 rfl 70 (by decide) (fun hc => ?_) (fun hc => ?_)
    · replace hf := if_t hf hc
      refine k_iconst C 35 rfl ci_m1 ?_
      exact k_iretP hR 36 rfl hf
    · replace hf := if_f hf hc
      refine k_iload C 10 rfl 5 rfl ?_
      refine k_ldcS C 11 rfl ?_
      refine k_callK C 12 (c_len Z.2.1 D cy) rfl qX8_64 mvJ0_length_8abf5 rfl rfl (Nat.le_of_ble_eq_true rfl) ⟨Nat.le_of_ble_eq_true rfl, Nat.le_of_ble_eq_true rfl, Nat.le_refl 0, Nat.le_refl 0⟩ ?_
      refine k_icmp_eq C 13 rfl 40 (by decide) (fun hc => ?_) (fun hc => ?_)
      · replace hf := if_t hf hc
        exact k_sub [0, 1, 2, 3, 4, 5] rfl (hb40 x3 x4 x5 hf)
      · replace hf := if_f hf hc
        refine k_ldcS C 14 rfl ?_
        refine k_iload C 15 rfl 5 rfl ?_
        obtain ⟨i32, hi, hin, hf⟩ := ixd_some hf
        refine k_callK C 16 (c_chr Z.2.1 D cy _ hin) rfl qX8_69 mvJ0_charAt_5068e rfl rfl (Nat.le_of_ble_eq_true rfl) ⟨Nat.le_of_ble_eq_true rfl, Nat.le_of_ble_eq_true rfl, Nat.le_refl 0, Nat.le_refl 0⟩ ?_
        refine k_topi (z := WB.getD i32 0) (by rw [hi]) ?_
        refine k_bipush C 17 rfl cb_32 ?_
        refine k_icmp_ne C 18 rfl 64 (by decide) (fun hc => ?_) (fun hc => ?_)
        · replace hf := if_f hf hc
          exact k_sub [0, 1, 2, 3, 4, 5] rfl (hb64 x3 x4 x5 hf)
        · replace hf := if_t hf hc
          exact k_sub [0, 1, 2, 3, 4, 5] rfl (hb40 x3 x4 x5 hf)
  have hb8 := flW3 hq8
  refine k_iconst C 0 rfl ci_0 ?_
  refine k_istore_3 C 1 rfl (by decide) rfl ?_
  refine k_sub (lv2 := [(0, .ref (a 0)), (1, .int p1), (2, .int p2), (3, .int 0)]) [1, 2, 3, 0] rfl ?_
  refine k_iconst C 2 rfl ci_0 ?_
  refine k_istore C 3 rfl (by decide) rfl ?_
  refine k_sub (lv2 := [(0, .ref (a 0)), (1, .int p1), (2, .int p2), (3, .int 0), (4, .int 0)]) [1, 2, 3, 4, 0] rfl ?_
  refine k_iconst C 4 rfl ci_0 ?_
  refine k_istore C 5 rfl (by decide) rfl ?_
  refine k_sub (lv2 := [(0, .ref (a 0)), (1, .int p1), (2, .int p2), (3, .int 0), (4, .int 0), (5, .int 0)]) [1, 2, 3, 4, 5, 0] rfl ?_
  exact k_sub [0, 1, 2, 3, 4, 5] rfl (hb8 FU 0 0 0 hf)
set_option maxHeartbeats 1000000 in
set_option maxRecDepth 20000 in
theorem c_X8_scanWord (l : Launch) (D : va_G) (cy : Nat → ClassId) (a : Nat → Nat) (Q : Sg) (p1 : Int32) (r : Int32) (Q1 : Sg) (hf : f_X8_scanWord Q p1 = some (r, Q1)) : Ct l D cy yX8_scanWord cX8_scanWord 3 (some .int) 6 210 0 0 [.ref (a 0), .int p1] (wQ cy a Q) (some (.int r)) (wQ cy a Q1) := by
  refine Ct_i tX8_scanWord hX8_scanWord (by decide) (Nat.le_of_ble_eq_true rfl) ?_
  intro Z hZ C hR
  subst hZ
  replace C : Cx Z D cy RX8 tX8_scanWord 3 6 210 0 0 := C
  show Wk Z D 3 0 0 (wQ cy a Q) 0 [(0, .ref (a 0)), (1, .int p1)] []
  unfold f_X8_scanWord at hf
  have hb28 : ∀ (x2 : Int32) (Q : Sg), f_X8_scanWord_b28 p1 x2 Q = some (r, Q1) → Wk Z D 3 0 0 (wQ cy a Q) 28 [(0, .ref (a 0)), (1, .int p1), (2, .int x2)] [] := by
    intro x2 Q hf
    unfold f_X8_scanWord_b28 at hf
    refine k_aload_0 C 14 rfl 0 rfl ?_
    refine kg8_3 C 15 rfl qX8_15 0 Q_c0 Q_f0_3 ?_
    refine k_aload_0 C 16 rfl 0 rfl ?_
    refine kg8_6 C 17 rfl qX8_35 0 Q_c0 Q_f0_6 ?_
    refine k_iconst C 18 rfl ci_2 ?_
    obtain ⟨i37, hi, hin, hf⟩ := ixd_some hf
    obtain ⟨Q_37, hM, hf⟩ := bnd_some hf
    refine k_iast (w2 := (wQ cy a Q_37)) C 19 rfl 2 Q_c2 hin hi (Q_s2.trans (congrArg (fun z => (wQ cy a z)) hM)) ?_
    refine k_aload_0 C 20 rfl 0 rfl ?_
    refine kg8_4 C 21 rfl qX8_19 0 Q_c0 Q_f0_4 ?_
    refine k_aload_0 C 22 rfl 0 rfl ?_
    refine kg8_6 C 23 rfl qX8_35 0 Q_c0 Q_f0_6 ?_
    refine k_aload_0 C 24 rfl 0 rfl ?_
    refine k_iload_1 C 25 rfl 1 rfl ?_
    refine k_iload_2 C 26 rfl 2 rfl ?_
    obtain ⟨r49, h5, hf⟩ := ob1_some hf
    refine k_callW C 27 (c_X8_wordNumber Z.2.1 D cy a Q_37 p1 x2 r49 h5) rfl qX8_58 mvX8_wordNumber 0 8 Q_c0 rfl rfl rfl (Nat.le_of_ble_eq_true rfl) ⟨Nat.le_of_ble_eq_true rfl, Nat.le_of_ble_eq_true rfl, Nat.le_refl 0, Nat.le_refl 0⟩ ?_
    obtain ⟨i52, hi, hin, hf⟩ := ixd_some hf
    obtain ⟨Q_52, hM, hf⟩ := bnd_some hf
    refine k_iast (w2 := (wQ cy a Q_52)) C 28 rfl 3 Q_c3 hin hi (Q_s3.trans (congrArg (fun z => (wQ cy a z)) hM)) ?_
    refine k_iload_2 C 29 rfl 2 rfl ?_
    exact k_iret (wf := (fun u => (wQ cy a u))) hR 30 rfl hf
  have hq2 : ∀ (k2 : Int32 → Sg → Option (Int32 × Sg)), (∀ (x2 : Int32) (Q : Sg), k2 x2 Q = some (r, Q1) → Wk Z D 3 0 0 (wQ cy a Q) 2 [(0, .ref (a 0)), (1, .int p1), (2, .int x2)] []) → ∀ (x2 : Int32) (Q : Sg), f_X8_scanWord_b2 p1 k2 x2 Q = some (r, Q1) → Wk Z D 3 0 0 (wQ cy a Q) 2 [(0, .ref (a 0)), (1, .int p1), (2, .int x2)] [] := by
    intro k2 hk2 x2 Q hf
    unfold f_X8_scanWord_b2 at hf
    refine k_iload_2 C 2 rfl 2 rfl ?_
    refine k_aload_0 C 3 rfl 0 rfl ?_
    refine kg8_1 C 4 rfl qX8_25 0 Q_c0 Q_f0_1 ?_
    refine k_icmp_ge C 5 rfl 28 (by decide) (fun hc => ?_) (fun hc => ?_)
    · replace hf := if_t hf hc
      exact k_sub [0, 1, 2] rfl (hb28 x2 Q hf)
    · replace hf := if_f hf hc
      refine k_aload_0 C 6 rfl 0 rfl ?_
      refine kg8_0 C 7 rfl qX8_9 0 Q_c0 Q_f0_0 ?_
      refine k_iload_2 C 8 rfl 2 rfl ?_
      obtain ⟨i15, hi, hin, hf⟩ := ixd_some hf
      refine k_bald C 9 rfl 1 Q_c1 hin hi ?_
      obtain ⟨r16, h5, hf⟩ := ob1_some hf
      refine k_callE C 10 (c_X8_isSmall Z.2.1 D cy (Q.2.1 0 i15) r16 h5) rfl qX8_49 msX8_isSmall rfl rfl (Nat.le_of_ble_eq_true rfl) ⟨Nat.le_of_ble_eq_true rfl, Nat.le_of_ble_eq_true rfl, Nat.le_refl 0, Nat.le_refl 0⟩ ?_
      refine k_if_eq C 11 rfl 28 (by decide) (fun hc => ?_) (fun hc => ?_)
      · replace hf := if_t hf hc
        exact k_sub [0, 1, 2] rfl (hb28 x2 Q hf)
      · replace hf := if_f hf hc
        obtain ⟨x2_22, hx, hf⟩ := bnd_some hf
        refine k_iinc C 12 rfl 2 rfl ((cn_1 _).trans hx) (by decide) rfl ?_
        refine k_sub (lv2 := [(0, .ref (a 0)), (1, .int p1), (2, .int x2_22)]) [1, 2, 0] rfl ?_
        refine k_goto C 13 rfl 2 (by decide) ?_
        exact k_sub [0, 1, 2] rfl (hk2 x2_22 Q hf)
  have hb2 := flW2 hq2
  refine k_iload_1 C 0 rfl 1 rfl ?_
  refine k_istore_2 C 1 rfl (by decide) rfl ?_
  refine k_sub (lv2 := [(0, .ref (a 0)), (1, .int p1), (2, .int p1)]) [1, 2, 0] rfl ?_
  exact k_sub [0, 1, 2] rfl (hb2 FU p1 Q hf)
set_option maxHeartbeats 1000000 in
set_option maxRecDepth 20000 in
theorem c_X8_scanSign (l : Launch) (D : va_G) (cy : Nat → ClassId) (a : Nat → Nat) (Q : Sg) (p1 : Int32) (r : Int32) (Q1 : Sg) (hf : f_X8_scanSign Q p1 = some (r, Q1)) : Ct l D cy yX8_scanSign cX8_scanSign 5 (some .int) 0 0 0 0 [.ref (a 0), .int p1] (wQ cy a Q) (some (.int r)) (wQ cy a Q1) := by
  refine Ct_i tX8_scanSign hX8_scanSign (by decide) (Nat.le_of_ble_eq_true rfl) ?_
  intro Z hZ C hR
  subst hZ
  replace C : Cx Z D cy RX8 tX8_scanSign 5 0 0 0 0 := C
  show Wk Z D 5 0 0 (wQ cy a Q) 0 [(0, .ref (a 0)), (1, .int p1)] []
  unfold f_X8_scanSign at hf
  have hb91 : ∀ (x4 : Int32) (s1 : Int32) (s2 : Int32) (Q : Sg), f_X8_scanSign_b91 p1 x4 s1 s2 Q = some (r, Q1) → Wk Z D 5 0 0 (wQ cy a Q) 91 [(1, .int p1), (4, .int x4)] [.int s2, .int s1, .ref (a 3)] := by
    intro x4 s1 s2 Q hf
    unfold f_X8_scanSign_b91 at hf
    obtain ⟨i91, hi, hin, hf⟩ := ixd_some hf
    obtain ⟨Q_91, hM, hf⟩ := bnd_some hf
    refine k_iast (w2 := (wQ cy a Q_91)) C 52 rfl 3 Q_c3 hin hi (Q_s3.trans (congrArg (fun z => (wQ cy a z)) hM)) ?_
    refine k_iload C 53 rfl 1 rfl ?_
    refine k_if_eq C 54 rfl 103 (by decide) (fun hc => ?_) (fun hc => ?_)
    · replace hf := if_t hf hc
      refine k_iload_1 C 59 rfl 0 rfl ?_
      refine k_iconst C 60 rfl ci_1 ?_
      refine k_iadd C 61 rfl ?_
      exact k_iret (wf := (fun u => (wQ cy a u))) hR 62 rfl hf
    · replace hf := if_f hf hc
      refine k_iload_1 C 55 rfl 0 rfl ?_
      refine k_iconst C 56 rfl ci_2 ?_
      refine k_iadd C 57 rfl ?_
      refine k_goto C 58 rfl 106 (by decide) ?_
      exact k_iret (wf := (fun u => (wQ cy a u))) hR 62 rfl hf
  have hb57 : ∀ (x2 : Int32) (s0 : Int32) (Q : Sg), f_X8_scanSign_b57 p1 x2 s0 Q = some (r, Q1) → Wk Z D 5 0 0 (wQ cy a Q) 57 [(0, .ref (a 0)), (1, .int p1), (2, .int x2)] [.int s0] := by
    intro x2 s0 Q hf
    unfold f_X8_scanSign_b57 at hf
    refine k_istore C 34 rfl (by decide) rfl ?_
    refine k_sub (lv2 := [(0, .ref (a 0)), (1, .int p1), (2, .int x2), (4, .int s0)]) [1, 2, 3, 0] rfl ?_
    refine k_aload_0 C 35 rfl 0 rfl ?_
    refine kg8_3 C 36 rfl qX8_15 0 Q_c0 Q_f0_3 ?_
    refine k_aload_0 C 37 rfl 0 rfl ?_
    refine kg8_6 C 38 rfl qX8_35 0 Q_c0 Q_f0_6 ?_
    refine k_iconst C 39 rfl ci_3 ?_
    obtain ⟨i68, hi, hin, hf⟩ := ixd_some hf
    obtain ⟨Q_68, hM, hf⟩ := bnd_some hf
    refine k_iast (w2 := (wQ cy a Q_68)) C 40 rfl 2 Q_c2 hin hi (Q_s2.trans (congrArg (fun z => (wQ cy a z)) hM)) ?_
    refine k_aload_0 C 41 rfl 0 rfl ?_
    refine kg8_4 C 42 rfl qX8_19 0 Q_c0 Q_f0_4 ?_
    refine k_aload_0 C 43 rfl 0 rfl ?_
    refine kg8_6 C 44 rfl qX8_35 0 Q_c0 Q_f0_6 ?_
    refine k_iload C 45 rfl 3 rfl ?_
    refine k_if_eq C 46 rfl 90 (by decide) (fun hc => ?_) (fun hc => ?_)
    · replace hf := if_t hf hc
      refine k_iload_2 C 51 rfl 2 rfl ?_
      exact k_sub [1, 3] rfl (hb91 s0 (Q_68.1 6) x2 Q_68 hf)
    · replace hf := if_f hf hc
      refine k_sipush C 47 rfl cs_256 ?_
      refine k_iload_2 C 48 rfl 2 rfl ?_
      refine k_iadd C 49 rfl ?_
      refine k_goto C 50 rfl 91 (by decide) ?_
      exact k_sub [1, 3] rfl (hb91 s0 (Q_68.1 6) (256 + x2) Q_68 hf)
  have hb56 : ∀ (x2 : Int32) (Q : Sg), f_X8_scanSign_b56 p1 x2 Q = some (r, Q1) → Wk Z D 5 0 0 (wQ cy a Q) 56 [(0, .ref (a 0)), (1, .int p1), (2, .int x2)] [] := by
    intro x2 Q hf
    unfold f_X8_scanSign_b56 at hf
    refine k_iconst C 33 rfl ci_0 ?_
    exact k_sub [0, 1, 2] rfl (hb57 x2 0 Q hf)
  have hb24 : ∀ (x2 : Int32) (s0 : Int32) (Q : Sg), f_X8_scanSign_b24 p1 x2 s0 Q = some (r, Q1) → Wk Z D 5 0 0 (wQ cy a Q) 24 [(0, .ref (a 0)), (1, .int p1), (2, .int x2)] [.int s0] := by
    intro x2 s0 Q hf
    unfold f_X8_scanSign_b24 at hf
    refine k_istore_3 C 14 rfl (by decide) rfl ?_
    refine k_sub (lv2 := [(0, .ref (a 0)), (1, .int p1), (2, .int x2), (3, .int s0)]) [1, 2, 3, 0] rfl ?_
    refine k_iload_3 C 15 rfl 3 rfl ?_
    refine k_if_eq C 16 rfl 56 (by decide) (fun hc => ?_) (fun hc => ?_)
    · replace hf := if_t hf hc
      exact k_sub [0, 1, 2] rfl (hb56 x2 Q hf)
    · replace hf := if_f hf hc
      refine k_iload_1 C 17 rfl 1 rfl ?_
      refine k_iconst C 18 rfl ci_1 ?_
      refine k_iadd C 19 rfl ?_
      refine k_aload_0 C 20 rfl 0 rfl ?_
      refine kg8_1 C 21 rfl qX8_25 0 Q_c0 Q_f0_1 ?_
      refine k_icmp_ge C 22 rfl 56 (by decide) (fun hc => ?_) (fun hc => ?_)
      · replace hf := if_t hf hc
        exact k_sub [0, 1, 2] rfl (hb56 x2 Q hf)
      · replace hf := if_f hf hc
        refine k_aload_0 C 23 rfl 0 rfl ?_
        refine kg8_0 C 24 rfl qX8_9 0 Q_c0 Q_f0_0 ?_
        refine k_iload_1 C 25 rfl 1 rfl ?_
        refine k_iconst C 26 rfl ci_1 ?_
        refine k_iadd C 27 rfl ?_
        obtain ⟨i46, hi, hin, hf⟩ := ixd_some hf
        refine k_bald C 28 rfl 1 Q_c1 hin hi ?_
        refine k_bipush C 29 rfl cb_61 ?_
        refine k_icmp_ne C 30 rfl 56 (by decide) (fun hc => ?_) (fun hc => ?_)
        · replace hf := if_f hf hc
          exact k_sub [0, 1, 2] rfl (hb56 x2 Q hf)
        · replace hf := if_t hf hc
          refine k_iconst C 31 rfl ci_1 ?_
          refine k_goto C 32 rfl 57 (by decide) ?_
          exact k_sub [0, 1, 2] rfl (hb57 x2 1 Q hf)
  have hb19 : ∀ (x2 : Int32) (Q : Sg), f_X8_scanSign_b19 p1 x2 Q = some (r, Q1) → Wk Z D 5 0 0 (wQ cy a Q) 19 [(0, .ref (a 0)), (1, .int p1), (2, .int x2)] [] := by
    intro x2 Q hf
    unfold f_X8_scanSign_b19 at hf
    refine k_iconst C 11 rfl ci_1 ?_
    refine k_goto C 12 rfl 24 (by decide) ?_
    exact k_sub [0, 1, 2] rfl (hb24 x2 1 Q hf)
  refine k_aload_0 C 0 rfl 0 rfl ?_
  refine kg8_0 C 1 rfl qX8_9 0 Q_c0 Q_f0_0 ?_
  refine k_iload_1 C 2 rfl 1 rfl ?_
  obtain ⟨i5, hi, hin, hf⟩ := ixd_some hf
  refine k_bald C 3 rfl 1 Q_c1 hin hi ?_
  obtain ⟨x2_6, hx, hf⟩ := bnd_some hf
  refine k_topi hx ?_
  refine k_istore_2 C 4 rfl (by decide) rfl ?_
  refine k_sub (lv2 := [(0, .ref (a 0)), (1, .int p1), (2, .int x2_6)]) [1, 2, 0] rfl ?_
  refine k_iload_2 C 5 rfl 2 rfl ?_
  refine k_bipush C 6 rfl cb_60 ?_
  refine k_icmp_eq C 7 rfl 19 (by decide) (fun hc => ?_) (fun hc => ?_)
  · replace hf := if_t hf hc
    exact k_sub [0, 1, 2] rfl (hb19 x2_6 Q hf)
  · replace hf := if_f hf hc
    refine k_iload_2 C 8 rfl 2 rfl ?_
    refine k_bipush C 9 rfl cb_62 ?_
    refine k_icmp_ne C 10 rfl 23 (by decide) (fun hc => ?_) (fun hc => ?_)
    · replace hf := if_f hf hc
      refine k_iconst C 13 rfl ci_0 ?_
      exact k_sub [0, 1, 2] rfl (hb24 x2_6 0 Q hf)
    · replace hf := if_t hf hc
      exact k_sub [0, 1, 2] rfl (hb19 x2_6 Q hf)
set_option maxHeartbeats 1000000 in
set_option maxRecDepth 20000 in
theorem c_X8_scan (l : Launch) (D : va_G) (cy : Nat → ClassId) (a : Nat → Nat) (Q : Sg) (p1 : Int32) (r : Int32) (Q1 : Sg) (hf : f_X8_scan Q p1 = some (r, Q1)) : Ct l D cy yX8_scan cX8_scan 3 (some .int) 7 232 0 0 [.ref (a 0), .int p1] (wQ cy a Q) (some (.int r)) (wQ cy a Q1) := by
  refine Ct_i tX8_scan hX8_scan (by decide) (Nat.le_of_ble_eq_true rfl) ?_
  intro Z hZ C hR
  subst hZ
  replace C : Cx Z D cy RX8 tX8_scan 3 7 232 0 0 := C
  show Wk Z D 3 0 0 (wQ cy a Q) 0 [(0, .ref (a 0)), (1, .int p1)] []
  unfold f_X8_scan at hf
  refine k_aload_0 C 0 rfl 0 rfl ?_
  refine kg8_0 C 1 rfl qX8_9 0 Q_c0 Q_f0_0 ?_
  refine k_iload_1 C 2 rfl 1 rfl ?_
  obtain ⟨i5, hi, hin, hf⟩ := ixd_some hf
  refine k_bald C 3 rfl 1 Q_c1 hin hi ?_
  obtain ⟨x2_6, hx, hf⟩ := bnd_some hf
  refine k_topi hx ?_
  refine k_istore_2 C 4 rfl (by decide) rfl ?_
  refine k_sub (lv2 := [(0, .ref (a 0)), (1, .int p1), (2, .int x2_6)]) [1, 2, 0] rfl ?_
  refine k_iload_2 C 5 rfl 2 rfl ?_
  obtain ⟨r8, h5, hf⟩ := ob1_some hf
  refine k_callE C 6 (c_X8_isDigit Z.2.1 D cy x2_6 r8 h5) rfl qX8_42 msX8_isDigit rfl rfl (Nat.le_of_ble_eq_true rfl) ⟨Nat.le_of_ble_eq_true rfl, Nat.le_of_ble_eq_true rfl, Nat.le_refl 0, Nat.le_refl 0⟩ ?_
  refine k_if_eq C 7 rfl 20 (by decide) (fun hc => ?_) (fun hc => ?_)
  · replace hf := if_t hf hc
    refine k_iload_2 C 12 rfl 2 rfl ?_
    obtain ⟨r21, h5, hf⟩ := ob1_some hf
    refine k_callE C 13 (c_X8_isSmall Z.2.1 D cy x2_6 r21 h5) rfl qX8_49 msX8_isSmall rfl rfl (Nat.le_of_ble_eq_true rfl) ⟨Nat.le_of_ble_eq_true rfl, Nat.le_of_ble_eq_true rfl, Nat.le_refl 0, Nat.le_refl 0⟩ ?_
    refine k_if_eq C 14 rfl 35 (by decide) (fun hc => ?_) (fun hc => ?_)
    · replace hf := if_t hf hc
      refine k_aload_0 C 19 rfl 0 rfl ?_
      refine k_iload_1 C 20 rfl 1 rfl ?_
      obtain ⟨r37, Q_37, h5, hf⟩ := ob2_some hf
      refine k_callW C 21 (c_X8_scanSign Z.2.1 D cy a Q p1 r37 Q_37 h5) rfl qX8_55 mvX8_scanSign 0 8 Q_c0 rfl rfl rfl (Nat.le_of_ble_eq_true rfl) ⟨Nat.le_of_ble_eq_true rfl, Nat.le_of_ble_eq_true rfl, Nat.le_refl 0, Nat.le_refl 0⟩ ?_
      exact k_iret (wf := (fun u => (wQ cy a u))) hR 22 rfl hf
    · replace hf := if_f hf hc
      refine k_aload_0 C 15 rfl 0 rfl ?_
      refine k_iload_1 C 16 rfl 1 rfl ?_
      obtain ⟨r29, Q_29, h5, hf⟩ := ob2_some hf
      refine k_callW C 17 (c_X8_scanWord Z.2.1 D cy a Q p1 r29 Q_29 h5) rfl qX8_52 mvX8_scanWord 0 8 Q_c0 rfl rfl rfl (Nat.le_of_ble_eq_true rfl) ⟨Nat.le_of_ble_eq_true rfl, Nat.le_of_ble_eq_true rfl, Nat.le_refl 0, Nat.le_refl 0⟩ ?_
      refine k_goto C 18 rfl 40 (by decide) ?_
      exact k_iret (wf := (fun u => (wQ cy a u))) hR 22 rfl hf
  · replace hf := if_f hf hc
    refine k_aload_0 C 8 rfl 0 rfl ?_
    refine k_iload_1 C 9 rfl 1 rfl ?_
    obtain ⟨r16, Q_16, h5, hf⟩ := ob2_some hf
    refine k_callW C 10 (c_X8_scanNumber Z.2.1 D cy a Q p1 r16 Q_16 h5) rfl qX8_46 mvX8_scanNumber 0 8 Q_c0 rfl rfl rfl (Nat.le_of_ble_eq_true rfl) ⟨Nat.le_of_ble_eq_true rfl, Nat.le_of_ble_eq_true rfl, Nat.le_refl 0, Nat.le_refl 0⟩ ?_
    exact k_iret (wf := (fun u => (wQ cy a u))) hR 11 rfl hf
set_option maxHeartbeats 1000000 in
set_option maxRecDepth 20000 in
theorem c_X8_open (l : Launch) (D : va_G) (cy : Nat → ClassId) (a : Nat → Nat) (Q : Sg) (Q1 : Sg) (hf : f_X8_open Q = some Q1) : Ct l D cy yX8_open cX8_open 3 none 8 254 0 0 [.ref (a 0)] (wQ cy a Q) none (wQ cy a Q1) := by
  refine Ct_v tX8_open hX8_open (by decide) (Nat.le_of_ble_eq_true rfl) ?_
  intro Z hZ C hR
  subst hZ
  replace C : Cx Z D cy RX8 tX8_open 3 8 254 0 0 := C
  show Wk Z D 3 0 0 (wQ cy a Q) 0 [(0, .ref (a 0))] []
  unfold f_X8_open at hf
  have hb83 : ∀ (Q : Sg), f_X8_open_b83 Q = some Q1 → Wk Z D 3 0 0 (wQ cy a Q) 83 [(0, .ref (a 0))] [] := by
    intro Q hf
    unfold f_X8_open_b83 at hf
    refine k_aload_0 C 46 rfl 0 rfl ?_
    refine kg8_3 C 47 rfl qX8_15 0 Q_c0 Q_f0_3 ?_
    refine k_aload_0 C 48 rfl 0 rfl ?_
    refine kg8_6 C 49 rfl qX8_35 0 Q_c0 Q_f0_6 ?_
    refine k_iconst C 50 rfl ci_0 ?_
    obtain ⟨i92, hi, hin, hf⟩ := ixd_some hf
    obtain ⟨Q_92, hM, hf⟩ := bnd_some hf
    refine k_iast (w2 := (wQ cy a Q_92)) C 51 rfl 2 Q_c2 hin hi (Q_s2.trans (congrArg (fun z => (wQ cy a z)) hM)) ?_
    refine k_aload_0 C 52 rfl 0 rfl ?_
    refine kg8_4 C 53 rfl qX8_19 0 Q_c0 Q_f0_4 ?_
    refine k_aload_0 C 54 rfl 0 rfl ?_
    refine kg8_6 C 55 rfl qX8_35 0 Q_c0 Q_f0_6 ?_
    refine k_iconst C 56 rfl ci_0 ?_
    obtain ⟨i102, hi, hin, hf⟩ := ixd_some hf
    obtain ⟨Q_102, hM, hf⟩ := bnd_some hf
    refine k_iast (w2 := (wQ cy a Q_102)) C 57 rfl 3 Q_c3 hin hi (Q_s3.trans (congrArg (fun z => (wQ cy a z)) hM)) ?_
    refine k_aload_0 C 58 rfl 0 rfl ?_
    refine kg8_5 C 59 rfl qX8_22 0 Q_c0 Q_f0_5 ?_
    refine k_aload_0 C 60 rfl 0 rfl ?_
    refine kg8_6 C 61 rfl qX8_35 0 Q_c0 Q_f0_6 ?_
    refine k_aload_0 C 62 rfl 0 rfl ?_
    refine kg8_1 C 63 rfl qX8_25 0 Q_c0 Q_f0_1 ?_
    obtain ⟨i115, hi, hin, hf⟩ := ixd_some hf
    obtain ⟨Q_115, hM, hf⟩ := bnd_some hf
    refine k_iast (w2 := (wQ cy a Q_115)) C 64 rfl 4 Q_c4 hin hi (Q_s4.trans (congrArg (fun z => (wQ cy a z)) hM)) ?_
    exact k_vret (wf := (fun u => (wQ cy a u))) hR 65 rfl hf
  have hq19 : ∀ (k19 : Int32 → Int32 → Sg → Option (Sg)), (∀ (x1 : Int32) (x2 : Int32) (Q : Sg), k19 x1 x2 Q = some Q1 → Wk Z D 3 0 0 (wQ cy a Q) 19 [(0, .ref (a 0)), (1, .int x1), (2, .int x2)] []) → ∀ (x1 : Int32) (x2 : Int32) (Q : Sg), f_X8_open_b19 k19 x1 x2 Q = some Q1 → Wk Z D 3 0 0 (wQ cy a Q) 19 [(0, .ref (a 0)), (1, .int x1), (2, .int x2)] [] := by
    intro k19 hk19 x1 x2 Q hf
    unfold f_X8_open_b19 at hf
    have hb77 : ∀ (x1 : Int32) (x2 : Int32) (Q : Sg), f_X8_open_b77 k19 x1 x2 Q = some Q1 → Wk Z D 3 0 0 (wQ cy a Q) 77 [(0, .ref (a 0)), (1, .int x1), (2, .int x2)] [] := by
      intro x1 x2 Q hf
      unfold f_X8_open_b77 at hf
      obtain ⟨x2_77, hx, hf⟩ := bnd_some hf
      refine k_iinc C 44 rfl 2 rfl ((cn_1 _).trans hx) (by decide) rfl ?_
      refine k_sub (lv2 := [(0, .ref (a 0)), (1, .int x1), (2, .int x2_77)]) [1, 2, 0] rfl ?_
      refine k_goto C 45 rfl 19 (by decide) ?_
      exact k_sub [0, 1, 2] rfl (hk19 x1 x2_77 Q hf)
    refine k_iload_2 C 13 rfl 2 rfl ?_
    refine k_sipush C 14 rfl cs_400 ?_
    refine k_icmp_ge C 15 rfl 83 (by decide) (fun hc => ?_) (fun hc => ?_)
    · replace hf := if_t hf hc
      exact k_sub [0] rfl (hb83 Q hf)
    · replace hf := if_f hf hc
      refine k_iload_1 C 16 rfl 1 rfl ?_
      refine k_aload_0 C 17 rfl 0 rfl ?_
      refine kg8_1 C 18 rfl qX8_25 0 Q_c0 Q_f0_1 ?_
      refine k_icmp_ge C 19 rfl 83 (by decide) (fun hc => ?_) (fun hc => ?_)
      · replace hf := if_t hf hc
        exact k_sub [0] rfl (hb83 Q hf)
      · replace hf := if_f hf hc
        refine k_aload_0 C 20 rfl 0 rfl ?_
        refine kg8_0 C 21 rfl qX8_9 0 Q_c0 Q_f0_0 ?_
        refine k_iload_1 C 22 rfl 1 rfl ?_
        obtain ⟨i39, hi, hin, hf⟩ := ixd_some hf
        refine k_bald C 23 rfl 1 Q_c1 hin hi ?_
        refine k_bipush C 24 rfl cb_32 ?_
        refine k_icmp_ne C 25 rfl 51 (by decide) (fun hc => ?_) (fun hc => ?_)
        · replace hf := if_f hf hc
          refine k_aload_0 C 28 rfl 0 rfl ?_
          refine kg8_5 C 29 rfl qX8_22 0 Q_c0 Q_f0_5 ?_
          refine k_aload_0 C 30 rfl 0 rfl ?_
          refine kg8_6 C 31 rfl qX8_35 0 Q_c0 Q_f0_6 ?_
          refine k_iload_1 C 32 rfl 1 rfl ?_
          obtain ⟨i60, hi, hin, hf⟩ := ixd_some hf
          obtain ⟨Q_60, hM, hf⟩ := bnd_some hf
          refine k_iast (w2 := (wQ cy a Q_60)) C 33 rfl 4 Q_c4 hin hi (Q_s4.trans (congrArg (fun z => (wQ cy a z)) hM)) ?_
          refine k_aload_0 C 34 rfl 0 rfl ?_
          refine k_iload_1 C 35 rfl 1 rfl ?_
          obtain ⟨r63, Q_63, h5, hf⟩ := ob2_some hf
          refine k_callW C 36 (c_X8_scan Z.2.1 D cy a Q_60 x1 r63 Q_63 h5) rfl qX8_38 mvX8_scan 0 8 Q_c0 rfl rfl rfl (Nat.le_of_ble_eq_true rfl) ⟨Nat.le_of_ble_eq_true rfl, Nat.le_of_ble_eq_true rfl, Nat.le_refl 0, Nat.le_refl 0⟩ ?_
          refine k_istore_1 C 37 rfl (by decide) rfl ?_
          refine k_sub (lv2 := [(0, .ref (a 0)), (1, .int r63), (2, .int x2)]) [1, 0, 2] rfl ?_
          refine k_aload_0 C 38 rfl 0 rfl ?_
          refine k_dup C 39 rfl rfl ?_
          refine kg8_6 C 40 rfl qX8_35 0 Q_c0 Q_f0_6 ?_
          refine k_iconst C 41 rfl ci_1 ?_
          refine k_iadd C 42 rfl ?_
          obtain ⟨Q_74, hM, hf⟩ := bnd_some hf
          refine kp8_6 (w2 := (wQ cy a Q_74)) C 43 rfl qX8_35 0 Q_c0 (v := ((Q_63.1 6) + 1)) Q_n0 (Q_p0_6.trans (congrArg (fun z => (wQ cy a z)) hM)) ?_
          exact k_sub [0, 1, 2] rfl (hb77 r63 x2 Q_74 hf)
        · replace hf := if_t hf hc
          obtain ⟨x1_45, hx, hf⟩ := bnd_some hf
          refine k_iinc C 26 rfl 1 rfl ((cn_1 _).trans hx) (by decide) rfl ?_
          refine k_sub (lv2 := [(0, .ref (a 0)), (1, .int x1_45), (2, .int x2)]) [1, 0, 2] rfl ?_
          refine k_goto C 27 rfl 77 (by decide) ?_
          exact k_sub [0, 1, 2] rfl (hb77 x1_45 x2 Q hf)
  have hb19 := flW3 hq19
  refine k_aload_0 C 0 rfl 0 rfl ?_
  refine k_iconst C 1 rfl ci_0 ?_
  obtain ⟨Q_2, hM, hf⟩ := bnd_some hf
  refine kp8_2 (w2 := (wQ cy a Q_2)) C 2 rfl qX8_29 0 Q_c0 (v := 0) Q_n0 (Q_p0_2.trans (congrArg (fun z => (wQ cy a z)) hM)) ?_
  refine k_aload_0 C 3 rfl 0 rfl ?_
  refine k_iconst C 4 rfl ci_0 ?_
  obtain ⟨Q_7, hM, hf⟩ := bnd_some hf
  refine kp8_7 (w2 := (wQ cy a Q_7)) C 5 rfl qX8_32 0 Q_c0 (v := 0) Q_n0 (Q_p0_7.trans (congrArg (fun z => (wQ cy a z)) hM)) ?_
  refine k_aload_0 C 6 rfl 0 rfl ?_
  refine k_iconst C 7 rfl ci_0 ?_
  obtain ⟨Q_12, hM, hf⟩ := bnd_some hf
  refine kp8_6 (w2 := (wQ cy a Q_12)) C 8 rfl qX8_35 0 Q_c0 (v := 0) Q_n0 (Q_p0_6.trans (congrArg (fun z => (wQ cy a z)) hM)) ?_
  refine k_iconst C 9 rfl ci_0 ?_
  refine k_istore_1 C 10 rfl (by decide) rfl ?_
  refine k_sub (lv2 := [(0, .ref (a 0)), (1, .int 0)]) [1, 0] rfl ?_
  refine k_iconst C 11 rfl ci_0 ?_
  refine k_istore_2 C 12 rfl (by decide) rfl ?_
  refine k_sub (lv2 := [(0, .ref (a 0)), (1, .int 0), (2, .int 0)]) [1, 2, 0] rfl ?_
  exact k_sub [0, 1, 2] rfl (hb19 FU 0 0 Q_12 hf)
set_option maxHeartbeats 1000000 in
set_option maxRecDepth 20000 in
theorem c_X8_step (l : Launch) (D : va_G) (cy : Nat → ClassId) (a : Nat → Nat) (Q : Sg) (Q1 : Sg) (hf : f_X8_step Q = some Q1) : Ct l D cy yX8_step cX8_step 1 none 0 0 0 0 [.ref (a 0)] (wQ cy a Q) none (wQ cy a Q1) := by
  refine Ct_v tX8_step hX8_step (by decide) (Nat.le_of_ble_eq_true rfl) ?_
  intro Z hZ C hR
  subst hZ
  replace C : Cx Z D cy RX8 tX8_step 1 0 0 0 0 := C
  show Wk Z D 1 0 0 (wQ cy a Q) 0 [(0, .ref (a 0))] []
  unfold f_X8_step at hf
  refine k_aload_0 C 0 rfl 0 rfl ?_
  refine kg8_7 C 1 rfl qX8_32 0 Q_c0 Q_f0_7 ?_
  refine k_aload_0 C 2 rfl 0 rfl ?_
  refine kg8_6 C 3 rfl qX8_35 0 Q_c0 Q_f0_6 ?_
  refine k_icmp_ge C 4 rfl 21 (by decide) (fun hc => ?_) (fun hc => ?_)
  · replace hf := if_t hf hc
    exact k_vret (wf := (fun u => (wQ cy a u))) hR 11 rfl hf
  · replace hf := if_f hf hc
    refine k_aload_0 C 5 rfl 0 rfl ?_
    refine k_dup C 6 rfl rfl ?_
    refine kg8_7 C 7 rfl qX8_32 0 Q_c0 Q_f0_7 ?_
    refine k_iconst C 8 rfl ci_1 ?_
    refine k_iadd C 9 rfl ?_
    obtain ⟨Q_18, hM, hf⟩ := bnd_some hf
    refine kp8_7 (w2 := (wQ cy a Q_18)) C 10 rfl qX8_32 0 Q_c0 (v := ((Q.1 7) + 1)) Q_n0 (Q_p0_7.trans (congrArg (fun z => (wQ cy a z)) hM)) ?_
    exact k_vret (wf := (fun u => (wQ cy a u))) hR 11 rfl hf
