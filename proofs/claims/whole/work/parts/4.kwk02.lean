set_option maxHeartbeats 1000000 in
set_option maxRecDepth 20000 in
theorem c_X8_isAtEnd (l : Launch) (D : va_G) (cy : Nat → ClassId) (a : Nat → Nat) (Q : Sg) (r : Bool) (hf : f_X8_isAtEnd Q = some r) : Ct l D cy yX8_isAtEnd cX8_isAtEnd 1 (some .boolean) 0 0 0 0 [.ref (a 0)] (wQ cy a Q) (some (.int (bI r))) (wQ cy a Q) := by
  refine Ct_z tX8_isAtEnd hX8_isAtEnd (by decide) (Nat.le_of_ble_eq_true rfl) ?_
  intro Z hZ C hR
  subst hZ
  replace C : Cx Z D cy RX8 tX8_isAtEnd 1 0 0 0 0 := C
  show Wk Z D 1 0 0 (wQ cy a Q) 0 [(0, .ref (a 0))] []
  unfold f_X8_isAtEnd at hf
  refine k_aload_0 C 0 rfl 0 rfl ?_
  refine kg8_3 C 1 rfl qX8_15 0 Q_c0 Q_f0_3 ?_
  refine k_aload_0 C 2 rfl 0 rfl ?_
  refine kg8_7 C 3 rfl qX8_32 0 Q_c0 Q_f0_7 ?_
  obtain ⟨i8, hi, hin, hf⟩ := ixd_some hf
  refine k_iald C 4 rfl 2 Q_c2 hin hi ?_
  refine k_if_ne C 5 rfl 16 (by decide) (fun hc => ?_) (fun hc => ?_)
  · replace hf := if_f hf hc
    refine k_iconst C 8 rfl ci_0 ?_
    exact k_zretP hR 9 rfl hf
  · replace hf := if_t hf hc
    refine k_iconst C 6 rfl ci_1 ?_
    refine k_goto C 7 rfl 17 (by decide) ?_
    exact k_zretP hR 9 rfl hf
set_option maxHeartbeats 1000000 in
set_option maxRecDepth 20000 in
theorem c_X8_isNumber (l : Launch) (D : va_G) (cy : Nat → ClassId) (a : Nat → Nat) (Q : Sg) (r : Bool) (hf : f_X8_isNumber Q = some r) : Ct l D cy yX8_isNumber cX8_isNumber 1 (some .boolean) 0 0 0 0 [.ref (a 0)] (wQ cy a Q) (some (.int (bI r))) (wQ cy a Q) := by
  refine Ct_z tX8_isNumber hX8_isNumber (by decide) (Nat.le_of_ble_eq_true rfl) ?_
  intro Z hZ C hR
  subst hZ
  replace C : Cx Z D cy RX8 tX8_isNumber 1 0 0 0 0 := C
  show Wk Z D 1 0 0 (wQ cy a Q) 0 [(0, .ref (a 0))] []
  unfold f_X8_isNumber at hf
  refine k_aload_0 C 0 rfl 0 rfl ?_
  refine kg8_3 C 1 rfl qX8_15 0 Q_c0 Q_f0_3 ?_
  refine k_aload_0 C 2 rfl 0 rfl ?_
  refine kg8_7 C 3 rfl qX8_32 0 Q_c0 Q_f0_7 ?_
  obtain ⟨i8, hi, hin, hf⟩ := ixd_some hf
  refine k_iald C 4 rfl 2 Q_c2 hin hi ?_
  refine k_iconst C 5 rfl ci_1 ?_
  refine k_icmp_ne C 6 rfl 17 (by decide) (fun hc => ?_) (fun hc => ?_)
  · replace hf := if_f hf hc
    refine k_iconst C 9 rfl ci_0 ?_
    exact k_zretP hR 10 rfl hf
  · replace hf := if_t hf hc
    refine k_iconst C 7 rfl ci_1 ?_
    refine k_goto C 8 rfl 18 (by decide) ?_
    exact k_zretP hR 10 rfl hf
set_option maxHeartbeats 1000000 in
set_option maxRecDepth 20000 in
theorem c_X8_numberHere (l : Launch) (D : va_G) (cy : Nat → ClassId) (a : Nat → Nat) (Q : Sg) (r : Int32) (hf : f_X8_numberHere Q = some r) : Ct l D cy yX8_numberHere cX8_numberHere 1 (some .int) 0 0 0 0 [.ref (a 0)] (wQ cy a Q) (some (.int r)) (wQ cy a Q) := by
  refine Ct_i tX8_numberHere hX8_numberHere (by decide) (Nat.le_of_ble_eq_true rfl) ?_
  intro Z hZ C hR
  subst hZ
  replace C : Cx Z D cy RX8 tX8_numberHere 1 0 0 0 0 := C
  show Wk Z D 1 0 0 (wQ cy a Q) 0 [(0, .ref (a 0))] []
  unfold f_X8_numberHere at hf
  refine k_aload_0 C 0 rfl 0 rfl ?_
  refine kg8_4 C 1 rfl qX8_19 0 Q_c0 Q_f0_4 ?_
  refine k_aload_0 C 2 rfl 0 rfl ?_
  refine kg8_7 C 3 rfl qX8_32 0 Q_c0 Q_f0_7 ?_
  obtain ⟨i8, hi, hin, hf⟩ := ixd_some hf
  refine k_iald C 4 rfl 3 Q_c3 hin hi ?_
  exact k_iretP hR 5 rfl hf
set_option maxHeartbeats 1000000 in
set_option maxRecDepth 20000 in
theorem c_X8_wordHere (l : Launch) (D : va_G) (cy : Nat → ClassId) (a : Nat → Nat) (Q : Sg) (r : Int32) (hf : f_X8_wordHere Q = some r) : Ct l D cy yX8_wordHere cX8_wordHere 1 (some .int) 0 0 0 0 [.ref (a 0)] (wQ cy a Q) (some (.int r)) (wQ cy a Q) := by
  refine Ct_i tX8_wordHere hX8_wordHere (by decide) (Nat.le_of_ble_eq_true rfl) ?_
  intro Z hZ C hR
  subst hZ
  replace C : Cx Z D cy RX8 tX8_wordHere 1 0 0 0 0 := C
  show Wk Z D 1 0 0 (wQ cy a Q) 0 [(0, .ref (a 0))] []
  unfold f_X8_wordHere at hf
  refine k_aload_0 C 0 rfl 0 rfl ?_
  refine kg8_3 C 1 rfl qX8_15 0 Q_c0 Q_f0_3 ?_
  refine k_aload_0 C 2 rfl 0 rfl ?_
  refine kg8_7 C 3 rfl qX8_32 0 Q_c0 Q_f0_7 ?_
  obtain ⟨i8, hi, hin, hf⟩ := ixd_some hf
  refine k_iald C 4 rfl 2 Q_c2 hin hi ?_
  refine k_iconst C 5 rfl ci_2 ?_
  refine k_icmp_ne C 6 rfl 25 (by decide) (fun hc => ?_) (fun hc => ?_)
  · replace hf := if_f hf hc
    refine k_iconst C 13 rfl ci_m1 ?_
    exact k_iretP hR 14 rfl hf
  · replace hf := if_t hf hc
    refine k_aload_0 C 7 rfl 0 rfl ?_
    refine kg8_4 C 8 rfl qX8_19 0 Q_c0 Q_f0_4 ?_
    refine k_aload_0 C 9 rfl 0 rfl ?_
    refine kg8_7 C 10 rfl qX8_32 0 Q_c0 Q_f0_7 ?_
    obtain ⟨i21, hi, hin, hf⟩ := ixd_some hf
    refine k_iald C 11 rfl 3 Q_c3 hin hi ?_
    refine k_goto C 12 rfl 26 (by decide) ?_
    exact k_iretP hR 14 rfl hf
set_option maxHeartbeats 1000000 in
set_option maxRecDepth 20000 in
theorem c_X8_signHere (l : Launch) (D : va_G) (cy : Nat → ClassId) (a : Nat → Nat) (Q : Sg) (r : Int32) (hf : f_X8_signHere Q = some r) : Ct l D cy yX8_signHere cX8_signHere 1 (some .int) 0 0 0 0 [.ref (a 0)] (wQ cy a Q) (some (.int r)) (wQ cy a Q) := by
  refine Ct_i tX8_signHere hX8_signHere (by decide) (Nat.le_of_ble_eq_true rfl) ?_
  intro Z hZ C hR
  subst hZ
  replace C : Cx Z D cy RX8 tX8_signHere 1 0 0 0 0 := C
  show Wk Z D 1 0 0 (wQ cy a Q) 0 [(0, .ref (a 0))] []
  unfold f_X8_signHere at hf
  refine k_aload_0 C 0 rfl 0 rfl ?_
  refine kg8_3 C 1 rfl qX8_15 0 Q_c0 Q_f0_3 ?_
  refine k_aload_0 C 2 rfl 0 rfl ?_
  refine kg8_7 C 3 rfl qX8_32 0 Q_c0 Q_f0_7 ?_
  obtain ⟨i8, hi, hin, hf⟩ := ixd_some hf
  refine k_iald C 4 rfl 2 Q_c2 hin hi ?_
  refine k_iconst C 5 rfl ci_3 ?_
  refine k_icmp_ne C 6 rfl 25 (by decide) (fun hc => ?_) (fun hc => ?_)
  · replace hf := if_f hf hc
    refine k_iconst C 13 rfl ci_0 ?_
    exact k_iretP hR 14 rfl hf
  · replace hf := if_t hf hc
    refine k_aload_0 C 7 rfl 0 rfl ?_
    refine kg8_4 C 8 rfl qX8_19 0 Q_c0 Q_f0_4 ?_
    refine k_aload_0 C 9 rfl 0 rfl ?_
    refine kg8_7 C 10 rfl qX8_32 0 Q_c0 Q_f0_7 ?_
    obtain ⟨i21, hi, hin, hf⟩ := ixd_some hf
    refine k_iald C 11 rfl 3 Q_c3 hin hi ?_
    refine k_goto C 12 rfl 26 (by decide) ?_
    exact k_iretP hR 14 rfl hf
set_option maxHeartbeats 1000000 in
set_option maxRecDepth 20000 in
theorem c_X8_takesSign (l : Launch) (D : va_G) (cy : Nat → ClassId) (a : Nat → Nat) (Q : Sg) (p1 : Int32) (r : Bool) (Q1 : Sg) (hf : f_X8_takesSign Q p1 = some (r, Q1)) : Ct l D cy yX8_takesSign cX8_takesSign 3 (some .boolean) 1 20 0 0 [.ref (a 0), .int p1] (wQ cy a Q) (some (.int (bI r))) (wQ cy a Q1) := by
  refine Ct_z tX8_takesSign hX8_takesSign (by decide) (Nat.le_of_ble_eq_true rfl) ?_
  intro Z hZ C hR
  subst hZ
  replace C : Cx Z D cy RX8 tX8_takesSign 3 1 20 0 0 := C
  show Wk Z D 3 0 0 (wQ cy a Q) 0 [(0, .ref (a 0)), (1, .int p1)] []
  unfold f_X8_takesSign at hf
  have hb40 : ∀ (x2 : Int32) (Q : Sg), f_X8_takesSign_b40 p1 x2 Q = some (r, Q1) → Wk Z D 3 0 0 (wQ cy a Q) 40 [(2, .int x2)] [] := by
    intro x2 Q hf
    unfold f_X8_takesSign_b40 at hf
    refine k_iload_2 C 22 rfl 0 rfl ?_
    obtain ⟨b41, hx, hf⟩ := zb_some hf
    refine k_topi hx ?_
    exact k_zret (wf := (fun u => (wQ cy a u))) hR 23 rfl hf
  have hb31 : ∀ (s0 : Int32) (Q : Sg), f_X8_takesSign_b31 p1 s0 Q = some (r, Q1) → Wk Z D 3 0 0 (wQ cy a Q) 31 [(0, .ref (a 0))] [.int s0] := by
    intro s0 Q hf
    unfold f_X8_takesSign_b31 at hf
    refine k_istore_2 C 17 rfl (by decide) rfl ?_
    refine k_sub (lv2 := [(0, .ref (a 0)), (2, .int s0)]) [1, 0] rfl ?_
    refine k_iload_2 C 18 rfl 1 rfl ?_
    refine k_if_eq C 19 rfl 40 (by decide) (fun hc => ?_) (fun hc => ?_)
    · replace hf := if_t hf hc
      exact k_sub [1] rfl (hb40 s0 Q hf)
    · replace hf := if_f hf hc
      refine k_aload_0 C 20 rfl 0 rfl ?_
      obtain ⟨Q_37, h5, hf⟩ := ob1_some hf
      refine k_callW C 21 (c_X8_step Z.2.1 D cy a Q Q_37 h5) rfl qX8_77 mvX8_step 0 8 Q_c0 rfl rfl rfl (Nat.le_of_ble_eq_true rfl) ⟨Nat.le_of_ble_eq_true rfl, Nat.le_of_ble_eq_true rfl, Nat.le_refl 0, Nat.le_refl 0⟩ ?_
      exact k_sub [1] rfl (hb40 s0 Q_37 hf)
  have hb30 : ∀ (Q : Sg), f_X8_takesSign_b30 p1 Q = some (r, Q1) → Wk Z D 3 0 0 (wQ cy a Q) 30 [(0, .ref (a 0))] [] := by
    intro Q hf
    unfold f_X8_takesSign_b30 at hf
    refine k_iconst C 16 rfl ci_0 ?_
    exact k_sub [0] rfl (hb31 0 Q hf)
  refine k_aload_0 C 0 rfl 0 rfl ?_
  refine kg8_3 C 1 rfl qX8_15 0 Q_c0 Q_f0_3 ?_
  refine k_aload_0 C 2 rfl 0 rfl ?_
  refine kg8_7 C 3 rfl qX8_32 0 Q_c0 Q_f0_7 ?_
  obtain ⟨i8, hi, hin, hf⟩ := ixd_some hf
  refine k_iald C 4 rfl 2 Q_c2 hin hi ?_
  refine k_iconst C 5 rfl ci_3 ?_
  refine k_icmp_ne C 6 rfl 30 (by decide) (fun hc => ?_) (fun hc => ?_)
  · replace hf := if_f hf hc
    exact k_sub [0] rfl (hb30 Q hf)
  · replace hf := if_t hf hc
    refine k_aload_0 C 7 rfl 0 rfl ?_
    refine kg8_4 C 8 rfl qX8_19 0 Q_c0 Q_f0_4 ?_
    refine k_aload_0 C 9 rfl 0 rfl ?_
    refine kg8_7 C 10 rfl qX8_32 0 Q_c0 Q_f0_7 ?_
    obtain ⟨i21, hi, hin, hf⟩ := ixd_some hf
    refine k_iald C 11 rfl 3 Q_c3 hin hi ?_
    refine k_iload_1 C 12 rfl 1 rfl ?_
    refine k_icmp_ne C 13 rfl 30 (by decide) (fun hc => ?_) (fun hc => ?_)
    · replace hf := if_f hf hc
      exact k_sub [0] rfl (hb30 Q hf)
    · replace hf := if_t hf hc
      refine k_iconst C 14 rfl ci_1 ?_
      refine k_goto C 15 rfl 31 (by decide) ?_
      exact k_sub [0] rfl (hb31 1 Q hf)
set_option maxHeartbeats 1000000 in
set_option maxRecDepth 20000 in
theorem c_X8_blame (l : Launch) (D : va_G) (cy : Nat → ClassId) (a : Nat → Nat) (Q : Sg) (p1 : Int32) (Q1 : Sg) (hf : f_X8_blame Q p1 = some Q1) : Ct l D cy yX8_blame cX8_blame 2 none 0 0 0 0 [.ref (a 0), .int p1] (wQ cy a Q) none (wQ cy a Q1) := by
  refine Ct_v tX8_blame hX8_blame (by decide) (Nat.le_of_ble_eq_true rfl) ?_
  intro Z hZ C hR
  subst hZ
  replace C : Cx Z D cy RX8 tX8_blame 2 0 0 0 0 := C
  show Wk Z D 2 0 0 (wQ cy a Q) 0 [(0, .ref (a 0)), (1, .int p1)] []
  unfold f_X8_blame at hf
  have hb27 : ∀ (Q : Sg), f_X8_blame_b27 p1 Q = some Q1 → Wk Z D 2 0 0 (wQ cy a Q) 27 [(0, .ref (a 0))] [] := by
    intro Q hf
    unfold f_X8_blame_b27 at hf
    refine k_aload_0 C 16 rfl 0 rfl ?_
    refine k_aload_0 C 17 rfl 0 rfl ?_
    refine kg8_6 C 18 rfl qX8_35 0 Q_c0 Q_f0_6 ?_
    obtain ⟨Q_32, hM, hf⟩ := bnd_some hf
    refine kp8_7 (w2 := (wQ cy a Q_32)) C 19 rfl qX8_32 0 Q_c0 (v := (Q.1 6)) Q_n0 (Q_p0_7.trans (congrArg (fun z => (wQ cy a z)) hM)) ?_
    exact k_vret (wf := (fun u => (wQ cy a u))) hR 20 rfl hf
  refine k_aload_0 C 0 rfl 0 rfl ?_
  refine kg8_2 C 1 rfl qX8_29 0 Q_c0 Q_f0_2 ?_
  refine k_if_ne C 2 rfl 27 (by decide) (fun hc => ?_) (fun hc => ?_)
  · replace hf := if_f hf hc
    exact k_sub [0] rfl (hb27 Q hf)
  · replace hf := if_t hf hc
    refine k_aload_0 C 3 rfl 0 rfl ?_
    refine k_iconst C 4 rfl ci_1 ?_
    refine k_bipush C 5 rfl cb_8 ?_
    refine k_aload_0 C 6 rfl 0 rfl ?_
    refine kg8_5 C 7 rfl qX8_22 0 Q_c0 Q_f0_5 ?_
    refine k_aload_0 C 8 rfl 0 rfl ?_
    refine kg8_7 C 9 rfl qX8_32 0 Q_c0 Q_f0_7 ?_
    obtain ⟨i19, hi, hin, hf⟩ := ixd_some hf
    refine k_iald C 10 rfl 4 Q_c4 hin hi ?_
    refine k_imul C 11 rfl ?_
    refine k_iadd C 12 rfl ?_
    refine k_iload_1 C 13 rfl 1 rfl ?_
    refine k_iadd C 14 rfl ?_
    obtain ⟨Q_24, hM, hf⟩ := bnd_some hf
    refine kp8_2 (w2 := (wQ cy a Q_24)) C 15 rfl qX8_29 0 Q_c0 (v := ((1 + (8 * (Q.2.1 5 i19))) + p1)) Q_n0 (Q_p0_2.trans (congrArg (fun z => (wQ cy a z)) hM)) ?_
    exact k_sub [0] rfl (hb27 Q_24 hf)
set_option maxHeartbeats 1000000 in
set_option maxRecDepth 20000 in
theorem c_X8_takeNumber (l : Launch) (D : va_G) (cy : Nat → ClassId) (a : Nat → Nat) (Q : Sg) (p1 : Int32) (p2 : Int32) (r : Int32) (Q1 : Sg) (hf : f_X8_takeNumber Q p1 p2 = some (r, Q1)) : Ct l D cy yX8_takeNumber cX8_takeNumber 4 (some .int) 1 21 0 0 [.ref (a 0), .int p1, .int p2] (wQ cy a Q) (some (.int r)) (wQ cy a Q1) := by
  refine Ct_i tX8_takeNumber hX8_takeNumber (by decide) (Nat.le_of_ble_eq_true rfl) ?_
  intro Z hZ C hR
  subst hZ
  replace C : Cx Z D cy RX8 tX8_takeNumber 4 1 21 0 0 := C
  show Wk Z D 4 0 0 (wQ cy a Q) 0 [(0, .ref (a 0)), (1, .int p1), (2, .int p2)] []
  unfold f_X8_takeNumber at hf
  have hb40 : ∀ (Q : Sg), f_X8_takeNumber_b40 p1 p2 Q = some (r, Q1) → Wk Z D 4 0 0 (wQ cy a Q) 40 [(0, .ref (a 0)), (1, .int p1)] [] := by
    intro Q hf
    unfold f_X8_takeNumber_b40 at hf
    refine k_aload_0 C 24 rfl 0 rfl ?_
    refine k_iconst C 25 rfl ci_1 ?_
    obtain ⟨Q_42, h5, hf⟩ := ob1_some hf
    refine k_callW C 26 (c_X8_blame Z.2.1 D cy a Q 1 Q_42 h5) rfl qX8_80 mvX8_blame 0 8 Q_c0 rfl rfl rfl (Nat.le_of_ble_eq_true rfl) ⟨Nat.le_of_ble_eq_true rfl, Nat.le_of_ble_eq_true rfl, Nat.le_refl 0, Nat.le_refl 0⟩ ?_
    refine k_iload_1 C 27 rfl 1 rfl ?_
    exact k_iret (wf := (fun u => (wQ cy a u))) hR 28 rfl hf
  refine k_aload_0 C 0 rfl 0 rfl ?_
  refine kg8_3 C 1 rfl qX8_15 0 Q_c0 Q_f0_3 ?_
  refine k_aload_0 C 2 rfl 0 rfl ?_
  refine kg8_7 C 3 rfl qX8_32 0 Q_c0 Q_f0_7 ?_
  obtain ⟨i8, hi, hin, hf⟩ := ixd_some hf
  refine k_iald C 4 rfl 2 Q_c2 hin hi ?_
  refine k_iconst C 5 rfl ci_1 ?_
  refine k_icmp_eq C 6 rfl 20 (by decide) (fun hc => ?_) (fun hc => ?_)
  · replace hf := if_t hf hc
    refine k_aload_0 C 12 rfl 0 rfl ?_
    refine kg8_4 C 13 rfl qX8_19 0 Q_c0 Q_f0_4 ?_
    refine k_aload_0 C 14 rfl 0 rfl ?_
    refine kg8_7 C 15 rfl qX8_32 0 Q_c0 Q_f0_7 ?_
    obtain ⟨i28, hi, hin, hf⟩ := ixd_some hf
    refine k_iald C 16 rfl 3 Q_c3 hin hi ?_
    obtain ⟨x3_29, hx, hf⟩ := bnd_some hf
    refine k_topi hx ?_
    refine k_istore_3 C 17 rfl (by decide) rfl ?_
    refine k_sub (lv2 := [(0, .ref (a 0)), (1, .int p1), (2, .int p2), (3, .int x3_29)]) [1, 2, 3, 0] rfl ?_
    refine k_iload_3 C 18 rfl 3 rfl ?_
    refine k_iload_1 C 19 rfl 1 rfl ?_
    refine k_icmp_lt C 20 rfl 40 (by decide) (fun hc => ?_) (fun hc => ?_)
    · replace hf := if_t hf hc
      exact k_sub [0, 1] rfl (hb40 Q hf)
    · replace hf := if_f hf hc
      refine k_iload_3 C 21 rfl 3 rfl ?_
      refine k_iload_2 C 22 rfl 2 rfl ?_
      refine k_icmp_le C 23 rfl 47 (by decide) (fun hc => ?_) (fun hc => ?_)
      · replace hf := if_t hf hc
        refine k_aload_0 C 29 rfl 0 rfl ?_
        obtain ⟨Q_48, h5, hf⟩ := ob1_some hf
        refine k_callW C 30 (c_X8_step Z.2.1 D cy a Q Q_48 h5) rfl qX8_77 mvX8_step 0 8 Q_c0 rfl rfl rfl (Nat.le_of_ble_eq_true rfl) ⟨Nat.le_of_ble_eq_true rfl, Nat.le_of_ble_eq_true rfl, Nat.le_refl 0, Nat.le_refl 0⟩ ?_
        refine k_iload_3 C 31 rfl 3 rfl ?_
        exact k_iret (wf := (fun u => (wQ cy a u))) hR 32 rfl hf
      · replace hf := if_f hf hc
        exact k_sub [0, 1] rfl (hb40 Q hf)
  · replace hf := if_f hf hc
    refine k_aload_0 C 7 rfl 0 rfl ?_
    refine k_iconst C 8 rfl ci_0 ?_
    obtain ⟨Q_15, h5, hf⟩ := ob1_some hf
    refine k_callW C 9 (c_X8_blame Z.2.1 D cy a Q 0 Q_15 h5) rfl qX8_80 mvX8_blame 0 8 Q_c0 rfl rfl rfl (Nat.le_of_ble_eq_true rfl) ⟨Nat.le_of_ble_eq_true rfl, Nat.le_of_ble_eq_true rfl, Nat.le_refl 0, Nat.le_refl 0⟩ ?_
    refine k_iload_1 C 10 rfl 1 rfl ?_
    exact k_iret (wf := (fun u => (wQ cy a u))) hR 11 rfl hf
set_option maxHeartbeats 1000000 in
set_option maxRecDepth 20000 in
theorem c_X1_canStand (l : Launch) (D : va_G) (cy : Nat → ClassId) (c : Nat → Nat) (b : Nat → Nat) (a : Nat → Nat) (L : Sg) (Q : Sg) (T : Sg) (O : Sg) (E : Sg) (X : Sg) (p1 : Int32) (p2 : Int32) (r : Bool) (hf : f_X1_canStand L T p1 p2 = some r) : Ct l D cy yX1_canStand cX1_canStand 3 (some .boolean) 0 0 0 0 [.ref (c 0), .int p1, .int p2] (wL cy c b a L Q T O E X) (some (.int (bI r))) (wL cy c b a L Q T O E X) := by
  refine Ct_z tX1_canStand hX1_canStand (by decide) (Nat.le_of_ble_eq_true rfl) ?_
  intro Z hZ C hR
  subst hZ
  replace C : Cx Z D cy RX1 tX1_canStand 3 0 0 0 0 := C
  show Wk Z D 3 0 0 (wL cy c b a L Q T O E X) 0 [(0, .ref (c 0)), (1, .int p1), (2, .int p2)] []
  unfold f_X1_canStand at hf
  have hb87 : f_X1_canStand_b87 L T p1 p2 = some r → Wk Z D 3 0 0 (wL cy c b a L Q T O E X) 87 [] [] := by
    intro  hf
    unfold f_X1_canStand_b87 at hf
    refine k_iconst C 46 rfl ci_1 ?_
    refine k_goto C 47 rfl 92 (by decide) ?_
    exact k_zretP hR 49 rfl hf
  have hb18 : ∀ (s0 : Int32) (s1 : Int32), f_X1_canStand_b18 L T p1 p2 s0 s1 = some r → Wk Z D 3 0 0 (wL cy c b a L Q T O E X) 18 [(0, .ref (c 0)), (2, .int p2)] [.int s1, .int s0] := by
    intro s0 s1 hf
    unfold f_X1_canStand_b18 at hf
    refine k_icmp_eq C 10 rfl 23 (by decide) (fun hc => ?_) (fun hc => ?_)
    · replace hf := if_t hf hc
      refine k_aload_0 C 13 rfl 0 rfl ?_
      refine kg1_2 C 14 rfl qX1_24 0 LR_c0 LR_f0_2 ?_
      refine k_sipush C 15 rfl cs_523 ?_
      refine k_iand C 16 rfl ?_
      refine k_iconst C 17 rfl ci_1 ?_
      refine k_iload_2 C 18 rfl 1 rfl ?_
      refine k_ishl C 19 rfl ?_
      refine k_iand C 20 rfl ?_
      refine k_if_eq C 21 rfl 40 (by decide) (fun hc => ?_) (fun hc => ?_)
      · replace hf := if_t hf hc
        refine k_iload_2 C 24 rfl 1 rfl ?_
        refine k_iconst C 25 rfl ci_2 ?_
        refine k_icmp_ne C 26 rfl 66 (by decide) (fun hc => ?_) (fun hc => ?_)
        · replace hf := if_f hf hc
          refine k_iload_2 C 37 rfl 1 rfl ?_
          refine k_bipush C 38 rfl cb_7 ?_
          refine k_icmp_ne C 39 rfl 87 (by decide) (fun hc => ?_) (fun hc => ?_)
          · replace hf := if_f hf hc
            exact k_sub [] rfl (hb87  hf)
          · replace hf := if_t hf hc
            refine k_aload_0 C 40 rfl 0 rfl ?_
            refine kg1_1 C 41 rfl qX1_15 0 LR_c0 LR_f0_1 ?_
            refine kg10_0 C 42 rfl qX1_45 6 LR_c6 LR_f6_0 ?_
            refine kg9_2 C 43 rfl qX1_83 7 LR_c7 LR_f7_2 ?_
            refine k_bipush C 44 rfl cb_6 ?_
            refine k_icmp_ge C 45 rfl 91 (by decide) (fun hc => ?_) (fun hc => ?_)
            · replace hf := if_t hf hc
              refine k_iconst C 48 rfl ci_0 ?_
              exact k_zretP hR 49 rfl hf
            · replace hf := if_f hf hc
              exact k_sub [] rfl (hb87  hf)
        · replace hf := if_t hf hc
          refine k_aload_0 C 27 rfl 0 rfl ?_
          refine kg1_1 C 28 rfl qX1_15 0 LR_c0 LR_f0_1 ?_
          refine kg10_0 C 29 rfl qX1_45 6 LR_c6 LR_f6_0 ?_
          refine kg9_1 C 30 rfl qX1_49 7 LR_c7 LR_f7_1 ?_
          refine k_bipush C 31 rfl cb_6 ?_
          refine k_icmp_ge C 32 rfl 64 (by decide) (fun hc => ?_) (fun hc => ?_)
          · replace hf := if_t hf hc
            refine k_iconst C 35 rfl ci_0 ?_
            exact k_zretP hR 36 rfl hf
          · replace hf := if_f hf hc
            refine k_iconst C 33 rfl ci_1 ?_
            refine k_goto C 34 rfl 65 (by decide) ?_
            exact k_zretP hR 36 rfl hf
      · replace hf := if_f hf hc
        refine k_iconst C 22 rfl ci_0 ?_
        exact k_zretP hR 23 rfl hf
    · replace hf := if_f hf hc
      refine k_iconst C 11 rfl ci_0 ?_
      exact k_zretP hR 12 rfl hf
  have hb9 : ∀ (s0 : Int32), f_X1_canStand_b9 L T p1 p2 s0 = some r → Wk Z D 3 0 0 (wL cy c b a L Q T O E X) 9 [(0, .ref (c 0)), (2, .int p2)] [.int s0] := by
    intro s0 hf
    unfold f_X1_canStand_b9 at hf
    refine k_iload_2 C 5 rfl 1 rfl ?_
    refine k_if_ne C 6 rfl 17 (by decide) (fun hc => ?_) (fun hc => ?_)
    · replace hf := if_f hf hc
      refine k_iconst C 9 rfl ci_0 ?_
      exact k_sub [0, 1] rfl (hb18 s0 0 hf)
    · replace hf := if_t hf hc
      refine k_iconst C 7 rfl ci_1 ?_
      refine k_goto C 8 rfl 18 (by decide) ?_
      exact k_sub [0, 1] rfl (hb18 s0 1 hf)
  refine k_iload_1 C 0 rfl 1 rfl ?_
  refine k_if_ne C 1 rfl 8 (by decide) (fun hc => ?_) (fun hc => ?_)
  · replace hf := if_f hf hc
    refine k_iconst C 4 rfl ci_0 ?_
    exact k_sub [0, 2] rfl (hb9 0 hf)
  · replace hf := if_t hf hc
    refine k_iconst C 2 rfl ci_1 ?_
    refine k_goto C 3 rfl 9 (by decide) ?_
    exact k_sub [0, 2] rfl (hb9 1 hf)
set_option maxHeartbeats 1000000 in
set_option maxRecDepth 20000 in
theorem c_X1_readStop (l : Launch) (D : va_G) (cy : Nat → ClassId) (c : Nat → Nat) (b : Nat → Nat) (a : Nat → Nat) (L : Sg) (Q : Sg) (T : Sg) (O : Sg) (E : Sg) (X : Sg) (Q1 : Sg) (T1 : Sg) (hf : f_X1_readStop Q T = some (Q1, T1)) : Ct l D cy yX1_readStop cX1_readStop 6 none 2 44 0 0 [.ref (c 0)] (wL cy c b a L Q T O E X) none (wL cy c b a L Q1 T1 O E X) := by
  refine Ct_v tX1_readStop hX1_readStop (by decide) (Nat.le_of_ble_eq_true rfl) ?_
  intro Z hZ C hR
  subst hZ
  replace C : Cx Z D cy RX1 tX1_readStop 6 2 44 0 0 := C
  show Wk Z D 6 0 0 (wL cy c b a L Q T O E X) 0 [(0, .ref (c 0))] []
  unfold f_X1_readStop at hf
  have hb54 : ∀ (x2 : Int32) (x3 : Int32) (x4 : Int32) (s0 : Int32) (Q : Sg) (T : Sg), f_X1_readStop_b54 x2 x3 x4 s0 Q T = some (Q1, T1) → Wk Z D 6 0 0 (wL cy c b a L Q T O E X) 54 [(1, .ref (a 1)), (2, .int x2), (3, .int x3), (4, .int x4)] [.int s0] := by
    intro x2 x3 x4 s0 Q T hf
    unfold f_X1_readStop_b54 at hf
    refine k_istore C 29 rfl (by decide) rfl ?_
    refine k_sub (lv2 := [(1, .ref (a 1)), (2, .int x2), (3, .int x3), (4, .int x4), (5, .int s0)]) [1, 2, 3, 4, 0] rfl ?_
    refine k_aload_1 C 30 rfl 0 rfl ?_
    refine kg9_9 C 31 rfl qX1_94 7 LR_c7 LR_f7_9 ?_
    refine k_iload C 32 rfl 3 rfl ?_
    refine k_iload C 33 rfl 4 rfl ?_
    refine k_iload_2 C 34 rfl 1 rfl ?_
    refine k_iadd C 35 rfl ?_
    obtain ⟨i66, hi, hin, hf⟩ := ixd_some hf
    obtain ⟨T_66, hM, hf⟩ := bnd_some hf
    refine k_iast (w2 := (wL cy c b a L Q T_66 O E X)) C 36 rfl 11 LR_c11 hin hi (LR_s11.trans (congrArg (fun z => (wL cy c b a L Q z O E X)) hM)) ?_
    refine k_aload_1 C 37 rfl 0 rfl ?_
    refine kg9_10 C 38 rfl qX1_90 7 LR_c7 LR_f7_10 ?_
    refine k_iload C 39 rfl 3 rfl ?_
    refine k_iload C 40 rfl 4 rfl ?_
    refine k_iload_2 C 41 rfl 1 rfl ?_
    refine k_iadd C 42 rfl ?_
    refine k_iload_3 C 43 rfl 2 rfl ?_
    refine k_iadd C 44 rfl ?_
    obtain ⟨i79, hi, hin, hf⟩ := ixd_some hf
    obtain ⟨T_79, hM, hf⟩ := bnd_some hf
    refine k_iast (w2 := (wL cy c b a L Q T_79 O E X)) C 45 rfl 12 LR_c12 hin hi (LR_s12.trans (congrArg (fun z => (wL cy c b a L Q z O E X)) hM)) ?_
    refine k_aload_1 C 46 rfl 0 rfl ?_
    refine k_dup C 47 rfl rfl ?_
    refine kg9_1 C 48 rfl qX1_49 7 LR_c7 LR_f7_1 ?_
    refine k_iconst C 49 rfl ci_1 ?_
    refine k_iadd C 50 rfl ?_
    obtain ⟨T_87, hM, hf⟩ := bnd_some hf
    refine kp9_1 (w2 := (wL cy c b a L Q T_87 O E X)) C 51 rfl qX1_49 7 LR_c7 (v := ((T_79.1 1) + 1)) LR_n7 (LR_p7_1.trans (congrArg (fun z => (wL cy c b a L Q z O E X)) hM)) ?_
    exact k_vret (wf := (fun u => (wL cy c b a L u.1 u.2 O E X))) hR 52 rfl hf
  refine k_aload_0 C 0 rfl 0 rfl ?_
  refine kg1_1 C 1 rfl qX1_15 0 LR_c0 LR_f0_1 ?_
  refine kg10_0 C 2 rfl qX1_45 6 LR_c6 LR_f6_0 ?_
  refine k_astore_1 C 3 rfl (by decide) rfl ?_
  refine k_sub (lv2 := [(0, .ref (c 0)), (1, .ref (a 1))]) [1, 0] rfl ?_
  refine k_aload_0 C 4 rfl 0 rfl ?_
  refine kg1_0 C 5 rfl qX1_9 0 LR_c0 LR_f0_0 ?_
  refine k_iconst C 6 rfl ci_1 ?_
  refine k_bipush C 7 rfl cb_99 ?_
  obtain ⟨r15, Q_15, h5, hf⟩ := ob2_some hf
  refine k_callV (X := (wL cy c b a L Q T O E X).take 1) (Y := (wL cy c b a L Q T O E X).drop 6) (w2 := (wL cy c b a L Q_15 T O E X)) C 8 (c_X8_takeNumber Z.2.1 D cy b Q 1 99 r15 Q_15 h5) rfl qX1_86 mvX8_takeNumber 0 8 Q_c0 rfl rfl rfl rfl rfl (Nat.le_of_ble_eq_true rfl) ⟨Nat.le_of_ble_eq_true rfl, Nat.le_of_ble_eq_true rfl, Nat.le_refl 0, Nat.le_refl 0⟩ ?_
  refine k_istore_2 C 9 rfl (by decide) rfl ?_
  refine k_sub (lv2 := [(0, .ref (c 0)), (1, .ref (a 1)), (2, .int r15)]) [1, 2, 0] rfl ?_
  refine k_aload_0 C 10 rfl 0 rfl ?_
  refine kg1_0 C 11 rfl qX1_9 0 LR_c0 LR_f0_0 ?_
  refine k_iconst C 12 rfl ci_1 ?_
  refine k_bipush C 13 rfl cb_60 ?_
  obtain ⟨r26, Q_26, h5, hf⟩ := ob2_some hf
  refine k_callV (X := (wL cy c b a L Q_15 T O E X).take 1) (Y := (wL cy c b a L Q_15 T O E X).drop 6) (w2 := (wL cy c b a L Q_26 T O E X)) C 14 (c_X8_takeNumber Z.2.1 D cy b Q_15 1 60 r26 Q_26 h5) rfl qX1_86 mvX8_takeNumber 0 8 Q_c0 rfl rfl rfl rfl rfl (Nat.le_of_ble_eq_true rfl) ⟨Nat.le_of_ble_eq_true rfl, Nat.le_of_ble_eq_true rfl, Nat.le_refl 0, Nat.le_refl 0⟩ ?_
  refine k_istore_3 C 15 rfl (by decide) rfl ?_
  refine k_sub (lv2 := [(0, .ref (c 0)), (1, .ref (a 1)), (2, .int r15), (3, .int r26)]) [1, 2, 3, 0] rfl ?_
  refine k_aload_1 C 16 rfl 1 rfl ?_
  refine kg9_1 C 17 rfl qX1_49 7 LR_c7 LR_f7_1 ?_
  obtain ⟨x4_34, hx, hf⟩ := bnd_some hf
  refine k_topi hx ?_
  refine k_istore C 18 rfl (by decide) rfl ?_
  refine k_sub (lv2 := [(0, .ref (c 0)), (1, .ref (a 1)), (2, .int r15), (3, .int r26), (4, .int x4_34)]) [1, 2, 3, 4, 0] rfl ?_
  refine k_iload C 19 rfl 4 rfl ?_
  refine k_if_ne C 20 rfl 45 (by decide) (fun hc => ?_) (fun hc => ?_)
  · replace hf := if_f hf hc
    refine k_aload_1 C 23 rfl 1 rfl ?_
    refine kg9_10 C 24 rfl qX1_90 7 LR_c7 LR_f7_10 ?_
    refine k_iload C 25 rfl 4 rfl ?_
    refine k_iconst C 26 rfl ci_1 ?_
    refine k_isub C 27 rfl ?_
    obtain ⟨i53, hi, hin, hf⟩ := ixd_some hf
    refine k_iald C 28 rfl 12 LR_c12 hin hi ?_
    exact k_sub [1, 2, 3, 4] rfl (hb54 r15 r26 x4_34 (T.2.1 10 i53) Q_26 T hf)
  · replace hf := if_t hf hc
    refine k_iconst C 21 rfl ci_0 ?_
    refine k_goto C 22 rfl 54 (by decide) ?_
    exact k_sub [1, 2, 3, 4] rfl (hb54 r15 r26 x4_34 0 Q_26 T hf)
set_option maxHeartbeats 1000000 in
set_option maxRecDepth 20000 in
theorem c_X1_readRider (l : Launch) (D : va_G) (cy : Nat → ClassId) (c : Nat → Nat) (b : Nat → Nat) (a : Nat → Nat) (L : Sg) (Q : Sg) (T : Sg) (O : Sg) (E : Sg) (X : Sg) (Q1 : Sg) (T1 : Sg) (O1 : Sg) (hf : f_X1_readRider Q T O = some (Q1, T1, O1)) : Ct l D cy yX1_readRider cX1_readRider 3 none 2 44 0 0 [.ref (c 0)] (wL cy c b a L Q T O E X) none (wL cy c b a L Q1 T1 O1 E X) := by
  refine Ct_v tX1_readRider hX1_readRider (by decide) (Nat.le_of_ble_eq_true rfl) ?_
  intro Z hZ C hR
  subst hZ
  replace C : Cx Z D cy RX1 tX1_readRider 3 2 44 0 0 := C
  show Wk Z D 3 0 0 (wL cy c b a L Q T O E X) 0 [(0, .ref (c 0))] []
  unfold f_X1_readRider at hf
  refine k_aload_0 C 0 rfl 0 rfl ?_
  refine kg1_1 C 1 rfl qX1_15 0 LR_c0 LR_f0_1 ?_
  refine kg10_0 C 2 rfl qX1_45 6 LR_c6 LR_f6_0 ?_
  refine k_astore_1 C 3 rfl (by decide) rfl ?_
  refine k_sub (lv2 := [(0, .ref (c 0)), (1, .ref (a 1))]) [1, 0] rfl ?_
  refine k_aload_1 C 4 rfl 1 rfl ?_
  refine kg9_2 C 5 rfl qX1_83 7 LR_c7 LR_f7_2 ?_
  obtain ⟨x2_12, hx, hf⟩ := bnd_some hf
  refine k_topi hx ?_
  refine k_istore_2 C 6 rfl (by decide) rfl ?_
  refine k_sub (lv2 := [(0, .ref (c 0)), (1, .ref (a 1)), (2, .int x2_12)]) [1, 2, 0] rfl ?_
  refine k_aload_0 C 7 rfl 0 rfl ?_
  refine kg1_1 C 8 rfl qX1_15 0 LR_c0 LR_f0_1 ?_
  refine kg10_1 C 9 rfl qX1_97 6 LR_c6 LR_f6_1 ?_
  refine kg2_2 C 10 rfl qX1_101 19 LR_c19 LR_f19_2 ?_
  refine k_iload_2 C 11 rfl 2 rfl ?_
  refine k_aload_0 C 12 rfl 0 rfl ?_
  refine kg1_0 C 13 rfl qX1_9 0 LR_c0 LR_f0_0 ?_
  refine k_iconst C 14 rfl ci_0 ?_
  refine k_aload_1 C 15 rfl 1 rfl ?_
  refine kg9_0 C 16 rfl qX1_106 7 LR_c7 LR_f7_0 ?_
  refine k_iconst C 17 rfl ci_1 ?_
  refine k_isub C 18 rfl ?_
  obtain ⟨r35, Q_35, h5, hf⟩ := ob2_some hf
  refine k_callV (X := (wL cy c b a L Q T O E X).take 1) (Y := (wL cy c b a L Q T O E X).drop 6) (w2 := (wL cy c b a L Q_35 T O E X)) C 19 (c_X8_takeNumber Z.2.1 D cy b Q 0 ((T.1 0) - 1) r35 Q_35 h5) rfl qX1_86 mvX8_takeNumber 0 8 Q_c0 rfl rfl rfl rfl rfl (Nat.le_of_ble_eq_true rfl) ⟨Nat.le_of_ble_eq_true rfl, Nat.le_of_ble_eq_true rfl, Nat.le_refl 0, Nat.le_refl 0⟩ ?_
  obtain ⟨i38, hi, hin, hf⟩ := ixd_some hf
  obtain ⟨O_38, hM, hf⟩ := bnd_some hf
  refine k_iast (w2 := (wL cy c b a L Q_35 T O_38 E X)) C 20 rfl 20 LR_c20 hin hi (LR_s20.trans (congrArg (fun z => (wL cy c b a L Q_35 T z E X)) hM)) ?_
  refine k_aload_1 C 21 rfl 1 rfl ?_
  refine kg9_11 C 22 rfl qX1_109 7 LR_c7 LR_f7_11 ?_
  refine k_iload_2 C 23 rfl 2 rfl ?_
  refine k_aload_0 C 24 rfl 0 rfl ?_
  refine kg1_0 C 25 rfl qX1_9 0 LR_c0 LR_f0_0 ?_
  refine k_iconst C 26 rfl ci_0 ?_
  refine k_iconst C 27 rfl ci_3 ?_
  obtain ⟨r50, Q_50, h5, hf⟩ := ob2_some hf
  refine k_callV (X := (wL cy c b a L Q_35 T O_38 E X).take 1) (Y := (wL cy c b a L Q_35 T O_38 E X).drop 6) (w2 := (wL cy c b a L Q_50 T O_38 E X)) C 28 (c_X8_takeNumber Z.2.1 D cy b Q_35 0 3 r50 Q_50 h5) rfl qX1_86 mvX8_takeNumber 0 8 Q_c0 rfl rfl rfl rfl rfl (Nat.le_of_ble_eq_true rfl) ⟨Nat.le_of_ble_eq_true rfl, Nat.le_of_ble_eq_true rfl, Nat.le_refl 0, Nat.le_refl 0⟩ ?_
  obtain ⟨i53, hi, hin, hf⟩ := ixd_some hf
  obtain ⟨T_53, hM, hf⟩ := bnd_some hf
  refine k_iast (w2 := (wL cy c b a L Q_50 T_53 O_38 E X)) C 29 rfl 13 LR_c13 hin hi (LR_s13.trans (congrArg (fun z => (wL cy c b a L Q_50 z O_38 E X)) hM)) ?_
  refine k_aload_1 C 30 rfl 1 rfl ?_
  refine kg9_12 C 31 rfl qX1_112 7 LR_c7 LR_f7_12 ?_
  refine k_iload_2 C 32 rfl 2 rfl ?_
  refine k_aload_0 C 33 rfl 0 rfl ?_
  refine kg1_0 C 34 rfl qX1_9 0 LR_c0 LR_f0_0 ?_
  refine k_iconst C 35 rfl ci_1 ?_
  refine k_bipush C 36 rfl cb_20 ?_
  obtain ⟨r66, Q_66, h5, hf⟩ := ob2_some hf
  refine k_callV (X := (wL cy c b a L Q_50 T_53 O_38 E X).take 1) (Y := (wL cy c b a L Q_50 T_53 O_38 E X).drop 6) (w2 := (wL cy c b a L Q_66 T_53 O_38 E X)) C 37 (c_X8_takeNumber Z.2.1 D cy b Q_50 1 20 r66 Q_66 h5) rfl qX1_86 mvX8_takeNumber 0 8 Q_c0 rfl rfl rfl rfl rfl (Nat.le_of_ble_eq_true rfl) ⟨Nat.le_of_ble_eq_true rfl, Nat.le_of_ble_eq_true rfl, Nat.le_refl 0, Nat.le_refl 0⟩ ?_
  obtain ⟨i69, hi, hin, hf⟩ := ixd_some hf
  obtain ⟨T_69, hM, hf⟩ := bnd_some hf
  refine k_iast (w2 := (wL cy c b a L Q_66 T_69 O_38 E X)) C 38 rfl 14 LR_c14 hin hi (LR_s14.trans (congrArg (fun z => (wL cy c b a L Q_66 z O_38 E X)) hM)) ?_
  refine k_aload_1 C 39 rfl 1 rfl ?_
  refine kg9_13 C 40 rfl qX1_115 7 LR_c7 LR_f7_13 ?_
  refine k_iload_2 C 41 rfl 2 rfl ?_
  refine k_aload_0 C 42 rfl 0 rfl ?_
  refine kg1_0 C 43 rfl qX1_9 0 LR_c0 LR_f0_0 ?_
  refine k_iconst C 44 rfl ci_0 ?_
  refine k_iconst C 45 rfl ci_3 ?_
  obtain ⟨r81, Q_81, h5, hf⟩ := ob2_some hf
  refine k_callV (X := (wL cy c b a L Q_66 T_69 O_38 E X).take 1) (Y := (wL cy c b a L Q_66 T_69 O_38 E X).drop 6) (w2 := (wL cy c b a L Q_81 T_69 O_38 E X)) C 46 (c_X8_takeNumber Z.2.1 D cy b Q_66 0 3 r81 Q_81 h5) rfl qX1_86 mvX8_takeNumber 0 8 Q_c0 rfl rfl rfl rfl rfl (Nat.le_of_ble_eq_true rfl) ⟨Nat.le_of_ble_eq_true rfl, Nat.le_of_ble_eq_true rfl, Nat.le_refl 0, Nat.le_refl 0⟩ ?_
  obtain ⟨i84, hi, hin, hf⟩ := ixd_some hf
  obtain ⟨T_84, hM, hf⟩ := bnd_some hf
  refine k_iast (w2 := (wL cy c b a L Q_81 T_84 O_38 E X)) C 47 rfl 15 LR_c15 hin hi (LR_s15.trans (congrArg (fun z => (wL cy c b a L Q_81 z O_38 E X)) hM)) ?_
  refine k_aload_1 C 48 rfl 1 rfl ?_
  refine k_dup C 49 rfl rfl ?_
  refine kg9_2 C 50 rfl qX1_83 7 LR_c7 LR_f7_2 ?_
  refine k_iconst C 51 rfl ci_1 ?_
  refine k_iadd C 52 rfl ?_
  obtain ⟨T_92, hM, hf⟩ := bnd_some hf
  refine kp9_2 (w2 := (wL cy c b a L Q_81 T_92 O_38 E X)) C 53 rfl qX1_83 7 LR_c7 (v := ((T_84.1 2) + 1)) LR_n7 (LR_p7_2.trans (congrArg (fun z => (wL cy c b a L Q_81 z O_38 E X)) hM)) ?_
  exact k_vret (wf := (fun u => (wL cy c b a L u.1 u.2.1 u.2.2 E X))) hR 54 rfl hf
set_option maxHeartbeats 1000000 in
set_option maxRecDepth 20000 in
theorem c_X1_readOther (l : Launch) (D : va_G) (cy : Nat → ClassId) (c : Nat → Nat) (b : Nat → Nat) (a : Nat → Nat) (L : Sg) (Q : Sg) (T : Sg) (O : Sg) (E : Sg) (X : Sg) (p1 : Int32) (Q1 : Sg) (T1 : Sg) (O1 : Sg) (hf : f_X1_readOther Q T O p1 = some (Q1, T1, O1)) : Ct l D cy yX1_readOther cX1_readOther 6 none 2 44 0 0 [.ref (c 0), .int p1] (wL cy c b a L Q T O E X) none (wL cy c b a L Q1 T1 O1 E X) := by
  refine Ct_v tX1_readOther hX1_readOther (by decide) (Nat.le_of_ble_eq_true rfl) ?_
  intro Z hZ C hR
  subst hZ
  replace C : Cx Z D cy RX1 tX1_readOther 6 2 44 0 0 := C
  show Wk Z D 6 0 0 (wL cy c b a L Q T O E X) 0 [(0, .ref (c 0)), (1, .int p1)] []
  unfold f_X1_readOther at hf
  have hq79 : ∀ (k79 : Int32 → Sg → Sg → Sg → Option (Sg × Sg × Sg)), (∀ (x3 : Int32) (Q : Sg) (T : Sg) (O : Sg), k79 x3 Q T O = some (Q1, T1, O1) → Wk Z D 6 0 0 (wL cy c b a L Q T O E X) 79 [(0, .ref (c 0)), (2, .ref (a 1)), (3, .int x3)] []) → ∀ (x3 : Int32) (Q : Sg) (T : Sg) (O : Sg), f_X1_readOther_b79 p1 k79 x3 Q T O = some (Q1, T1, O1) → Wk Z D 6 0 0 (wL cy c b a L Q T O E X) 79 [(0, .ref (c 0)), (2, .ref (a 1)), (3, .int x3)] [] := by
    intro k79 hk79 x3 Q T O hf
    unfold f_X1_readOther_b79 at hf
    refine k_iload_3 C 16 rfl 2 rfl ?_
    refine k_aload_2 C 17 rfl 1 rfl ?_
    refine kg9_0 C 18 rfl qX1_106 7 LR_c7 LR_f7_0 ?_
    refine k_icmp_ge C 19 rfl 108 (by decide) (fun hc => ?_) (fun hc => ?_)
    · replace hf := if_t hf hc
      refine k_goto C 31 rfl 288 (by decide) ?_
      exact k_vret (wf := (fun u => (wL cy c b a L u.1 u.2.1 u.2.2 E X))) hR 125 rfl hf
    · replace hf := if_f hf hc
      refine k_aload_2 C 20 rfl 1 rfl ?_
      refine kg9_6 C 21 rfl qX1_118 7 LR_c7 LR_f7_6 ?_
      refine k_iload_3 C 22 rfl 2 rfl ?_
      refine k_aload_0 C 23 rfl 0 rfl ?_
      refine kg1_0 C 24 rfl qX1_9 0 LR_c0 LR_f0_0 ?_
      refine k_iconst C 25 rfl ci_0 ?_
      refine k_iconst C 26 rfl ci_3 ?_
      obtain ⟨r98, Q_98, h5, hf⟩ := ob2_some hf
      refine k_callV (X := (wL cy c b a L Q T O E X).take 1) (Y := (wL cy c b a L Q T O E X).drop 6) (w2 := (wL cy c b a L Q_98 T O E X)) C 27 (c_X8_takeNumber Z.2.1 D cy b Q 0 3 r98 Q_98 h5) rfl qX1_86 mvX8_takeNumber 0 8 Q_c0 rfl rfl rfl rfl rfl (Nat.le_of_ble_eq_true rfl) ⟨Nat.le_of_ble_eq_true rfl, Nat.le_of_ble_eq_true rfl, Nat.le_refl 0, Nat.le_refl 0⟩ ?_
      obtain ⟨i101, hi, hin, hf⟩ := ixd_some hf
      obtain ⟨T_101, hM, hf⟩ := bnd_some hf
      refine k_iast (w2 := (wL cy c b a L Q_98 T_101 O E X)) C 28 rfl 8 LR_c8 hin hi (LR_s8.trans (congrArg (fun z => (wL cy c b a L Q_98 z O E X)) hM)) ?_
      obtain ⟨x3_102, hx, hf⟩ := bnd_some hf
      refine k_iinc C 29 rfl 2 rfl ((cn_1 _).trans hx) (by decide) rfl ?_
      refine k_sub (lv2 := [(0, .ref (c 0)), (2, .ref (a 1)), (3, .int x3_102)]) [1, 2, 0] rfl ?_
      refine k_goto C 30 rfl 79 (by decide) ?_
      exact k_sub [0, 1, 2] rfl (hk79 x3_102 Q_98 T_101 O hf)
  have hb79 := flW4 hq79
  refine k_aload_0 C 0 rfl 0 rfl ?_
  refine kg1_1 C 1 rfl qX1_15 0 LR_c0 LR_f0_1 ?_
  refine kg10_0 C 2 rfl qX1_45 6 LR_c6 LR_f6_0 ?_
  refine k_astore_2 C 3 rfl (by decide) rfl ?_
  refine k_sub (lv2 := [(0, .ref (c 0)), (1, .int p1), (2, .ref (a 1))]) [1, 2, 0] rfl ?_
  refine k_iload_1 C 4 rfl 1 rfl ?_
  obtain ⟨sw9, hx, hf⟩ := bnd_some hf
  refine k_topi hx ?_
  clear hx
  by_cases hs0 : sw9 = 0
  · subst hs0
    replace hf := if_t hf rfl
    refine k_tabIn C 5 rfl 60 (by decide) (by decide) rfl (by decide) ?_
    refine k_aload_2 C 6 rfl 2 rfl ?_
    refine k_aload_0 C 7 rfl 0 rfl ?_
    refine kg1_0 C 8 rfl qX1_9 0 LR_c0 LR_f0_0 ?_
    refine k_iconst C 9 rfl ci_2 ?_
    refine k_bipush C 10 rfl cb_8 ?_
    obtain ⟨r68, Q_68, h5, hf⟩ := ob2_some hf
    refine k_callV (X := (wL cy c b a L Q T O E X).take 1) (Y := (wL cy c b a L Q T O E X).drop 6) (w2 := (wL cy c b a L Q_68 T O E X)) C 11 (c_X8_takeNumber Z.2.1 D cy b Q 2 8 r68 Q_68 h5) rfl qX1_86 mvX8_takeNumber 0 8 Q_c0 rfl rfl rfl rfl rfl (Nat.le_of_ble_eq_true rfl) ⟨Nat.le_of_ble_eq_true rfl, Nat.le_of_ble_eq_true rfl, Nat.le_refl 0, Nat.le_refl 0⟩ ?_
    obtain ⟨T_71, hM, hf⟩ := bnd_some hf
    refine kp9_0 (w2 := (wL cy c b a L Q_68 T_71 O E X)) C 12 rfl qX1_106 7 LR_c7 (v := r68) LR_n7 (LR_p7_0.trans (congrArg (fun z => (wL cy c b a L Q_68 z O E X)) hM)) ?_
    refine k_goto C 13 rfl 288 (by decide) ?_
    exact k_vret (wf := (fun u => (wL cy c b a L u.1 u.2.1 u.2.2 E X))) hR 125 rfl hf
  by_cases hs1 : sw9 = 1
  · subst hs1
    replace hf := if_f hf (by decide)
    replace hf := if_t hf rfl
    refine k_tabIn C 5 rfl 77 (by decide) (by decide) rfl (by decide) ?_
    refine k_iconst C 14 rfl ci_0 ?_
    refine k_istore_3 C 15 rfl (by decide) rfl ?_
    refine k_sub (lv2 := [(0, .ref (c 0)), (1, .int p1), (2, .ref (a 1)), (3, .int 0)]) [1, 2, 3, 0] rfl ?_
    exact k_sub [0, 2, 3] rfl (hb79 FU 0 Q T O hf)
  by_cases hs2 : sw9 = 2
  · subst hs2
    replace hf := if_f hf (by decide)
    replace hf := if_f hf (by decide)
    replace hf := if_f hf (by decide)
    replace hf := if_f hf (by decide)
    replace hf := if_f hf (by decide)
    replace hf := if_f hf (by decide)
    replace hf := if_f hf (by decide)
    refine k_tabIn C 5 rfl 274 (by decide) (by decide) rfl (by decide) ?_
    refine k_aload_2 C 118 rfl 2 rfl ?_
    refine k_aload_0 C 119 rfl 0 rfl ?_
    refine kg1_0 C 120 rfl qX1_9 0 LR_c0 LR_f0_0 ?_
    refine k_iconst C 121 rfl ci_1 ?_
    refine k_bipush C 122 rfl cb_20 ?_
    obtain ⟨r282, Q_282, h5, hf⟩ := ob2_some hf
    refine k_callV (X := (wL cy c b a L Q T O E X).take 1) (Y := (wL cy c b a L Q T O E X).drop 6) (w2 := (wL cy c b a L Q_282 T O E X)) C 123 (c_X8_takeNumber Z.2.1 D cy b Q 1 20 r282 Q_282 h5) rfl qX1_86 mvX8_takeNumber 0 8 Q_c0 rfl rfl rfl rfl rfl (Nat.le_of_ble_eq_true rfl) ⟨Nat.le_of_ble_eq_true rfl, Nat.le_of_ble_eq_true rfl, Nat.le_refl 0, Nat.le_refl 0⟩ ?_
    obtain ⟨T_285, hM, hf⟩ := bnd_some hf
    refine kp9_5 (w2 := (wL cy c b a L Q_282 T_285 O E X)) C 124 rfl qX1_136 7 LR_c7 (v := r282) LR_n7 (LR_p7_5.trans (congrArg (fun z => (wL cy c b a L Q_282 z O E X)) hM)) ?_
    exact k_vret (wf := (fun u => (wL cy c b a L u.1 u.2.1 u.2.2 E X))) hR 125 rfl hf
  by_cases hs3 : sw9 = 3
  · subst hs3
    replace hf := if_f hf (by decide)
    replace hf := if_f hf (by decide)
    replace hf := if_t hf rfl
    refine k_tabIn C 5 rfl 111 (by decide) (by decide) rfl (by decide) ?_
    refine k_aload_2 C 32 rfl 2 rfl ?_
    refine k_aload_0 C 33 rfl 0 rfl ?_
    refine kg1_0 C 34 rfl qX1_9 0 LR_c0 LR_f0_0 ?_
    refine k_iconst C 35 rfl ci_0 ?_
    refine k_aload_2 C 36 rfl 2 rfl ?_
    refine kg9_1 C 37 rfl qX1_49 7 LR_c7 LR_f7_1 ?_
    refine k_iconst C 38 rfl ci_1 ?_
    refine k_isub C 39 rfl ?_
    obtain ⟨r123, Q_123, h5, hf⟩ := ob2_some hf
    refine k_callV (X := (wL cy c b a L Q T O E X).take 1) (Y := (wL cy c b a L Q T O E X).drop 6) (w2 := (wL cy c b a L Q_123 T O E X)) C 40 (c_X8_takeNumber Z.2.1 D cy b Q 0 ((T.1 1) - 1) r123 Q_123 h5) rfl qX1_86 mvX8_takeNumber 0 8 Q_c0 rfl rfl rfl rfl rfl (Nat.le_of_ble_eq_true rfl) ⟨Nat.le_of_ble_eq_true rfl, Nat.le_of_ble_eq_true rfl, Nat.le_refl 0, Nat.le_refl 0⟩ ?_
    obtain ⟨T_126, hM, hf⟩ := bnd_some hf
    refine kp9_3 (w2 := (wL cy c b a L Q_123 T_126 O E X)) C 41 rfl qX1_121 7 LR_c7 (v := r123) LR_n7 (LR_p7_3.trans (congrArg (fun z => (wL cy c b a L Q_123 z O E X)) hM)) ?_
    refine k_goto C 42 rfl 288 (by decide) ?_
    exact k_vret (wf := (fun u => (wL cy c b a L u.1 u.2.1 u.2.2 E X))) hR 125 rfl hf
  by_cases hs4 : sw9 = 4
  · subst hs4
    replace hf := if_f hf (by decide)
    replace hf := if_f hf (by decide)
    replace hf := if_f hf (by decide)
    replace hf := if_t hf rfl
    refine k_tabIn C 5 rfl 132 (by decide) (by decide) rfl (by decide) ?_
    refine k_aload_0 C 43 rfl 0 rfl ?_
    refine kg1_1 C 44 rfl qX1_15 0 LR_c0 LR_f0_1 ?_
    refine kg10_1 C 45 rfl qX1_97 6 LR_c6 LR_f6_1 ?_
    refine k_dup C 46 rfl rfl ?_
    refine kg2_1 C 47 rfl qX1_124 19 LR_c19 LR_f19_1 ?_
    refine k_iconst C 48 rfl ci_1 ?_
    refine k_aload_0 C 49 rfl 0 rfl ?_
    refine kg1_0 C 50 rfl qX1_9 0 LR_c0 LR_f0_0 ?_
    refine k_iconst C 51 rfl ci_0 ?_
    refine k_aload_2 C 52 rfl 2 rfl ?_
    refine kg9_0 C 53 rfl qX1_106 7 LR_c7 LR_f7_0 ?_
    refine k_iconst C 54 rfl ci_2 ?_
    refine k_isub C 55 rfl ?_
    obtain ⟨r155, Q_155, h5, hf⟩ := ob2_some hf
    refine k_callV (X := (wL cy c b a L Q T O E X).take 1) (Y := (wL cy c b a L Q T O E X).drop 6) (w2 := (wL cy c b a L Q_155 T O E X)) C 56 (c_X8_takeNumber Z.2.1 D cy b Q 0 ((T.1 0) - 2) r155 Q_155 h5) rfl qX1_86 mvX8_takeNumber 0 8 Q_c0 rfl rfl rfl rfl rfl (Nat.le_of_ble_eq_true rfl) ⟨Nat.le_of_ble_eq_true rfl, Nat.le_of_ble_eq_true rfl, Nat.le_refl 0, Nat.le_refl 0⟩ ?_
    refine k_ishl C 57 rfl ?_
    refine k_ior C 58 rfl ?_
    obtain ⟨O_160, hM, hf⟩ := bnd_some hf
    refine kp2_1 (w2 := (wL cy c b a L Q_155 T O_160 E X)) C 59 rfl qX1_124 19 LR_c19 (v := ((O.1 1) ||| ((1 : Int32) <<< (r155 &&& 31)))) LR_n19 (LR_p19_1.trans (congrArg (fun z => (wL cy c b a L Q_155 T z E X)) hM)) ?_
    refine k_goto C 60 rfl 288 (by decide) ?_
    exact k_vret (wf := (fun u => (wL cy c b a L u.1 u.2.1 u.2.2 E X))) hR 125 rfl hf
  by_cases hs5 : sw9 = 5
  · subst hs5
    replace hf := if_f hf (by decide)
    replace hf := if_f hf (by decide)
    replace hf := if_f hf (by decide)
    replace hf := if_f hf (by decide)
    replace hf := if_t hf rfl
    refine k_tabIn C 5 rfl 166 (by decide) (by decide) rfl (by decide) ?_
    refine k_aload_0 C 61 rfl 0 rfl ?_
    refine kg1_0 C 62 rfl qX1_9 0 LR_c0 LR_f0_0 ?_
    refine k_iconst C 63 rfl ci_0 ?_
    refine k_aload_2 C 64 rfl 2 rfl ?_
    refine kg9_0 C 65 rfl qX1_106 7 LR_c7 LR_f7_0 ?_
    refine k_iconst C 66 rfl ci_2 ?_
    refine k_isub C 67 rfl ?_
    obtain ⟨r177, Q_177, h5, hf⟩ := ob2_some hf
    refine k_callV (X := (wL cy c b a L Q T O E X).take 1) (Y := (wL cy c b a L Q T O E X).drop 6) (w2 := (wL cy c b a L Q_177 T O E X)) C 68 (c_X8_takeNumber Z.2.1 D cy b Q 0 ((T.1 0) - 2) r177 Q_177 h5) rfl qX1_86 mvX8_takeNumber 0 8 Q_c0 rfl rfl rfl rfl rfl (Nat.le_of_ble_eq_true rfl) ⟨Nat.le_of_ble_eq_true rfl, Nat.le_of_ble_eq_true rfl, Nat.le_refl 0, Nat.le_refl 0⟩ ?_
    refine k_istore_3 C 69 rfl (by decide) rfl ?_
    refine k_sub (lv2 := [(0, .ref (c 0)), (1, .int p1), (2, .ref (a 1)), (3, .int r177)]) [1, 2, 3, 0] rfl ?_
    refine k_aload_2 C 70 rfl 2 rfl ?_
    refine kg9_8 C 71 rfl qX1_127 7 LR_c7 LR_f7_8 ?_
    refine k_iload_3 C 72 rfl 3 rfl ?_
    refine k_aload_0 C 73 rfl 0 rfl ?_
    refine kg1_0 C 74 rfl qX1_9 0 LR_c0 LR_f0_0 ?_
    refine k_iconst C 75 rfl ci_1 ?_
    refine k_sipush C 76 rfl cs_999 ?_
    obtain ⟨r194, Q_194, h5, hf⟩ := ob2_some hf
    refine k_callV (X := (wL cy c b a L Q_177 T O E X).take 1) (Y := (wL cy c b a L Q_177 T O E X).drop 6) (w2 := (wL cy c b a L Q_194 T O E X)) C 77 (c_X8_takeNumber Z.2.1 D cy b Q_177 1 999 r194 Q_194 h5) rfl qX1_86 mvX8_takeNumber 0 8 Q_c0 rfl rfl rfl rfl rfl (Nat.le_of_ble_eq_true rfl) ⟨Nat.le_of_ble_eq_true rfl, Nat.le_of_ble_eq_true rfl, Nat.le_refl 0, Nat.le_refl 0⟩ ?_
    obtain ⟨i197, hi, hin, hf⟩ := ixd_some hf
    obtain ⟨T_197, hM, hf⟩ := bnd_some hf
    refine k_iast (w2 := (wL cy c b a L Q_194 T_197 O E X)) C 78 rfl 10 LR_c10 hin hi (LR_s10.trans (congrArg (fun z => (wL cy c b a L Q_194 z O E X)) hM)) ?_
    refine k_goto C 79 rfl 288 (by decide) ?_
    exact k_vret (wf := (fun u => (wL cy c b a L u.1 u.2.1 u.2.2 E X))) hR 125 rfl hf
  by_cases hs6 : sw9 = 6
  · subst hs6
    replace hf := if_f hf (by decide)
    replace hf := if_f hf (by decide)
    replace hf := if_f hf (by decide)
    replace hf := if_f hf (by decide)
    replace hf := if_f hf (by decide)
    replace hf := if_t hf rfl
    refine k_tabIn C 5 rfl 201 (by decide) (by decide) rfl (by decide) ?_
    refine k_aload_0 C 80 rfl 0 rfl ?_
    refine kg1_0 C 81 rfl qX1_9 0 LR_c0 LR_f0_0 ?_
    refine k_iconst C 82 rfl ci_0 ?_
    refine k_aload_2 C 83 rfl 2 rfl ?_
    refine kg9_0 C 84 rfl qX1_106 7 LR_c7 LR_f7_0 ?_
    refine k_iconst C 85 rfl ci_1 ?_
    refine k_isub C 86 rfl ?_
    obtain ⟨r212, Q_212, h5, hf⟩ := ob2_some hf
    refine k_callV (X := (wL cy c b a L Q T O E X).take 1) (Y := (wL cy c b a L Q T O E X).drop 6) (w2 := (wL cy c b a L Q_212 T O E X)) C 87 (c_X8_takeNumber Z.2.1 D cy b Q 0 ((T.1 0) - 1) r212 Q_212 h5) rfl qX1_86 mvX8_takeNumber 0 8 Q_c0 rfl rfl rfl rfl rfl (Nat.le_of_ble_eq_true rfl) ⟨Nat.le_of_ble_eq_true rfl, Nat.le_of_ble_eq_true rfl, Nat.le_refl 0, Nat.le_refl 0⟩ ?_
    refine k_istore C 88 rfl (by decide) rfl ?_
    refine k_sub (lv2 := [(0, .ref (c 0)), (1, .int p1), (2, .ref (a 1)), (4, .int r212)]) [1, 2, 3, 0] rfl ?_
    refine k_aload_2 C 89 rfl 2 rfl ?_
    refine kg9_7 C 90 rfl qX1_130 7 LR_c7 LR_f7_7 ?_
    refine k_iload C 91 rfl 3 rfl ?_
    refine k_aload_0 C 92 rfl 0 rfl ?_
    refine kg1_0 C 93 rfl qX1_9 0 LR_c0 LR_f0_0 ?_
    refine k_iconst C 94 rfl ci_0 ?_
    refine k_bipush C 95 rfl cb_9 ?_
    obtain ⟨r230, Q_230, h5, hf⟩ := ob2_some hf
    refine k_callV (X := (wL cy c b a L Q_212 T O E X).take 1) (Y := (wL cy c b a L Q_212 T O E X).drop 6) (w2 := (wL cy c b a L Q_230 T O E X)) C 96 (c_X8_takeNumber Z.2.1 D cy b Q_212 0 9 r230 Q_230 h5) rfl qX1_86 mvX8_takeNumber 0 8 Q_c0 rfl rfl rfl rfl rfl (Nat.le_of_ble_eq_true rfl) ⟨Nat.le_of_ble_eq_true rfl, Nat.le_of_ble_eq_true rfl, Nat.le_refl 0, Nat.le_refl 0⟩ ?_
    obtain ⟨i233, hi, hin, hf⟩ := ixd_some hf
    obtain ⟨T_233, hM, hf⟩ := bnd_some hf
    refine k_iast (w2 := (wL cy c b a L Q_230 T_233 O E X)) C 97 rfl 9 LR_c9 hin hi (LR_s9.trans (congrArg (fun z => (wL cy c b a L Q_230 z O E X)) hM)) ?_
    refine k_goto C 98 rfl 288 (by decide) ?_
    exact k_vret (wf := (fun u => (wL cy c b a L u.1 u.2.1 u.2.2 E X))) hR 125 rfl hf
  by_cases hs7 : sw9 = 7
  · subst hs7
    replace hf := if_f hf (by decide)
    replace hf := if_f hf (by decide)
    replace hf := if_f hf (by decide)
    replace hf := if_f hf (by decide)
    replace hf := if_f hf (by decide)
    replace hf := if_f hf (by decide)
    replace hf := if_f hf (by decide)
    refine k_tabIn C 5 rfl 274 (by decide) (by decide) rfl (by decide) ?_
    refine k_aload_2 C 118 rfl 2 rfl ?_
    refine k_aload_0 C 119 rfl 0 rfl ?_
    refine kg1_0 C 120 rfl qX1_9 0 LR_c0 LR_f0_0 ?_
    refine k_iconst C 121 rfl ci_1 ?_
    refine k_bipush C 122 rfl cb_20 ?_
    obtain ⟨r282, Q_282, h5, hf⟩ := ob2_some hf
    refine k_callV (X := (wL cy c b a L Q T O E X).take 1) (Y := (wL cy c b a L Q T O E X).drop 6) (w2 := (wL cy c b a L Q_282 T O E X)) C 123 (c_X8_takeNumber Z.2.1 D cy b Q 1 20 r282 Q_282 h5) rfl qX1_86 mvX8_takeNumber 0 8 Q_c0 rfl rfl rfl rfl rfl (Nat.le_of_ble_eq_true rfl) ⟨Nat.le_of_ble_eq_true rfl, Nat.le_of_ble_eq_true rfl, Nat.le_refl 0, Nat.le_refl 0⟩ ?_
    obtain ⟨T_285, hM, hf⟩ := bnd_some hf
    refine kp9_5 (w2 := (wL cy c b a L Q_282 T_285 O E X)) C 124 rfl qX1_136 7 LR_c7 (v := r282) LR_n7 (LR_p7_5.trans (congrArg (fun z => (wL cy c b a L Q_282 z O E X)) hM)) ?_
    exact k_vret (wf := (fun u => (wL cy c b a L u.1 u.2.1 u.2.2 E X))) hR 125 rfl hf
  by_cases hs8 : sw9 = 8
  · subst hs8
    replace hf := if_f hf (by decide)
    replace hf := if_f hf (by decide)
    replace hf := if_f hf (by decide)
    replace hf := if_f hf (by decide)
    replace hf := if_f hf (by decide)
    replace hf := if_f hf (by decide)
    replace hf := if_t hf rfl
    refine k_tabIn C 5 rfl 237 (by decide) (by decide) rfl (by decide) ?_
    refine k_aload_0 C 99 rfl 0 rfl ?_
    refine kg1_0 C 100 rfl qX1_9 0 LR_c0 LR_f0_0 ?_
    refine k_iconst C 101 rfl ci_0 ?_
    refine k_aload_2 C 102 rfl 2 rfl ?_
    refine kg9_2 C 103 rfl qX1_83 7 LR_c7 LR_f7_2 ?_
    refine k_iconst C 104 rfl ci_1 ?_
    refine k_isub C 105 rfl ?_
    obtain ⟨r248, Q_248, h5, hf⟩ := ob2_some hf
    refine k_callV (X := (wL cy c b a L Q T O E X).take 1) (Y := (wL cy c b a L Q T O E X).drop 6) (w2 := (wL cy c b a L Q_248 T O E X)) C 106 (c_X8_takeNumber Z.2.1 D cy b Q 0 ((T.1 2) - 1) r248 Q_248 h5) rfl qX1_86 mvX8_takeNumber 0 8 Q_c0 rfl rfl rfl rfl rfl (Nat.le_of_ble_eq_true rfl) ⟨Nat.le_of_ble_eq_true rfl, Nat.le_of_ble_eq_true rfl, Nat.le_refl 0, Nat.le_refl 0⟩ ?_
    refine k_istore C 107 rfl (by decide) rfl ?_
    refine k_sub (lv2 := [(0, .ref (c 0)), (1, .int p1), (2, .ref (a 1)), (5, .int r248)]) [1, 2, 3, 0] rfl ?_
    refine k_aload_2 C 108 rfl 2 rfl ?_
    refine kg9_14 C 109 rfl qX1_133 7 LR_c7 LR_f7_14 ?_
    refine k_iload C 110 rfl 3 rfl ?_
    refine k_aload_0 C 111 rfl 0 rfl ?_
    refine kg1_0 C 112 rfl qX1_9 0 LR_c0 LR_f0_0 ?_
    refine k_iconst C 113 rfl ci_0 ?_
    refine k_sipush C 114 rfl cs_999 ?_
    obtain ⟨r267, Q_267, h5, hf⟩ := ob2_some hf
    refine k_callV (X := (wL cy c b a L Q_248 T O E X).take 1) (Y := (wL cy c b a L Q_248 T O E X).drop 6) (w2 := (wL cy c b a L Q_267 T O E X)) C 115 (c_X8_takeNumber Z.2.1 D cy b Q_248 0 999 r267 Q_267 h5) rfl qX1_86 mvX8_takeNumber 0 8 Q_c0 rfl rfl rfl rfl rfl (Nat.le_of_ble_eq_true rfl) ⟨Nat.le_of_ble_eq_true rfl, Nat.le_of_ble_eq_true rfl, Nat.le_refl 0, Nat.le_refl 0⟩ ?_
    obtain ⟨i270, hi, hin, hf⟩ := ixd_some hf
    obtain ⟨T_270, hM, hf⟩ := bnd_some hf
    refine k_iast (w2 := (wL cy c b a L Q_267 T_270 O E X)) C 116 rfl 16 LR_c16 hin hi (LR_s16.trans (congrArg (fun z => (wL cy c b a L Q_267 z O E X)) hM)) ?_
    refine k_goto C 117 rfl 288 (by decide) ?_
    exact k_vret (wf := (fun u => (wL cy c b a L u.1 u.2.1 u.2.2 E X))) hR 125 rfl hf
  replace hf := if_f hf hs0
  replace hf := if_f hf hs1
  replace hf := if_f hf hs3
  replace hf := if_f hf hs4
  replace hf := if_f hf hs5
  replace hf := if_f hf hs6
  replace hf := if_f hf hs8
  refine k_tabOut C 5 rfl 274 (sw_out [0, 1, 2, 3, 4, 5, 6, 7, 8] (by intro v hv; simp only [List.mem_cons, List.not_mem_nil, or_false] at hv; rcases hv with rfl | rfl | rfl | rfl | rfl | rfl | rfl | rfl | rfl <;> assumption) (by decide)) (by decide) ?_
  refine k_aload_2 C 118 rfl 2 rfl ?_
  refine k_aload_0 C 119 rfl 0 rfl ?_
  refine kg1_0 C 120 rfl qX1_9 0 LR_c0 LR_f0_0 ?_
  refine k_iconst C 121 rfl ci_1 ?_
  refine k_bipush C 122 rfl cb_20 ?_
  obtain ⟨r282, Q_282, h5, hf⟩ := ob2_some hf
  refine k_callV (X := (wL cy c b a L Q T O E X).take 1) (Y := (wL cy c b a L Q T O E X).drop 6) (w2 := (wL cy c b a L Q_282 T O E X)) C 123 (c_X8_takeNumber Z.2.1 D cy b Q 1 20 r282 Q_282 h5) rfl qX1_86 mvX8_takeNumber 0 8 Q_c0 rfl rfl rfl rfl rfl (Nat.le_of_ble_eq_true rfl) ⟨Nat.le_of_ble_eq_true rfl, Nat.le_of_ble_eq_true rfl, Nat.le_refl 0, Nat.le_refl 0⟩ ?_
  obtain ⟨T_285, hM, hf⟩ := bnd_some hf
  refine kp9_5 (w2 := (wL cy c b a L Q_282 T_285 O E X)) C 124 rfl qX1_136 7 LR_c7 (v := r282) LR_n7 (LR_p7_5.trans (congrArg (fun z => (wL cy c b a L Q_282 z O E X)) hM)) ?_
  exact k_vret (wf := (fun u => (wL cy c b a L u.1 u.2.1 u.2.2 E X))) hR 125 rfl hf
set_option maxHeartbeats 1000000 in
set_option maxRecDepth 20000 in
theorem c_X1_readClause (l : Launch) (D : va_G) (cy : Nat → ClassId) (c : Nat → Nat) (b : Nat → Nat) (a : Nat → Nat) (L : Sg) (Q : Sg) (T : Sg) (O : Sg) (E : Sg) (X : Sg) (p1 : Int32) (L1 : Sg) (Q1 : Sg) (T1 : Sg) (O1 : Sg) (hf : f_X1_readClause L Q T O p1 = some (L1, Q1, T1, O1)) : Ct l D cy yX1_readClause cX1_readClause 3 none 3 69 0 0 [.ref (c 0), .int p1] (wL cy c b a L Q T O E X) none (wL cy c b a L1 Q1 T1 O1 E X) := by
  refine Ct_v tX1_readClause hX1_readClause (by decide) (Nat.le_of_ble_eq_true rfl) ?_
  intro Z hZ C hR
  subst hZ
  replace C : Cx Z D cy RX1 tX1_readClause 3 3 69 0 0 := C
  show Wk Z D 3 0 0 (wL cy c b a L Q T O E X) 0 [(0, .ref (c 0)), (1, .int p1)] []
  unfold f_X1_readClause at hf
  have hb42 : ∀ (L : Sg) (Q : Sg) (T : Sg) (O : Sg), f_X1_readClause_b42 p1 L Q T O = some (L1, Q1, T1, O1) → Wk Z D 3 0 0 (wL cy c b a L Q T O E X) 42 [(0, .ref (c 0))] [] := by
    intro L Q T O hf
    unfold f_X1_readClause_b42 at hf
    refine k_aload_0 C 22 rfl 0 rfl ?_
    refine kg1_0 C 23 rfl qX1_9 0 LR_c0 LR_f0_0 ?_
    refine k_iconst C 24 rfl ci_4 ?_
    obtain ⟨Q_47, h5, hf⟩ := ob1_some hf
    refine k_callV (X := (wL cy c b a L Q T O E X).take 1) (Y := (wL cy c b a L Q T O E X).drop 6) (w2 := (wL cy c b a L Q_47 T O E X)) C 25 (c_X8_blame Z.2.1 D cy b Q 4 Q_47 h5) rfl qX1_54 mvX8_blame 0 8 Q_c0 rfl rfl rfl rfl rfl (Nat.le_of_ble_eq_true rfl) ⟨Nat.le_of_ble_eq_true rfl, Nat.le_of_ble_eq_true rfl, Nat.le_refl 0, Nat.le_refl 0⟩ ?_
    exact k_vret (wf := (fun u => (wL cy c b a u.1 u.2.1 u.2.2.1 u.2.2.2 E X))) hR 26 rfl hf
  have hb18 : ∀ (L : Sg) (Q : Sg) (T : Sg) (O : Sg), f_X1_readClause_b18 p1 L Q T O = some (L1, Q1, T1, O1) → Wk Z D 3 0 0 (wL cy c b a L Q T O E X) 18 [(0, .ref (c 0))] [] := by
    intro L Q T O hf
    unfold f_X1_readClause_b18 at hf
    refine k_aload_0 C 9 rfl 0 rfl ?_
    refine kg1_0 C 10 rfl qX1_9 0 LR_c0 LR_f0_0 ?_
    refine k_iconst C 11 rfl ci_0 ?_
    obtain ⟨Q_23, h5, hf⟩ := ob1_some hf
    refine k_callV (X := (wL cy c b a L Q T O E X).take 1) (Y := (wL cy c b a L Q T O E X).drop 6) (w2 := (wL cy c b a L Q_23 T O E X)) C 12 (c_X8_blame Z.2.1 D cy b Q 0 Q_23 h5) rfl qX1_54 mvX8_blame 0 8 Q_c0 rfl rfl rfl rfl rfl (Nat.le_of_ble_eq_true rfl) ⟨Nat.le_of_ble_eq_true rfl, Nat.le_of_ble_eq_true rfl, Nat.le_refl 0, Nat.le_refl 0⟩ ?_
    exact k_vret (wf := (fun u => (wL cy c b a u.1 u.2.1 u.2.2.1 u.2.2.2 E X))) hR 13 rfl hf
  refine k_aload_0 C 0 rfl 0 rfl ?_
  refine kg1_0 C 1 rfl qX1_9 0 LR_c0 LR_f0_0 ?_
  obtain ⟨r4, h5, hf⟩ := ob1_some hf
  refine k_callV (X := (wL cy c b a L Q T O E X).take 1) (Y := (wL cy c b a L Q T O E X).drop 6) (w2 := (wL cy c b a L Q T O E X)) C 2 (c_X8_wordHere Z.2.1 D cy b Q r4 h5) rfl qX1_63 mvX8_wordHere 0 8 Q_c0 rfl rfl rfl rfl rfl (Nat.le_of_ble_eq_true rfl) ⟨Nat.le_of_ble_eq_true rfl, Nat.le_of_ble_eq_true rfl, Nat.le_refl 0, Nat.le_refl 0⟩ ?_
  refine k_istore_2 C 3 rfl (by decide) rfl ?_
  refine k_sub (lv2 := [(0, .ref (c 0)), (1, .int p1), (2, .int r4)]) [1, 2, 0] rfl ?_
  refine k_iload_2 C 4 rfl 2 rfl ?_
  refine k_if_lt C 5 rfl 18 (by decide) (fun hc => ?_) (fun hc => ?_)
  · replace hf := if_t hf hc
    exact k_sub [0] rfl (hb18 L Q T O hf)
  · replace hf := if_f hf hc
    refine k_iload_2 C 6 rfl 2 rfl ?_
    refine k_bipush C 7 rfl cb_9 ?_
    refine k_icmp_le C 8 rfl 27 (by decide) (fun hc => ?_) (fun hc => ?_)
    · replace hf := if_t hf hc
      refine k_iload_1 C 14 rfl 1 rfl ?_
      refine k_bipush C 15 rfl cb_40 ?_
      refine k_icmp_ge C 16 rfl 42 (by decide) (fun hc => ?_) (fun hc => ?_)
      · replace hf := if_t hf hc
        exact k_sub [0] rfl (hb42 L Q T O hf)
      · replace hf := if_f hf hc
        refine k_aload_0 C 17 rfl 0 rfl ?_
        refine k_iload_1 C 18 rfl 1 rfl ?_
        refine k_iload_2 C 19 rfl 2 rfl ?_
        obtain ⟨r36, h5, hf⟩ := ob1_some hf
        refine k_callW C 20 (c_X1_canStand Z.2.1 D cy c b a L Q T O E X p1 r4 r36 h5) rfl qX1_67 mvX1_canStand 0 1 LR_c0 rfl rfl rfl (Nat.le_of_ble_eq_true rfl) ⟨Nat.le_of_ble_eq_true rfl, Nat.le_of_ble_eq_true rfl, Nat.le_refl 0, Nat.le_refl 0⟩ ?_
        refine k_if_ne C 21 rfl 51 (by decide) (fun hc => ?_) (fun hc => ?_)
        · replace hf := if_f hf hc
          refine k_aload_0 C 27 rfl 0 rfl ?_
          refine k_dup C 28 rfl rfl ?_
          refine kg1_2 C 29 rfl qX1_24 0 LR_c0 LR_f0_2 ?_
          refine k_iconst C 30 rfl ci_1 ?_
          refine k_iload_2 C 31 rfl 2 rfl ?_
          refine k_ishl C 32 rfl ?_
          refine k_ior C 33 rfl ?_
          obtain ⟨L_60, hM, hf⟩ := bnd_some hf
          refine kp1_2 (w2 := (wL cy c b a L_60 Q T O E X)) C 34 rfl qX1_24 0 LR_c0 (v := ((L.1 2) ||| ((1 : Int32) <<< (r4 &&& 31)))) LR_n0 (LR_p0_2.trans (congrArg (fun z => (wL cy c b a z Q T O E X)) hM)) ?_
          refine k_aload_0 C 35 rfl 0 rfl ?_
          refine kg1_0 C 36 rfl qX1_9 0 LR_c0 LR_f0_0 ?_
          obtain ⟨Q_67, h5, hf⟩ := ob1_some hf
          refine k_callV (X := (wL cy c b a L_60 Q T O E X).take 1) (Y := (wL cy c b a L_60 Q T O E X).drop 6) (w2 := (wL cy c b a L_60 Q_67 T O E X)) C 37 (c_X8_step Z.2.1 D cy b Q Q_67 h5) rfl qX1_71 mvX8_step 0 8 Q_c0 rfl rfl rfl rfl rfl (Nat.le_of_ble_eq_true rfl) ⟨Nat.le_of_ble_eq_true rfl, Nat.le_of_ble_eq_true rfl, Nat.le_refl 0, Nat.le_refl 0⟩ ?_
          refine k_iload_2 C 38 rfl 2 rfl ?_
          refine k_iconst C 39 rfl ci_2 ?_
          refine k_icmp_ne C 40 rfl 82 (by decide) (fun hc => ?_) (fun hc => ?_)
          · replace hf := if_f hf hc
            refine k_iload_2 C 44 rfl 2 rfl ?_
            refine k_bipush C 45 rfl cb_7 ?_
            refine k_icmp_ne C 46 rfl 95 (by decide) (fun hc => ?_) (fun hc => ?_)
            · replace hf := if_f hf hc
              refine k_aload_0 C 50 rfl 0 rfl ?_
              refine k_iload_2 C 51 rfl 2 rfl ?_
              obtain ⟨Q_97, T_97, O_97, h5, hf⟩ := ob3_some hf
              refine k_callW C 52 (c_X1_readOther Z.2.1 D cy c b a L_60 Q_67 T O E X r4 Q_97 T_97 O_97 h5) rfl qX1_80 mvX1_readOther 0 1 LR_c0 rfl rfl rfl (Nat.le_of_ble_eq_true rfl) ⟨Nat.le_of_ble_eq_true rfl, Nat.le_of_ble_eq_true rfl, Nat.le_refl 0, Nat.le_refl 0⟩ ?_
              exact k_vret (wf := (fun u => (wL cy c b a u.1 u.2.1 u.2.2.1 u.2.2.2 E X))) hR 53 rfl hf
            · replace hf := if_t hf hc
              refine k_aload_0 C 47 rfl 0 rfl ?_
              obtain ⟨Q_89, T_89, O_89, h5, hf⟩ := ob3_some hf
              refine k_callW C 48 (c_X1_readRider Z.2.1 D cy c b a L_60 Q_67 T O E X Q_89 T_89 O_89 h5) rfl qX1_77 mvX1_readRider 0 1 LR_c0 rfl rfl rfl (Nat.le_of_ble_eq_true rfl) ⟨Nat.le_of_ble_eq_true rfl, Nat.le_of_ble_eq_true rfl, Nat.le_refl 0, Nat.le_refl 0⟩ ?_
              refine k_goto C 49 rfl 100 (by decide) ?_
              exact k_vret (wf := (fun u => (wL cy c b a u.1 u.2.1 u.2.2.1 u.2.2.2 E X))) hR 53 rfl hf
          · replace hf := if_t hf hc
            refine k_aload_0 C 41 rfl 0 rfl ?_
            obtain ⟨Q_76, T_76, h5, hf⟩ := ob2_some hf
            refine k_callW C 42 (c_X1_readStop Z.2.1 D cy c b a L_60 Q_67 T O E X Q_76 T_76 h5) rfl qX1_74 mvX1_readStop 0 1 LR_c0 rfl rfl rfl (Nat.le_of_ble_eq_true rfl) ⟨Nat.le_of_ble_eq_true rfl, Nat.le_of_ble_eq_true rfl, Nat.le_refl 0, Nat.le_refl 0⟩ ?_
            refine k_goto C 43 rfl 100 (by decide) ?_
            exact k_vret (wf := (fun u => (wL cy c b a u.1 u.2.1 u.2.2.1 u.2.2.2 E X))) hR 53 rfl hf
        · replace hf := if_t hf hc
          exact k_sub [0] rfl (hb42 L Q T O hf)
    · replace hf := if_f hf hc
      exact k_sub [0] rfl (hb18 L Q T O hf)
set_option maxHeartbeats 1000000 in
set_option maxRecDepth 20000 in
theorem c_X1_finish (l : Launch) (D : va_G) (cy : Nat → ClassId) (c : Nat → Nat) (b : Nat → Nat) (a : Nat → Nat) (L : Sg) (Q : Sg) (T : Sg) (O : Sg) (E : Sg) (X : Sg) (T1 : Sg) (hf : f_X1_finish L T = some T1) : Ct l D cy yX1_finish cX1_finish 4 none 0 0 0 0 [.ref (c 0)] (wL cy c b a L Q T O E X) none (wL cy c b a L Q T1 O E X) := by
  refine Ct_v tX1_finish hX1_finish (by decide) (Nat.le_of_ble_eq_true rfl) ?_
  intro Z hZ C hR
  subst hZ
  replace C : Cx Z D cy RX1 tX1_finish 4 0 0 0 0 := C
  show Wk Z D 4 0 0 (wL cy c b a L Q T O E X) 0 [(0, .ref (c 0))] []
  unfold f_X1_finish at hf
  have hq43 : ∀ (k43 : Int32 → Sg → Option (Sg)), (∀ (x2 : Int32) (T : Sg), k43 x2 T = some T1 → Wk Z D 4 0 0 (wL cy c b a L Q T O E X) 43 [(1, .ref (a 1)), (2, .int x2)] []) → ∀ (x2 : Int32) (T : Sg), f_X1_finish_b43 L k43 x2 T = some T1 → Wk Z D 4 0 0 (wL cy c b a L Q T O E X) 43 [(1, .ref (a 1)), (2, .int x2)] [] := by
    intro k43 hk43 x2 T hf
    unfold f_X1_finish_b43 at hf
    have hb75 : ∀ (x2 : Int32) (s0 : Int32) (T : Sg), f_X1_finish_b75 L k43 x2 s0 T = some T1 → Wk Z D 4 0 0 (wL cy c b a L Q T O E X) 75 [(1, .ref (a 1)), (2, .int x2)] [.int s0] := by
      intro x2 s0 T hf
      unfold f_X1_finish_b75 at hf
      refine k_istore_3 C 44 rfl (by decide) rfl ?_
      refine k_sub (lv2 := [(1, .ref (a 1)), (2, .int x2), (3, .int s0)]) [1, 2, 0] rfl ?_
      refine k_aload_1 C 45 rfl 0 rfl ?_
      refine kg9_15 C 46 rfl qX1_142 7 LR_c7 LR_f7_15 ?_
      refine k_iload_2 C 47 rfl 1 rfl ?_
      refine k_iload_3 C 48 rfl 2 rfl ?_
      refine k_aload_1 C 49 rfl 0 rfl ?_
      refine kg9_12 C 50 rfl qX1_112 7 LR_c7 LR_f7_12 ?_
      refine k_iload_2 C 51 rfl 1 rfl ?_
      obtain ⟨i87, hi, hin, hf⟩ := ixd_some hf
      refine k_iald C 52 rfl 14 LR_c14 hin hi ?_
      refine k_imul C 53 rfl ?_
      obtain ⟨i89, hi, hin, hf⟩ := ixd_some hf
      obtain ⟨T_89, hM, hf⟩ := bnd_some hf
      refine k_iast (w2 := (wL cy c b a L Q T_89 O E X)) C 54 rfl 17 LR_c17 hin hi (LR_s17.trans (congrArg (fun z => (wL cy c b a L Q z O E X)) hM)) ?_
      refine k_aload_1 C 55 rfl 0 rfl ?_
      refine kg9_16 C 56 rfl qX1_145 7 LR_c7 LR_f7_16 ?_
      refine k_iload_2 C 57 rfl 1 rfl ?_
      refine k_iload_3 C 58 rfl 2 rfl ?_
      refine k_aload_1 C 59 rfl 0 rfl ?_
      refine kg9_5 C 60 rfl qX1_136 7 LR_c7 LR_f7_5 ?_
      refine k_imul C 61 rfl ?_
      obtain ⟨i101, hi, hin, hf⟩ := ixd_some hf
      obtain ⟨T_101, hM, hf⟩ := bnd_some hf
      refine k_iast (w2 := (wL cy c b a L Q T_101 O E X)) C 62 rfl 18 LR_c18 hin hi (LR_s18.trans (congrArg (fun z => (wL cy c b a L Q z O E X)) hM)) ?_
      obtain ⟨x2_102, hx, hf⟩ := bnd_some hf
      refine k_iinc C 63 rfl 1 rfl ((cn_1 _).trans hx) (by decide) rfl ?_
      refine k_sub (lv2 := [(1, .ref (a 1)), (2, .int x2_102), (3, .int s0)]) [1, 0, 2] rfl ?_
      refine k_goto C 64 rfl 43 (by decide) ?_
      exact k_sub [0, 1] rfl (hk43 x2_102 T_101 hf)
    refine k_iload_2 C 24 rfl 1 rfl ?_
    refine k_aload_1 C 25 rfl 0 rfl ?_
    refine kg9_2 C 26 rfl qX1_83 7 LR_c7 LR_f7_2 ?_
    refine k_icmp_ge C 27 rfl 108 (by decide) (fun hc => ?_) (fun hc => ?_)
    · replace hf := if_t hf hc
      exact k_vret (wf := (fun u => (wL cy c b a L Q u O E X))) hR 65 rfl hf
    · replace hf := if_f hf hc
      refine k_aload_1 C 28 rfl 0 rfl ?_
      refine kg9_13 C 29 rfl qX1_115 7 LR_c7 LR_f7_13 ?_
      refine k_iload_2 C 30 rfl 1 rfl ?_
      obtain ⟨i56, hi, hin, hf⟩ := ixd_some hf
      refine k_iald C 31 rfl 15 LR_c15 hin hi ?_
      refine k_iconst C 32 rfl ci_2 ?_
      refine k_icmp_ge C 33 rfl 65 (by decide) (fun hc => ?_) (fun hc => ?_)
      · replace hf := if_t hf hc
        refine k_iconst C 36 rfl ci_2 ?_
        refine k_aload_1 C 37 rfl 0 rfl ?_
        refine kg9_13 C 38 rfl qX1_115 7 LR_c7 LR_f7_13 ?_
        refine k_iload_2 C 39 rfl 1 rfl ?_
        obtain ⟨i71, hi, hin, hf⟩ := ixd_some hf
        refine k_iald C 40 rfl 15 LR_c15 hin hi ?_
        refine k_imul C 41 rfl ?_
        refine k_iconst C 42 rfl ci_1 ?_
        refine k_isub C 43 rfl ?_
        exact k_sub [0, 1] rfl (hb75 x2 ((2 * (T.2.1 13 i71)) - 1) T hf)
      · replace hf := if_f hf hc
        refine k_iconst C 34 rfl ci_1 ?_
        refine k_goto C 35 rfl 75 (by decide) ?_
        exact k_sub [0, 1] rfl (hb75 x2 1 T hf)
  have hb43 := flW2 hq43
  have hb28 : ∀ (T : Sg), f_X1_finish_b28 L T = some T1 → Wk Z D 4 0 0 (wL cy c b a L Q T O E X) 28 [(1, .ref (a 1))] [] := by
    intro T hf
    unfold f_X1_finish_b28 at hf
    refine k_aload_1 C 15 rfl 0 rfl ?_
    refine k_aload_1 C 16 rfl 0 rfl ?_
    refine kg9_10 C 17 rfl qX1_90 7 LR_c7 LR_f7_10 ?_
    refine k_aload_1 C 18 rfl 0 rfl ?_
    refine kg9_3 C 19 rfl qX1_121 7 LR_c7 LR_f7_3 ?_
    obtain ⟨i37, hi, hin, hf⟩ := ixd_some hf
    refine k_iald C 20 rfl 12 LR_c12 hin hi ?_
    obtain ⟨T_38, hM, hf⟩ := bnd_some hf
    refine kp9_4 (w2 := (wL cy c b a L Q T_38 O E X)) C 21 rfl qX1_139 7 LR_c7 (v := (T.2.1 10 i37)) LR_n7 (LR_p7_4.trans (congrArg (fun z => (wL cy c b a L Q z O E X)) hM)) ?_
    refine k_iconst C 22 rfl ci_0 ?_
    refine k_istore_2 C 23 rfl (by decide) rfl ?_
    refine k_sub (lv2 := [(1, .ref (a 1)), (2, .int 0)]) [1, 0] rfl ?_
    exact k_sub [0, 1] rfl (hb43 FU 0 T_38 hf)
  refine k_aload_0 C 0 rfl 0 rfl ?_
  refine kg1_1 C 1 rfl qX1_15 0 LR_c0 LR_f0_1 ?_
  refine kg10_0 C 2 rfl qX1_45 6 LR_c6 LR_f6_0 ?_
  refine k_astore_1 C 3 rfl (by decide) rfl ?_
  refine k_sub (lv2 := [(0, .ref (c 0)), (1, .ref (a 1))]) [1, 0] rfl ?_
  refine k_aload_0 C 4 rfl 0 rfl ?_
  refine kg1_2 C 5 rfl qX1_24 0 LR_c0 LR_f0_2 ?_
  refine k_bipush C 6 rfl cb_8 ?_
  refine k_iand C 7 rfl ?_
  refine k_if_ne C 8 rfl 28 (by decide) (fun hc => ?_) (fun hc => ?_)
  · replace hf := if_f hf hc
    exact k_sub [1] rfl (hb28 T hf)
  · replace hf := if_t hf hc
    refine k_aload_1 C 9 rfl 1 rfl ?_
    refine k_aload_1 C 10 rfl 1 rfl ?_
    refine kg9_1 C 11 rfl qX1_49 7 LR_c7 LR_f7_1 ?_
    refine k_iconst C 12 rfl ci_1 ?_
    refine k_isub C 13 rfl ?_
    obtain ⟨T_25, hM, hf⟩ := bnd_some hf
    refine kp9_3 (w2 := (wL cy c b a L Q T_25 O E X)) C 14 rfl qX1_121 7 LR_c7 (v := ((T.1 1) - 1)) LR_n7 (LR_p7_3.trans (congrArg (fun z => (wL cy c b a L Q z O E X)) hM)) ?_
    exact k_sub [1] rfl (hb28 T_25 hf)
set_option maxHeartbeats 1000000 in
set_option maxRecDepth 20000 in
theorem c_X1_read (l : Launch) (D : va_G) (cy : Nat → ClassId) (c : Nat → Nat) (b : Nat → Nat) (a : Nat → Nat) (L : Sg) (Q : Sg) (T : Sg) (O : Sg) (E : Sg) (X : Sg) (r : Bool) (L1 : Sg) (Q1 : Sg) (T1 : Sg) (O1 : Sg) (hf : f_X1_read L Q T O = some (r, L1, Q1, T1, O1)) : Ct l D cy yX1_read cX1_read 2 (some .boolean) 9 276 0 0 [.ref (c 0)] (wL cy c b a L Q T O E X) (some (.int (bI r))) (wL cy c b a L1 Q1 T1 O1 E X) := by
  refine Ct_z tX1_read hX1_read (by decide) (Nat.le_of_ble_eq_true rfl) ?_
  intro Z hZ C hR
  subst hZ
  replace C : Cx Z D cy RX1 tX1_read 2 9 276 0 0 := C
  show Wk Z D 2 0 0 (wL cy c b a L Q T O E X) 0 [(0, .ref (c 0))] []
  unfold f_X1_read at hf
  have hb86 : ∀ (L : Sg) (Q : Sg) (T : Sg) (O : Sg), f_X1_read_b86 L Q T O = some (r, L1, Q1, T1, O1) → Wk Z D 2 0 0 (wL cy c b a L Q T O E X) 86 [(0, .ref (c 0))] [] := by
    intro L Q T O hf
    unfold f_X1_read_b86 at hf
    refine k_aload_0 C 40 rfl 0 rfl ?_
    refine kg1_0 C 41 rfl qX1_9 0 LR_c0 LR_f0_0 ?_
    refine kg8_2 C 42 rfl qX1_57 1 LR_c1 LR_f1_2 ?_
    refine k_if_eq C 43 rfl 98 (by decide) (fun hc => ?_) (fun hc => ?_)
    · replace hf := if_t hf hc
      refine k_aload_0 C 46 rfl 0 rfl ?_
      obtain ⟨T_99, h5, hf⟩ := ob1_some hf
      refine k_callW C 47 (c_X1_finish Z.2.1 D cy c b a L Q T O E X T_99 h5) rfl qX1_60 mvX1_finish 0 1 LR_c0 rfl rfl rfl (Nat.le_of_ble_eq_true rfl) ⟨Nat.le_of_ble_eq_true rfl, Nat.le_of_ble_eq_true rfl, Nat.le_refl 0, Nat.le_refl 0⟩ ?_
      refine k_iconst C 48 rfl ci_1 ?_
      exact k_zret (wf := (fun u => (wL cy c b a u.1 u.2.1 u.2.2.1 u.2.2.2 E X))) hR 49 rfl hf
    · replace hf := if_f hf hc
      refine k_iconst C 44 rfl ci_0 ?_
      exact k_zret (wf := (fun u => (wL cy c b a u.1 u.2.1 u.2.2.1 u.2.2.2 E X))) hR 45 rfl hf
  have hb78 : ∀ (L : Sg) (Q : Sg) (T : Sg) (O : Sg), f_X1_read_b78 L Q T O = some (r, L1, Q1, T1, O1) → Wk Z D 2 0 0 (wL cy c b a L Q T O E X) 78 [(0, .ref (c 0))] [] := by
    intro L Q T O hf
    unfold f_X1_read_b78 at hf
    refine k_aload_0 C 36 rfl 0 rfl ?_
    refine kg1_0 C 37 rfl qX1_9 0 LR_c0 LR_f0_0 ?_
    refine k_iconst C 38 rfl ci_0 ?_
    obtain ⟨Q_83, h5, hf⟩ := ob1_some hf
    refine k_callV (X := (wL cy c b a L Q T O E X).take 1) (Y := (wL cy c b a L Q T O E X).drop 6) (w2 := (wL cy c b a L Q_83 T O E X)) C 39 (c_X8_blame Z.2.1 D cy b Q 0 Q_83 h5) rfl qX1_54 mvX8_blame 0 8 Q_c0 rfl rfl rfl rfl rfl (Nat.le_of_ble_eq_true rfl) ⟨Nat.le_of_ble_eq_true rfl, Nat.le_of_ble_eq_true rfl, Nat.le_refl 0, Nat.le_refl 0⟩ ?_
    exact k_sub [0] rfl (hb86 L Q_83 T O hf)
  have hb55 : ∀ (L : Sg) (Q : Sg) (T : Sg) (O : Sg), f_X1_read_b55 L Q T O = some (r, L1, Q1, T1, O1) → Wk Z D 2 0 0 (wL cy c b a L Q T O E X) 55 [(0, .ref (c 0))] [] := by
    intro L Q T O hf
    unfold f_X1_read_b55 at hf
    refine k_aload_0 C 27 rfl 0 rfl ?_
    refine kg1_0 C 28 rfl qX1_9 0 LR_c0 LR_f0_0 ?_
    obtain ⟨r59, h5, hf⟩ := ob1_some hf
    refine k_callV (X := (wL cy c b a L Q T O E X).take 1) (Y := (wL cy c b a L Q T O E X).drop 6) (w2 := (wL cy c b a L Q T O E X)) C 29 (c_X8_isAtEnd Z.2.1 D cy b Q r59 h5) rfl qX1_41 mvX8_isAtEnd 0 8 Q_c0 rfl rfl rfl rfl rfl (Nat.le_of_ble_eq_true rfl) ⟨Nat.le_of_ble_eq_true rfl, Nat.le_of_ble_eq_true rfl, Nat.le_refl 0, Nat.le_refl 0⟩ ?_
    refine k_if_eq C 30 rfl 78 (by decide) (fun hc => ?_) (fun hc => ?_)
    · replace hf := if_t hf hc
      exact k_sub [0] rfl (hb78 L Q T O hf)
    · replace hf := if_f hf hc
      refine k_aload_0 C 31 rfl 0 rfl ?_
      refine kg1_1 C 32 rfl qX1_15 0 LR_c0 LR_f0_1 ?_
      refine kg10_0 C 33 rfl qX1_45 6 LR_c6 LR_f6_0 ?_
      refine kg9_1 C 34 rfl qX1_49 7 LR_c7 LR_f7_1 ?_
      refine k_if_ne C 35 rfl 86 (by decide) (fun hc => ?_) (fun hc => ?_)
      · replace hf := if_f hf hc
        exact k_sub [0] rfl (hb86 L Q T O hf)
      · replace hf := if_t hf hc
        exact k_sub [0] rfl (hb78 L Q T O hf)
  have hq26 : ∀ (k26 : Int32 → Sg → Sg → Sg → Sg → Option (Bool × Sg × Sg × Sg × Sg)), (∀ (x1 : Int32) (L : Sg) (Q : Sg) (T : Sg) (O : Sg), k26 x1 L Q T O = some (r, L1, Q1, T1, O1) → Wk Z D 2 0 0 (wL cy c b a L Q T O E X) 26 [(0, .ref (c 0)), (1, .int x1)] []) → ∀ (x1 : Int32) (L : Sg) (Q : Sg) (T : Sg) (O : Sg), f_X1_read_b26 k26 x1 L Q T O = some (r, L1, Q1, T1, O1) → Wk Z D 2 0 0 (wL cy c b a L Q T O E X) 26 [(0, .ref (c 0)), (1, .int x1)] [] := by
    intro k26 hk26 x1 L Q T O hf
    unfold f_X1_read_b26 at hf
    refine k_iload_1 C 14 rfl 1 rfl ?_
    refine k_bipush C 15 rfl cb_40 ?_
    refine k_icmp_gt C 16 rfl 55 (by decide) (fun hc => ?_) (fun hc => ?_)
    · replace hf := if_t hf hc
      exact k_sub [0] rfl (hb55 L Q T O hf)
    · replace hf := if_f hf hc
      refine k_aload_0 C 17 rfl 0 rfl ?_
      refine kg1_0 C 18 rfl qX1_9 0 LR_c0 LR_f0_0 ?_
      refine k_bipush C 19 rfl cb_59 ?_
      obtain ⟨r38, Q_38, h5, hf⟩ := ob2_some hf
      refine k_callV (X := (wL cy c b a L Q T O E X).take 1) (Y := (wL cy c b a L Q T O E X).drop 6) (w2 := (wL cy c b a L Q_38 T O E X)) C 20 (c_X8_takesSign Z.2.1 D cy b Q 59 r38 Q_38 h5) rfl qX1_37 mvX8_takesSign 0 8 Q_c0 rfl rfl rfl rfl rfl (Nat.le_of_ble_eq_true rfl) ⟨Nat.le_of_ble_eq_true rfl, Nat.le_of_ble_eq_true rfl, Nat.le_refl 0, Nat.le_refl 0⟩ ?_
      refine k_if_eq C 21 rfl 55 (by decide) (fun hc => ?_) (fun hc => ?_)
      · replace hf := if_t hf hc
        exact k_sub [0] rfl (hb55 L Q_38 T O hf)
      · replace hf := if_f hf hc
        refine k_aload_0 C 22 rfl 0 rfl ?_
        refine k_iload_1 C 23 rfl 1 rfl ?_
        obtain ⟨L_46, Q_46, T_46, O_46, h5, hf⟩ := ob4_some hf
        refine k_callW C 24 (c_X1_readClause Z.2.1 D cy c b a L Q_38 T O E X x1 L_46 Q_46 T_46 O_46 h5) rfl qX1_33 mvX1_readClause 0 1 LR_c0 rfl rfl rfl (Nat.le_of_ble_eq_true rfl) ⟨Nat.le_of_ble_eq_true rfl, Nat.le_of_ble_eq_true rfl, Nat.le_refl 0, Nat.le_refl 0⟩ ?_
        obtain ⟨x1_49, hx, hf⟩ := bnd_some hf
        refine k_iinc C 25 rfl 1 rfl ((cn_1 _).trans hx) (by decide) rfl ?_
        refine k_sub (lv2 := [(0, .ref (c 0)), (1, .int x1_49)]) [1, 0] rfl ?_
        refine k_goto C 26 rfl 26 (by decide) ?_
        exact k_sub [0, 1] rfl (hk26 x1_49 L_46 Q_46 T_46 O_46 hf)
  have hb26 := flW5 hq26
  refine k_aload_0 C 0 rfl 0 rfl ?_
  refine kg1_1 C 1 rfl qX1_15 0 LR_c0 LR_f0_1 ?_
  obtain ⟨T_4, O_4, h5, hf⟩ := ob2_some hf
  refine k_callV (X := (wL cy c b a L Q T O E X).take 6) (Y := (wL cy c b a L Q T O E X).drop 29) (w2 := (wL cy c b a L Q T_4 O_4 E X)) C 2 (c_X10_clear Z.2.1 D cy a T O E X T_4 O_4 h5) rfl qX1_19 mvX10_clear 0 10 W_c0 rfl rfl rfl rfl rfl (Nat.le_of_ble_eq_true rfl) ⟨Nat.le_of_ble_eq_true rfl, Nat.le_of_ble_eq_true rfl, Nat.le_refl 0, Nat.le_refl 0⟩ ?_
  refine k_aload_0 C 3 rfl 0 rfl ?_
  refine k_iconst C 4 rfl ci_0 ?_
  obtain ⟨L_9, hM, hf⟩ := bnd_some hf
  refine kp1_2 (w2 := (wL cy c b a L_9 Q T_4 O_4 E X)) C 5 rfl qX1_24 0 LR_c0 (v := 0) LR_n0 (LR_p0_2.trans (congrArg (fun z => (wL cy c b a z Q T_4 O_4 E X)) hM)) ?_
  refine k_aload_0 C 6 rfl 0 rfl ?_
  refine kg1_0 C 7 rfl qX1_9 0 LR_c0 LR_f0_0 ?_
  obtain ⟨Q_16, h5, hf⟩ := ob1_some hf
  refine k_callV (X := (wL cy c b a L_9 Q T_4 O_4 E X).take 1) (Y := (wL cy c b a L_9 Q T_4 O_4 E X).drop 6) (w2 := (wL cy c b a L_9 Q_16 T_4 O_4 E X)) C 8 (c_X8_open Z.2.1 D cy b Q Q_16 h5) rfl qX1_28 mvX8_open 0 8 Q_c0 rfl rfl rfl rfl rfl (Nat.le_of_ble_eq_true rfl) ⟨Nat.le_of_ble_eq_true rfl, Nat.le_of_ble_eq_true rfl, Nat.le_refl 0, Nat.le_refl 0⟩ ?_
  refine k_aload_0 C 9 rfl 0 rfl ?_
  refine k_iconst C 10 rfl ci_0 ?_
  obtain ⟨L_21, Q_21, T_21, O_21, h5, hf⟩ := ob4_some hf
  refine k_callW C 11 (c_X1_readClause Z.2.1 D cy c b a L_9 Q_16 T_4 O_4 E X 0 L_21 Q_21 T_21 O_21 h5) rfl qX1_33 mvX1_readClause 0 1 LR_c0 rfl rfl rfl (Nat.le_of_ble_eq_true rfl) ⟨Nat.le_of_ble_eq_true rfl, Nat.le_of_ble_eq_true rfl, Nat.le_refl 0, Nat.le_refl 0⟩ ?_
  refine k_iconst C 12 rfl ci_1 ?_
  refine k_istore_1 C 13 rfl (by decide) rfl ?_
  refine k_sub (lv2 := [(0, .ref (c 0)), (1, .int 1)]) [1, 0] rfl ?_
  exact k_sub [0, 1] rfl (hb26 FU 1 L_21 Q_21 T_21 O_21 hf)
set_option maxHeartbeats 1000000 in
set_option maxRecDepth 20000 in
theorem c_X5_emit (l : Launch) (D : va_G) (cy : Nat → ClassId) (c : Nat → Nat) (b : Nat → Nat) (K : Sg) (p1 : Int32) (K1 : Sg) (hf : f_X5_emit K p1 = some K1) : Ct l D cy yX5_emit cX5_emit 2 none 0 0 0 0 [.ref (c 0), .int p1] (wK1 cy c b K) none (wK1 cy c b K1) := by
  refine Ct_v tX5_emit hX5_emit (by decide) (Nat.le_of_ble_eq_true rfl) ?_
  intro Z hZ C hR
  subst hZ
  replace C : Cx Z D cy RX5 tX5_emit 2 0 0 0 0 := C
  show Wk Z D 2 0 0 (wK1 cy c b K) 0 [(0, .ref (c 0)), (1, .int p1)] []
  unfold f_X5_emit at hf
  refine k_aload_0 C 0 rfl 0 rfl ?_
  refine kg5_1 C 1 rfl qX5_28 0 K1_c0 K1_f0_1 ?_
  refine k_aload_0 C 2 rfl 0 rfl ?_
  refine kg5_0 C 3 rfl qX5_9 0 K1_c0 K1_f0_0 ?_
  refine k_alen C 4 rfl 1 1 K1_c1 rfl (v := 400) (show Int32.ofNat 400 = 400 by decide) ?_
  refine k_icmp_ge C 5 rfl 32 (by decide) (fun hc => ?_) (fun hc => ?_)
  · replace hf := if_t hf hc
    exact k_vret (wf := (fun u => (wK1 cy c b u))) hR 18 rfl hf
  · replace hf := if_f hf hc
    refine k_aload_0 C 6 rfl 0 rfl ?_
    refine kg5_0 C 7 rfl qX5_9 0 K1_c0 K1_f0_0 ?_
    refine k_aload_0 C 8 rfl 0 rfl ?_
    refine kg5_1 C 9 rfl qX5_28 0 K1_c0 K1_f0_1 ?_
    refine k_iload_1 C 10 rfl 1 rfl ?_
    obtain ⟨i21, hi, hin, hf⟩ := ixd_some hf
    obtain ⟨K_21, hM, hf⟩ := bnd_some hf
    refine k_iast (w2 := (wK1 cy c b K_21)) C 11 rfl 1 K1_c1 hin hi (K1_s1.trans (congrArg (fun z => (wK1 cy c b z)) hM)) ?_
    refine k_aload_0 C 12 rfl 0 rfl ?_
    refine k_dup C 13 rfl rfl ?_
    refine kg5_1 C 14 rfl qX5_28 0 K1_c0 K1_f0_1 ?_
    refine k_iconst C 15 rfl ci_1 ?_
    refine k_iadd C 16 rfl ?_
    obtain ⟨K_29, hM, hf⟩ := bnd_some hf
    refine kp5_1 (w2 := (wK1 cy c b K_29)) C 17 rfl qX5_28 0 K1_c0 (v := ((K_21.1 1) + 1)) K1_n0 (K1_p0_1.trans (congrArg (fun z => (wK1 cy c b z)) hM)) ?_
    exact k_vret (wf := (fun u => (wK1 cy c b u))) hR 18 rfl hf
set_option maxHeartbeats 1000000 in
set_option maxRecDepth 20000 in
theorem c_X5_readValue (l : Launch) (D : va_G) (cy : Nat → ClassId) (c : Nat → Nat) (b : Nat → Nat) (K : Sg) (Q : Sg) (K1 : Sg) (Q1 : Sg) (hf : f_X5_readValue K Q = some (K1, Q1)) : Ct l D cy yX5_readValue cX5_readValue 3 none 1 21 0 0 [.ref (c 0)] (wK cy c b K Q) none (wK cy c b K1 Q1) := by
  refine Ct_v tX5_readValue hX5_readValue (by decide) (Nat.le_of_ble_eq_true rfl) ?_
  intro Z hZ C hR
  subst hZ
  replace C : Cx Z D cy RX5 tX5_readValue 3 1 21 0 0 := C
  show Wk Z D 3 0 0 (wK cy c b K Q) 0 [(0, .ref (c 0))] []
  unfold f_X5_readValue at hf
  have hb142 : ∀ (s1 : Int32) (K : Sg) (Q : Sg), f_X5_readValue_b142 s1 K Q = some (K1, Q1) → Wk Z D 3 0 0 (wK cy c b K Q) 142 [(0, .ref (c 0))] [.int s1, .ref (c 0)] := by
    intro s1 K Q hf
    unfold f_X5_readValue_b142 at hf
    obtain ⟨K_142, h5, hf⟩ := ob1_some hf
    refine k_callV (X := (wK cy c b K Q).take 0) (Y := (wK cy c b K Q).drop 5) (w2 := (wK cy c b K_142 Q)) C 71 (c_X5_emit Z.2.1 D cy c b K s1 K_142 h5) rfl qX5_78 mvX5_emit 0 5 K1_c0 rfl rfl rfl rfl rfl (Nat.le_of_ble_eq_true rfl) ⟨Nat.le_of_ble_eq_true rfl, Nat.le_of_ble_eq_true rfl, Nat.le_refl 0, Nat.le_refl 0⟩ ?_
    refine k_aload_0 C 72 rfl 0 rfl ?_
    refine kg5_6 C 73 rfl qX5_24 0 K_c0 K_f0_6 ?_
    obtain ⟨Q_149, h5, hf⟩ := ob1_some hf
    refine k_callV (X := (wK cy c b K_142 Q).take 5) (Y := (wK cy c b K_142 Q).drop 10) (w2 := (wK cy c b K_142 Q_149)) C 74 (c_X8_step Z.2.1 D cy b Q Q_149 h5) rfl qX5_65 mvX8_step 0 8 Q_c0 rfl rfl rfl rfl rfl (Nat.le_of_ble_eq_true rfl) ⟨Nat.le_of_ble_eq_true rfl, Nat.le_of_ble_eq_true rfl, Nat.le_refl 0, Nat.le_refl 0⟩ ?_
    exact k_vret (wf := (fun u => (wK cy c b u.1 u.2))) hR 75 rfl hf
  have hb89 : ∀ (x1 : Int32) (K : Sg) (Q : Sg), f_X5_readValue_b89 x1 K Q = some (K1, Q1) → Wk Z D 3 0 0 (wK cy c b K Q) 89 [(0, .ref (c 0)), (1, .int x1)] [] := by
    intro x1 K Q hf
    unfold f_X5_readValue_b89 at hf
    refine k_aload_0 C 44 rfl 0 rfl ?_
    refine kg5_7 C 45 rfl qX5_35 0 K_c0 K_f0_7 ?_
    refine k_bipush C 46 rfl cb_60 ?_
    refine k_icmp_lt C 47 rfl 107 (by decide) (fun hc => ?_) (fun hc => ?_)
    · replace hf := if_t hf hc
      refine k_aload_0 C 53 rfl 0 rfl ?_
      refine k_dup C 54 rfl rfl ?_
      refine kg5_7 C 55 rfl qX5_35 0 K_c0 K_f0_7 ?_
      refine k_iconst C 56 rfl ci_1 ?_
      refine k_iadd C 57 rfl ?_
      obtain ⟨K_114, hM, hf⟩ := bnd_some hf
      refine kp5_7 (w2 := (wK cy c b K_114 Q)) C 58 rfl qX5_35 0 K_c0 (v := ((K.1 7) + 1)) K_n0 (K_p0_7.trans (congrArg (fun z => (wK cy c b z Q)) hM)) ?_
      refine k_aload_0 C 59 rfl 0 rfl ?_
      refine k_aload_0 C 60 rfl 0 rfl ?_
      refine kg5_6 C 61 rfl qX5_24 0 K_c0 K_f0_6 ?_
      obtain ⟨r122, h5, hf⟩ := ob1_some hf
      refine k_callV (X := (wK cy c b K_114 Q).take 5) (Y := (wK cy c b K_114 Q).drop 10) (w2 := (wK cy c b K_114 Q)) C 62 (c_X8_isNumber Z.2.1 D cy b Q r122 h5) rfl qX5_93 mvX8_isNumber 0 8 Q_c0 rfl rfl rfl rfl rfl (Nat.le_of_ble_eq_true rfl) ⟨Nat.le_of_ble_eq_true rfl, Nat.le_of_ble_eq_true rfl, Nat.le_refl 0, Nat.le_refl 0⟩ ?_
      refine k_if_eq C 63 rfl 138 (by decide) (fun hc => ?_) (fun hc => ?_)
      · replace hf := if_t hf hc
        refine k_ldc C 68 rfl qX5_99 ?_
        refine k_iload_1 C 69 rfl 1 rfl ?_
        refine k_iadd C 70 rfl ?_
        exact k_sub [0] rfl (hb142 (200000 + x1) K_114 Q hf)
      · replace hf := if_f hf hc
        refine k_aload_0 C 64 rfl 0 rfl ?_
        refine kg5_6 C 65 rfl qX5_24 0 K_c0 K_f0_6 ?_
        obtain ⟨r132, h5, hf⟩ := ob1_some hf
        refine k_callV (X := (wK cy c b K_114 Q).take 5) (Y := (wK cy c b K_114 Q).drop 10) (w2 := (wK cy c b K_114 Q)) C 66 (c_X8_numberHere Z.2.1 D cy b Q r132 h5) rfl qX5_96 mvX8_numberHere 0 8 Q_c0 rfl rfl rfl rfl rfl (Nat.le_of_ble_eq_true rfl) ⟨Nat.le_of_ble_eq_true rfl, Nat.le_of_ble_eq_true rfl, Nat.le_refl 0, Nat.le_refl 0⟩ ?_
        refine k_goto C 67 rfl 142 (by decide) ?_
        exact k_sub [0] rfl (hb142 r132 K_114 Q hf)
    · replace hf := if_f hf hc
      refine k_aload_0 C 48 rfl 0 rfl ?_
      refine kg5_6 C 49 rfl qX5_24 0 K_c0 K_f0_6 ?_
      refine k_iconst C 50 rfl ci_3 ?_
      obtain ⟨Q_103, h5, hf⟩ := ob1_some hf
      refine k_callV (X := (wK cy c b K Q).take 5) (Y := (wK cy c b K Q).drop 10) (w2 := (wK cy c b K Q_103)) C 51 (c_X8_blame Z.2.1 D cy b Q 3 Q_103 h5) rfl qX5_54 mvX8_blame 0 8 Q_c0 rfl rfl rfl rfl rfl (Nat.le_of_ble_eq_true rfl) ⟨Nat.le_of_ble_eq_true rfl, Nat.le_of_ble_eq_true rfl, Nat.le_refl 0, Nat.le_refl 0⟩ ?_
      exact k_vret (wf := (fun u => (wK cy c b u.1 u.2))) hR 52 rfl hf
  have hb60 : ∀ (x1 : Int32) (K : Sg) (Q : Sg), f_X5_readValue_b60 x1 K Q = some (K1, Q1) → Wk Z D 3 0 0 (wK cy c b K Q) 60 [(0, .ref (c 0)), (1, .int x1)] [] := by
    intro x1 K Q hf
    unfold f_X5_readValue_b60 at hf
    refine k_aload_0 C 31 rfl 0 rfl ?_
    refine kg5_6 C 32 rfl qX5_24 0 K_c0 K_f0_6 ?_
    obtain ⟨r64, h5, hf⟩ := ob1_some hf
    refine k_callV (X := (wK cy c b K Q).take 5) (Y := (wK cy c b K Q).drop 10) (w2 := (wK cy c b K Q)) C 33 (c_X8_isNumber Z.2.1 D cy b Q r64 h5) rfl qX5_93 mvX8_isNumber 0 8 Q_c0 rfl rfl rfl rfl rfl (Nat.le_of_ble_eq_true rfl) ⟨Nat.le_of_ble_eq_true rfl, Nat.le_of_ble_eq_true rfl, Nat.le_refl 0, Nat.le_refl 0⟩ ?_
    refine k_if_eq C 34 rfl 89 (by decide) (fun hc => ?_) (fun hc => ?_)
    · replace hf := if_t hf hc
      exact k_sub [0, 1] rfl (hb89 x1 K Q hf)
    · replace hf := if_f hf hc
      refine k_aload_0 C 35 rfl 0 rfl ?_
      refine kg5_6 C 36 rfl qX5_24 0 K_c0 K_f0_6 ?_
      obtain ⟨r74, h5, hf⟩ := ob1_some hf
      refine k_callV (X := (wK cy c b K Q).take 5) (Y := (wK cy c b K Q).drop 10) (w2 := (wK cy c b K Q)) C 37 (c_X8_numberHere Z.2.1 D cy b Q r74 h5) rfl qX5_96 mvX8_numberHere 0 8 Q_c0 rfl rfl rfl rfl rfl (Nat.le_of_ble_eq_true rfl) ⟨Nat.le_of_ble_eq_true rfl, Nat.le_of_ble_eq_true rfl, Nat.le_refl 0, Nat.le_refl 0⟩ ?_
      refine k_if_ge C 38 rfl 89 (by decide) (fun hc => ?_) (fun hc => ?_)
      · replace hf := if_t hf hc
        exact k_sub [0, 1] rfl (hb89 x1 K Q hf)
      · replace hf := if_f hf hc
        refine k_aload_0 C 39 rfl 0 rfl ?_
        refine kg5_6 C 40 rfl qX5_24 0 K_c0 K_f0_6 ?_
        refine k_iconst C 41 rfl ci_1 ?_
        obtain ⟨Q_85, h5, hf⟩ := ob1_some hf
        refine k_callV (X := (wK cy c b K Q).take 5) (Y := (wK cy c b K Q).drop 10) (w2 := (wK cy c b K Q_85)) C 42 (c_X8_blame Z.2.1 D cy b Q 1 Q_85 h5) rfl qX5_54 mvX8_blame 0 8 Q_c0 rfl rfl rfl rfl rfl (Nat.le_of_ble_eq_true rfl) ⟨Nat.le_of_ble_eq_true rfl, Nat.le_of_ble_eq_true rfl, Nat.le_refl 0, Nat.le_refl 0⟩ ?_
        exact k_vret (wf := (fun u => (wK cy c b u.1 u.2))) hR 43 rfl hf
  have hb36 : ∀ (x1 : Int32) (s0 : Int32) (K : Sg) (Q : Sg), f_X5_readValue_b36 x1 s0 K Q = some (K1, Q1) → Wk Z D 3 0 0 (wK cy c b K Q) 36 [(0, .ref (c 0)), (1, .int x1)] [.int s0] := by
    intro x1 s0 K Q hf
    unfold f_X5_readValue_b36 at hf
    refine k_istore_2 C 19 rfl (by decide) rfl ?_
    refine k_sub (lv2 := [(0, .ref (c 0)), (1, .int x1), (2, .int s0)]) [1, 2, 0] rfl ?_
    refine k_aload_0 C 20 rfl 0 rfl ?_
    refine kg5_6 C 21 rfl qX5_24 0 K_c0 K_f0_6 ?_
    obtain ⟨r41, h5, hf⟩ := ob1_some hf
    refine k_callV (X := (wK cy c b K Q).take 5) (Y := (wK cy c b K Q).drop 10) (w2 := (wK cy c b K Q)) C 22 (c_X8_isNumber Z.2.1 D cy b Q r41 h5) rfl qX5_93 mvX8_isNumber 0 8 Q_c0 rfl rfl rfl rfl rfl (Nat.le_of_ble_eq_true rfl) ⟨Nat.le_of_ble_eq_true rfl, Nat.le_of_ble_eq_true rfl, Nat.le_refl 0, Nat.le_refl 0⟩ ?_
    refine k_if_ne C 23 rfl 60 (by decide) (fun hc => ?_) (fun hc => ?_)
    · replace hf := if_f hf hc
      exact k_sub [0, 1] rfl (hb60 x1 K Q hf)
    · replace hf := if_t hf hc
      refine k_iload_2 C 24 rfl 2 rfl ?_
      refine k_if_ne C 25 rfl 60 (by decide) (fun hc => ?_) (fun hc => ?_)
      · replace hf := if_f hf hc
        exact k_sub [0, 1] rfl (hb60 x1 K Q hf)
      · replace hf := if_t hf hc
        refine k_aload_0 C 26 rfl 0 rfl ?_
        refine kg5_6 C 27 rfl qX5_24 0 K_c0 K_f0_6 ?_
        refine k_iconst C 28 rfl ci_0 ?_
        obtain ⟨Q_56, h5, hf⟩ := ob1_some hf
        refine k_callV (X := (wK cy c b K Q).take 5) (Y := (wK cy c b K Q).drop 10) (w2 := (wK cy c b K Q_56)) C 29 (c_X8_blame Z.2.1 D cy b Q 0 Q_56 h5) rfl qX5_54 mvX8_blame 0 8 Q_c0 rfl rfl rfl rfl rfl (Nat.le_of_ble_eq_true rfl) ⟨Nat.le_of_ble_eq_true rfl, Nat.le_of_ble_eq_true rfl, Nat.le_refl 0, Nat.le_refl 0⟩ ?_
        exact k_vret (wf := (fun u => (wK cy c b u.1 u.2))) hR 30 rfl hf
  have hb31 : ∀ (x1 : Int32) (K : Sg) (Q : Sg), f_X5_readValue_b31 x1 K Q = some (K1, Q1) → Wk Z D 3 0 0 (wK cy c b K Q) 31 [(0, .ref (c 0)), (1, .int x1)] [] := by
    intro x1 K Q hf
    unfold f_X5_readValue_b31 at hf
    refine k_iconst C 16 rfl ci_1 ?_
    refine k_goto C 17 rfl 36 (by decide) ?_
    exact k_sub [0, 1] rfl (hb36 x1 1 K Q hf)
  refine k_aload_0 C 0 rfl 0 rfl ?_
  refine kg5_6 C 1 rfl qX5_24 0 K_c0 K_f0_6 ?_
  obtain ⟨r4, h5, hf⟩ := ob1_some hf
  refine k_callV (X := (wK cy c b K Q).take 5) (Y := (wK cy c b K Q).drop 10) (w2 := (wK cy c b K Q)) C 2 (c_X8_wordHere Z.2.1 D cy b Q r4 h5) rfl qX5_61 mvX8_wordHere 0 8 Q_c0 rfl rfl rfl rfl rfl (Nat.le_of_ble_eq_true rfl) ⟨Nat.le_of_ble_eq_true rfl, Nat.le_of_ble_eq_true rfl, Nat.le_refl 0, Nat.le_refl 0⟩ ?_
  refine k_istore_1 C 3 rfl (by decide) rfl ?_
  refine k_sub (lv2 := [(0, .ref (c 0)), (1, .int r4)]) [1, 0] rfl ?_
  refine k_iload_1 C 4 rfl 1 rfl ?_
  refine k_bipush C 5 rfl cb_17 ?_
  refine k_icmp_ge C 6 rfl 31 (by decide) (fun hc => ?_) (fun hc => ?_)
  · replace hf := if_t hf hc
    exact k_sub [0, 1] rfl (hb31 r4 K Q hf)
  · replace hf := if_f hf hc
    refine k_iload_1 C 7 rfl 1 rfl ?_
    refine k_iconst C 8 rfl ci_1 ?_
    refine k_icmp_eq C 9 rfl 31 (by decide) (fun hc => ?_) (fun hc => ?_)
    · replace hf := if_t hf hc
      exact k_sub [0, 1] rfl (hb31 r4 K Q hf)
    · replace hf := if_f hf hc
      refine k_iload_1 C 10 rfl 1 rfl ?_
      refine k_bipush C 11 rfl cb_6 ?_
      refine k_icmp_eq C 12 rfl 31 (by decide) (fun hc => ?_) (fun hc => ?_)
      · replace hf := if_t hf hc
        exact k_sub [0, 1] rfl (hb31 r4 K Q hf)
      · replace hf := if_f hf hc
        refine k_iload_1 C 13 rfl 1 rfl ?_
        refine k_bipush C 14 rfl cb_7 ?_
        refine k_icmp_ne C 15 rfl 35 (by decide) (fun hc => ?_) (fun hc => ?_)
        · replace hf := if_f hf hc
          refine k_iconst C 18 rfl ci_0 ?_
          exact k_sub [0, 1] rfl (hb36 r4 0 K Q hf)
        · replace hf := if_t hf hc
          exact k_sub [0, 1] rfl (hb31 r4 K Q hf)
set_option maxHeartbeats 1000000 in
set_option maxRecDepth 20000 in
theorem c_X5_readSum (l : Launch) (D : va_G) (cy : Nat → ClassId) (c : Nat → Nat) (b : Nat → Nat) (K : Sg) (Q : Sg) (K1 : Sg) (Q1 : Sg) (hf : f_X5_readSum K Q = some (K1, Q1)) : Ct l D cy yX5_readSum cX5_readSum 5 none 2 43 0 0 [.ref (c 0)] (wK cy c b K Q) none (wK cy c b K1 Q1) := by
  refine Ct_v tX5_readSum hX5_readSum (by decide) (Nat.le_of_ble_eq_true rfl) ?_
  intro Z hZ C hR
  subst hZ
  replace C : Cx Z D cy RX5 tX5_readSum 5 2 43 0 0 := C
  show Wk Z D 5 0 0 (wK cy c b K Q) 0 [(0, .ref (c 0))] []
  unfold f_X5_readSum at hf
  have hb120 : ∀ (x1 : Int32) (K : Sg) (Q : Sg), f_X5_readSum_b120 x1 K Q = some (K1, Q1) → Wk Z D 5 0 0 (wK cy c b K Q) 120 [(0, .ref (c 0)), (1, .int x1)] [] := by
    intro x1 K Q hf
    unfold f_X5_readSum_b120 at hf
    refine k_iload_1 C 61 rfl 1 rfl ?_
    refine k_if_eq C 62 rfl 132 (by decide) (fun hc => ?_) (fun hc => ?_)
    · replace hf := if_t hf hc
      exact k_vret (wf := (fun u => (wK cy c b u.1 u.2))) hR 68 rfl hf
    · replace hf := if_f hf hc
      refine k_aload_0 C 63 rfl 0 rfl ?_
      refine k_ldc C 64 rfl qX5_88 ?_
      refine k_iload_1 C 65 rfl 1 rfl ?_
      refine k_iadd C 66 rfl ?_
      obtain ⟨K_129, h5, hf⟩ := ob1_some hf
      refine k_callV (X := (wK cy c b K Q).take 0) (Y := (wK cy c b K Q).drop 5) (w2 := (wK cy c b K_129 Q)) C 67 (c_X5_emit Z.2.1 D cy c b K (100000 + x1) K_129 h5) rfl qX5_78 mvX5_emit 0 5 K1_c0 rfl rfl rfl rfl rfl (Nat.le_of_ble_eq_true rfl) ⟨Nat.le_of_ble_eq_true rfl, Nat.le_of_ble_eq_true rfl, Nat.le_refl 0, Nat.le_refl 0⟩ ?_
      exact k_vret (wf := (fun u => (wK cy c b u.1 u.2))) hR 68 rfl hf
  have hq8 : ∀ (k8 : Int32 → Int32 → Sg → Sg → Option (Sg × Sg)), (∀ (x1 : Int32) (x2 : Int32) (K : Sg) (Q : Sg), k8 x1 x2 K Q = some (K1, Q1) → Wk Z D 5 0 0 (wK cy c b K Q) 8 [(0, .ref (c 0)), (1, .int x1), (2, .int x2)] []) → ∀ (x1 : Int32) (x2 : Int32) (K : Sg) (Q : Sg), f_X5_readSum_b8 k8 x1 x2 K Q = some (K1, Q1) → Wk Z D 5 0 0 (wK cy c b K Q) 8 [(0, .ref (c 0)), (1, .int x1), (2, .int x2)] [] := by
    intro k8 hk8 x1 x2 K Q hf
    unfold f_X5_readSum_b8 at hf
    have hb114 : ∀ (x1 : Int32) (x2 : Int32) (K : Sg) (Q : Sg), f_X5_readSum_b114 k8 x1 x2 K Q = some (K1, Q1) → Wk Z D 5 0 0 (wK cy c b K Q) 114 [(0, .ref (c 0)), (1, .int x1), (2, .int x2)] [] := by
      intro x1 x2 K Q hf
      unfold f_X5_readSum_b114 at hf
      obtain ⟨x2_114, hx, hf⟩ := bnd_some hf
      refine k_iinc C 59 rfl 2 rfl ((cn_1 _).trans hx) (by decide) rfl ?_
      refine k_sub (lv2 := [(0, .ref (c 0)), (1, .int x1), (2, .int x2_114)]) [1, 2, 0] rfl ?_
      refine k_goto C 60 rfl 8 (by decide) ?_
      exact k_sub [0, 1, 2] rfl (hk8 x1 x2_114 K Q hf)
    have hb92 : ∀ (x1 : Int32) (x2 : Int32) (x3 : Int32) (x4 : Int32) (K : Sg) (Q : Sg), f_X5_readSum_b92 k8 x1 x2 x3 x4 K Q = some (K1, Q1) → Wk Z D 5 0 0 (wK cy c b K Q) 92 [(0, .ref (c 0)), (1, .int x1), (2, .int x2), (3, .int x3), (4, .int x4)] [] := by
      intro x1 x2 x3 x4 K Q hf
      unfold f_X5_readSum_b92 at hf
      refine k_aload_0 C 47 rfl 0 rfl ?_
      obtain ⟨K_93, Q_93, h5, hf⟩ := ob2_some hf
      refine k_callW C 48 (c_X5_readValue Z.2.1 D cy c b K Q K_93 Q_93 h5) rfl qX5_90 mvX5_readValue 0 5 K_c0 rfl rfl rfl (Nat.le_of_ble_eq_true rfl) ⟨Nat.le_of_ble_eq_true rfl, Nat.le_of_ble_eq_true rfl, Nat.le_refl 0, Nat.le_refl 0⟩ ?_
      refine k_iload C 49 rfl 4 rfl ?_
      refine k_if_eq C 50 rfl 106 (by decide) (fun hc => ?_) (fun hc => ?_)
      · replace hf := if_t hf hc
        refine k_aload_0 C 54 rfl 0 rfl ?_
        refine k_ldc C 55 rfl qX5_88 ?_
        refine k_iload_3 C 56 rfl 3 rfl ?_
        refine k_iadd C 57 rfl ?_
        obtain ⟨K_111, h5, hf⟩ := ob1_some hf
        refine k_callV (X := (wK cy c b K_93 Q_93).take 0) (Y := (wK cy c b K_93 Q_93).drop 5) (w2 := (wK cy c b K_111 Q_93)) C 58 (c_X5_emit Z.2.1 D cy c b K_93 (100000 + x3) K_111 h5) rfl qX5_78 mvX5_emit 0 5 K1_c0 rfl rfl rfl rfl rfl (Nat.le_of_ble_eq_true rfl) ⟨Nat.le_of_ble_eq_true rfl, Nat.le_of_ble_eq_true rfl, Nat.le_refl 0, Nat.le_refl 0⟩ ?_
        exact k_sub [0, 1, 2] rfl (hb114 x1 x2 K_111 Q_93 hf)
      · replace hf := if_f hf hc
        refine k_iload_3 C 51 rfl 3 rfl ?_
        refine k_istore_1 C 52 rfl (by decide) rfl ?_
        refine k_sub (lv2 := [(0, .ref (c 0)), (1, .int x3), (2, .int x2), (3, .int x3), (4, .int x4)]) [1, 0, 2, 3, 4] rfl ?_
        refine k_goto C 53 rfl 114 (by decide) ?_
        exact k_sub [0, 1, 2] rfl (hb114 x3 x2 K_93 Q_93 hf)
    have hb68 : ∀ (x1 : Int32) (x2 : Int32) (x3 : Int32) (x4 : Int32) (K : Sg) (Q : Sg), f_X5_readSum_b68 k8 x1 x2 x3 x4 K Q = some (K1, Q1) → Wk Z D 5 0 0 (wK cy c b K Q) 68 [(0, .ref (c 0)), (1, .int x1), (2, .int x2), (3, .int x3), (4, .int x4)] [] := by
      intro x1 x2 x3 x4 K Q hf
      unfold f_X5_readSum_b68 at hf
      refine k_aload_0 C 35 rfl 0 rfl ?_
      refine kg5_6 C 36 rfl qX5_24 0 K_c0 K_f0_6 ?_
      obtain ⟨Q_72, h5, hf⟩ := ob1_some hf
      refine k_callV (X := (wK cy c b K Q).take 5) (Y := (wK cy c b K Q).drop 10) (w2 := (wK cy c b K Q_72)) C 37 (c_X8_step Z.2.1 D cy b Q Q_72 h5) rfl qX5_65 mvX8_step 0 8 Q_c0 rfl rfl rfl rfl rfl (Nat.le_of_ble_eq_true rfl) ⟨Nat.le_of_ble_eq_true rfl, Nat.le_of_ble_eq_true rfl, Nat.le_refl 0, Nat.le_refl 0⟩ ?_
      refine k_iload C 38 rfl 4 rfl ?_
      refine k_if_eq C 39 rfl 92 (by decide) (fun hc => ?_) (fun hc => ?_)
      · replace hf := if_t hf hc
        exact k_sub [0, 1, 2, 3, 4] rfl (hb92 x1 x2 x3 x4 K Q_72 hf)
      · replace hf := if_f hf hc
        refine k_iload_1 C 40 rfl 1 rfl ?_
        refine k_if_eq C 41 rfl 92 (by decide) (fun hc => ?_) (fun hc => ?_)
        · replace hf := if_t hf hc
          exact k_sub [0, 1, 2, 3, 4] rfl (hb92 x1 x2 x3 x4 K Q_72 hf)
        · replace hf := if_f hf hc
          refine k_aload_0 C 42 rfl 0 rfl ?_
          refine k_ldc C 43 rfl qX5_88 ?_
          refine k_iload_1 C 44 rfl 1 rfl ?_
          refine k_iadd C 45 rfl ?_
          obtain ⟨K_89, h5, hf⟩ := ob1_some hf
          refine k_callV (X := (wK cy c b K Q_72).take 0) (Y := (wK cy c b K Q_72).drop 5) (w2 := (wK cy c b K_89 Q_72)) C 46 (c_X5_emit Z.2.1 D cy c b K (100000 + x1) K_89 h5) rfl qX5_78 mvX5_emit 0 5 K1_c0 rfl rfl rfl rfl rfl (Nat.le_of_ble_eq_true rfl) ⟨Nat.le_of_ble_eq_true rfl, Nat.le_of_ble_eq_true rfl, Nat.le_refl 0, Nat.le_refl 0⟩ ?_
          exact k_sub [0, 1, 2, 3, 4] rfl (hb92 x1 x2 x3 x4 K_89 Q_72 hf)
    have hb40 : ∀ (x1 : Int32) (x2 : Int32) (x3 : Int32) (s0 : Int32) (K : Sg) (Q : Sg), f_X5_readSum_b40 k8 x1 x2 x3 s0 K Q = some (K1, Q1) → Wk Z D 5 0 0 (wK cy c b K Q) 40 [(0, .ref (c 0)), (1, .int x1), (2, .int x2), (3, .int x3)] [.int s0] := by
      intro x1 x2 x3 s0 K Q hf
      unfold f_X5_readSum_b40 at hf
      refine k_istore C 22 rfl (by decide) rfl ?_
      refine k_sub (lv2 := [(0, .ref (c 0)), (1, .int x1), (2, .int x2), (3, .int x3), (4, .int s0)]) [1, 2, 3, 4, 0] rfl ?_
      refine k_iload C 23 rfl 4 rfl ?_
      refine k_if_ne C 24 rfl 68 (by decide) (fun hc => ?_) (fun hc => ?_)
      · replace hf := if_f hf hc
        exact k_sub [0, 1, 2, 3, 4] rfl (hb68 x1 x2 x3 s0 K Q hf)
      · replace hf := if_t hf hc
        refine k_iload_3 C 25 rfl 3 rfl ?_
        refine k_bipush C 26 rfl cb_42 ?_
        refine k_icmp_eq C 27 rfl 68 (by decide) (fun hc => ?_) (fun hc => ?_)
        · replace hf := if_t hf hc
          exact k_sub [0, 1, 2, 3, 4] rfl (hb68 x1 x2 x3 s0 K Q hf)
        · replace hf := if_f hf hc
          refine k_iload_3 C 28 rfl 3 rfl ?_
          refine k_bipush C 29 rfl cb_47 ?_
          refine k_icmp_eq C 30 rfl 68 (by decide) (fun hc => ?_) (fun hc => ?_)
          · replace hf := if_t hf hc
            exact k_sub [0, 1, 2, 3, 4] rfl (hb68 x1 x2 x3 s0 K Q hf)
          · replace hf := if_f hf hc
            refine k_iload_3 C 31 rfl 3 rfl ?_
            refine k_bipush C 32 rfl cb_37 ?_
            refine k_icmp_eq C 33 rfl 68 (by decide) (fun hc => ?_) (fun hc => ?_)
            · replace hf := if_t hf hc
              exact k_sub [0, 1, 2, 3, 4] rfl (hb68 x1 x2 x3 s0 K Q hf)
            · replace hf := if_f hf hc
              refine k_goto C 34 rfl 120 (by decide) ?_
              exact k_sub [0, 1] rfl (hb120 x1 K Q hf)
    have hb35 : ∀ (x1 : Int32) (x2 : Int32) (x3 : Int32) (K : Sg) (Q : Sg), f_X5_readSum_b35 k8 x1 x2 x3 K Q = some (K1, Q1) → Wk Z D 5 0 0 (wK cy c b K Q) 35 [(0, .ref (c 0)), (1, .int x1), (2, .int x2), (3, .int x3)] [] := by
      intro x1 x2 x3 K Q hf
      unfold f_X5_readSum_b35 at hf
      refine k_iconst C 19 rfl ci_1 ?_
      refine k_goto C 20 rfl 40 (by decide) ?_
      exact k_sub [0, 1, 2, 3] rfl (hb40 x1 x2 x3 1 K Q hf)
    refine k_iload_2 C 6 rfl 2 rfl ?_
    refine k_sipush C 7 rfl cs_400 ?_
    refine k_icmp_ge C 8 rfl 120 (by decide) (fun hc => ?_) (fun hc => ?_)
    · replace hf := if_t hf hc
      exact k_sub [0, 1] rfl (hb120 x1 K Q hf)
    · replace hf := if_f hf hc
      refine k_aload_0 C 9 rfl 0 rfl ?_
      refine kg5_6 C 10 rfl qX5_24 0 K_c0 K_f0_6 ?_
      obtain ⟨r19, h5, hf⟩ := ob1_some hf
      refine k_callV (X := (wK cy c b K Q).take 5) (Y := (wK cy c b K Q).drop 10) (w2 := (wK cy c b K Q)) C 11 (c_X8_signHere Z.2.1 D cy b Q r19 h5) rfl qX5_82 mvX8_signHere 0 8 Q_c0 rfl rfl rfl rfl rfl (Nat.le_of_ble_eq_true rfl) ⟨Nat.le_of_ble_eq_true rfl, Nat.le_of_ble_eq_true rfl, Nat.le_refl 0, Nat.le_refl 0⟩ ?_
      refine k_istore_3 C 12 rfl (by decide) rfl ?_
      refine k_sub (lv2 := [(0, .ref (c 0)), (1, .int x1), (2, .int x2), (3, .int r19)]) [1, 2, 3, 0] rfl ?_
      refine k_iload_3 C 13 rfl 3 rfl ?_
      refine k_bipush C 14 rfl cb_43 ?_
      refine k_icmp_eq C 15 rfl 35 (by decide) (fun hc => ?_) (fun hc => ?_)
      · replace hf := if_t hf hc
        exact k_sub [0, 1, 2, 3] rfl (hb35 x1 x2 r19 K Q hf)
      · replace hf := if_f hf hc
        refine k_iload_3 C 16 rfl 3 rfl ?_
        refine k_bipush C 17 rfl cb_45 ?_
        refine k_icmp_ne C 18 rfl 39 (by decide) (fun hc => ?_) (fun hc => ?_)
        · replace hf := if_f hf hc
          refine k_iconst C 21 rfl ci_0 ?_
          exact k_sub [0, 1, 2, 3] rfl (hb40 x1 x2 r19 0 K Q hf)
        · replace hf := if_t hf hc
          exact k_sub [0, 1, 2, 3] rfl (hb35 x1 x2 r19 K Q hf)
  have hb8 := flW4 hq8
  refine k_aload_0 C 0 rfl 0 rfl ?_
  obtain ⟨K_1, Q_1, h5, hf⟩ := ob2_some hf
  refine k_callW C 1 (c_X5_readValue Z.2.1 D cy c b K Q K_1 Q_1 h5) rfl qX5_90 mvX5_readValue 0 5 K_c0 rfl rfl rfl (Nat.le_of_ble_eq_true rfl) ⟨Nat.le_of_ble_eq_true rfl, Nat.le_of_ble_eq_true rfl, Nat.le_refl 0, Nat.le_refl 0⟩ ?_
  refine k_iconst C 2 rfl ci_0 ?_
  refine k_istore_1 C 3 rfl (by decide) rfl ?_
  refine k_sub (lv2 := [(0, .ref (c 0)), (1, .int 0)]) [1, 0] rfl ?_
  refine k_iconst C 4 rfl ci_0 ?_
  refine k_istore_2 C 5 rfl (by decide) rfl ?_
  refine k_sub (lv2 := [(0, .ref (c 0)), (1, .int 0), (2, .int 0)]) [1, 2, 0] rfl ?_
  exact k_sub [0, 1, 2] rfl (hb8 FU 0 0 K_1 Q_1 hf)
