set_option maxHeartbeats 1000000 in
set_option maxRecDepth 20000 in
theorem c_X12_fact (l : Launch) (D : va_G) (cy : Nat → ClassId) (a : Nat → Nat) (M : Sg) (r : Bool) (M1 : Sg) (hf : f_X12_fact M = some (r, M1)) : Ct l D cy yX12_fact cX12_fact 3 (some .boolean) 7 154 0 0 [.ref (a 0)] (mw cy a M) (some (.int (bI r))) (mw cy a M1) := by
  refine Ct_z tX12_fact hX12_fact (by decide) (Nat.le_of_ble_eq_true rfl) ?_
  intro Z hZ C hR
  subst hZ
  replace C : Cx Z D cy RX12 tX12_fact 3 7 154 0 0 := C
  show Wk Z D 3 0 0 (mw cy a M) 0 [(0, .ref (a 0))] []
  unfold f_X12_fact at hf
  have hq2 : ∀ (k2 : Int32 → Sg → Option (Bool × Sg)), (∀ (x1 : Int32) (M : Sg), k2 x1 M = some (r, M1) → Wk Z D 3 0 0 (mw cy a M) 2 [(0, .ref (a 0)), (1, .int x1)] []) → ∀ (x1 : Int32) (M : Sg), f_X12_fact_b2 k2 x1 M = some (r, M1) → Wk Z D 3 0 0 (mw cy a M) 2 [(0, .ref (a 0)), (1, .int x1)] [] := by
    intro k2 hk2 x1 M hf
    unfold f_X12_fact_b2 at hf
    have hb72 : ∀ (x1 : Int32) (M : Sg), f_X12_fact_b72 k2 x1 M = some (r, M1) → Wk Z D 3 0 0 (mw cy a M) 72 [(0, .ref (a 0)), (1, .int x1)] [] := by
      intro x1 M hf
      unfold f_X12_fact_b72 at hf
      refine k_goto C 41 rfl 2 (by decide) ?_
      exact k_sub [0, 1] rfl (hk2 x1 M hf)
    refine k_iload_1 C 2 rfl 1 rfl ?_
    refine k_if_eq C 3 rfl 75 (by decide) (fun hc => ?_) (fun hc => ?_)
    · replace hf := if_t hf hc
      refine k_aload_0 C 42 rfl 0 rfl ?_
      obtain ⟨r76, M_76, h5, hf⟩ := ob2_some hf
      refine k_callW C 43 (c_X12_compare Z.2.1 D cy a M r76 M_76 h5) rfl qX12_199 mvX12_compare 0 12 M_c0 rfl rfl rfl (Nat.le_of_ble_eq_true rfl) ⟨Nat.le_of_ble_eq_true rfl, Nat.le_of_ble_eq_true rfl, Nat.le_refl 0, Nat.le_refl 0⟩ ?_
      exact k_zret (wf := (fun u => (mw cy a u))) hR 44 rfl hf
    · replace hf := if_f hf hc
      refine k_iconst C 4 rfl ci_0 ?_
      refine k_istore_1 C 5 rfl (by decide) rfl ?_
      refine k_sub (lv2 := [(0, .ref (a 0)), (1, .int 0)]) [1, 0] rfl ?_
      refine k_aload_0 C 6 rfl 0 rfl ?_
      obtain ⟨r9, M_9, h5, hf⟩ := ob2_some hf
      refine k_callW C 7 (c_X12_see Z.2.1 D cy a M r9 M_9 h5) rfl qX12_99 mvX12_see 0 12 M_c0 rfl rfl rfl (Nat.le_of_ble_eq_true rfl) ⟨Nat.le_of_ble_eq_true rfl, Nat.le_of_ble_eq_true rfl, Nat.le_refl 0, Nat.le_refl 0⟩ ?_
      refine k_istore_2 C 8 rfl (by decide) rfl ?_
      refine k_sub (lv2 := [(0, .ref (a 0)), (1, .int 0), (2, .int r9)]) [1, 2, 0] rfl ?_
      refine k_aload_0 C 9 rfl 0 rfl ?_
      refine k_ldc2 C 10 rfl qX12_194 ?_
      obtain ⟨r17, M_17, h5, hf⟩ := ob2_some hf
      refine k_callW C 11 (c_X12_isWord Z.2.1 D cy a M_9 (7237492 : Int64) r17 M_17 h5) rfl qX12_107 mvX12_isWord 0 12 M_c0 rfl rfl rfl (Nat.le_of_ble_eq_true rfl) ⟨Nat.le_of_ble_eq_true rfl, Nat.le_of_ble_eq_true rfl, Nat.le_refl 0, Nat.le_refl 0⟩ ?_
      refine k_if_eq C 12 rfl 43 (by decide) (fun hc => ?_) (fun hc => ?_)
      · replace hf := if_t hf hc
        refine k_iload_2 C 24 rfl 2 rfl ?_
        refine k_bipush C 25 rfl cb_91 ?_
        refine k_icmp_ne C 26 rfl 72 (by decide) (fun hc => ?_) (fun hc => ?_)
        · replace hf := if_f hf hc
          exact k_sub [0, 1] rfl (hb72 0 M_17 hf)
        · replace hf := if_t hf hc
          refine k_aload_0 C 27 rfl 0 rfl ?_
          refine k_bipush C 28 rfl cb_91 ?_
          obtain ⟨r52, M_52, h5, hf⟩ := ob2_some hf
          refine k_callW C 29 (c_X12_opens Z.2.1 D cy a M_17 91 r52 M_52 h5) rfl qX12_196 mvX12_opens 0 12 M_c0 rfl rfl rfl (Nat.le_of_ble_eq_true rfl) ⟨Nat.le_of_ble_eq_true rfl, Nat.le_of_ble_eq_true rfl, Nat.le_refl 0, Nat.le_refl 0⟩ ?_
          refine k_if_ne C 30 rfl 60 (by decide) (fun hc => ?_) (fun hc => ?_)
          · replace hf := if_f hf hc
            refine k_aload_0 C 33 rfl 0 rfl ?_
            refine k_dup C 34 rfl rfl ?_
            refine kg12_8 C 35 rfl qX12_96 0 M_c0 M_f0_8 ?_
            refine k_iconst C 36 rfl ci_1 ?_
            refine k_iadd C 37 rfl ?_
            obtain ⟨M_67, hM, hf⟩ := bnd_some hf
            refine kp12_8 (w2 := (mw cy a M_67)) C 38 rfl qX12_96 0 M_c0 (v := ((M_52.1 8) + 1)) M_n0 (M_p0_8.trans (congrArg (fun z => (mw cy a z)) hM)) ?_
            refine k_iconst C 39 rfl ci_1 ?_
            refine k_istore_1 C 40 rfl (by decide) rfl ?_
            refine k_sub (lv2 := [(0, .ref (a 0)), (1, .int 1), (2, .int r9)]) [1, 0, 2] rfl ?_
            exact k_sub [0, 1] rfl (hb72 1 M_67 hf)
          · replace hf := if_t hf hc
            refine k_iconst C 31 rfl ci_0 ?_
            exact k_zret (wf := (fun u => (mw cy a u))) hR 32 rfl hf
      · replace hf := if_f hf hc
        refine k_aload_0 C 13 rfl 0 rfl ?_
        refine k_bipush C 14 rfl cb_11 ?_
        obtain ⟨r26, M_26, h5, hf⟩ := ob2_some hf
        refine k_callW C 15 (c_X12_opens Z.2.1 D cy a M_17 11 r26 M_26 h5) rfl qX12_196 mvX12_opens 0 12 M_c0 rfl rfl rfl (Nat.le_of_ble_eq_true rfl) ⟨Nat.le_of_ble_eq_true rfl, Nat.le_of_ble_eq_true rfl, Nat.le_refl 0, Nat.le_refl 0⟩ ?_
        refine k_if_ne C 16 rfl 34 (by decide) (fun hc => ?_) (fun hc => ?_)
        · replace hf := if_f hf hc
          refine k_aload_0 C 19 rfl 0 rfl ?_
          obtain ⟨M_35, h5, hf⟩ := ob1_some hf
          refine k_callW C 20 (c_X12_passWord Z.2.1 D cy a M_26 M_35 h5) rfl qX12_111 mvX12_passWord 0 12 M_c0 rfl rfl rfl (Nat.le_of_ble_eq_true rfl) ⟨Nat.le_of_ble_eq_true rfl, Nat.le_of_ble_eq_true rfl, Nat.le_refl 0, Nat.le_refl 0⟩ ?_
          refine k_iconst C 21 rfl ci_1 ?_
          refine k_istore_1 C 22 rfl (by decide) rfl ?_
          refine k_sub (lv2 := [(0, .ref (a 0)), (1, .int 1), (2, .int r9)]) [1, 0, 2] rfl ?_
          refine k_goto C 23 rfl 72 (by decide) ?_
          exact k_sub [0, 1] rfl (hb72 1 M_35 hf)
        · replace hf := if_t hf hc
          refine k_iconst C 17 rfl ci_0 ?_
          exact k_zret (wf := (fun u => (mw cy a u))) hR 18 rfl hf
  have hb2 := flW2 hq2
  refine k_iconst C 0 rfl ci_1 ?_
  refine k_istore_1 C 1 rfl (by decide) rfl ?_
  refine k_sub (lv2 := [(0, .ref (a 0)), (1, .int 1)]) [1, 0] rfl ?_
  exact k_sub [0, 1] rfl (hb2 FU 1 M hf)
set_option maxHeartbeats 1000000 in
set_option maxRecDepth 20000 in
theorem c_X12_isInside (l : Launch) (D : va_G) (cy : Nat → ClassId) (a : Nat → Nat) (M : Sg) (r : Bool) (hf : f_X12_isInside M = some r) : Ct l D cy yX12_isInside cX12_isInside 2 (some .boolean) 0 0 0 0 [.ref (a 0)] (mw cy a M) (some (.int (bI r))) (mw cy a M) := by
  refine Ct_z tX12_isInside hX12_isInside (by decide) (Nat.le_of_ble_eq_true rfl) ?_
  intro Z hZ C hR
  subst hZ
  replace C : Cx Z D cy RX12 tX12_isInside 2 0 0 0 0 := C
  show Wk Z D 2 0 0 (mw cy a M) 0 [(0, .ref (a 0))] []
  unfold f_X12_isInside at hf
  have hq2 : ∀ (k2 : Int32 → Option (Bool)), (∀ (x1 : Int32), k2 x1 = some r → Wk Z D 2 0 0 (mw cy a M) 2 [(0, .ref (a 0)), (1, .int x1)] []) → ∀ (x1 : Int32), f_X12_isInside_b2 M k2 x1 = some r → Wk Z D 2 0 0 (mw cy a M) 2 [(0, .ref (a 0)), (1, .int x1)] [] := by
    intro k2 hk2 x1 hf
    unfold f_X12_isInside_b2 at hf
    refine k_iload_1 C 2 rfl 1 rfl ?_
    refine k_aload_0 C 3 rfl 0 rfl ?_
    refine kg12_16 C 4 rfl qX12_163 0 M_c0 M_f0_16 ?_
    refine k_icmp_ge C 5 rfl 29 (by decide) (fun hc => ?_) (fun hc => ?_)
    · replace hf := if_t hf hc
      refine k_iconst C 16 rfl ci_0 ?_
      exact k_zretP hR 17 rfl hf
    · replace hf := if_f hf hc
      refine k_aload_0 C 6 rfl 0 rfl ?_
      refine kg12_15 C 7 rfl qX12_29 0 M_c0 M_f0_15 ?_
      refine k_iload_1 C 8 rfl 1 rfl ?_
      obtain ⟨i15, hi, hin, hf⟩ := ixd_some hf
      refine k_iald C 9 rfl 7 M_c7 hin hi ?_
      refine k_bipush C 10 rfl cb_91 ?_
      refine k_icmp_ne C 11 rfl 23 (by decide) (fun hc => ?_) (fun hc => ?_)
      · replace hf := if_f hf hc
        obtain ⟨x1_23, hx, hf⟩ := bnd_some hf
        refine k_iinc C 14 rfl 1 rfl ((cn_1 _).trans hx) (by decide) rfl ?_
        refine k_sub (lv2 := [(0, .ref (a 0)), (1, .int x1_23)]) [1, 0] rfl ?_
        refine k_goto C 15 rfl 2 (by decide) ?_
        exact k_sub [0, 1] rfl (hk2 x1_23 hf)
      · replace hf := if_t hf hc
        refine k_iconst C 12 rfl ci_1 ?_
        exact k_zretP hR 13 rfl hf
  have hb2 := flW1 hq2
  refine k_iconst C 0 rfl ci_0 ?_
  refine k_istore_1 C 1 rfl (by decide) rfl ?_
  refine k_sub (lv2 := [(0, .ref (a 0)), (1, .int 0)]) [1, 0] rfl ?_
  exact k_sub [0, 1] rfl (hb2 FU 0 hf)
set_option maxHeartbeats 1000000 in
set_option maxRecDepth 20000 in
theorem c_X12_closes (l : Launch) (D : va_G) (cy : Nat → ClassId) (a : Nat → Nat) (M : Sg) (M1 : Sg) (hf : f_X12_closes M = some M1) : Ct l D cy yX12_closes cX12_closes 1 none 2 43 0 0 [.ref (a 0)] (mw cy a M) none (mw cy a M1) := by
  refine Ct_v tX12_closes hX12_closes (by decide) (Nat.le_of_ble_eq_true rfl) ?_
  intro Z hZ C hR
  subst hZ
  replace C : Cx Z D cy RX12 tX12_closes 1 2 43 0 0 := C
  show Wk Z D 1 0 0 (mw cy a M) 0 [(0, .ref (a 0))] []
  unfold f_X12_closes at hf
  have hq5 : ∀ (k5 : Sg → Option (Sg)), (∀ (M : Sg), k5 M = some M1 → Wk Z D 1 0 0 (mw cy a M) 5 [(0, .ref (a 0))] []) → ∀ (M : Sg), f_X12_closes_b5 k5 M = some M1 → Wk Z D 1 0 0 (mw cy a M) 5 [(0, .ref (a 0))] [] := by
    intro k5 hk5 M hf
    unfold f_X12_closes_b5 at hf
    refine k_aload_0 C 3 rfl 0 rfl ?_
    obtain ⟨r6, M_6, h5, hf⟩ := ob2_some hf
    refine k_callW C 4 (c_X12_see Z.2.1 D cy a M r6 M_6 h5) rfl qX12_99 mvX12_see 0 12 M_c0 rfl rfl rfl (Nat.le_of_ble_eq_true rfl) ⟨Nat.le_of_ble_eq_true rfl, Nat.le_of_ble_eq_true rfl, Nat.le_refl 0, Nat.le_refl 0⟩ ?_
    refine k_bipush C 5 rfl cb_93 ?_
    refine k_icmp_ne C 6 rfl 64 (by decide) (fun hc => ?_) (fun hc => ?_)
    · replace hf := if_f hf hc
      exact k_vret (wf := (fun u => (mw cy a u))) hR 35 rfl hf
    · replace hf := if_t hf hc
      refine k_aload_0 C 7 rfl 0 rfl ?_
      obtain ⟨r15, h5, hf⟩ := ob1_some hf
      refine k_callW C 8 (c_X12_isInside Z.2.1 D cy a M_6 r15 h5) rfl qX12_205 mvX12_isInside 0 12 M_c0 rfl rfl rfl (Nat.le_of_ble_eq_true rfl) ⟨Nat.le_of_ble_eq_true rfl, Nat.le_of_ble_eq_true rfl, Nat.le_refl 0, Nat.le_refl 0⟩ ?_
      refine k_if_eq C 9 rfl 64 (by decide) (fun hc => ?_) (fun hc => ?_)
      · replace hf := if_t hf hc
        exact k_vret (wf := (fun u => (mw cy a u))) hR 35 rfl hf
      · replace hf := if_f hf hc
        refine k_aload_0 C 10 rfl 0 rfl ?_
        refine k_iconst C 11 rfl ci_1 ?_
        obtain ⟨M_23, h5, hf⟩ := ob1_some hf
        refine k_callW C 12 (c_X12_settles Z.2.1 D cy a M_6 1 M_23 h5) rfl qX12_202 mvX12_settles 0 12 M_c0 rfl rfl rfl (Nat.le_of_ble_eq_true rfl) ⟨Nat.le_of_ble_eq_true rfl, Nat.le_of_ble_eq_true rfl, Nat.le_refl 0, Nat.le_refl 0⟩ ?_
        refine k_aload_0 C 13 rfl 0 rfl ?_
        refine k_dup C 14 rfl rfl ?_
        refine kg12_16 C 15 rfl qX12_163 0 M_c0 M_f0_16 ?_
        refine k_iconst C 16 rfl ci_1 ?_
        refine k_isub C 17 rfl ?_
        obtain ⟨M_33, hM, hf⟩ := bnd_some hf
        refine kp12_16 (w2 := (mw cy a M_33)) C 18 rfl qX12_163 0 M_c0 (v := ((M_23.1 16) - 1)) M_n0 (M_p0_16.trans (congrArg (fun z => (mw cy a z)) hM)) ?_
        refine k_aload_0 C 19 rfl 0 rfl ?_
        refine k_dup C 20 rfl rfl ?_
        refine kg12_13 C 21 rfl qX12_160 0 M_c0 M_f0_13 ?_
        refine k_iconst C 22 rfl ci_1 ?_
        refine k_isub C 23 rfl ?_
        obtain ⟨M_43, hM, hf⟩ := bnd_some hf
        refine kp12_13 (w2 := (mw cy a M_43)) C 24 rfl qX12_160 0 M_c0 (v := ((M_33.1 13) - 1)) M_n0 (M_p0_13.trans (congrArg (fun z => (mw cy a z)) hM)) ?_
        refine k_aload_0 C 25 rfl 0 rfl ?_
        refine k_dup C 26 rfl rfl ?_
        refine kg12_8 C 27 rfl qX12_96 0 M_c0 M_f0_8 ?_
        refine k_iconst C 28 rfl ci_1 ?_
        refine k_iadd C 29 rfl ?_
        obtain ⟨M_53, hM, hf⟩ := bnd_some hf
        refine kp12_8 (w2 := (mw cy a M_53)) C 30 rfl qX12_96 0 M_c0 (v := ((M_43.1 8) + 1)) M_n0 (M_p0_8.trans (congrArg (fun z => (mw cy a z)) hM)) ?_
        refine k_aload_0 C 31 rfl 0 rfl ?_
        refine k_iconst C 32 rfl ci_3 ?_
        obtain ⟨M_58, h5, hf⟩ := ob1_some hf
        refine k_callW C 33 (c_X12_settles Z.2.1 D cy a M_53 3 M_58 h5) rfl qX12_202 mvX12_settles 0 12 M_c0 rfl rfl rfl (Nat.le_of_ble_eq_true rfl) ⟨Nat.le_of_ble_eq_true rfl, Nat.le_of_ble_eq_true rfl, Nat.le_refl 0, Nat.le_refl 0⟩ ?_
        refine k_goto C 34 rfl 5 (by decide) ?_
        exact k_sub [0] rfl (hk5 M_58 hf)
  have hb5 := flW1 hq5
  refine k_aload_0 C 0 rfl 0 rfl ?_
  refine k_iconst C 1 rfl ci_3 ?_
  obtain ⟨M_2, h5, hf⟩ := ob1_some hf
  refine k_callW C 2 (c_X12_settles Z.2.1 D cy a M 3 M_2 h5) rfl qX12_202 mvX12_settles 0 12 M_c0 rfl rfl rfl (Nat.le_of_ble_eq_true rfl) ⟨Nat.le_of_ble_eq_true rfl, Nat.le_of_ble_eq_true rfl, Nat.le_refl 0, Nat.le_refl 0⟩ ?_
  exact k_sub [0] rfl (hb5 FU M_2 hf)
set_option maxHeartbeats 1000000 in
set_option maxRecDepth 20000 in
theorem c_X12_tested (l : Launch) (D : va_G) (cy : Nat → ClassId) (a : Nat → Nat) (M : Sg) (r : Bool) (M1 : Sg) (hf : f_X12_tested M = some (r, M1)) : Ct l D cy yX12_tested cX12_tested 3 (some .boolean) 8 176 0 0 [.ref (a 0)] (mw cy a M) (some (.int (bI r))) (mw cy a M1) := by
  refine Ct_z tX12_tested hX12_tested (by decide) (Nat.le_of_ble_eq_true rfl) ?_
  intro Z hZ C hR
  subst hZ
  replace C : Cx Z D cy RX12 tX12_tested 3 8 176 0 0 := C
  show Wk Z D 3 0 0 (mw cy a M) 0 [(0, .ref (a 0))] []
  unfold f_X12_tested at hf
  have hq12 : ∀ (k12 : Int32 → Sg → Option (Bool × Sg)), (∀ (x1 : Int32) (M : Sg), k12 x1 M = some (r, M1) → Wk Z D 3 0 0 (mw cy a M) 12 [(0, .ref (a 0)), (1, .int x1)] []) → ∀ (x1 : Int32) (M : Sg), f_X12_tested_b12 k12 x1 M = some (r, M1) → Wk Z D 3 0 0 (mw cy a M) 12 [(0, .ref (a 0)), (1, .int x1)] [] := by
    intro k12 hk12 x1 M hf
    unfold f_X12_tested_b12 at hf
    have hb76 : ∀ (x1 : Int32) (s0 : Int32) (M : Sg), f_X12_tested_b76 k12 x1 s0 M = some (r, M1) → Wk Z D 3 0 0 (mw cy a M) 76 [(0, .ref (a 0)), (1, .int x1)] [.int s0] := by
      intro x1 s0 M hf
      unfold f_X12_tested_b76 at hf
      refine k_istore_2 C 38 rfl (by decide) rfl ?_
      refine k_sub (lv2 := [(0, .ref (a 0)), (1, .int x1), (2, .int s0)]) [1, 2, 0] rfl ?_
      refine k_aload_0 C 39 rfl 0 rfl ?_
      obtain ⟨M_78, h5, hf⟩ := ob1_some hf
      refine k_callW C 40 (c_X12_passWord Z.2.1 D cy a M M_78 h5) rfl qX12_111 mvX12_passWord 0 12 M_c0 rfl rfl rfl (Nat.le_of_ble_eq_true rfl) ⟨Nat.le_of_ble_eq_true rfl, Nat.le_of_ble_eq_true rfl, Nat.le_refl 0, Nat.le_refl 0⟩ ?_
      refine k_aload_0 C 41 rfl 0 rfl ?_
      refine k_iload_2 C 42 rfl 2 rfl ?_
      obtain ⟨r83, h5, hf⟩ := ob1_some hf
      refine k_callE C 43 (c_X12_strength Z.2.1 D cy s0 r83 h5) rfl qX12_166 msX12_strength rfl rfl (Nat.le_of_ble_eq_true rfl) ⟨Nat.le_of_ble_eq_true rfl, Nat.le_of_ble_eq_true rfl, Nat.le_refl 0, Nat.le_refl 0⟩ ?_
      obtain ⟨M_86, h5, hf⟩ := ob1_some hf
      refine k_callW C 44 (c_X12_settles Z.2.1 D cy a M_78 r83 M_86 h5) rfl qX12_202 mvX12_settles 0 12 M_c0 rfl rfl rfl (Nat.le_of_ble_eq_true rfl) ⟨Nat.le_of_ble_eq_true rfl, Nat.le_of_ble_eq_true rfl, Nat.le_refl 0, Nat.le_refl 0⟩ ?_
      refine k_aload_0 C 45 rfl 0 rfl ?_
      refine kg12_15 C 46 rfl qX12_29 0 M_c0 M_f0_15 ?_
      refine k_aload_0 C 47 rfl 0 rfl ?_
      refine kg12_16 C 48 rfl qX12_163 0 M_c0 M_f0_16 ?_
      refine k_iload_2 C 49 rfl 2 rfl ?_
      obtain ⟨i98, hi, hin, hf⟩ := ixd_some hf
      obtain ⟨M_98, hM, hf⟩ := bnd_some hf
      refine k_iast (w2 := (mw cy a M_98)) C 50 rfl 7 M_c7 hin hi (M_s7.trans (congrArg (fun z => (mw cy a z)) hM)) ?_
      refine k_aload_0 C 51 rfl 0 rfl ?_
      refine k_dup C 52 rfl rfl ?_
      refine kg12_16 C 53 rfl qX12_163 0 M_c0 M_f0_16 ?_
      refine k_iconst C 54 rfl ci_1 ?_
      refine k_iadd C 55 rfl ?_
      obtain ⟨M_106, hM, hf⟩ := bnd_some hf
      refine kp12_16 (w2 := (mw cy a M_106)) C 56 rfl qX12_163 0 M_c0 (v := ((M_98.1 16) + 1)) M_n0 (M_p0_16.trans (congrArg (fun z => (mw cy a z)) hM)) ?_
      refine k_goto C 57 rfl 12 (by decide) ?_
      exact k_sub [0, 1] rfl (hk12 x1 M_106 hf)
    have hb54 : ∀ (s0 : Int32) (M : Sg), f_X12_tested_b54 k12 s0 M = some (r, M1) → Wk Z D 3 0 0 (mw cy a M) 54 [(0, .ref (a 0))] [.int s0] := by
      intro s0 M hf
      unfold f_X12_tested_b54 at hf
      refine k_istore_1 C 28 rfl (by decide) rfl ?_
      refine k_sub (lv2 := [(0, .ref (a 0)), (1, .int s0)]) [1, 0] rfl ?_
      refine k_iload_1 C 29 rfl 1 rfl ?_
      refine k_if_eq C 30 rfl 12 (by decide) (fun hc => ?_) (fun hc => ?_)
      · replace hf := if_t hf hc
        exact k_sub [0, 1] rfl (hk12 s0 M hf)
      · replace hf := if_f hf hc
        refine k_aload_0 C 31 rfl 0 rfl ?_
        refine k_ldc2 C 32 rfl qX12_214 ?_
        obtain ⟨r63, M_63, h5, hf⟩ := ob2_some hf
        refine k_callW C 33 (c_X12_isWord Z.2.1 D cy a M (6385252 : Int64) r63 M_63 h5) rfl qX12_107 mvX12_isWord 0 12 M_c0 rfl rfl rfl (Nat.le_of_ble_eq_true rfl) ⟨Nat.le_of_ble_eq_true rfl, Nat.le_of_ble_eq_true rfl, Nat.le_refl 0, Nat.le_refl 0⟩ ?_
        refine k_if_eq C 34 rfl 74 (by decide) (fun hc => ?_) (fun hc => ?_)
        · replace hf := if_t hf hc
          refine k_bipush C 37 rfl cb_13 ?_
          exact k_sub [0, 1] rfl (hb76 s0 13 M_63 hf)
        · replace hf := if_f hf hc
          refine k_bipush C 35 rfl cb_12 ?_
          refine k_goto C 36 rfl 76 (by decide) ?_
          exact k_sub [0, 1] rfl (hb76 s0 12 M_63 hf)
    have hb49 : ∀ (M : Sg), f_X12_tested_b49 k12 M = some (r, M1) → Wk Z D 3 0 0 (mw cy a M) 49 [(0, .ref (a 0))] [] := by
      intro M hf
      unfold f_X12_tested_b49 at hf
      refine k_iconst C 25 rfl ci_1 ?_
      refine k_goto C 26 rfl 54 (by decide) ?_
      exact k_sub [0] rfl (hb54 1 M hf)
    refine k_iload_1 C 8 rfl 1 rfl ?_
    refine k_if_eq C 9 rfl 112 (by decide) (fun hc => ?_) (fun hc => ?_)
    · replace hf := if_t hf hc
      refine k_aload_0 C 58 rfl 0 rfl ?_
      obtain ⟨r113, h5, hf⟩ := ob1_some hf
      refine k_callW C 59 (c_X12_isInside Z.2.1 D cy a M r113 h5) rfl qX12_205 mvX12_isInside 0 12 M_c0 rfl rfl rfl (Nat.le_of_ble_eq_true rfl) ⟨Nat.le_of_ble_eq_true rfl, Nat.le_of_ble_eq_true rfl, Nat.le_refl 0, Nat.le_refl 0⟩ ?_
      refine k_if_eq C 60 rfl 134 (by decide) (fun hc => ?_) (fun hc => ?_)
      · replace hf := if_t hf hc
        refine k_aload_0 C 70 rfl 0 rfl ?_
        refine k_iconst C 71 rfl ci_1 ?_
        obtain ⟨M_136, h5, hf⟩ := ob1_some hf
        refine k_callW C 72 (c_X12_settles Z.2.1 D cy a M 1 M_136 h5) rfl qX12_202 mvX12_settles 0 12 M_c0 rfl rfl rfl (Nat.le_of_ble_eq_true rfl) ⟨Nat.le_of_ble_eq_true rfl, Nat.le_of_ble_eq_true rfl, Nat.le_refl 0, Nat.le_refl 0⟩ ?_
        refine k_iconst C 73 rfl ci_1 ?_
        exact k_zret (wf := (fun u => (mw cy a u))) hR 74 rfl hf
      · replace hf := if_f hf hc
        refine k_aload_0 C 61 rfl 0 rfl ?_
        obtain ⟨r120, M_120, h5, hf⟩ := ob2_some hf
        refine k_callW C 62 (c_X12_see Z.2.1 D cy a M r120 M_120 h5) rfl qX12_99 mvX12_see 0 12 M_c0 rfl rfl rfl (Nat.le_of_ble_eq_true rfl) ⟨Nat.le_of_ble_eq_true rfl, Nat.le_of_ble_eq_true rfl, Nat.le_refl 0, Nat.le_refl 0⟩ ?_
        refine k_pop C 63 rfl rfl ?_
        refine k_aload_0 C 64 rfl 0 rfl ?_
        refine k_iconst C 65 rfl ci_0 ?_
        refine k_aload_0 C 66 rfl 0 rfl ?_
        refine kg12_8 C 67 rfl qX12_96 0 M_c0 M_f0_8 ?_
        obtain ⟨r130, M_130, h5, hf⟩ := ob2_some hf
        refine k_callW C 68 (c_X12_fails Z.2.1 D cy a M_120 0 (M_120.1 8) r130 M_130 h5) rfl qX12_117 mvX12_fails 0 12 M_c0 rfl rfl rfl (Nat.le_of_ble_eq_true rfl) ⟨Nat.le_of_ble_eq_true rfl, Nat.le_of_ble_eq_true rfl, Nat.le_refl 0, Nat.le_refl 0⟩ ?_
        exact k_zret (wf := (fun u => (mw cy a u))) hR 69 rfl hf
    · replace hf := if_f hf hc
      refine k_aload_0 C 10 rfl 0 rfl ?_
      obtain ⟨r17, M_17, h5, hf⟩ := ob2_some hf
      refine k_callW C 11 (c_X12_fact Z.2.1 D cy a M r17 M_17 h5) rfl qX12_208 mvX12_fact 0 12 M_c0 rfl rfl rfl (Nat.le_of_ble_eq_true rfl) ⟨Nat.le_of_ble_eq_true rfl, Nat.le_of_ble_eq_true rfl, Nat.le_refl 0, Nat.le_refl 0⟩ ?_
      refine k_if_ne C 12 rfl 25 (by decide) (fun hc => ?_) (fun hc => ?_)
      · replace hf := if_f hf hc
        refine k_aload_0 C 15 rfl 0 rfl ?_
        obtain ⟨M_26, h5, hf⟩ := ob1_some hf
        refine k_callW C 16 (c_X12_closes Z.2.1 D cy a M_17 M_26 h5) rfl qX12_211 mvX12_closes 0 12 M_c0 rfl rfl rfl (Nat.le_of_ble_eq_true rfl) ⟨Nat.le_of_ble_eq_true rfl, Nat.le_of_ble_eq_true rfl, Nat.le_refl 0, Nat.le_refl 0⟩ ?_
        refine k_aload_0 C 17 rfl 0 rfl ?_
        refine k_ldc2 C 18 rfl qX12_214 ?_
        obtain ⟨r33, M_33, h5, hf⟩ := ob2_some hf
        refine k_callW C 19 (c_X12_isWord Z.2.1 D cy a M_26 (6385252 : Int64) r33 M_33 h5) rfl qX12_107 mvX12_isWord 0 12 M_c0 rfl rfl rfl (Nat.le_of_ble_eq_true rfl) ⟨Nat.le_of_ble_eq_true rfl, Nat.le_of_ble_eq_true rfl, Nat.le_refl 0, Nat.le_refl 0⟩ ?_
        refine k_if_ne C 20 rfl 49 (by decide) (fun hc => ?_) (fun hc => ?_)
        · replace hf := if_f hf hc
          exact k_sub [0] rfl (hb49 M_33 hf)
        · replace hf := if_t hf hc
          refine k_aload_0 C 21 rfl 0 rfl ?_
          refine k_ldc2 C 22 rfl qX12_216 ?_
          obtain ⟨r43, M_43, h5, hf⟩ := ob2_some hf
          refine k_callW C 23 (c_X12_isWord Z.2.1 D cy a M_33 (28530 : Int64) r43 M_43 h5) rfl qX12_107 mvX12_isWord 0 12 M_c0 rfl rfl rfl (Nat.le_of_ble_eq_true rfl) ⟨Nat.le_of_ble_eq_true rfl, Nat.le_of_ble_eq_true rfl, Nat.le_refl 0, Nat.le_refl 0⟩ ?_
          refine k_if_eq C 24 rfl 53 (by decide) (fun hc => ?_) (fun hc => ?_)
          · replace hf := if_t hf hc
            refine k_iconst C 27 rfl ci_0 ?_
            exact k_sub [0] rfl (hb54 0 M_43 hf)
          · replace hf := if_f hf hc
            exact k_sub [0] rfl (hb49 M_43 hf)
      · replace hf := if_t hf hc
        refine k_iconst C 13 rfl ci_0 ?_
        exact k_zret (wf := (fun u => (mw cy a u))) hR 14 rfl hf
  have hb12 := flW2 hq12
  refine k_aload_0 C 0 rfl 0 rfl ?_
  refine k_iconst C 1 rfl ci_0 ?_
  obtain ⟨M_2, hM, hf⟩ := bnd_some hf
  refine kp12_16 (w2 := (mw cy a M_2)) C 2 rfl qX12_163 0 M_c0 (v := 0) M_n0 (M_p0_16.trans (congrArg (fun z => (mw cy a z)) hM)) ?_
  refine k_aload_0 C 3 rfl 0 rfl ?_
  refine k_iconst C 4 rfl ci_0 ?_
  obtain ⟨M_7, hM, hf⟩ := bnd_some hf
  refine kp12_13 (w2 := (mw cy a M_7)) C 5 rfl qX12_160 0 M_c0 (v := 0) M_n0 (M_p0_13.trans (congrArg (fun z => (mw cy a z)) hM)) ?_
  refine k_iconst C 6 rfl ci_1 ?_
  refine k_istore_1 C 7 rfl (by decide) rfl ?_
  refine k_sub (lv2 := [(0, .ref (a 0)), (1, .int 1)]) [1, 0] rfl ?_
  exact k_sub [0, 1] rfl (hb12 FU 1 M_7 hf)
set_option maxHeartbeats 1000000 in
set_option maxRecDepth 20000 in
theorem c_X12_isDoingHere (l : Launch) (D : va_G) (cy : Nat → ClassId) (a : Nat → Nat) (M : Sg) (p1 : Int32) (r : Bool) (M1 : Sg) (hf : f_X12_isDoingHere M p1 = some (r, M1)) : Ct l D cy yX12_isDoingHere cX12_isDoingHere 3 (some .boolean) 9 198 0 0 [.ref (a 0), .int p1] (mw cy a M) (some (.int (bI r))) (mw cy a M1) := by
  refine Ct_z tX12_isDoingHere hX12_isDoingHere (by decide) (Nat.le_of_ble_eq_true rfl) ?_
  intro Z hZ C hR
  subst hZ
  replace C : Cx Z D cy RX12 tX12_isDoingHere 3 9 198 0 0 := C
  show Wk Z D 3 0 0 (mw cy a M) 0 [(0, .ref (a 0)), (1, .int p1)] []
  unfold f_X12_isDoingHere at hf
  have hb124 : ∀ (x2 : Int32) (M : Sg), f_X12_isDoingHere_b124 p1 x2 M = some (r, M1) → Wk Z D 3 0 0 (mw cy a M) 124 [(0, .ref (a 0)), (2, .int x2)] [] := by
    intro x2 M hf
    unfold f_X12_isDoingHere_b124 at hf
    refine k_aload_0 C 77 rfl 0 rfl ?_
    refine kg12_5 C 78 rfl qX12_20 0 M_c0 M_f0_5 ?_
    refine k_iload_2 C 79 rfl 1 rfl ?_
    refine k_iconst C 80 rfl ci_4 ?_
    refine k_iadd C 81 rfl ?_
    refine k_aload_0 C 82 rfl 0 rfl ?_
    refine kg12_4 C 83 rfl qX12_17 0 M_c0 M_f0_4 ?_
    refine k_aload_0 C 84 rfl 0 rfl ?_
    refine kg12_11 C 85 rfl qX12_154 0 M_c0 M_f0_11 ?_
    obtain ⟨i139, hi, hin, hf⟩ := ixd_some hf
    refine k_iald C 86 rfl 3 M_c3 hin hi ?_
    obtain ⟨i140, hi, hin, hf⟩ := ixd_some hf
    obtain ⟨M_140, hM, hf⟩ := bnd_some hf
    refine k_iast (w2 := (mw cy a M_140)) C 87 rfl 4 M_c4 hin hi (M_s4.trans (congrArg (fun z => (mw cy a z)) hM)) ?_
    refine k_aload_0 C 88 rfl 0 rfl ?_
    refine kg12_6 C 89 rfl qX12_23 0 M_c0 M_f0_6 ?_
    refine k_aload_0 C 90 rfl 0 rfl ?_
    refine kg12_11 C 91 rfl qX12_154 0 M_c0 M_f0_11 ?_
    refine k_dup2 C 92 rfl rfl rfl ?_
    obtain ⟨i150, hi, hin, hf⟩ := ixd_some hf
    refine k_iald C 93 rfl 5 M_c5 hin hi ?_
    refine k_iconst C 94 rfl ci_1 ?_
    refine k_iadd C 95 rfl ?_
    obtain ⟨i153, hi, hin, hf⟩ := ixd_some hf
    obtain ⟨M_153, hM, hf⟩ := bnd_some hf
    refine k_iast (w2 := (mw cy a M_153)) C 96 rfl 5 M_c5 hin hi (M_s5.trans (congrArg (fun z => (mw cy a z)) hM)) ?_
    refine k_iconst C 97 rfl ci_1 ?_
    exact k_zret (wf := (fun u => (mw cy a u))) hR 98 rfl hf
  have hb62 : ∀ (x2 : Int32) (M : Sg), f_X12_isDoingHere_b62 p1 x2 M = some (r, M1) → Wk Z D 3 0 0 (mw cy a M) 62 [(0, .ref (a 0)), (2, .int x2)] [] := by
    intro x2 M hf
    unfold f_X12_isDoingHere_b62 at hf
    refine k_aload_0 C 39 rfl 0 rfl ?_
    refine kg12_5 C 40 rfl qX12_20 0 M_c0 M_f0_5 ?_
    refine k_iload_2 C 41 rfl 1 rfl ?_
    refine k_iconst C 42 rfl ci_2 ?_
    refine k_iadd C 43 rfl ?_
    refine k_aload_0 C 44 rfl 0 rfl ?_
    refine kg12_4 C 45 rfl qX12_17 0 M_c0 M_f0_4 ?_
    refine k_aload_0 C 46 rfl 0 rfl ?_
    refine kg12_11 C 47 rfl qX12_154 0 M_c0 M_f0_11 ?_
    obtain ⟨i77, hi, hin, hf⟩ := ixd_some hf
    refine k_iald C 48 rfl 3 M_c3 hin hi ?_
    obtain ⟨i78, hi, hin, hf⟩ := ixd_some hf
    obtain ⟨M_78, hM, hf⟩ := bnd_some hf
    refine k_iast (w2 := (mw cy a M_78)) C 49 rfl 4 M_c4 hin hi (M_s4.trans (congrArg (fun z => (mw cy a z)) hM)) ?_
    refine k_aload_0 C 50 rfl 0 rfl ?_
    refine kg12_5 C 51 rfl qX12_20 0 M_c0 M_f0_5 ?_
    refine k_iload_2 C 52 rfl 1 rfl ?_
    refine k_iconst C 53 rfl ci_3 ?_
    refine k_iadd C 54 rfl ?_
    refine k_iconst C 55 rfl ci_m1 ?_
    obtain ⟨i87, hi, hin, hf⟩ := ixd_some hf
    obtain ⟨M_87, hM, hf⟩ := bnd_some hf
    refine k_iast (w2 := (mw cy a M_87)) C 56 rfl 4 M_c4 hin hi (M_s4.trans (congrArg (fun z => (mw cy a z)) hM)) ?_
    refine k_aload_0 C 57 rfl 0 rfl ?_
    refine k_ldc2 C 58 rfl qX12_218 ?_
    obtain ⟨r92, M_92, h5, hf⟩ := ob2_some hf
    refine k_callW C 59 (c_X12_takesWord Z.2.1 D cy a M_87 (26982 : Int64) r92 M_92 h5) rfl qX12_220 mvX12_takesWord 0 12 M_c0 rfl rfl rfl (Nat.le_of_ble_eq_true rfl) ⟨Nat.le_of_ble_eq_true rfl, Nat.le_of_ble_eq_true rfl, Nat.le_refl 0, Nat.le_refl 0⟩ ?_
    refine k_if_eq C 60 rfl 124 (by decide) (fun hc => ?_) (fun hc => ?_)
    · replace hf := if_t hf hc
      exact k_sub [0, 1] rfl (hb124 x2 M_92 hf)
    · replace hf := if_f hf hc
      refine k_aload_0 C 61 rfl 0 rfl ?_
      refine kg12_5 C 62 rfl qX12_20 0 M_c0 M_f0_5 ?_
      refine k_iload_2 C 63 rfl 1 rfl ?_
      refine k_iconst C 64 rfl ci_3 ?_
      refine k_iadd C 65 rfl ?_
      refine k_aload_0 C 66 rfl 0 rfl ?_
      refine kg12_4 C 67 rfl qX12_17 0 M_c0 M_f0_4 ?_
      refine k_aload_0 C 68 rfl 0 rfl ?_
      refine kg12_11 C 69 rfl qX12_154 0 M_c0 M_f0_11 ?_
      obtain ⟨i113, hi, hin, hf⟩ := ixd_some hf
      refine k_iald C 70 rfl 3 M_c3 hin hi ?_
      obtain ⟨i114, hi, hin, hf⟩ := ixd_some hf
      obtain ⟨M_114, hM, hf⟩ := bnd_some hf
      refine k_iast (w2 := (mw cy a M_114)) C 71 rfl 4 M_c4 hin hi (M_s4.trans (congrArg (fun z => (mw cy a z)) hM)) ?_
      refine k_aload_0 C 72 rfl 0 rfl ?_
      obtain ⟨r116, M_116, h5, hf⟩ := ob2_some hf
      refine k_callW C 73 (c_X12_tested Z.2.1 D cy a M_114 r116 M_116 h5) rfl qX12_223 mvX12_tested 0 12 M_c0 rfl rfl rfl (Nat.le_of_ble_eq_true rfl) ⟨Nat.le_of_ble_eq_true rfl, Nat.le_of_ble_eq_true rfl, Nat.le_refl 0, Nat.le_refl 0⟩ ?_
      refine k_if_ne C 74 rfl 124 (by decide) (fun hc => ?_) (fun hc => ?_)
      · replace hf := if_f hf hc
        exact k_sub [0, 1] rfl (hb124 x2 M_116 hf)
      · replace hf := if_t hf hc
        refine k_iconst C 75 rfl ci_0 ?_
        exact k_zret (wf := (fun u => (mw cy a u))) hR 76 rfl hf
  refine k_aload_0 C 0 rfl 0 rfl ?_
  obtain ⟨M_1, h5, hf⟩ := ob1_some hf
  refine k_callW C 1 (c_X12_passWord Z.2.1 D cy a M M_1 h5) rfl qX12_111 mvX12_passWord 0 12 M_c0 rfl rfl rfl (Nat.le_of_ble_eq_true rfl) ⟨Nat.le_of_ble_eq_true rfl, Nat.le_of_ble_eq_true rfl, Nat.le_refl 0, Nat.le_refl 0⟩ ?_
  refine k_bipush C 2 rfl cb_60 ?_
  refine k_aload_0 C 3 rfl 0 rfl ?_
  refine kg12_11 C 4 rfl qX12_154 0 M_c0 M_f0_11 ?_
  refine k_imul C 5 rfl ?_
  refine k_iconst C 6 rfl ci_5 ?_
  refine k_aload_0 C 7 rfl 0 rfl ?_
  refine kg12_6 C 8 rfl qX12_23 0 M_c0 M_f0_6 ?_
  refine k_aload_0 C 9 rfl 0 rfl ?_
  refine kg12_11 C 10 rfl qX12_154 0 M_c0 M_f0_11 ?_
  obtain ⟨i20, hi, hin, hf⟩ := ixd_some hf
  refine k_iald C 11 rfl 5 M_c5 hin hi ?_
  refine k_imul C 12 rfl ?_
  refine k_iadd C 13 rfl ?_
  obtain ⟨x2_23, hx, hf⟩ := bnd_some hf
  refine k_topi hx ?_
  refine k_istore_2 C 14 rfl (by decide) rfl ?_
  refine k_sub (lv2 := [(0, .ref (a 0)), (1, .int p1), (2, .int x2_23)]) [1, 2, 0] rfl ?_
  refine k_aload_0 C 15 rfl 0 rfl ?_
  refine kg12_5 C 16 rfl qX12_20 0 M_c0 M_f0_5 ?_
  refine k_iload_2 C 17 rfl 2 rfl ?_
  refine k_iload_1 C 18 rfl 1 rfl ?_
  obtain ⟨i30, hi, hin, hf⟩ := ixd_some hf
  obtain ⟨M_30, hM, hf⟩ := bnd_some hf
  refine k_iast (w2 := (mw cy a M_30)) C 19 rfl 4 M_c4 hin hi (M_s4.trans (congrArg (fun z => (mw cy a z)) hM)) ?_
  refine k_aload_0 C 20 rfl 0 rfl ?_
  refine kg12_5 C 21 rfl qX12_20 0 M_c0 M_f0_5 ?_
  refine k_iload_2 C 22 rfl 2 rfl ?_
  refine k_iconst C 23 rfl ci_1 ?_
  refine k_iadd C 24 rfl ?_
  refine k_aload_0 C 25 rfl 0 rfl ?_
  refine kg12_4 C 26 rfl qX12_17 0 M_c0 M_f0_4 ?_
  refine k_aload_0 C 27 rfl 0 rfl ?_
  refine kg12_11 C 28 rfl qX12_154 0 M_c0 M_f0_11 ?_
  obtain ⟨i46, hi, hin, hf⟩ := ixd_some hf
  refine k_iald C 29 rfl 3 M_c3 hin hi ?_
  obtain ⟨i47, hi, hin, hf⟩ := ixd_some hf
  obtain ⟨M_47, hM, hf⟩ := bnd_some hf
  refine k_iast (w2 := (mw cy a M_47)) C 30 rfl 4 M_c4 hin hi (M_s4.trans (congrArg (fun z => (mw cy a z)) hM)) ?_
  refine k_iload_1 C 31 rfl 1 rfl ?_
  refine k_iconst C 32 rfl ci_2 ?_
  refine k_icmp_eq C 33 rfl 62 (by decide) (fun hc => ?_) (fun hc => ?_)
  · replace hf := if_t hf hc
    exact k_sub [0, 2] rfl (hb62 x2_23 M_47 hf)
  · replace hf := if_f hf hc
    refine k_aload_0 C 34 rfl 0 rfl ?_
    obtain ⟨r54, M_54, h5, hf⟩ := ob2_some hf
    refine k_callW C 35 (c_X12_sum Z.2.1 D cy a M_47 r54 M_54 h5) rfl qX12_191 mvX12_sum 0 12 M_c0 rfl rfl rfl (Nat.le_of_ble_eq_true rfl) ⟨Nat.le_of_ble_eq_true rfl, Nat.le_of_ble_eq_true rfl, Nat.le_refl 0, Nat.le_refl 0⟩ ?_
    refine k_if_ne C 36 rfl 62 (by decide) (fun hc => ?_) (fun hc => ?_)
    · replace hf := if_f hf hc
      exact k_sub [0, 2] rfl (hb62 x2_23 M_54 hf)
    · replace hf := if_t hf hc
      refine k_iconst C 37 rfl ci_0 ?_
      exact k_zret (wf := (fun u => (mw cy a u))) hR 38 rfl hf
set_option maxHeartbeats 1000000 in
set_option maxRecDepth 20000 in
theorem c_X12_cellHere (l : Launch) (D : va_G) (cy : Nat → ClassId) (a : Nat → Nat) (M : Sg) (p1 : Int32) (p2 : Int32) (p3 : Int32) (r : Bool) (M1 : Sg) (hf : f_X12_cellHere M p1 p2 p3 = some (r, M1)) : Ct l D cy yX12_cellHere cX12_cellHere 4 (some .boolean) 2 49 0 0 [.ref (a 0), .int p1, .int p2, .int p3] (mw cy a M) (some (.int (bI r))) (mw cy a M1) := by
  refine Ct_z tX12_cellHere hX12_cellHere (by decide) (Nat.le_of_ble_eq_true rfl) ?_
  intro Z hZ C hR
  subst hZ
  replace C : Cx Z D cy RX12 tX12_cellHere 4 2 49 0 0 := C
  show Wk Z D 4 0 0 (mw cy a M) 0 [(0, .ref (a 0)), (1, .int p1), (2, .int p2), (3, .int p3)] []
  unfold f_X12_cellHere at hf
  refine k_aload_0 C 0 rfl 0 rfl ?_
  refine k_iload_2 C 1 rfl 2 rfl ?_
  refine k_iload_3 C 2 rfl 3 rfl ?_
  obtain ⟨r3, M_3, h5, hf⟩ := ob2_some hf
  refine k_callW C 3 (c_X12_numberHere Z.2.1 D cy a M p2 p3 r3 M_3 h5) rfl qX12_175 mvX12_numberHere 0 12 M_c0 rfl rfl rfl (Nat.le_of_ble_eq_true rfl) ⟨Nat.le_of_ble_eq_true rfl, Nat.le_of_ble_eq_true rfl, Nat.le_refl 0, Nat.le_refl 0⟩ ?_
  refine k_if_ne C 4 rfl 11 (by decide) (fun hc => ?_) (fun hc => ?_)
  · replace hf := if_f hf hc
    refine k_aload_0 C 7 rfl 0 rfl ?_
    refine kg12_7 C 8 rfl qX12_26 0 M_c0 M_f0_7 ?_
    refine k_iload_1 C 9 rfl 1 rfl ?_
    refine k_aload_0 C 10 rfl 0 rfl ?_
    refine kg12_10 C 11 rfl qX12_121 0 M_c0 M_f0_10 ?_
    obtain ⟨i20, hi, hin, hf⟩ := ixd_some hf
    obtain ⟨M_20, hM, hf⟩ := bnd_some hf
    refine k_iast (w2 := (mw cy a M_20)) C 12 rfl 6 M_c6 hin hi (M_s6.trans (congrArg (fun z => (mw cy a z)) hM)) ?_
    refine k_iconst C 13 rfl ci_1 ?_
    exact k_zret (wf := (fun u => (mw cy a u))) hR 14 rfl hf
  · replace hf := if_t hf hc
    refine k_iconst C 5 rfl ci_0 ?_
    exact k_zret (wf := (fun u => (mw cy a u))) hR 6 rfl hf
set_option maxHeartbeats 1000000 in
set_option maxRecDepth 20000 in
theorem c_X12_isTrainHere (l : Launch) (D : va_G) (cy : Nat → ClassId) (a : Nat → Nat) (M : Sg) (p1 : Int32) (r : Bool) (M1 : Sg) (hf : f_X12_isTrainHere M p1 = some (r, M1)) : Ct l D cy yX12_isTrainHere cX12_isTrainHere 3 (some .boolean) 3 72 0 0 [.ref (a 0), .int p1] (mw cy a M) (some (.int (bI r))) (mw cy a M1) := by
  refine Ct_z tX12_isTrainHere hX12_isTrainHere (by decide) (Nat.le_of_ble_eq_true rfl) ?_
  intro Z hZ C hR
  subst hZ
  replace C : Cx Z D cy RX12 tX12_isTrainHere 3 3 72 0 0 := C
  show Wk Z D 3 0 0 (mw cy a M) 0 [(0, .ref (a 0)), (1, .int p1)] []
  unfold f_X12_isTrainHere at hf
  have hq69 : ∀ (k69 : Int32 → Sg → Option (Bool × Sg)), (∀ (x2 : Int32) (M : Sg), k69 x2 M = some (r, M1) → Wk Z D 3 0 0 (mw cy a M) 69 [(0, .ref (a 0)), (2, .int x2)] []) → ∀ (x2 : Int32) (M : Sg), f_X12_isTrainHere_b69 p1 k69 x2 M = some (r, M1) → Wk Z D 3 0 0 (mw cy a M) 69 [(0, .ref (a 0)), (2, .int x2)] [] := by
    intro k69 hk69 x2 M hf
    unfold f_X12_isTrainHere_b69 at hf
    refine k_iload_2 C 43 rfl 1 rfl ?_
    refine k_bipush C 44 rfl cb_7 ?_
    refine k_icmp_ge C 45 rfl 101 (by decide) (fun hc => ?_) (fun hc => ?_)
    · replace hf := if_t hf hc
      refine k_iconst C 62 rfl ci_1 ?_
      exact k_zret (wf := (fun u => (mw cy a u))) hR 63 rfl hf
    · replace hf := if_f hf hc
      refine k_aload_0 C 46 rfl 0 rfl ?_
      refine kg12_7 C 47 rfl qX12_26 0 M_c0 M_f0_7 ?_
      refine k_bipush C 48 rfl cb_30 ?_
      refine k_iload_2 C 49 rfl 1 rfl ?_
      refine k_iadd C 50 rfl ?_
      refine k_iconst C 51 rfl ci_0 ?_
      obtain ⟨i84, hi, hin, hf⟩ := ixd_some hf
      obtain ⟨M_84, hM, hf⟩ := bnd_some hf
      refine k_iast (w2 := (mw cy a M_84)) C 52 rfl 6 M_c6 hin hi (M_s6.trans (congrArg (fun z => (mw cy a z)) hM)) ?_
      refine k_aload_0 C 53 rfl 0 rfl ?_
      refine kg12_7 C 54 rfl qX12_26 0 M_c0 M_f0_7 ?_
      refine k_bipush C 55 rfl cb_37 ?_
      refine k_iload_2 C 56 rfl 1 rfl ?_
      refine k_iadd C 57 rfl ?_
      refine k_iconst C 58 rfl ci_0 ?_
      obtain ⟨i94, hi, hin, hf⟩ := ixd_some hf
      obtain ⟨M_94, hM, hf⟩ := bnd_some hf
      refine k_iast (w2 := (mw cy a M_94)) C 59 rfl 6 M_c6 hin hi (M_s6.trans (congrArg (fun z => (mw cy a z)) hM)) ?_
      obtain ⟨x2_95, hx, hf⟩ := bnd_some hf
      refine k_iinc C 60 rfl 1 rfl ((cn_1 _).trans hx) (by decide) rfl ?_
      refine k_sub (lv2 := [(0, .ref (a 0)), (2, .int x2_95)]) [1, 0] rfl ?_
      refine k_goto C 61 rfl 69 (by decide) ?_
      exact k_sub [0, 1] rfl (hk69 x2_95 M_94 hf)
  have hb69 := flW2 hq69
  have hq35 : ∀ (k35 : Int32 → Sg → Option (Bool × Sg)), (∀ (x2 : Int32) (M : Sg), k35 x2 M = some (r, M1) → Wk Z D 3 0 0 (mw cy a M) 35 [(0, .ref (a 0)), (2, .int x2)] []) → ∀ (x2 : Int32) (M : Sg), f_X12_isTrainHere_b35 p1 k35 x2 M = some (r, M1) → Wk Z D 3 0 0 (mw cy a M) 35 [(0, .ref (a 0)), (2, .int x2)] [] := by
    intro k35 hk35 x2 M hf
    unfold f_X12_isTrainHere_b35 at hf
    refine k_iload_2 C 22 rfl 1 rfl ?_
    refine k_bipush C 23 rfl cb_8 ?_
    refine k_icmp_ge C 24 rfl 67 (by decide) (fun hc => ?_) (fun hc => ?_)
    · replace hf := if_t hf hc
      refine k_iconst C 41 rfl ci_0 ?_
      refine k_istore_2 C 42 rfl (by decide) rfl ?_
      refine k_sub (lv2 := [(0, .ref (a 0)), (2, .int 0)]) [1, 0] rfl ?_
      exact k_sub [0, 1] rfl (hb69 FU 0 M hf)
    · replace hf := if_f hf hc
      refine k_aload_0 C 25 rfl 0 rfl ?_
      refine kg12_7 C 26 rfl qX12_26 0 M_c0 M_f0_7 ?_
      refine k_bipush C 27 rfl cb_10 ?_
      refine k_iload_2 C 28 rfl 1 rfl ?_
      refine k_iadd C 29 rfl ?_
      refine k_iconst C 30 rfl ci_0 ?_
      obtain ⟨i50, hi, hin, hf⟩ := ixd_some hf
      obtain ⟨M_50, hM, hf⟩ := bnd_some hf
      refine k_iast (w2 := (mw cy a M_50)) C 31 rfl 6 M_c6 hin hi (M_s6.trans (congrArg (fun z => (mw cy a z)) hM)) ?_
      refine k_aload_0 C 32 rfl 0 rfl ?_
      refine kg12_7 C 33 rfl qX12_26 0 M_c0 M_f0_7 ?_
      refine k_bipush C 34 rfl cb_44 ?_
      refine k_iload_2 C 35 rfl 1 rfl ?_
      refine k_iadd C 36 rfl ?_
      refine k_iconst C 37 rfl ci_4 ?_
      obtain ⟨i60, hi, hin, hf⟩ := ixd_some hf
      obtain ⟨M_60, hM, hf⟩ := bnd_some hf
      refine k_iast (w2 := (mw cy a M_60)) C 38 rfl 6 M_c6 hin hi (M_s6.trans (congrArg (fun z => (mw cy a z)) hM)) ?_
      obtain ⟨x2_61, hx, hf⟩ := bnd_some hf
      refine k_iinc C 39 rfl 1 rfl ((cn_1 _).trans hx) (by decide) rfl ?_
      refine k_sub (lv2 := [(0, .ref (a 0)), (2, .int x2_61)]) [1, 0] rfl ?_
      refine k_goto C 40 rfl 35 (by decide) ?_
      exact k_sub [0, 1] rfl (hk35 x2_61 M_60 hf)
  have hb35 := flW2 hq35
  refine k_aload_0 C 0 rfl 0 rfl ?_
  refine kg12_7 C 1 rfl qX12_26 0 M_c0 M_f0_7 ?_
  refine k_iconst C 2 rfl ci_0 ?_
  refine k_iald C 3 rfl 6 M_c6 vi_0_100 tc_0 ?_
  refine k_if_le C 4 rfl 16 (by decide) (fun hc => ?_) (fun hc => ?_)
  · replace hf := if_t hf hc
    refine k_aload_0 C 10 rfl 0 rfl ?_
    obtain ⟨M_17, h5, hf⟩ := ob1_some hf
    refine k_callW C 11 (c_X12_passWord Z.2.1 D cy a M M_17 h5) rfl qX12_111 mvX12_passWord 0 12 M_c0 rfl rfl rfl (Nat.le_of_ble_eq_true rfl) ⟨Nat.le_of_ble_eq_true rfl, Nat.le_of_ble_eq_true rfl, Nat.le_refl 0, Nat.le_refl 0⟩ ?_
    refine k_aload_0 C 12 rfl 0 rfl ?_
    refine k_iconst C 13 rfl ci_0 ?_
    refine k_iconst C 14 rfl ci_2 ?_
    refine k_bipush C 15 rfl cb_8 ?_
    obtain ⟨r25, M_25, h5, hf⟩ := ob2_some hf
    refine k_callW C 16 (c_X12_cellHere Z.2.1 D cy a M_17 0 2 8 r25 M_25 h5) rfl qX12_226 mvX12_cellHere 0 12 M_c0 rfl rfl rfl (Nat.le_of_ble_eq_true rfl) ⟨Nat.le_of_ble_eq_true rfl, Nat.le_of_ble_eq_true rfl, Nat.le_refl 0, Nat.le_refl 0⟩ ?_
    refine k_if_ne C 17 rfl 33 (by decide) (fun hc => ?_) (fun hc => ?_)
    · replace hf := if_f hf hc
      refine k_iconst C 20 rfl ci_0 ?_
      refine k_istore_2 C 21 rfl (by decide) rfl ?_
      refine k_sub (lv2 := [(0, .ref (a 0)), (1, .int p1), (2, .int 0)]) [1, 2, 0] rfl ?_
      exact k_sub [0, 2] rfl (hb35 FU 0 M_25 hf)
    · replace hf := if_t hf hc
      refine k_iconst C 18 rfl ci_0 ?_
      exact k_zret (wf := (fun u => (mw cy a u))) hR 19 rfl hf
  · replace hf := if_f hf hc
    refine k_aload_0 C 5 rfl 0 rfl ?_
    refine k_iconst C 6 rfl ci_4 ?_
    refine k_iload_1 C 7 rfl 1 rfl ?_
    obtain ⟨r12, M_12, h5, hf⟩ := ob2_some hf
    refine k_callW C 8 (c_X12_fails Z.2.1 D cy a M 4 p1 r12 M_12 h5) rfl qX12_117 mvX12_fails 0 12 M_c0 rfl rfl rfl (Nat.le_of_ble_eq_true rfl) ⟨Nat.le_of_ble_eq_true rfl, Nat.le_of_ble_eq_true rfl, Nat.le_refl 0, Nat.le_refl 0⟩ ?_
    exact k_zret (wf := (fun u => (mw cy a u))) hR 9 rfl hf
set_option maxHeartbeats 1000000 in
set_option maxRecDepth 20000 in
theorem c_X12_isDestHere (l : Launch) (D : va_G) (cy : Nat → ClassId) (a : Nat → Nat) (M : Sg) (p1 : Int32) (r : Bool) (M1 : Sg) (hf : f_X12_isDestHere M p1 = some (r, M1)) : Ct l D cy yX12_isDestHere cX12_isDestHere 3 (some .boolean) 3 72 0 0 [.ref (a 0), .int p1] (mw cy a M) (some (.int (bI r))) (mw cy a M1) := by
  refine Ct_z tX12_isDestHere hX12_isDestHere (by decide) (Nat.le_of_ble_eq_true rfl) ?_
  intro Z hZ C hR
  subst hZ
  replace C : Cx Z D cy RX12 tX12_isDestHere 3 3 72 0 0 := C
  show Wk Z D 3 0 0 (mw cy a M) 0 [(0, .ref (a 0)), (1, .int p1)] []
  unfold f_X12_isDestHere at hf
  have hq32 : ∀ (k32 : Int32 → Sg → Option (Bool × Sg)), (∀ (x2 : Int32) (M : Sg), k32 x2 M = some (r, M1) → Wk Z D 3 0 0 (mw cy a M) 32 [(0, .ref (a 0)), (2, .int x2)] []) → ∀ (x2 : Int32) (M : Sg), f_X12_isDestHere_b32 p1 k32 x2 M = some (r, M1) → Wk Z D 3 0 0 (mw cy a M) 32 [(0, .ref (a 0)), (2, .int x2)] [] := by
    intro k32 hk32 x2 M hf
    unfold f_X12_isDestHere_b32 at hf
    refine k_iload_2 C 20 rfl 1 rfl ?_
    refine k_aload_0 C 21 rfl 0 rfl ?_
    refine kg12_7 C 22 rfl qX12_26 0 M_c0 M_f0_7 ?_
    refine k_iconst C 23 rfl ci_0 ?_
    refine k_iald C 24 rfl 6 M_c6 vi_0_100 tc_0 ?_
    refine k_icmp_ge C 25 rfl 63 (by decide) (fun hc => ?_) (fun hc => ?_)
    · replace hf := if_t hf hc
      refine k_iconst C 38 rfl ci_1 ?_
      exact k_zret (wf := (fun u => (mw cy a u))) hR 39 rfl hf
    · replace hf := if_f hf hc
      refine k_aload_0 C 26 rfl 0 rfl ?_
      refine k_bipush C 27 rfl cb_10 ?_
      refine k_iload_2 C 28 rfl 1 rfl ?_
      refine k_iadd C 29 rfl ?_
      refine k_iconst C 30 rfl ci_0 ?_
      refine k_iconst C 31 rfl ci_3 ?_
      obtain ⟨r49, M_49, h5, hf⟩ := ob2_some hf
      refine k_callW C 32 (c_X12_cellHere Z.2.1 D cy a M (10 + x2) 0 3 r49 M_49 h5) rfl qX12_226 mvX12_cellHere 0 12 M_c0 rfl rfl rfl (Nat.le_of_ble_eq_true rfl) ⟨Nat.le_of_ble_eq_true rfl, Nat.le_of_ble_eq_true rfl, Nat.le_refl 0, Nat.le_refl 0⟩ ?_
      refine k_if_ne C 33 rfl 57 (by decide) (fun hc => ?_) (fun hc => ?_)
      · replace hf := if_f hf hc
        obtain ⟨x2_57, hx, hf⟩ := bnd_some hf
        refine k_iinc C 36 rfl 1 rfl ((cn_1 _).trans hx) (by decide) rfl ?_
        refine k_sub (lv2 := [(0, .ref (a 0)), (2, .int x2_57)]) [1, 0] rfl ?_
        refine k_goto C 37 rfl 32 (by decide) ?_
        exact k_sub [0, 1] rfl (hk32 x2_57 M_49 hf)
      · replace hf := if_t hf hc
        refine k_iconst C 34 rfl ci_0 ?_
        exact k_zret (wf := (fun u => (mw cy a u))) hR 35 rfl hf
  have hb32 := flW2 hq32
  refine k_aload_0 C 0 rfl 0 rfl ?_
  refine kg12_7 C 1 rfl qX12_26 0 M_c0 M_f0_7 ?_
  refine k_bipush C 2 rfl cb_7 ?_
  refine k_iald C 3 rfl 6 M_c6 vi_7_100 tc_7 ?_
  refine k_iconst C 4 rfl ci_1 ?_
  refine k_icmp_ne C 5 rfl 18 (by decide) (fun hc => ?_) (fun hc => ?_)
  · replace hf := if_f hf hc
    refine k_aload_0 C 11 rfl 0 rfl ?_
    refine kg12_7 C 12 rfl qX12_26 0 M_c0 M_f0_7 ?_
    refine k_bipush C 13 rfl cb_7 ?_
    refine k_iconst C 14 rfl ci_1 ?_
    obtain ⟨M_25, hM, hf⟩ := bnd_some hf
    refine k_iast (w2 := (mw cy a M_25)) C 15 rfl 6 M_c6 vi_7_100 tc_7 (M_s6.trans (congrArg (fun z => (mw cy a z)) hM)) ?_
    refine k_aload_0 C 16 rfl 0 rfl ?_
    obtain ⟨M_27, h5, hf⟩ := ob1_some hf
    refine k_callW C 17 (c_X12_passWord Z.2.1 D cy a M_25 M_27 h5) rfl qX12_111 mvX12_passWord 0 12 M_c0 rfl rfl rfl (Nat.le_of_ble_eq_true rfl) ⟨Nat.le_of_ble_eq_true rfl, Nat.le_of_ble_eq_true rfl, Nat.le_refl 0, Nat.le_refl 0⟩ ?_
    refine k_iconst C 18 rfl ci_0 ?_
    refine k_istore_2 C 19 rfl (by decide) rfl ?_
    refine k_sub (lv2 := [(0, .ref (a 0)), (1, .int p1), (2, .int 0)]) [1, 2, 0] rfl ?_
    exact k_sub [0, 2] rfl (hb32 FU 0 M_27 hf)
  · replace hf := if_t hf hc
    refine k_aload_0 C 6 rfl 0 rfl ?_
    refine k_iconst C 7 rfl ci_4 ?_
    refine k_iload_1 C 8 rfl 1 rfl ?_
    obtain ⟨r14, M_14, h5, hf⟩ := ob2_some hf
    refine k_callW C 9 (c_X12_fails Z.2.1 D cy a M 4 p1 r14 M_14 h5) rfl qX12_117 mvX12_fails 0 12 M_c0 rfl rfl rfl (Nat.le_of_ble_eq_true rfl) ⟨Nat.le_of_ble_eq_true rfl, Nat.le_of_ble_eq_true rfl, Nat.le_refl 0, Nat.le_refl 0⟩ ?_
    exact k_zret (wf := (fun u => (mw cy a u))) hR 10 rfl hf
set_option maxHeartbeats 1000000 in
set_option maxRecDepth 20000 in
theorem c_X12_isStopHere (l : Launch) (D : va_G) (cy : Nat → ClassId) (a : Nat → Nat) (M : Sg) (p1 : Int32) (r : Bool) (M1 : Sg) (hf : f_X12_isStopHere M p1 = some (r, M1)) : Ct l D cy yX12_isStopHere cX12_isStopHere 3 (some .boolean) 2 49 0 0 [.ref (a 0), .int p1] (mw cy a M) (some (.int (bI r))) (mw cy a M1) := by
  refine Ct_z tX12_isStopHere hX12_isStopHere (by decide) (Nat.le_of_ble_eq_true rfl) ?_
  intro Z hZ C hR
  subst hZ
  replace C : Cx Z D cy RX12 tX12_isStopHere 3 2 49 0 0 := C
  show Wk Z D 3 0 0 (mw cy a M) 0 [(0, .ref (a 0)), (1, .int p1)] []
  unfold f_X12_isStopHere at hf
  have hb72 : ∀ (x2 : Int32) (s1 : Int32) (s2 : Int32) (M : Sg), f_X12_isStopHere_b72 p1 x2 s1 s2 M = some (r, M1) → Wk Z D 3 0 0 (mw cy a M) 72 [(0, .ref (a 0)), (2, .int x2)] [.int s2, .int s1, .ref (a 8)] := by
    intro x2 s1 s2 M hf
    unfold f_X12_isStopHere_b72 at hf
    refine k_aload_0 C 45 rfl 0 rfl ?_
    refine kg12_10 C 46 rfl qX12_121 0 M_c0 M_f0_10 ?_
    refine k_iadd C 47 rfl ?_
    obtain ⟨i77, hi, hin, hf⟩ := ixd_some hf
    obtain ⟨M_77, hM, hf⟩ := bnd_some hf
    refine k_iast (w2 := (mw cy a M_77)) C 48 rfl 6 M_c6 hin hi (M_s6.trans (congrArg (fun z => (mw cy a z)) hM)) ?_
    refine k_aload_0 C 49 rfl 0 rfl ?_
    refine k_iconst C 50 rfl ci_1 ?_
    refine k_bipush C 51 rfl cb_60 ?_
    obtain ⟨r82, M_82, h5, hf⟩ := ob2_some hf
    refine k_callW C 52 (c_X12_numberHere Z.2.1 D cy a M_77 1 60 r82 M_82 h5) rfl qX12_175 mvX12_numberHere 0 12 M_c0 rfl rfl rfl (Nat.le_of_ble_eq_true rfl) ⟨Nat.le_of_ble_eq_true rfl, Nat.le_of_ble_eq_true rfl, Nat.le_refl 0, Nat.le_refl 0⟩ ?_
    refine k_if_ne C 53 rfl 90 (by decide) (fun hc => ?_) (fun hc => ?_)
    · replace hf := if_f hf hc
      refine k_aload_0 C 56 rfl 0 rfl ?_
      refine kg12_7 C 57 rfl qX12_26 0 M_c0 M_f0_7 ?_
      refine k_iload_2 C 58 rfl 1 rfl ?_
      refine k_iconst C 59 rfl ci_1 ?_
      refine k_iadd C 60 rfl ?_
      refine k_aload_0 C 61 rfl 0 rfl ?_
      refine kg12_7 C 62 rfl qX12_26 0 M_c0 M_f0_7 ?_
      refine k_iload_2 C 63 rfl 1 rfl ?_
      obtain ⟨i102, hi, hin, hf⟩ := ixd_some hf
      refine k_iald C 64 rfl 6 M_c6 hin hi ?_
      refine k_aload_0 C 65 rfl 0 rfl ?_
      refine kg12_10 C 66 rfl qX12_121 0 M_c0 M_f0_10 ?_
      refine k_iadd C 67 rfl ?_
      obtain ⟨i108, hi, hin, hf⟩ := ixd_some hf
      obtain ⟨M_108, hM, hf⟩ := bnd_some hf
      refine k_iast (w2 := (mw cy a M_108)) C 68 rfl 6 M_c6 hin hi (M_s6.trans (congrArg (fun z => (mw cy a z)) hM)) ?_
      refine k_aload_0 C 69 rfl 0 rfl ?_
      refine kg12_7 C 70 rfl qX12_26 0 M_c0 M_f0_7 ?_
      refine k_iconst C 71 rfl ci_1 ?_
      refine k_dup2 C 72 rfl rfl rfl ?_
      refine k_iald C 73 rfl 6 M_c6 vi_1_100 tc_1 ?_
      refine k_iconst C 74 rfl ci_1 ?_
      refine k_iadd C 75 rfl ?_
      obtain ⟨M_118, hM, hf⟩ := bnd_some hf
      refine k_iast (w2 := (mw cy a M_118)) C 76 rfl 6 M_c6 vi_1_100 tc_1 (M_s6.trans (congrArg (fun z => (mw cy a z)) hM)) ?_
      refine k_iconst C 77 rfl ci_1 ?_
      exact k_zret (wf := (fun u => (mw cy a u))) hR 78 rfl hf
    · replace hf := if_t hf hc
      refine k_iconst C 54 rfl ci_0 ?_
      exact k_zret (wf := (fun u => (mw cy a u))) hR 55 rfl hf
  refine k_aload_0 C 0 rfl 0 rfl ?_
  refine kg12_7 C 1 rfl qX12_26 0 M_c0 M_f0_7 ?_
  refine k_iconst C 2 rfl ci_1 ?_
  refine k_iald C 3 rfl 6 M_c6 vi_1_100 tc_1 ?_
  refine k_bipush C 4 rfl cb_6 ?_
  refine k_icmp_ne C 5 rfl 18 (by decide) (fun hc => ?_) (fun hc => ?_)
  · replace hf := if_f hf hc
    refine k_aload_0 C 11 rfl 0 rfl ?_
    obtain ⟨M_19, h5, hf⟩ := ob1_some hf
    refine k_callW C 12 (c_X12_passWord Z.2.1 D cy a M M_19 h5) rfl qX12_111 mvX12_passWord 0 12 M_c0 rfl rfl rfl (Nat.le_of_ble_eq_true rfl) ⟨Nat.le_of_ble_eq_true rfl, Nat.le_of_ble_eq_true rfl, Nat.le_refl 0, Nat.le_refl 0⟩ ?_
    refine k_bipush C 13 rfl cb_18 ?_
    refine k_iconst C 14 rfl ci_2 ?_
    refine k_aload_0 C 15 rfl 0 rfl ?_
    refine kg12_7 C 16 rfl qX12_26 0 M_c0 M_f0_7 ?_
    refine k_iconst C 17 rfl ci_1 ?_
    refine k_iald C 18 rfl 6 M_c6 vi_1_100 tc_1 ?_
    refine k_imul C 19 rfl ?_
    refine k_iadd C 20 rfl ?_
    obtain ⟨x2_33, hx, hf⟩ := bnd_some hf
    refine k_topi hx ?_
    refine k_istore_2 C 21 rfl (by decide) rfl ?_
    refine k_sub (lv2 := [(0, .ref (a 0)), (1, .int p1), (2, .int x2_33)]) [1, 2, 0] rfl ?_
    refine k_aload_0 C 22 rfl 0 rfl ?_
    refine k_iconst C 23 rfl ci_1 ?_
    refine k_bipush C 24 rfl cb_99 ?_
    obtain ⟨r38, M_38, h5, hf⟩ := ob2_some hf
    refine k_callW C 25 (c_X12_numberHere Z.2.1 D cy a M_19 1 99 r38 M_38 h5) rfl qX12_175 mvX12_numberHere 0 12 M_c0 rfl rfl rfl (Nat.le_of_ble_eq_true rfl) ⟨Nat.le_of_ble_eq_true rfl, Nat.le_of_ble_eq_true rfl, Nat.le_refl 0, Nat.le_refl 0⟩ ?_
    refine k_if_ne C 26 rfl 46 (by decide) (fun hc => ?_) (fun hc => ?_)
    · replace hf := if_f hf hc
      refine k_aload_0 C 29 rfl 0 rfl ?_
      refine kg12_7 C 30 rfl qX12_26 0 M_c0 M_f0_7 ?_
      refine k_iload_2 C 31 rfl 2 rfl ?_
      refine k_aload_0 C 32 rfl 0 rfl ?_
      refine kg12_7 C 33 rfl qX12_26 0 M_c0 M_f0_7 ?_
      refine k_iconst C 34 rfl ci_1 ?_
      refine k_iald C 35 rfl 6 M_c6 vi_1_100 tc_1 ?_
      refine k_if_ne C 36 rfl 64 (by decide) (fun hc => ?_) (fun hc => ?_)
      · replace hf := if_f hf hc
        refine k_aload_0 C 39 rfl 0 rfl ?_
        refine kg12_7 C 40 rfl qX12_26 0 M_c0 M_f0_7 ?_
        refine k_iload_2 C 41 rfl 2 rfl ?_
        refine k_iconst C 42 rfl ci_1 ?_
        refine k_isub C 43 rfl ?_
        obtain ⟨i71, hi, hin, hf⟩ := ixd_some hf
        refine k_iald C 44 rfl 6 M_c6 hin hi ?_
        exact k_sub [0, 2] rfl (hb72 x2_33 x2_33 (M_38.2.1 7 i71) M_38 hf)
      · replace hf := if_t hf hc
        refine k_iconst C 37 rfl ci_0 ?_
        refine k_goto C 38 rfl 72 (by decide) ?_
        exact k_sub [0, 2] rfl (hb72 x2_33 x2_33 0 M_38 hf)
    · replace hf := if_t hf hc
      refine k_iconst C 27 rfl ci_0 ?_
      exact k_zret (wf := (fun u => (mw cy a u))) hR 28 rfl hf
  · replace hf := if_t hf hc
    refine k_aload_0 C 6 rfl 0 rfl ?_
    refine k_iconst C 7 rfl ci_4 ?_
    refine k_iload_1 C 8 rfl 1 rfl ?_
    obtain ⟨r14, M_14, h5, hf⟩ := ob2_some hf
    refine k_callW C 9 (c_X12_fails Z.2.1 D cy a M 4 p1 r14 M_14 h5) rfl qX12_117 mvX12_fails 0 12 M_c0 rfl rfl rfl (Nat.le_of_ble_eq_true rfl) ⟨Nat.le_of_ble_eq_true rfl, Nat.le_of_ble_eq_true rfl, Nat.le_refl 0, Nat.le_refl 0⟩ ?_
    exact k_zret (wf := (fun u => (mw cy a u))) hR 10 rfl hf
set_option maxHeartbeats 1000000 in
set_option maxRecDepth 20000 in
theorem c_X12_isOnceHere (l : Launch) (D : va_G) (cy : Nat → ClassId) (a : Nat → Nat) (M : Sg) (p1 : Int32) (p2 : Int32) (p3 : Int32) (p4 : Int32) (r : Bool) (M1 : Sg) (hf : f_X12_isOnceHere M p1 p2 p3 p4 = some (r, M1)) : Ct l D cy yX12_isOnceHere cX12_isOnceHere 5 (some .boolean) 3 72 0 0 [.ref (a 0), .int p1, .int p2, .int p3, .int p4] (mw cy a M) (some (.int (bI r))) (mw cy a M1) := by
  refine Ct_z tX12_isOnceHere hX12_isOnceHere (by decide) (Nat.le_of_ble_eq_true rfl) ?_
  intro Z hZ C hR
  subst hZ
  replace C : Cx Z D cy RX12 tX12_isOnceHere 5 3 72 0 0 := C
  show Wk Z D 5 0 0 (mw cy a M) 0 [(0, .ref (a 0)), (1, .int p1), (2, .int p2), (3, .int p3), (4, .int p4)] []
  unfold f_X12_isOnceHere at hf
  refine k_aload_0 C 0 rfl 0 rfl ?_
  refine kg12_7 C 1 rfl qX12_26 0 M_c0 M_f0_7 ?_
  refine k_iload_1 C 2 rfl 1 rfl ?_
  obtain ⟨i5, hi, hin, hf⟩ := ixd_some hf
  refine k_iald C 3 rfl 6 M_c6 hin hi ?_
  refine k_if_lt C 4 rfl 16 (by decide) (fun hc => ?_) (fun hc => ?_)
  · replace hf := if_t hf hc
    refine k_aload_0 C 10 rfl 0 rfl ?_
    obtain ⟨M_17, h5, hf⟩ := ob1_some hf
    refine k_callW C 11 (c_X12_passWord Z.2.1 D cy a M M_17 h5) rfl qX12_111 mvX12_passWord 0 12 M_c0 rfl rfl rfl (Nat.le_of_ble_eq_true rfl) ⟨Nat.le_of_ble_eq_true rfl, Nat.le_of_ble_eq_true rfl, Nat.le_refl 0, Nat.le_refl 0⟩ ?_
    refine k_aload_0 C 12 rfl 0 rfl ?_
    refine k_iload_1 C 13 rfl 1 rfl ?_
    refine k_iload_3 C 14 rfl 3 rfl ?_
    refine k_iload C 15 rfl 4 rfl ?_
    obtain ⟨r25, M_25, h5, hf⟩ := ob2_some hf
    refine k_callW C 16 (c_X12_cellHere Z.2.1 D cy a M_17 p1 p3 p4 r25 M_25 h5) rfl qX12_226 mvX12_cellHere 0 12 M_c0 rfl rfl rfl (Nat.le_of_ble_eq_true rfl) ⟨Nat.le_of_ble_eq_true rfl, Nat.le_of_ble_eq_true rfl, Nat.le_refl 0, Nat.le_refl 0⟩ ?_
    exact k_zret (wf := (fun u => (mw cy a u))) hR 17 rfl hf
  · replace hf := if_f hf hc
    refine k_aload_0 C 5 rfl 0 rfl ?_
    refine k_iconst C 6 rfl ci_4 ?_
    refine k_iload_2 C 7 rfl 2 rfl ?_
    obtain ⟨r12, M_12, h5, hf⟩ := ob2_some hf
    refine k_callW C 8 (c_X12_fails Z.2.1 D cy a M 4 p2 r12 M_12 h5) rfl qX12_117 mvX12_fails 0 12 M_c0 rfl rfl rfl (Nat.le_of_ble_eq_true rfl) ⟨Nat.le_of_ble_eq_true rfl, Nat.le_of_ble_eq_true rfl, Nat.le_refl 0, Nat.le_refl 0⟩ ?_
    exact k_zret (wf := (fun u => (mw cy a u))) hR 9 rfl hf
set_option maxHeartbeats 1000000 in
set_option maxRecDepth 20000 in
theorem c_X12_isShutHere (l : Launch) (D : va_G) (cy : Nat → ClassId) (a : Nat → Nat) (M : Sg) (r : Bool) (M1 : Sg) (hf : f_X12_isShutHere M = some (r, M1)) : Ct l D cy yX12_isShutHere cX12_isShutHere 1 (some .boolean) 2 49 0 0 [.ref (a 0)] (mw cy a M) (some (.int (bI r))) (mw cy a M1) := by
  refine Ct_z tX12_isShutHere hX12_isShutHere (by decide) (Nat.le_of_ble_eq_true rfl) ?_
  intro Z hZ C hR
  subst hZ
  replace C : Cx Z D cy RX12 tX12_isShutHere 1 2 49 0 0 := C
  show Wk Z D 1 0 0 (mw cy a M) 0 [(0, .ref (a 0))] []
  unfold f_X12_isShutHere at hf
  refine k_aload_0 C 0 rfl 0 rfl ?_
  obtain ⟨M_1, h5, hf⟩ := ob1_some hf
  refine k_callW C 1 (c_X12_passWord Z.2.1 D cy a M M_1 h5) rfl qX12_111 mvX12_passWord 0 12 M_c0 rfl rfl rfl (Nat.le_of_ble_eq_true rfl) ⟨Nat.le_of_ble_eq_true rfl, Nat.le_of_ble_eq_true rfl, Nat.le_refl 0, Nat.le_refl 0⟩ ?_
  refine k_aload_0 C 2 rfl 0 rfl ?_
  refine k_iconst C 3 rfl ci_0 ?_
  refine k_aload_0 C 4 rfl 0 rfl ?_
  refine kg12_7 C 5 rfl qX12_26 0 M_c0 M_f0_7 ?_
  refine k_iconst C 6 rfl ci_0 ?_
  refine k_iald C 7 rfl 6 M_c6 vi_0_100 tc_0 ?_
  refine k_iconst C 8 rfl ci_2 ?_
  refine k_isub C 9 rfl ?_
  obtain ⟨r14, M_14, h5, hf⟩ := ob2_some hf
  refine k_callW C 10 (c_X12_numberHere Z.2.1 D cy a M_1 0 ((M_1.2.1 7 0) - 2) r14 M_14 h5) rfl qX12_175 mvX12_numberHere 0 12 M_c0 rfl rfl rfl (Nat.le_of_ble_eq_true rfl) ⟨Nat.le_of_ble_eq_true rfl, Nat.le_of_ble_eq_true rfl, Nat.le_refl 0, Nat.le_refl 0⟩ ?_
  refine k_if_ne C 11 rfl 22 (by decide) (fun hc => ?_) (fun hc => ?_)
  · replace hf := if_f hf hc
    refine k_aload_0 C 14 rfl 0 rfl ?_
    refine kg12_7 C 15 rfl qX12_26 0 M_c0 M_f0_7 ?_
    refine k_bipush C 16 rfl cb_30 ?_
    refine k_aload_0 C 17 rfl 0 rfl ?_
    refine kg12_10 C 18 rfl qX12_121 0 M_c0 M_f0_10 ?_
    refine k_iadd C 19 rfl ?_
    refine k_iconst C 20 rfl ci_1 ?_
    obtain ⟨i34, hi, hin, hf⟩ := ixd_some hf
    obtain ⟨M_34, hM, hf⟩ := bnd_some hf
    refine k_iast (w2 := (mw cy a M_34)) C 21 rfl 6 M_c6 hin hi (M_s6.trans (congrArg (fun z => (mw cy a z)) hM)) ?_
    refine k_iconst C 22 rfl ci_1 ?_
    exact k_zret (wf := (fun u => (mw cy a u))) hR 23 rfl hf
  · replace hf := if_t hf hc
    refine k_iconst C 12 rfl ci_0 ?_
    exact k_zret (wf := (fun u => (mw cy a u))) hR 13 rfl hf
set_option maxHeartbeats 1000000 in
set_option maxRecDepth 20000 in
theorem c_X12_isCellOfHere (l : Launch) (D : va_G) (cy : Nat → ClassId) (a : Nat → Nat) (M : Sg) (p1 : Int32) (p2 : Int32) (p3 : Int32) (p4 : Int32) (p5 : Int32) (r : Bool) (M1 : Sg) (hf : f_X12_isCellOfHere M p1 p2 p3 p4 p5 = some (r, M1)) : Ct l D cy yX12_isCellOfHere cX12_isCellOfHere 6 (some .boolean) 3 72 0 0 [.ref (a 0), .int p1, .int p2, .int p3, .int p4, .int p5] (mw cy a M) (some (.int (bI r))) (mw cy a M1) := by
  refine Ct_z tX12_isCellOfHere hX12_isCellOfHere (by decide) (Nat.le_of_ble_eq_true rfl) ?_
  intro Z hZ C hR
  subst hZ
  replace C : Cx Z D cy RX12 tX12_isCellOfHere 6 3 72 0 0 := C
  show Wk Z D 6 0 0 (mw cy a M) 0 [(0, .ref (a 0)), (1, .int p1), (2, .int p2), (3, .int p3), (4, .int p4), (5, .int p5)] []
  unfold f_X12_isCellOfHere at hf
  refine k_aload_0 C 0 rfl 0 rfl ?_
  obtain ⟨M_1, h5, hf⟩ := ob1_some hf
  refine k_callW C 1 (c_X12_passWord Z.2.1 D cy a M M_1 h5) rfl qX12_111 mvX12_passWord 0 12 M_c0 rfl rfl rfl (Nat.le_of_ble_eq_true rfl) ⟨Nat.le_of_ble_eq_true rfl, Nat.le_of_ble_eq_true rfl, Nat.le_refl 0, Nat.le_refl 0⟩ ?_
  refine k_aload_0 C 2 rfl 0 rfl ?_
  refine k_iconst C 3 rfl ci_0 ?_
  refine k_iload_1 C 4 rfl 1 rfl ?_
  refine k_iconst C 5 rfl ci_1 ?_
  refine k_isub C 6 rfl ?_
  obtain ⟨r9, M_9, h5, hf⟩ := ob2_some hf
  refine k_callW C 7 (c_X12_numberHere Z.2.1 D cy a M_1 0 (p1 - 1) r9 M_9 h5) rfl qX12_175 mvX12_numberHere 0 12 M_c0 rfl rfl rfl (Nat.le_of_ble_eq_true rfl) ⟨Nat.le_of_ble_eq_true rfl, Nat.le_of_ble_eq_true rfl, Nat.le_refl 0, Nat.le_refl 0⟩ ?_
  refine k_if_ne C 8 rfl 17 (by decide) (fun hc => ?_) (fun hc => ?_)
  · replace hf := if_f hf hc
    refine k_aload_0 C 11 rfl 0 rfl ?_
    refine k_iload_2 C 12 rfl 2 rfl ?_
    refine k_iload_3 C 13 rfl 3 rfl ?_
    refine k_aload_0 C 14 rfl 0 rfl ?_
    refine kg12_10 C 15 rfl qX12_121 0 M_c0 M_f0_10 ?_
    refine k_imul C 16 rfl ?_
    refine k_iadd C 17 rfl ?_
    refine k_iload C 18 rfl 4 rfl ?_
    refine k_iload C 19 rfl 5 rfl ?_
    obtain ⟨r30, M_30, h5, hf⟩ := ob2_some hf
    refine k_callW C 20 (c_X12_cellHere Z.2.1 D cy a M_9 (p2 + (p3 * (M_9.1 10))) p4 p5 r30 M_30 h5) rfl qX12_226 mvX12_cellHere 0 12 M_c0 rfl rfl rfl (Nat.le_of_ble_eq_true rfl) ⟨Nat.le_of_ble_eq_true rfl, Nat.le_of_ble_eq_true rfl, Nat.le_refl 0, Nat.le_refl 0⟩ ?_
    exact k_zret (wf := (fun u => (mw cy a u))) hR 21 rfl hf
  · replace hf := if_t hf hc
    refine k_iconst C 9 rfl ci_0 ?_
    exact k_zret (wf := (fun u => (mw cy a u))) hR 10 rfl hf
set_option maxHeartbeats 1000000 in
set_option maxRecDepth 20000 in
theorem c_X12_isRiderHere (l : Launch) (D : va_G) (cy : Nat → ClassId) (a : Nat → Nat) (M : Sg) (p1 : Int32) (r : Bool) (M1 : Sg) (hf : f_X12_isRiderHere M p1 = some (r, M1)) : Ct l D cy yX12_isRiderHere cX12_isRiderHere 3 (some .boolean) 3 72 0 0 [.ref (a 0), .int p1] (mw cy a M) (some (.int (bI r))) (mw cy a M1) := by
  refine Ct_z tX12_isRiderHere hX12_isRiderHere (by decide) (Nat.le_of_ble_eq_true rfl) ?_
  intro Z hZ C hR
  subst hZ
  replace C : Cx Z D cy RX12 tX12_isRiderHere 3 3 72 0 0 := C
  show Wk Z D 3 0 0 (mw cy a M) 0 [(0, .ref (a 0)), (1, .int p1)] []
  unfold f_X12_isRiderHere at hf
  have hb89 : ∀ (M : Sg), f_X12_isRiderHere_b89 p1 M = some (r, M1) → Wk Z D 3 0 0 (mw cy a M) 89 [] [] := by
    intro M hf
    unfold f_X12_isRiderHere_b89 at hf
    refine k_iconst C 57 rfl ci_0 ?_
    exact k_zret (wf := (fun u => (mw cy a u))) hR 58 rfl hf
  refine k_aload_0 C 0 rfl 0 rfl ?_
  refine kg12_7 C 1 rfl qX12_26 0 M_c0 M_f0_7 ?_
  refine k_iconst C 2 rfl ci_2 ?_
  refine k_iald C 3 rfl 6 M_c6 vi_2_100 tc_2 ?_
  refine k_bipush C 4 rfl cb_6 ?_
  refine k_icmp_ne C 5 rfl 18 (by decide) (fun hc => ?_) (fun hc => ?_)
  · replace hf := if_f hf hc
    refine k_aload_0 C 11 rfl 0 rfl ?_
    obtain ⟨M_19, h5, hf⟩ := ob1_some hf
    refine k_callW C 12 (c_X12_passWord Z.2.1 D cy a M M_19 h5) rfl qX12_111 mvX12_passWord 0 12 M_c0 rfl rfl rfl (Nat.le_of_ble_eq_true rfl) ⟨Nat.le_of_ble_eq_true rfl, Nat.le_of_ble_eq_true rfl, Nat.le_refl 0, Nat.le_refl 0⟩ ?_
    refine k_bipush C 13 rfl cb_52 ?_
    refine k_bipush C 14 rfl cb_8 ?_
    refine k_aload_0 C 15 rfl 0 rfl ?_
    refine kg12_7 C 16 rfl qX12_26 0 M_c0 M_f0_7 ?_
    refine k_iconst C 17 rfl ci_2 ?_
    refine k_iald C 18 rfl 6 M_c6 vi_2_100 tc_2 ?_
    refine k_imul C 19 rfl ?_
    refine k_iadd C 20 rfl ?_
    obtain ⟨x2_34, hx, hf⟩ := bnd_some hf
    refine k_topi hx ?_
    refine k_istore_2 C 21 rfl (by decide) rfl ?_
    refine k_sub (lv2 := [(0, .ref (a 0)), (1, .int p1), (2, .int x2_34)]) [1, 2, 0] rfl ?_
    refine k_aload_0 C 22 rfl 0 rfl ?_
    refine k_iload_2 C 23 rfl 2 rfl ?_
    refine k_iconst C 24 rfl ci_0 ?_
    refine k_aload_0 C 25 rfl 0 rfl ?_
    refine kg12_7 C 26 rfl qX12_26 0 M_c0 M_f0_7 ?_
    refine k_iconst C 27 rfl ci_0 ?_
    refine k_iald C 28 rfl 6 M_c6 vi_0_100 tc_0 ?_
    refine k_iconst C 29 rfl ci_1 ?_
    refine k_isub C 30 rfl ?_
    obtain ⟨r46, M_46, h5, hf⟩ := ob2_some hf
    refine k_callW C 31 (c_X12_cellHere Z.2.1 D cy a M_19 x2_34 0 ((M_19.2.1 7 0) - 1) r46 M_46 h5) rfl qX12_226 mvX12_cellHere 0 12 M_c0 rfl rfl rfl (Nat.le_of_ble_eq_true rfl) ⟨Nat.le_of_ble_eq_true rfl, Nat.le_of_ble_eq_true rfl, Nat.le_refl 0, Nat.le_refl 0⟩ ?_
    refine k_if_eq C 32 rfl 89 (by decide) (fun hc => ?_) (fun hc => ?_)
    · replace hf := if_t hf hc
      exact k_sub [] rfl (hb89 M_46 hf)
    · replace hf := if_f hf hc
      refine k_aload_0 C 33 rfl 0 rfl ?_
      refine k_iload_2 C 34 rfl 2 rfl ?_
      refine k_iconst C 35 rfl ci_1 ?_
      refine k_iadd C 36 rfl ?_
      refine k_iconst C 37 rfl ci_0 ?_
      refine k_iconst C 38 rfl ci_3 ?_
      obtain ⟨r58, M_58, h5, hf⟩ := ob2_some hf
      refine k_callW C 39 (c_X12_cellHere Z.2.1 D cy a M_46 (x2_34 + 1) 0 3 r58 M_58 h5) rfl qX12_226 mvX12_cellHere 0 12 M_c0 rfl rfl rfl (Nat.le_of_ble_eq_true rfl) ⟨Nat.le_of_ble_eq_true rfl, Nat.le_of_ble_eq_true rfl, Nat.le_refl 0, Nat.le_refl 0⟩ ?_
      refine k_if_eq C 40 rfl 89 (by decide) (fun hc => ?_) (fun hc => ?_)
      · replace hf := if_t hf hc
        exact k_sub [] rfl (hb89 M_58 hf)
      · replace hf := if_f hf hc
        refine k_aload_0 C 41 rfl 0 rfl ?_
        refine k_iload_2 C 42 rfl 2 rfl ?_
        refine k_iconst C 43 rfl ci_2 ?_
        refine k_iadd C 44 rfl ?_
        refine k_iconst C 45 rfl ci_1 ?_
        refine k_bipush C 46 rfl cb_20 ?_
        obtain ⟨r71, M_71, h5, hf⟩ := ob2_some hf
        refine k_callW C 47 (c_X12_cellHere Z.2.1 D cy a M_58 (x2_34 + 2) 1 20 r71 M_71 h5) rfl qX12_226 mvX12_cellHere 0 12 M_c0 rfl rfl rfl (Nat.le_of_ble_eq_true rfl) ⟨Nat.le_of_ble_eq_true rfl, Nat.le_of_ble_eq_true rfl, Nat.le_refl 0, Nat.le_refl 0⟩ ?_
        refine k_if_eq C 48 rfl 89 (by decide) (fun hc => ?_) (fun hc => ?_)
        · replace hf := if_t hf hc
          exact k_sub [] rfl (hb89 M_71 hf)
        · replace hf := if_f hf hc
          refine k_aload_0 C 49 rfl 0 rfl ?_
          refine k_iload_2 C 50 rfl 2 rfl ?_
          refine k_iconst C 51 rfl ci_3 ?_
          refine k_iadd C 52 rfl ?_
          refine k_iconst C 53 rfl ci_0 ?_
          refine k_iconst C 54 rfl ci_3 ?_
          obtain ⟨r83, M_83, h5, hf⟩ := ob2_some hf
          refine k_callW C 55 (c_X12_cellHere Z.2.1 D cy a M_71 (x2_34 + 3) 0 3 r83 M_83 h5) rfl qX12_226 mvX12_cellHere 0 12 M_c0 rfl rfl rfl (Nat.le_of_ble_eq_true rfl) ⟨Nat.le_of_ble_eq_true rfl, Nat.le_of_ble_eq_true rfl, Nat.le_refl 0, Nat.le_refl 0⟩ ?_
          refine k_if_ne C 56 rfl 91 (by decide) (fun hc => ?_) (fun hc => ?_)
          · replace hf := if_f hf hc
            refine k_aload_0 C 59 rfl 0 rfl ?_
            refine kg12_7 C 60 rfl qX12_26 0 M_c0 M_f0_7 ?_
            refine k_iload_2 C 61 rfl 2 rfl ?_
            refine k_iconst C 62 rfl ci_4 ?_
            refine k_iadd C 63 rfl ?_
            refine k_iconst C 64 rfl ci_0 ?_
            obtain ⟨i99, hi, hin, hf⟩ := ixd_some hf
            obtain ⟨M_99, hM, hf⟩ := bnd_some hf
            refine k_iast (w2 := (mw cy a M_99)) C 65 rfl 6 M_c6 hin hi (M_s6.trans (congrArg (fun z => (mw cy a z)) hM)) ?_
            refine k_aload_0 C 66 rfl 0 rfl ?_
            refine kg12_7 C 67 rfl qX12_26 0 M_c0 M_f0_7 ?_
            refine k_iload_2 C 68 rfl 2 rfl ?_
            refine k_iconst C 69 rfl ci_5 ?_
            refine k_iadd C 70 rfl ?_
            refine k_iconst C 71 rfl ci_m1 ?_
            obtain ⟨i108, hi, hin, hf⟩ := ixd_some hf
            obtain ⟨M_108, hM, hf⟩ := bnd_some hf
            refine k_iast (w2 := (mw cy a M_108)) C 72 rfl 6 M_c6 hin hi (M_s6.trans (congrArg (fun z => (mw cy a z)) hM)) ?_
            refine k_aload_0 C 73 rfl 0 rfl ?_
            refine kg12_7 C 74 rfl qX12_26 0 M_c0 M_f0_7 ?_
            refine k_iload_2 C 75 rfl 2 rfl ?_
            refine k_bipush C 76 rfl cb_6 ?_
            refine k_iadd C 77 rfl ?_
            refine k_iconst C 78 rfl ci_m1 ?_
            obtain ⟨i118, hi, hin, hf⟩ := ixd_some hf
            obtain ⟨M_118, hM, hf⟩ := bnd_some hf
            refine k_iast (w2 := (mw cy a M_118)) C 79 rfl 6 M_c6 hin hi (M_s6.trans (congrArg (fun z => (mw cy a z)) hM)) ?_
            refine k_aload_0 C 80 rfl 0 rfl ?_
            refine kg12_7 C 81 rfl qX12_26 0 M_c0 M_f0_7 ?_
            refine k_iload_2 C 82 rfl 2 rfl ?_
            refine k_bipush C 83 rfl cb_7 ?_
            refine k_iadd C 84 rfl ?_
            refine k_iconst C 85 rfl ci_0 ?_
            obtain ⟨i128, hi, hin, hf⟩ := ixd_some hf
            obtain ⟨M_128, hM, hf⟩ := bnd_some hf
            refine k_iast (w2 := (mw cy a M_128)) C 86 rfl 6 M_c6 hin hi (M_s6.trans (congrArg (fun z => (mw cy a z)) hM)) ?_
            refine k_aload_0 C 87 rfl 0 rfl ?_
            refine kg12_7 C 88 rfl qX12_26 0 M_c0 M_f0_7 ?_
            refine k_iconst C 89 rfl ci_2 ?_
            refine k_dup2 C 90 rfl rfl rfl ?_
            refine k_iald C 91 rfl 6 M_c6 vi_2_100 tc_2 ?_
            refine k_iconst C 92 rfl ci_1 ?_
            refine k_iadd C 93 rfl ?_
            obtain ⟨M_138, hM, hf⟩ := bnd_some hf
            refine k_iast (w2 := (mw cy a M_138)) C 94 rfl 6 M_c6 vi_2_100 tc_2 (M_s6.trans (congrArg (fun z => (mw cy a z)) hM)) ?_
            refine k_iconst C 95 rfl ci_1 ?_
            exact k_zret (wf := (fun u => (mw cy a u))) hR 96 rfl hf
          · replace hf := if_t hf hc
            exact k_sub [] rfl (hb89 M_83 hf)
  · replace hf := if_t hf hc
    refine k_aload_0 C 6 rfl 0 rfl ?_
    refine k_iconst C 7 rfl ci_4 ?_
    refine k_iload_1 C 8 rfl 1 rfl ?_
    obtain ⟨r14, M_14, h5, hf⟩ := ob2_some hf
    refine k_callW C 9 (c_X12_fails Z.2.1 D cy a M 4 p1 r14 M_14 h5) rfl qX12_117 mvX12_fails 0 12 M_c0 rfl rfl rfl (Nat.le_of_ble_eq_true rfl) ⟨Nat.le_of_ble_eq_true rfl, Nat.le_of_ble_eq_true rfl, Nat.le_refl 0, Nat.le_refl 0⟩ ?_
    exact k_zret (wf := (fun u => (mw cy a u))) hR 10 rfl hf
set_option maxHeartbeats 1000000 in
set_option maxRecDepth 20000 in
theorem c_X12_lineLineHere (l : Launch) (D : va_G) (cy : Nat → ClassId) (a : Nat → Nat) (M : Sg) (p1 : Int32) (r : Bool) (M1 : Sg) (hf : f_X12_lineLineHere M p1 = some (r, M1)) : Ct l D cy yX12_lineLineHere cX12_lineLineHere 2 (some .boolean) 4 97 0 0 [.ref (a 0), .int p1] (mw cy a M) (some (.int (bI r))) (mw cy a M1) := by
  refine Ct_z tX12_lineLineHere hX12_lineLineHere (by decide) (Nat.le_of_ble_eq_true rfl) ?_
  intro Z hZ C hR
  subst hZ
  replace C : Cx Z D cy RX12 tX12_lineLineHere 2 4 97 0 0 := C
  show Wk Z D 2 0 0 (mw cy a M) 0 [(0, .ref (a 0)), (1, .int p1)] []
  unfold f_X12_lineLineHere at hf
  refine k_aload_0 C 0 rfl 0 rfl ?_
  refine k_ldc2 C 1 rfl qX12_230 ?_
  obtain ⟨r4, M_4, h5, hf⟩ := ob2_some hf
  refine k_callW C 2 (c_X12_isWord Z.2.1 D cy a M (500135192942 : Int64) r4 M_4 h5) rfl qX12_107 mvX12_isWord 0 12 M_c0 rfl rfl rfl (Nat.le_of_ble_eq_true rfl) ⟨Nat.le_of_ble_eq_true rfl, Nat.le_of_ble_eq_true rfl, Nat.le_refl 0, Nat.le_refl 0⟩ ?_
  refine k_if_eq C 3 rfl 16 (by decide) (fun hc => ?_) (fun hc => ?_)
  · replace hf := if_t hf hc
    refine k_aload_0 C 8 rfl 0 rfl ?_
    refine kg12_7 C 9 rfl qX12_26 0 M_c0 M_f0_7 ?_
    refine k_iconst C 10 rfl ci_0 ?_
    refine k_iald C 11 rfl 6 M_c6 vi_0_100 tc_0 ?_
    refine k_if_ne C 12 rfl 32 (by decide) (fun hc => ?_) (fun hc => ?_)
    · replace hf := if_f hf hc
      refine k_aload_0 C 18 rfl 0 rfl ?_
      refine k_ldc2 C 19 rfl qX12_130 ?_
      obtain ⟨r36, M_36, h5, hf⟩ := ob2_some hf
      refine k_callW C 20 (c_X12_isWord Z.2.1 D cy a M_4 (1684370292 : Int64) r36 M_36 h5) rfl qX12_107 mvX12_isWord 0 12 M_c0 rfl rfl rfl (Nat.le_of_ble_eq_true rfl) ⟨Nat.le_of_ble_eq_true rfl, Nat.le_of_ble_eq_true rfl, Nat.le_refl 0, Nat.le_refl 0⟩ ?_
      refine k_if_eq C 21 rfl 48 (by decide) (fun hc => ?_) (fun hc => ?_)
      · replace hf := if_t hf hc
        refine k_aload_0 C 26 rfl 0 rfl ?_
        refine k_ldc2 C 27 rfl qX12_238 ?_
        obtain ⟨r52, M_52, h5, hf⟩ := ob2_some hf
        refine k_callW C 28 (c_X12_isWord Z.2.1 D cy a M_36 (1937010544 : Int64) r52 M_52 h5) rfl qX12_107 mvX12_isWord 0 12 M_c0 rfl rfl rfl (Nat.le_of_ble_eq_true rfl) ⟨Nat.le_of_ble_eq_true rfl, Nat.le_of_ble_eq_true rfl, Nat.le_refl 0, Nat.le_refl 0⟩ ?_
        refine k_if_eq C 29 rfl 64 (by decide) (fun hc => ?_) (fun hc => ?_)
        · replace hf := if_t hf hc
          refine k_aload_0 C 34 rfl 0 rfl ?_
          refine k_ldc2 C 35 rfl qX12_243 ?_
          obtain ⟨r68, M_68, h5, hf⟩ := ob2_some hf
          refine k_callW C 36 (c_X12_isWord Z.2.1 D cy a M_52 (31632341598826087 : Int64) r68 M_68 h5) rfl qX12_107 mvX12_isWord 0 12 M_c0 rfl rfl rfl (Nat.le_of_ble_eq_true rfl) ⟨Nat.le_of_ble_eq_true rfl, Nat.le_of_ble_eq_true rfl, Nat.le_refl 0, Nat.le_refl 0⟩ ?_
          refine k_if_eq C 37 rfl 90 (by decide) (fun hc => ?_) (fun hc => ?_)
          · replace hf := if_t hf hc
            refine k_aload_0 C 50 rfl 0 rfl ?_
            refine k_ldc2 C 51 rfl qX12_249 ?_
            obtain ⟨r94, M_94, h5, hf⟩ := ob2_some hf
            refine k_callW C 52 (c_X12_isWord Z.2.1 D cy a M_68 (1936225652 : Int64) r94 M_94 h5) rfl qX12_107 mvX12_isWord 0 12 M_c0 rfl rfl rfl (Nat.le_of_ble_eq_true rfl) ⟨Nat.le_of_ble_eq_true rfl, Nat.le_of_ble_eq_true rfl, Nat.le_refl 0, Nat.le_refl 0⟩ ?_
            refine k_if_eq C 53 rfl 105 (by decide) (fun hc => ?_) (fun hc => ?_)
            · replace hf := if_t hf hc
              refine k_aload_0 C 57 rfl 0 rfl ?_
              refine k_ldc2 C 58 rfl qX12_254 ?_
              obtain ⟨r109, M_109, h5, hf⟩ := ob2_some hf
              refine k_callW C 59 (c_X12_isWord Z.2.1 D cy a M_94 (32776920184415609 : Int64) r109 M_109 h5) rfl qX12_107 mvX12_isWord 0 12 M_c0 rfl rfl rfl (Nat.le_of_ble_eq_true rfl) ⟨Nat.le_of_ble_eq_true rfl, Nat.le_of_ble_eq_true rfl, Nat.le_refl 0, Nat.le_refl 0⟩ ?_
              refine k_if_eq C 60 rfl 135 (by decide) (fun hc => ?_) (fun hc => ?_)
              · replace hf := if_t hf hc
                refine k_aload_0 C 74 rfl 0 rfl ?_
                refine k_ldc2 C 75 rfl qX12_150 ?_
                obtain ⟨r139, M_139, h5, hf⟩ := ob2_some hf
                refine k_callW C 76 (c_X12_isWord Z.2.1 D cy a M_109 (495622124659 : Int64) r139 M_139 h5) rfl qX12_107 mvX12_isWord 0 12 M_c0 rfl rfl rfl (Nat.le_of_ble_eq_true rfl) ⟨Nat.le_of_ble_eq_true rfl, Nat.le_of_ble_eq_true rfl, Nat.le_refl 0, Nat.le_refl 0⟩ ?_
                refine k_if_eq C 77 rfl 162 (by decide) (fun hc => ?_) (fun hc => ?_)
                · replace hf := if_t hf hc
                  refine k_aload_0 C 89 rfl 0 rfl ?_
                  refine k_ldc2 C 90 rfl qX12_128 ?_
                  obtain ⟨r166, M_166, h5, hf⟩ := ob2_some hf
                  refine k_callW C 91 (c_X12_isWord Z.2.1 D cy a M_139 (491394458994 : Int64) r166 M_166 h5) rfl qX12_107 mvX12_isWord 0 12 M_c0 rfl rfl rfl (Nat.le_of_ble_eq_true rfl) ⟨Nat.le_of_ble_eq_true rfl, Nat.le_of_ble_eq_true rfl, Nat.le_refl 0, Nat.le_refl 0⟩ ?_
                  refine k_if_eq C 92 rfl 178 (by decide) (fun hc => ?_) (fun hc => ?_)
                  · replace hf := if_t hf hc
                    refine k_aload_0 C 97 rfl 0 rfl ?_
                    refine k_ldc2 C 98 rfl qX12_263 ?_
                    obtain ⟨r182, M_182, h5, hf⟩ := ob2_some hf
                    refine k_callW C 99 (c_X12_isWord Z.2.1 D cy a M_166 (1953459300 : Int64) r182 M_182 h5) rfl qX12_107 mvX12_isWord 0 12 M_c0 rfl rfl rfl (Nat.le_of_ble_eq_true rfl) ⟨Nat.le_of_ble_eq_true rfl, Nat.le_of_ble_eq_true rfl, Nat.le_refl 0, Nat.le_refl 0⟩ ?_
                    refine k_if_eq C 100 rfl 209 (by decide) (fun hc => ?_) (fun hc => ?_)
                    · replace hf := if_t hf hc
                      refine k_aload_0 C 112 rfl 0 rfl ?_
                      refine k_iconst C 113 rfl ci_5 ?_
                      refine k_iload_1 C 114 rfl 1 rfl ?_
                      refine k_iconst C 115 rfl ci_1 ?_
                      refine k_bipush C 116 rfl cb_20 ?_
                      obtain ⟨r215, M_215, h5, hf⟩ := ob2_some hf
                      refine k_callW C 117 (c_X12_isOnceHere Z.2.1 D cy a M_182 5 p1 1 20 r215 M_215 h5) rfl qX12_245 mvX12_isOnceHere 0 12 M_c0 rfl rfl rfl (Nat.le_of_ble_eq_true rfl) ⟨Nat.le_of_ble_eq_true rfl, Nat.le_of_ble_eq_true rfl, Nat.le_refl 0, Nat.le_refl 0⟩ ?_
                      exact k_zret (wf := (fun u => (mw cy a u))) hR 118 rfl hf
                    · replace hf := if_f hf hc
                      refine k_aload_0 C 101 rfl 0 rfl ?_
                      refine k_aload_0 C 102 rfl 0 rfl ?_
                      refine kg12_7 C 103 rfl qX12_26 0 M_c0 M_f0_7 ?_
                      refine k_iconst C 104 rfl ci_2 ?_
                      refine k_iald C 105 rfl 6 M_c6 vi_2_100 tc_2 ?_
                      refine k_bipush C 106 rfl cb_56 ?_
                      refine k_bipush C 107 rfl cb_8 ?_
                      refine k_iconst C 108 rfl ci_0 ?_
                      refine k_sipush C 109 rfl cs_999 ?_
                      obtain ⟨r203, M_203, h5, hf⟩ := ob2_some hf
                      refine k_callW C 110 (c_X12_isCellOfHere Z.2.1 D cy a M_182 (M_182.2.1 7 2) 56 8 0 999 r203 M_203 h5) rfl qX12_256 mvX12_isCellOfHere 0 12 M_c0 rfl rfl rfl (Nat.le_of_ble_eq_true rfl) ⟨Nat.le_of_ble_eq_true rfl, Nat.le_of_ble_eq_true rfl, Nat.le_refl 0, Nat.le_refl 0⟩ ?_
                      refine k_goto C 111 rfl 218 (by decide) ?_
                      exact k_zret (wf := (fun u => (mw cy a u))) hR 118 rfl hf
                  · replace hf := if_f hf hc
                    refine k_aload_0 C 93 rfl 0 rfl ?_
                    refine k_iload_1 C 94 rfl 1 rfl ?_
                    obtain ⟨r174, M_174, h5, hf⟩ := ob2_some hf
                    refine k_callW C 95 (c_X12_isRiderHere Z.2.1 D cy a M_166 p1 r174 M_174 h5) rfl qX12_260 mvX12_isRiderHere 0 12 M_c0 rfl rfl rfl (Nat.le_of_ble_eq_true rfl) ⟨Nat.le_of_ble_eq_true rfl, Nat.le_of_ble_eq_true rfl, Nat.le_refl 0, Nat.le_refl 0⟩ ?_
                    exact k_zret (wf := (fun u => (mw cy a u))) hR 96 rfl hf
                · replace hf := if_f hf hc
                  refine k_aload_0 C 78 rfl 0 rfl ?_
                  refine k_aload_0 C 79 rfl 0 rfl ?_
                  refine kg12_7 C 80 rfl qX12_26 0 M_c0 M_f0_7 ?_
                  refine k_iconst C 81 rfl ci_0 ?_
                  refine k_iald C 82 rfl 6 M_c6 vi_0_100 tc_0 ?_
                  refine k_bipush C 83 rfl cb_44 ?_
                  refine k_iconst C 84 rfl ci_1 ?_
                  refine k_iconst C 85 rfl ci_0 ?_
                  refine k_bipush C 86 rfl cb_9 ?_
                  obtain ⟨r158, M_158, h5, hf⟩ := ob2_some hf
                  refine k_callW C 87 (c_X12_isCellOfHere Z.2.1 D cy a M_139 (M_139.2.1 7 0) 44 1 0 9 r158 M_158 h5) rfl qX12_256 mvX12_isCellOfHere 0 12 M_c0 rfl rfl rfl (Nat.le_of_ble_eq_true rfl) ⟨Nat.le_of_ble_eq_true rfl, Nat.le_of_ble_eq_true rfl, Nat.le_refl 0, Nat.le_refl 0⟩ ?_
                  exact k_zret (wf := (fun u => (mw cy a u))) hR 88 rfl hf
              · replace hf := if_f hf hc
                refine k_aload_0 C 61 rfl 0 rfl ?_
                refine k_aload_0 C 62 rfl 0 rfl ?_
                refine kg12_7 C 63 rfl qX12_26 0 M_c0 M_f0_7 ?_
                refine k_iconst C 64 rfl ci_0 ?_
                refine k_iald C 65 rfl 6 M_c6 vi_0_100 tc_0 ?_
                refine k_iconst C 66 rfl ci_1 ?_
                refine k_isub C 67 rfl ?_
                refine k_bipush C 68 rfl cb_37 ?_
                refine k_iconst C 69 rfl ci_1 ?_
                refine k_iconst C 70 rfl ci_1 ?_
                refine k_sipush C 71 rfl cs_999 ?_
                obtain ⟨r131, M_131, h5, hf⟩ := ob2_some hf
                refine k_callW C 72 (c_X12_isCellOfHere Z.2.1 D cy a M_109 ((M_109.2.1 7 0) - 1) 37 1 1 999 r131 M_131 h5) rfl qX12_256 mvX12_isCellOfHere 0 12 M_c0 rfl rfl rfl (Nat.le_of_ble_eq_true rfl) ⟨Nat.le_of_ble_eq_true rfl, Nat.le_of_ble_eq_true rfl, Nat.le_refl 0, Nat.le_refl 0⟩ ?_
                exact k_zret (wf := (fun u => (mw cy a u))) hR 73 rfl hf
            · replace hf := if_f hf hc
              refine k_aload_0 C 54 rfl 0 rfl ?_
              obtain ⟨r101, M_101, h5, hf⟩ := ob2_some hf
              refine k_callW C 55 (c_X12_isShutHere Z.2.1 D cy a M_94 r101 M_101 h5) rfl qX12_251 mvX12_isShutHere 0 12 M_c0 rfl rfl rfl (Nat.le_of_ble_eq_true rfl) ⟨Nat.le_of_ble_eq_true rfl, Nat.le_of_ble_eq_true rfl, Nat.le_refl 0, Nat.le_refl 0⟩ ?_
              exact k_zret (wf := (fun u => (mw cy a u))) hR 56 rfl hf
          · replace hf := if_f hf hc
            refine k_aload_0 C 38 rfl 0 rfl ?_
            refine k_iconst C 39 rfl ci_4 ?_
            refine k_iload_1 C 40 rfl 1 rfl ?_
            refine k_iconst C 41 rfl ci_0 ?_
            refine k_aload_0 C 42 rfl 0 rfl ?_
            refine kg12_7 C 43 rfl qX12_26 0 M_c0 M_f0_7 ?_
            refine k_iconst C 44 rfl ci_1 ?_
            refine k_iald C 45 rfl 6 M_c6 vi_1_100 tc_1 ?_
            refine k_iconst C 46 rfl ci_1 ?_
            refine k_isub C 47 rfl ?_
            obtain ⟨r86, M_86, h5, hf⟩ := ob2_some hf
            refine k_callW C 48 (c_X12_isOnceHere Z.2.1 D cy a M_68 4 p1 0 ((M_68.2.1 7 1) - 1) r86 M_86 h5) rfl qX12_245 mvX12_isOnceHere 0 12 M_c0 rfl rfl rfl (Nat.le_of_ble_eq_true rfl) ⟨Nat.le_of_ble_eq_true rfl, Nat.le_of_ble_eq_true rfl, Nat.le_refl 0, Nat.le_refl 0⟩ ?_
            exact k_zret (wf := (fun u => (mw cy a u))) hR 49 rfl hf
        · replace hf := if_f hf hc
          refine k_aload_0 C 30 rfl 0 rfl ?_
          refine k_iload_1 C 31 rfl 1 rfl ?_
          obtain ⟨r60, M_60, h5, hf⟩ := ob2_some hf
          refine k_callW C 32 (c_X12_isStopHere Z.2.1 D cy a M_52 p1 r60 M_60 h5) rfl qX12_240 mvX12_isStopHere 0 12 M_c0 rfl rfl rfl (Nat.le_of_ble_eq_true rfl) ⟨Nat.le_of_ble_eq_true rfl, Nat.le_of_ble_eq_true rfl, Nat.le_refl 0, Nat.le_refl 0⟩ ?_
          exact k_zret (wf := (fun u => (mw cy a u))) hR 33 rfl hf
      · replace hf := if_f hf hc
        refine k_aload_0 C 22 rfl 0 rfl ?_
        refine k_iload_1 C 23 rfl 1 rfl ?_
        obtain ⟨r44, M_44, h5, hf⟩ := ob2_some hf
        refine k_callW C 24 (c_X12_isDestHere Z.2.1 D cy a M_36 p1 r44 M_44 h5) rfl qX12_235 mvX12_isDestHere 0 12 M_c0 rfl rfl rfl (Nat.le_of_ble_eq_true rfl) ⟨Nat.le_of_ble_eq_true rfl, Nat.le_of_ble_eq_true rfl, Nat.le_refl 0, Nat.le_refl 0⟩ ?_
        exact k_zret (wf := (fun u => (mw cy a u))) hR 25 rfl hf
    · replace hf := if_t hf hc
      refine k_aload_0 C 13 rfl 0 rfl ?_
      refine k_iconst C 14 rfl ci_4 ?_
      refine k_iload_1 C 15 rfl 1 rfl ?_
      obtain ⟨r28, M_28, h5, hf⟩ := ob2_some hf
      refine k_callW C 16 (c_X12_fails Z.2.1 D cy a M_4 4 p1 r28 M_28 h5) rfl qX12_117 mvX12_fails 0 12 M_c0 rfl rfl rfl (Nat.le_of_ble_eq_true rfl) ⟨Nat.le_of_ble_eq_true rfl, Nat.le_of_ble_eq_true rfl, Nat.le_refl 0, Nat.le_refl 0⟩ ?_
      exact k_zret (wf := (fun u => (mw cy a u))) hR 17 rfl hf
  · replace hf := if_f hf hc
    refine k_aload_0 C 4 rfl 0 rfl ?_
    refine k_iload_1 C 5 rfl 1 rfl ?_
    obtain ⟨r12, M_12, h5, hf⟩ := ob2_some hf
    refine k_callW C 6 (c_X12_isTrainHere Z.2.1 D cy a M_4 p1 r12 M_12 h5) rfl qX12_232 mvX12_isTrainHere 0 12 M_c0 rfl rfl rfl (Nat.le_of_ble_eq_true rfl) ⟨Nat.le_of_ble_eq_true rfl, Nat.le_of_ble_eq_true rfl, Nat.le_refl 0, Nat.le_refl 0⟩ ?_
    exact k_zret (wf := (fun u => (mw cy a u))) hR 7 rfl hf
