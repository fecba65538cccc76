set_option maxHeartbeats 1000000 in
set_option maxRecDepth 20000 in
theorem c_X5_takeComparison (l : Launch) (D : va_G) (cy : Nat → ClassId) (c : Nat → Nat) (b : Nat → Nat) (K : Sg) (Q : Sg) (r : Int32) (K1 : Sg) (Q1 : Sg) (hf : f_X5_takeComparison K Q = some (r, K1, Q1)) : Ct l D cy yX5_takeComparison cX5_takeComparison 2 (some .int) 1 21 0 0 [.ref (c 0)] (wK cy c b K Q) (some (.int r)) (wK cy c b K1 Q1) := by
  refine Ct_i tX5_takeComparison hX5_takeComparison (by decide) (Nat.le_of_ble_eq_true rfl) ?_
  intro Z hZ C hR
  subst hZ
  replace C : Cx Z D cy RX5 tX5_takeComparison 2 1 21 0 0 := C
  show Wk Z D 2 0 0 (wK cy c b K Q) 0 [(0, .ref (c 0))] []
  unfold f_X5_takeComparison at hf
  have hb50 : ∀ (x1 : Int32) (K : Sg) (Q : Sg), f_X5_takeComparison_b50 x1 K Q = some (r, K1, Q1) → Wk Z D 2 0 0 (wK cy c b K Q) 50 [(0, .ref (c 0)), (1, .int x1)] [] := by
    intro x1 K Q hf
    unfold f_X5_takeComparison_b50 at hf
    refine k_aload_0 C 25 rfl 0 rfl ?_
    refine kg5_7 C 26 rfl qX5_35 0 K_c0 K_f0_7 ?_
    refine k_bipush C 27 rfl cb_60 ?_
    refine k_icmp_lt C 28 rfl 69 (by decide) (fun hc => ?_) (fun hc => ?_)
    · replace hf := if_t hf hc
      refine k_aload_0 C 35 rfl 0 rfl ?_
      refine k_dup C 36 rfl rfl ?_
      refine kg5_7 C 37 rfl qX5_35 0 K_c0 K_f0_7 ?_
      refine k_iconst C 38 rfl ci_1 ?_
      refine k_iadd C 39 rfl ?_
      obtain ⟨K_76, hM, hf⟩ := bnd_some hf
      refine kp5_7 (w2 := (wK cy c b K_76 Q)) C 40 rfl qX5_35 0 K_c0 (v := ((K.1 7) + 1)) K_n0 (K_p0_7.trans (congrArg (fun z => (wK cy c b z Q)) hM)) ?_
      refine k_aload_0 C 41 rfl 0 rfl ?_
      refine kg5_6 C 42 rfl qX5_24 0 K_c0 K_f0_6 ?_
      obtain ⟨Q_83, h5, hf⟩ := ob1_some hf
      refine k_callV (X := (wK cy c b K_76 Q).take 5) (Y := (wK cy c b K_76 Q).drop 10) (w2 := (wK cy c b K_76 Q_83)) C 43 (c_X8_step Z.2.1 D cy b Q Q_83 h5) rfl qX5_65 mvX8_step 0 8 Q_c0 rfl rfl rfl rfl rfl (Nat.le_of_ble_eq_true rfl) ⟨Nat.le_of_ble_eq_true rfl, Nat.le_of_ble_eq_true rfl, Nat.le_refl 0, Nat.le_refl 0⟩ ?_
      refine k_iload_1 C 44 rfl 1 rfl ?_
      exact k_iret (wf := (fun u => (wK cy c b u.1 u.2))) hR 45 rfl hf
    · replace hf := if_f hf hc
      refine k_aload_0 C 29 rfl 0 rfl ?_
      refine kg5_6 C 30 rfl qX5_24 0 K_c0 K_f0_6 ?_
      refine k_iconst C 31 rfl ci_3 ?_
      obtain ⟨Q_64, h5, hf⟩ := ob1_some hf
      refine k_callV (X := (wK cy c b K Q).take 5) (Y := (wK cy c b K Q).drop 10) (w2 := (wK cy c b K Q_64)) C 32 (c_X8_blame Z.2.1 D cy b Q 3 Q_64 h5) rfl qX5_54 mvX8_blame 0 8 Q_c0 rfl rfl rfl rfl rfl (Nat.le_of_ble_eq_true rfl) ⟨Nat.le_of_ble_eq_true rfl, Nat.le_of_ble_eq_true rfl, Nat.le_refl 0, Nat.le_refl 0⟩ ?_
      refine k_iconst C 33 rfl ci_0 ?_
      exact k_iret (wf := (fun u => (wK cy c b u.1 u.2))) hR 34 rfl hf
  refine k_aload_0 C 0 rfl 0 rfl ?_
  refine kg5_6 C 1 rfl qX5_24 0 K_c0 K_f0_6 ?_
  obtain ⟨r4, h5, hf⟩ := ob1_some hf
  refine k_callV (X := (wK cy c b K Q).take 5) (Y := (wK cy c b K Q).drop 10) (w2 := (wK cy c b K Q)) C 2 (c_X8_signHere Z.2.1 D cy b Q r4 h5) rfl qX5_82 mvX8_signHere 0 8 Q_c0 rfl rfl rfl rfl rfl (Nat.le_of_ble_eq_true rfl) ⟨Nat.le_of_ble_eq_true rfl, Nat.le_of_ble_eq_true rfl, Nat.le_refl 0, Nat.le_refl 0⟩ ?_
  refine k_istore_1 C 3 rfl (by decide) rfl ?_
  refine k_sub (lv2 := [(0, .ref (c 0)), (1, .int r4)]) [1, 0] rfl ?_
  refine k_iload_1 C 4 rfl 1 rfl ?_
  refine k_bipush C 5 rfl cb_60 ?_
  refine k_icmp_eq C 6 rfl 50 (by decide) (fun hc => ?_) (fun hc => ?_)
  · replace hf := if_t hf hc
    exact k_sub [0, 1] rfl (hb50 r4 K Q hf)
  · replace hf := if_f hf hc
    refine k_iload_1 C 7 rfl 1 rfl ?_
    refine k_sipush C 8 rfl cs_316 ?_
    refine k_icmp_eq C 9 rfl 50 (by decide) (fun hc => ?_) (fun hc => ?_)
    · replace hf := if_t hf hc
      exact k_sub [0, 1] rfl (hb50 r4 K Q hf)
    · replace hf := if_f hf hc
      refine k_iload_1 C 10 rfl 1 rfl ?_
      refine k_bipush C 11 rfl cb_61 ?_
      refine k_icmp_eq C 12 rfl 50 (by decide) (fun hc => ?_) (fun hc => ?_)
      · replace hf := if_t hf hc
        exact k_sub [0, 1] rfl (hb50 r4 K Q hf)
      · replace hf := if_f hf hc
        refine k_iload_1 C 13 rfl 1 rfl ?_
        refine k_sipush C 14 rfl cs_318 ?_
        refine k_icmp_eq C 15 rfl 50 (by decide) (fun hc => ?_) (fun hc => ?_)
        · replace hf := if_t hf hc
          exact k_sub [0, 1] rfl (hb50 r4 K Q hf)
        · replace hf := if_f hf hc
          refine k_iload_1 C 16 rfl 1 rfl ?_
          refine k_bipush C 17 rfl cb_62 ?_
          refine k_icmp_eq C 18 rfl 50 (by decide) (fun hc => ?_) (fun hc => ?_)
          · replace hf := if_t hf hc
            exact k_sub [0, 1] rfl (hb50 r4 K Q hf)
          · replace hf := if_f hf hc
            refine k_aload_0 C 19 rfl 0 rfl ?_
            refine kg5_6 C 20 rfl qX5_24 0 K_c0 K_f0_6 ?_
            refine k_iconst C 21 rfl ci_0 ?_
            obtain ⟨Q_45, h5, hf⟩ := ob1_some hf
            refine k_callV (X := (wK cy c b K Q).take 5) (Y := (wK cy c b K Q).drop 10) (w2 := (wK cy c b K Q_45)) C 22 (c_X8_blame Z.2.1 D cy b Q 0 Q_45 h5) rfl qX5_54 mvX8_blame 0 8 Q_c0 rfl rfl rfl rfl rfl (Nat.le_of_ble_eq_true rfl) ⟨Nat.le_of_ble_eq_true rfl, Nat.le_of_ble_eq_true rfl, Nat.le_refl 0, Nat.le_refl 0⟩ ?_
            refine k_iconst C 23 rfl ci_0 ?_
            exact k_iret (wf := (fun u => (wK cy c b u.1 u.2))) hR 24 rfl hf
set_option maxHeartbeats 1000000 in
set_option maxRecDepth 20000 in
theorem c_X5_readTest_vopen (l : Launch) (D : va_G) (cy : Nat → ClassId) (c : Nat → Nat) (b : Nat → Nat) (n : Nat) (rf : Sg → Sg → Int32 → Option (Sg × Sg)) (hrf : ∀ (K Q : Sg) (p1 : Int32) (K1 Q1 : Sg), rf K Q p1 = some (K1, Q1) → Ct l D cy yX5_readFact cX5_readFact 4 none (2 * n + 3) (60 * n + 67) 0 0 [.ref (c 0), .int p1] (wK cy c b K Q) none (wK cy c b K1 Q1)) (K : Sg) (Q : Sg) (p1 : Int32) (K1 : Sg) (Q1 : Sg) (hf : f_X5_readTest_vopen rf K Q p1 = some (K1, Q1)) : Ct l D cy yX5_readTest cX5_readTest 5 none (2 * n + 4) (60 * n + 97) 0 0 [.ref (c 0), .int p1] (wK cy c b K Q) none (wK cy c b K1 Q1) := by
  refine Ct_v tX5_readTest hX5_readTest (by decide) (Nat.le_of_ble_eq_true rfl) ?_
  intro Z hZ C hR
  subst hZ
  replace C : Cx Z D cy RX5 tX5_readTest 5 (2 * n + 4) (60 * n + 97) 0 0 := C
  show Wk Z D 5 0 0 (wK cy c b K Q) 0 [(0, .ref (c 0)), (1, .int p1)] []
  unfold f_X5_readTest_vopen at hf
  have hb95 : ∀ (x2 : Int32) (K : Sg) (Q : Sg), f_X5_readTest_vopen_b95 rf p1 x2 K Q = some (K1, Q1) → Wk Z D 5 0 0 (wK cy c b K Q) 95 [(0, .ref (c 0)), (2, .int x2)] [] := by
    intro x2 K Q hf
    unfold f_X5_readTest_vopen_b95 at hf
    refine k_iload_2 C 46 rfl 1 rfl ?_
    refine k_if_eq C 47 rfl 105 (by decide) (fun hc => ?_) (fun hc => ?_)
    · replace hf := if_t hf hc
      exact k_vret (wf := (fun u => (wK cy c b u.1 u.2))) hR 51 rfl hf
    · replace hf := if_f hf hc
      refine k_aload_0 C 48 rfl 0 rfl ?_
      refine k_ldc C 49 rfl qX5_77 ?_
      obtain ⟨K_102, h5, hf⟩ := ob1_some hf
      refine k_callV (X := (wK cy c b K Q).take 0) (Y := (wK cy c b K Q).drop 5) (w2 := (wK cy c b K_102 Q)) C 50 (c_X5_emit Z.2.1 D cy c b K 100015 K_102 h5) rfl qX5_78 mvX5_emit 0 5 K1_c0 rfl rfl rfl rfl rfl (Nat.le_of_ble_eq_true rfl) ⟨by omega, by omega, Nat.le_refl 0, Nat.le_refl 0⟩ ?_
      exact k_vret (wf := (fun u => (wK cy c b u.1 u.2))) hR 51 rfl hf
  have hq9 : ∀ (k9 : Int32 → Int32 → Sg → Sg → Option (Sg × Sg)), (∀ (x2 : Int32) (x3 : Int32) (K : Sg) (Q : Sg), k9 x2 x3 K Q = some (K1, Q1) → Wk Z D 5 0 0 (wK cy c b K Q) 9 [(0, .ref (c 0)), (1, .int p1), (2, .int x2), (3, .int x3)] []) → ∀ (x2 : Int32) (x3 : Int32) (K : Sg) (Q : Sg), f_X5_readTest_vopen_b9 rf p1 k9 x2 x3 K Q = some (K1, Q1) → Wk Z D 5 0 0 (wK cy c b K Q) 9 [(0, .ref (c 0)), (1, .int p1), (2, .int x2), (3, .int x3)] [] := by
    intro k9 hk9 x2 x3 K Q hf
    unfold f_X5_readTest_vopen_b9 at hf
    have hb89 : ∀ (x2 : Int32) (x3 : Int32) (K : Sg) (Q : Sg), f_X5_readTest_vopen_b89 rf p1 k9 x2 x3 K Q = some (K1, Q1) → Wk Z D 5 0 0 (wK cy c b K Q) 89 [(0, .ref (c 0)), (1, .int p1), (2, .int x2), (3, .int x3)] [] := by
      intro x2 x3 K Q hf
      unfold f_X5_readTest_vopen_b89 at hf
      obtain ⟨x3_89, hx, hf⟩ := bnd_some hf
      refine k_iinc C 44 rfl 3 rfl ((cn_1 _).trans hx) (by decide) rfl ?_
      refine k_sub (lv2 := [(0, .ref (c 0)), (1, .int p1), (2, .int x2), (3, .int x3_89)]) [1, 2, 3, 0] rfl ?_
      refine k_goto C 45 rfl 9 (by decide) ?_
      exact k_sub [0, 1, 2, 3] rfl (hk9 x2 x3_89 K Q hf)
    have hb66 : ∀ (x2 : Int32) (x3 : Int32) (x4 : Int32) (K : Sg) (Q : Sg), f_X5_readTest_vopen_b66 rf p1 k9 x2 x3 x4 K Q = some (K1, Q1) → Wk Z D 5 0 0 (wK cy c b K Q) 66 [(0, .ref (c 0)), (1, .int p1), (2, .int x2), (3, .int x3), (4, .int x4)] [] := by
      intro x2 x3 x4 K Q hf
      unfold f_X5_readTest_vopen_b66 at hf
      refine k_aload_0 C 32 rfl 0 rfl ?_
      refine k_iload_1 C 33 rfl 1 rfl ?_
      obtain ⟨K_68, Q_68, h5, hf⟩ := ob2_some hf
      refine k_callW C 34 (hrf K Q p1 K_68 Q_68 h5) rfl qX5_74 mvX5_readFact 0 5 K_c0 rfl rfl rfl (Nat.le_of_ble_eq_true rfl) ⟨by omega, by omega, Nat.le_refl 0, Nat.le_refl 0⟩ ?_
      refine k_iload C 35 rfl 4 rfl ?_
      refine k_bipush C 36 rfl cb_14 ?_
      refine k_icmp_ne C 37 rfl 87 (by decide) (fun hc => ?_) (fun hc => ?_)
      · replace hf := if_f hf hc
        refine k_iconst C 42 rfl ci_1 ?_
        refine k_istore_2 C 43 rfl (by decide) rfl ?_
        refine k_sub (lv2 := [(0, .ref (c 0)), (1, .int p1), (2, .int 1), (3, .int x3), (4, .int x4)]) [1, 2, 0, 3, 4] rfl ?_
        exact k_sub [0, 1, 2, 3] rfl (hb89 1 x3 K_68 Q_68 hf)
      · replace hf := if_t hf hc
        refine k_aload_0 C 38 rfl 0 rfl ?_
        refine k_ldc C 39 rfl qX5_81 ?_
        obtain ⟨K_81, h5, hf⟩ := ob1_some hf
        refine k_callV (X := (wK cy c b K_68 Q_68).take 0) (Y := (wK cy c b K_68 Q_68).drop 5) (w2 := (wK cy c b K_81 Q_68)) C 40 (c_X5_emit Z.2.1 D cy c b K_68 100014 K_81 h5) rfl qX5_78 mvX5_emit 0 5 K1_c0 rfl rfl rfl rfl rfl (Nat.le_of_ble_eq_true rfl) ⟨by omega, by omega, Nat.le_refl 0, Nat.le_refl 0⟩ ?_
        refine k_goto C 41 rfl 89 (by decide) ?_
        exact k_sub [0, 1, 2, 3] rfl (hb89 x2 x3 K_81 Q_68 hf)
    have hb42 : ∀ (x2 : Int32) (x3 : Int32) (x4 : Int32) (K : Sg) (Q : Sg), f_X5_readTest_vopen_b42 rf p1 k9 x2 x3 x4 K Q = some (K1, Q1) → Wk Z D 5 0 0 (wK cy c b K Q) 42 [(0, .ref (c 0)), (1, .int p1), (2, .int x2), (3, .int x3), (4, .int x4)] [] := by
      intro x2 x3 x4 K Q hf
      unfold f_X5_readTest_vopen_b42 at hf
      refine k_aload_0 C 21 rfl 0 rfl ?_
      refine kg5_6 C 22 rfl qX5_24 0 K_c0 K_f0_6 ?_
      obtain ⟨Q_46, h5, hf⟩ := ob1_some hf
      refine k_callV (X := (wK cy c b K Q).take 5) (Y := (wK cy c b K Q).drop 10) (w2 := (wK cy c b K Q_46)) C 23 (c_X8_step Z.2.1 D cy b Q Q_46 h5) rfl qX5_65 mvX8_step 0 8 Q_c0 rfl rfl rfl rfl rfl (Nat.le_of_ble_eq_true rfl) ⟨by omega, by omega, Nat.le_refl 0, Nat.le_refl 0⟩ ?_
      refine k_iload C 24 rfl 4 rfl ?_
      refine k_bipush C 25 rfl cb_15 ?_
      refine k_icmp_ne C 26 rfl 66 (by decide) (fun hc => ?_) (fun hc => ?_)
      · replace hf := if_f hf hc
        exact k_sub [0, 1, 2, 3, 4] rfl (hb66 x2 x3 x4 K Q_46 hf)
      · replace hf := if_t hf hc
        refine k_iload_2 C 27 rfl 2 rfl ?_
        refine k_if_eq C 28 rfl 66 (by decide) (fun hc => ?_) (fun hc => ?_)
        · replace hf := if_t hf hc
          exact k_sub [0, 1, 2, 3, 4] rfl (hb66 x2 x3 x4 K Q_46 hf)
        · replace hf := if_f hf hc
          refine k_aload_0 C 29 rfl 0 rfl ?_
          refine k_ldc C 30 rfl qX5_77 ?_
          obtain ⟨K_63, h5, hf⟩ := ob1_some hf
          refine k_callV (X := (wK cy c b K Q_46).take 0) (Y := (wK cy c b K Q_46).drop 5) (w2 := (wK cy c b K_63 Q_46)) C 31 (c_X5_emit Z.2.1 D cy c b K 100015 K_63 h5) rfl qX5_78 mvX5_emit 0 5 K1_c0 rfl rfl rfl rfl rfl (Nat.le_of_ble_eq_true rfl) ⟨by omega, by omega, Nat.le_refl 0, Nat.le_refl 0⟩ ?_
          exact k_sub [0, 1, 2, 3, 4] rfl (hb66 x2 x3 x4 K_63 Q_46 hf)
    refine k_iload_3 C 7 rfl 3 rfl ?_
    refine k_sipush C 8 rfl cs_400 ?_
    refine k_icmp_ge C 9 rfl 95 (by decide) (fun hc => ?_) (fun hc => ?_)
    · replace hf := if_t hf hc
      exact k_sub [0, 2] rfl (hb95 x2 K Q hf)
    · replace hf := if_f hf hc
      refine k_aload_0 C 10 rfl 0 rfl ?_
      refine kg5_6 C 11 rfl qX5_24 0 K_c0 K_f0_6 ?_
      obtain ⟨r20, h5, hf⟩ := ob1_some hf
      refine k_callV (X := (wK cy c b K Q).take 5) (Y := (wK cy c b K Q).drop 10) (w2 := (wK cy c b K Q)) C 12 (c_X8_wordHere Z.2.1 D cy b Q r20 h5) rfl qX5_61 mvX8_wordHere 0 8 Q_c0 rfl rfl rfl rfl rfl (Nat.le_of_ble_eq_true rfl) ⟨by omega, by omega, Nat.le_refl 0, Nat.le_refl 0⟩ ?_
      refine k_istore C 13 rfl (by decide) rfl ?_
      refine k_sub (lv2 := [(0, .ref (c 0)), (1, .int p1), (2, .int x2), (3, .int x3), (4, .int r20)]) [1, 2, 3, 4, 0] rfl ?_
      refine k_iload C 14 rfl 4 rfl ?_
      refine k_bipush C 15 rfl cb_14 ?_
      refine k_icmp_eq C 16 rfl 42 (by decide) (fun hc => ?_) (fun hc => ?_)
      · replace hf := if_t hf hc
        exact k_sub [0, 1, 2, 3, 4] rfl (hb42 x2 x3 r20 K Q hf)
      · replace hf := if_f hf hc
        refine k_iload C 17 rfl 4 rfl ?_
        refine k_bipush C 18 rfl cb_15 ?_
        refine k_icmp_eq C 19 rfl 42 (by decide) (fun hc => ?_) (fun hc => ?_)
        · replace hf := if_t hf hc
          exact k_sub [0, 1, 2, 3, 4] rfl (hb42 x2 x3 r20 K Q hf)
        · replace hf := if_f hf hc
          refine k_goto C 20 rfl 95 (by decide) ?_
          exact k_sub [0, 2] rfl (hb95 x2 K Q hf)
  have hb9 := flW4 hq9
  refine k_aload_0 C 0 rfl 0 rfl ?_
  refine k_iload_1 C 1 rfl 1 rfl ?_
  obtain ⟨K_2, Q_2, h5, hf⟩ := ob2_some hf
  refine k_callW C 2 (hrf K Q p1 K_2 Q_2 h5) rfl qX5_74 mvX5_readFact 0 5 K_c0 rfl rfl rfl (Nat.le_of_ble_eq_true rfl) ⟨by omega, by omega, Nat.le_refl 0, Nat.le_refl 0⟩ ?_
  refine k_iconst C 3 rfl ci_0 ?_
  refine k_istore_2 C 4 rfl (by decide) rfl ?_
  refine k_sub (lv2 := [(0, .ref (c 0)), (1, .int p1), (2, .int 0)]) [1, 2, 0] rfl ?_
  refine k_iconst C 5 rfl ci_0 ?_
  refine k_istore_3 C 6 rfl (by decide) rfl ?_
  refine k_sub (lv2 := [(0, .ref (c 0)), (1, .int p1), (2, .int 0), (3, .int 0)]) [1, 2, 3, 0] rfl ?_
  exact k_sub [0, 1, 2, 3] rfl (hb9 FU 0 0 K_2 Q_2 hf)
set_option maxHeartbeats 1000000 in
set_option maxRecDepth 20000 in
theorem c_X5_readFact_vopen (l : Launch) (D : va_G) (cy : Nat → ClassId) (c : Nat → Nat) (b : Nat → Nat) (n : Nat) (rf rt : Sg → Sg → Int32 → Option (Sg × Sg)) (hrf : ∀ (K Q : Sg) (p1 : Int32) (K1 Q1 : Sg), rf K Q p1 = some (K1, Q1) → Ct l D cy yX5_readFact cX5_readFact 4 none (2 * n + 3) (60 * n + 67) 0 0 [.ref (c 0), .int p1] (wK cy c b K Q) none (wK cy c b K1 Q1)) (hrt : ∀ (K Q : Sg) (p1 : Int32) (K1 Q1 : Sg), rt K Q p1 = some (K1, Q1) → Ct l D cy yX5_readTest cX5_readTest 5 none (2 * n + 4) (60 * n + 97) 0 0 [.ref (c 0), .int p1] (wK cy c b K Q) none (wK cy c b K1 Q1)) (K : Sg) (Q : Sg) (p1 : Int32) (K1 : Sg) (Q1 : Sg) (hf : f_X5_readFact_vopen rf rt K Q p1 = some (K1, Q1)) : Ct l D cy yX5_readFact cX5_readFact 4 none (2 * n + 5) (60 * n + 127) 0 0 [.ref (c 0), .int p1] (wK cy c b K Q) none (wK cy c b K1 Q1) := by
  refine Ct_v tX5_readFact hX5_readFact (by decide) (Nat.le_of_ble_eq_true rfl) ?_
  intro Z hZ C hR
  subst hZ
  replace C : Cx Z D cy RX5 tX5_readFact 4 (2 * n + 5) (60 * n + 127) 0 0 := C
  show Wk Z D 4 0 0 (wK cy c b K Q) 0 [(0, .ref (c 0)), (1, .int p1)] []
  unfold f_X5_readFact_vopen at hf
  have hb56 : ∀ (x2 : Int32) (K : Sg) (Q : Sg), f_X5_readFact_vopen_b56 rf rt p1 x2 K Q = some (K1, Q1) → Wk Z D 4 0 0 (wK cy c b K Q) 56 [(0, .ref (c 0)), (1, .int p1), (2, .int x2)] [] := by
    intro x2 K Q hf
    unfold f_X5_readFact_vopen_b56 at hf
    refine k_iload_1 C 29 rfl 1 rfl ?_
    refine k_bipush C 30 rfl cb_10 ?_
    refine k_icmp_lt C 31 rfl 71 (by decide) (fun hc => ?_) (fun hc => ?_)
    · replace hf := if_t hf hc
      refine k_aload_0 C 37 rfl 0 rfl ?_
      refine kg5_6 C 38 rfl qX5_24 0 K_c0 K_f0_6 ?_
      obtain ⟨Q_75, h5, hf⟩ := ob1_some hf
      refine k_callV (X := (wK cy c b K Q).take 5) (Y := (wK cy c b K Q).drop 10) (w2 := (wK cy c b K Q_75)) C 39 (c_X8_step Z.2.1 D cy b Q Q_75 h5) rfl qX5_65 mvX8_step 0 8 Q_c0 rfl rfl rfl rfl rfl (Nat.le_of_ble_eq_true rfl) ⟨by omega, by omega, Nat.le_refl 0, Nat.le_refl 0⟩ ?_
      refine k_iload_2 C 40 rfl 2 rfl ?_
      refine k_if_eq C 41 rfl 96 (by decide) (fun hc => ?_) (fun hc => ?_)
      · replace hf := if_t hf hc
        refine k_aload_0 C 51 rfl 0 rfl ?_
        refine k_iload_1 C 52 rfl 1 rfl ?_
        refine k_iconst C 53 rfl ci_1 ?_
        refine k_iadd C 54 rfl ?_
        obtain ⟨K_100, Q_100, h5, hf⟩ := ob2_some hf
        refine k_callW C 55 (hrt K Q_75 (p1 + 1) K_100 Q_100 h5) rfl qX5_71 mvX5_readTest 0 5 K_c0 rfl rfl rfl (Nat.le_of_ble_eq_true rfl) ⟨by omega, by omega, Nat.le_refl 0, Nat.le_refl 0⟩ ?_
        refine k_aload_0 C 56 rfl 0 rfl ?_
        refine kg5_6 C 57 rfl qX5_24 0 K_c0 K_f0_6 ?_
        refine k_bipush C 58 rfl cb_93 ?_
        obtain ⟨r109, Q_109, h5, hf⟩ := ob2_some hf
        refine k_callV (X := (wK cy c b K_100 Q_100).take 5) (Y := (wK cy c b K_100 Q_100).drop 10) (w2 := (wK cy c b K_100 Q_109)) C 59 (c_X8_takesSign Z.2.1 D cy b Q_100 93 r109 Q_109 h5) rfl qX5_46 mvX8_takesSign 0 8 Q_c0 rfl rfl rfl rfl rfl (Nat.le_of_ble_eq_true rfl) ⟨by omega, by omega, Nat.le_refl 0, Nat.le_refl 0⟩ ?_
        refine k_if_ne C 60 rfl 123 (by decide) (fun hc => ?_) (fun hc => ?_)
        · replace hf := if_f hf hc
          exact k_vret (wf := (fun u => (wK cy c b u.1 u.2))) hR 65 rfl hf
        · replace hf := if_t hf hc
          refine k_aload_0 C 61 rfl 0 rfl ?_
          refine kg5_6 C 62 rfl qX5_24 0 K_c0 K_f0_6 ?_
          refine k_iconst C 63 rfl ci_0 ?_
          obtain ⟨Q_120, h5, hf⟩ := ob1_some hf
          refine k_callV (X := (wK cy c b K_100 Q_109).take 5) (Y := (wK cy c b K_100 Q_109).drop 10) (w2 := (wK cy c b K_100 Q_120)) C 64 (c_X8_blame Z.2.1 D cy b Q_109 0 Q_120 h5) rfl qX5_54 mvX8_blame 0 8 Q_c0 rfl rfl rfl rfl rfl (Nat.le_of_ble_eq_true rfl) ⟨by omega, by omega, Nat.le_refl 0, Nat.le_refl 0⟩ ?_
          exact k_vret (wf := (fun u => (wK cy c b u.1 u.2))) hR 65 rfl hf
      · replace hf := if_f hf hc
        refine k_aload_0 C 42 rfl 0 rfl ?_
        refine k_iload_1 C 43 rfl 1 rfl ?_
        refine k_iconst C 44 rfl ci_1 ?_
        refine k_iadd C 45 rfl ?_
        obtain ⟨K_86, Q_86, h5, hf⟩ := ob2_some hf
        refine k_callW C 46 (hrf K Q_75 (p1 + 1) K_86 Q_86 h5) rfl qX5_74 mvX5_readFact 0 5 K_c0 rfl rfl rfl (Nat.le_of_ble_eq_true rfl) ⟨by omega, by omega, Nat.le_refl 0, Nat.le_refl 0⟩ ?_
        refine k_aload_0 C 47 rfl 0 rfl ?_
        refine k_ldc C 48 rfl qX5_89 ?_
        obtain ⟨K_92, h5, hf⟩ := ob1_some hf
        refine k_callV (X := (wK cy c b K_86 Q_86).take 0) (Y := (wK cy c b K_86 Q_86).drop 5) (w2 := (wK cy c b K_92 Q_86)) C 49 (c_X5_emit Z.2.1 D cy c b K_86 100016 K_92 h5) rfl qX5_78 mvX5_emit 0 5 K1_c0 rfl rfl rfl rfl rfl (Nat.le_of_ble_eq_true rfl) ⟨by omega, by omega, Nat.le_refl 0, Nat.le_refl 0⟩ ?_
        exact k_vret (wf := (fun u => (wK cy c b u.1 u.2))) hR 50 rfl hf
    · replace hf := if_f hf hc
      refine k_aload_0 C 32 rfl 0 rfl ?_
      refine kg5_6 C 33 rfl qX5_24 0 K_c0 K_f0_6 ?_
      refine k_iconst C 34 rfl ci_2 ?_
      obtain ⟨Q_67, h5, hf⟩ := ob1_some hf
      refine k_callV (X := (wK cy c b K Q).take 5) (Y := (wK cy c b K Q).drop 10) (w2 := (wK cy c b K Q_67)) C 35 (c_X8_blame Z.2.1 D cy b Q 2 Q_67 h5) rfl qX5_54 mvX8_blame 0 8 Q_c0 rfl rfl rfl rfl rfl (Nat.le_of_ble_eq_true rfl) ⟨by omega, by omega, Nat.le_refl 0, Nat.le_refl 0⟩ ?_
      exact k_vret (wf := (fun u => (wK cy c b u.1 u.2))) hR 36 rfl hf
  have hb17 : ∀ (s0 : Int32) (K : Sg) (Q : Sg), f_X5_readFact_vopen_b17 rf rt p1 s0 K Q = some (K1, Q1) → Wk Z D 4 0 0 (wK cy c b K Q) 17 [(0, .ref (c 0)), (1, .int p1)] [.int s0] := by
    intro s0 K Q hf
    unfold f_X5_readFact_vopen_b17 at hf
    refine k_istore_2 C 8 rfl (by decide) rfl ?_
    refine k_sub (lv2 := [(0, .ref (c 0)), (1, .int p1), (2, .int s0)]) [1, 2, 0] rfl ?_
    refine k_iload_2 C 9 rfl 2 rfl ?_
    refine k_if_ne C 10 rfl 56 (by decide) (fun hc => ?_) (fun hc => ?_)
    · replace hf := if_f hf hc
      exact k_sub [0, 1, 2] rfl (hb56 s0 K Q hf)
    · replace hf := if_t hf hc
      refine k_aload_0 C 11 rfl 0 rfl ?_
      refine kg5_6 C 12 rfl qX5_24 0 K_c0 K_f0_6 ?_
      obtain ⟨r26, h5, hf⟩ := ob1_some hf
      refine k_callV (X := (wK cy c b K Q).take 5) (Y := (wK cy c b K Q).drop 10) (w2 := (wK cy c b K Q)) C 13 (c_X8_signHere Z.2.1 D cy b Q r26 h5) rfl qX5_82 mvX8_signHere 0 8 Q_c0 rfl rfl rfl rfl rfl (Nat.le_of_ble_eq_true rfl) ⟨by omega, by omega, Nat.le_refl 0, Nat.le_refl 0⟩ ?_
      refine k_bipush C 14 rfl cb_91 ?_
      refine k_icmp_eq C 15 rfl 56 (by decide) (fun hc => ?_) (fun hc => ?_)
      · replace hf := if_t hf hc
        exact k_sub [0, 1, 2] rfl (hb56 s0 K Q hf)
      · replace hf := if_f hf hc
        refine k_aload_0 C 16 rfl 0 rfl ?_
        obtain ⟨K_35, Q_35, h5, hf⟩ := ob2_some hf
        refine k_callW C 17 (c_X5_readSum Z.2.1 D cy c b K Q K_35 Q_35 h5) rfl qX5_68 mvX5_readSum 0 5 K_c0 rfl rfl rfl (Nat.le_of_ble_eq_true rfl) ⟨by omega, by omega, Nat.le_refl 0, Nat.le_refl 0⟩ ?_
        refine k_aload_0 C 18 rfl 0 rfl ?_
        obtain ⟨r39, K_39, Q_39, h5, hf⟩ := ob3_some hf
        refine k_callW C 19 (c_X5_takeComparison Z.2.1 D cy c b K_35 Q_35 r39 K_39 Q_39 h5) rfl qX5_85 mvX5_takeComparison 0 5 K_c0 rfl rfl rfl (Nat.le_of_ble_eq_true rfl) ⟨by omega, by omega, Nat.le_refl 0, Nat.le_refl 0⟩ ?_
        refine k_istore_3 C 20 rfl (by decide) rfl ?_
        refine k_sub (lv2 := [(0, .ref (c 0)), (1, .int p1), (2, .int s0), (3, .int r39)]) [1, 2, 3, 0] rfl ?_
        refine k_aload_0 C 21 rfl 0 rfl ?_
        obtain ⟨K_44, Q_44, h5, hf⟩ := ob2_some hf
        refine k_callW C 22 (c_X5_readSum Z.2.1 D cy c b K_39 Q_39 K_44 Q_44 h5) rfl qX5_68 mvX5_readSum 0 5 K_c0 rfl rfl rfl (Nat.le_of_ble_eq_true rfl) ⟨by omega, by omega, Nat.le_refl 0, Nat.le_refl 0⟩ ?_
        refine k_aload_0 C 23 rfl 0 rfl ?_
        refine k_ldc C 24 rfl qX5_88 ?_
        refine k_iload_3 C 25 rfl 3 rfl ?_
        refine k_iadd C 26 rfl ?_
        obtain ⟨K_52, h5, hf⟩ := ob1_some hf
        refine k_callV (X := (wK cy c b K_44 Q_44).take 0) (Y := (wK cy c b K_44 Q_44).drop 5) (w2 := (wK cy c b K_52 Q_44)) C 27 (c_X5_emit Z.2.1 D cy c b K_44 (100000 + r39) K_52 h5) rfl qX5_78 mvX5_emit 0 5 K1_c0 rfl rfl rfl rfl rfl (Nat.le_of_ble_eq_true rfl) ⟨by omega, by omega, Nat.le_refl 0, Nat.le_refl 0⟩ ?_
        exact k_vret (wf := (fun u => (wK cy c b u.1 u.2))) hR 28 rfl hf
  refine k_aload_0 C 0 rfl 0 rfl ?_
  refine kg5_6 C 1 rfl qX5_24 0 K_c0 K_f0_6 ?_
  obtain ⟨r4, h5, hf⟩ := ob1_some hf
  refine k_callV (X := (wK cy c b K Q).take 5) (Y := (wK cy c b K Q).drop 10) (w2 := (wK cy c b K Q)) C 2 (c_X8_wordHere Z.2.1 D cy b Q r4 h5) rfl qX5_61 mvX8_wordHere 0 8 Q_c0 rfl rfl rfl rfl rfl (Nat.le_of_ble_eq_true rfl) ⟨by omega, by omega, Nat.le_refl 0, Nat.le_refl 0⟩ ?_
  refine k_bipush C 3 rfl cb_16 ?_
  refine k_icmp_ne C 4 rfl 16 (by decide) (fun hc => ?_) (fun hc => ?_)
  · replace hf := if_f hf hc
    refine k_iconst C 7 rfl ci_0 ?_
    exact k_sub [0, 1] rfl (hb17 0 K Q hf)
  · replace hf := if_t hf hc
    refine k_iconst C 5 rfl ci_1 ?_
    refine k_goto C 6 rfl 17 (by decide) ?_
    exact k_sub [0, 1] rfl (hb17 1 K Q hf)
theorem c_rFact (l : Launch) (D : va_G) (cy : Nat → ClassId) (c b : Nat → Nat) : ∀ (n : Nat) (K Q : Sg) (p1 : Int32) (K1 Q1 : Sg), rFact n K Q p1 = some (K1, Q1) → Ct l D cy yX5_readFact cX5_readFact 4 none (2 * n + 3) (60 * n + 67) 0 0 [.ref (c 0), .int p1] (wK cy c b K Q) none (wK cy c b K1 Q1) := by
  intro n
  induction n with
  | zero => intro K Q p1 K1 Q1 h; cases h
  | succ n ih =>
    intro K Q p1 K1 Q1 h
    have h2 := c_X5_readFact_vopen l D cy c b n (rFact n) (f_X5_readTest_vopen (rFact n)) ih (fun K Q p K1 Q1 hh => c_X5_readTest_vopen l D cy c b n (rFact n) ih K Q p K1 Q1 hh) K Q p1 K1 Q1 h
    have e1 : 2 * (n + 1) + 3 = 2 * n + 5 := by omega
    have e2 : 60 * (n + 1) + 67 = 60 * n + 127 := by omega
    rw [e1, e2]
    exact h2
theorem c_X5_readTest (l : Launch) (D : va_G) (cy : Nat → ClassId) (c b : Nat → Nat) (K Q : Sg) (p1 : Int32) (K1 Q1 : Sg) (hf : f_X5_readTest K Q p1 = some (K1, Q1)) : Ct l D cy yX5_readTest cX5_readTest 5 none 28 817 0 0 [.ref (c 0), .int p1] (wK cy c b K Q) none (wK cy c b K1 Q1) :=
  c_X5_readTest_vopen l D cy c b 12 (rFact 12) (c_rFact l D cy c b 12) K Q p1 K1 Q1 hf
set_option maxHeartbeats 1000000 in
set_option maxRecDepth 20000 in
theorem c_X5_readClause (l : Launch) (D : va_G) (cy : Nat → ClassId) (c : Nat → Nat) (b : Nat → Nat) (K : Sg) (Q : Sg) (K1 : Sg) (Q1 : Sg) (hf : f_X5_readClause K Q = some (K1, Q1)) : Ct l D cy yX5_readClause cX5_readClause 2 none 29 841 0 0 [.ref (c 0)] (wK cy c b K Q) none (wK cy c b K1 Q1) := by
  refine Ct_v tX5_readClause hX5_readClause (by decide) (Nat.le_of_ble_eq_true rfl) ?_
  intro Z hZ C hR
  subst hZ
  replace C : Cx Z D cy RX5 tX5_readClause 2 29 841 0 0 := C
  show Wk Z D 2 0 0 (wK cy c b K Q) 0 [(0, .ref (c 0))] []
  unfold f_X5_readClause at hf
  have hb111 : ∀ (K : Sg) (Q : Sg), f_X5_readClause_b111 K Q = some (K1, Q1) → Wk Z D 2 0 0 (wK cy c b K Q) 111 [(0, .ref (c 0))] [] := by
    intro K Q hf
    unfold f_X5_readClause_b111 at hf
    refine k_aload_0 C 56 rfl 0 rfl ?_
    refine kg5_4 C 57 rfl qX5_21 0 K_c0 K_f0_4 ?_
    refine k_aload_0 C 58 rfl 0 rfl ?_
    refine kg5_5 C 59 rfl qX5_32 0 K_c0 K_f0_5 ?_
    refine k_aload_0 C 60 rfl 0 rfl ?_
    refine kg5_1 C 61 rfl qX5_28 0 K_c0 K_f0_1 ?_
    obtain ⟨i123, hi, hin, hf⟩ := ixd_some hf
    obtain ⟨K_123, hM, hf⟩ := bnd_some hf
    refine k_iast (w2 := (wK cy c b K_123 Q)) C 62 rfl 4 K_c4 hin hi (K_s4.trans (congrArg (fun z => (wK cy c b z Q)) hM)) ?_
    refine k_aload_0 C 63 rfl 0 rfl ?_
    refine k_dup C 64 rfl rfl ?_
    refine kg5_5 C 65 rfl qX5_32 0 K_c0 K_f0_5 ?_
    refine k_iconst C 66 rfl ci_1 ?_
    refine k_iadd C 67 rfl ?_
    obtain ⟨K_131, hM, hf⟩ := bnd_some hf
    refine kp5_5 (w2 := (wK cy c b K_131 Q)) C 68 rfl qX5_32 0 K_c0 (v := ((K_123.1 5) + 1)) K_n0 (K_p0_5.trans (congrArg (fun z => (wK cy c b z Q)) hM)) ?_
    exact k_vret (wf := (fun u => (wK cy c b u.1 u.2))) hR 69 rfl hf
  have hb74 : ∀ (K : Sg) (Q : Sg), f_X5_readClause_b74 K Q = some (K1, Q1) → Wk Z D 2 0 0 (wK cy c b K Q) 74 [(0, .ref (c 0))] [] := by
    intro K Q hf
    unfold f_X5_readClause_b74 at hf
    refine k_aload_0 C 38 rfl 0 rfl ?_
    refine kg5_3 C 39 rfl qX5_18 0 K_c0 K_f0_3 ?_
    refine k_aload_0 C 40 rfl 0 rfl ?_
    refine kg5_5 C 41 rfl qX5_32 0 K_c0 K_f0_5 ?_
    refine k_aload_0 C 42 rfl 0 rfl ?_
    refine kg5_1 C 43 rfl qX5_28 0 K_c0 K_f0_1 ?_
    obtain ⟨i86, hi, hin, hf⟩ := ixd_some hf
    obtain ⟨K_86, hM, hf⟩ := bnd_some hf
    refine k_iast (w2 := (wK cy c b K_86 Q)) C 44 rfl 3 K_c3 hin hi (K_s3.trans (congrArg (fun z => (wK cy c b z Q)) hM)) ?_
    refine k_aload_0 C 45 rfl 0 rfl ?_
    refine kg5_6 C 46 rfl qX5_24 0 K_c0 K_f0_6 ?_
    obtain ⟨r91, h5, hf⟩ := ob1_some hf
    refine k_callV (X := (wK cy c b K_86 Q).take 5) (Y := (wK cy c b K_86 Q).drop 10) (w2 := (wK cy c b K_86 Q)) C 47 (c_X8_wordHere Z.2.1 D cy b Q r91 h5) rfl qX5_61 mvX8_wordHere 0 8 Q_c0 rfl rfl rfl rfl rfl (Nat.le_of_ble_eq_true rfl) ⟨Nat.le_of_ble_eq_true rfl, Nat.le_of_ble_eq_true rfl, Nat.le_refl 0, Nat.le_refl 0⟩ ?_
    refine k_bipush C 48 rfl cb_13 ?_
    refine k_icmp_ne C 49 rfl 111 (by decide) (fun hc => ?_) (fun hc => ?_)
    · replace hf := if_f hf hc
      exact k_sub [0] rfl (hb111 K_86 Q hf)
    · replace hf := if_t hf hc
      refine k_aload_0 C 50 rfl 0 rfl ?_
      refine kg5_6 C 51 rfl qX5_24 0 K_c0 K_f0_6 ?_
      obtain ⟨Q_103, h5, hf⟩ := ob1_some hf
      refine k_callV (X := (wK cy c b K_86 Q).take 5) (Y := (wK cy c b K_86 Q).drop 10) (w2 := (wK cy c b K_86 Q_103)) C 52 (c_X8_step Z.2.1 D cy b Q Q_103 h5) rfl qX5_65 mvX8_step 0 8 Q_c0 rfl rfl rfl rfl rfl (Nat.le_of_ble_eq_true rfl) ⟨Nat.le_of_ble_eq_true rfl, Nat.le_of_ble_eq_true rfl, Nat.le_refl 0, Nat.le_refl 0⟩ ?_
      refine k_aload_0 C 53 rfl 0 rfl ?_
      refine k_iconst C 54 rfl ci_0 ?_
      obtain ⟨K_108, Q_108, h5, hf⟩ := ob2_some hf
      refine k_callW C 55 (c_X5_readTest Z.2.1 D cy c b K_86 Q_103 0 K_108 Q_108 h5) rfl qX5_71 mvX5_readTest 0 5 K_c0 rfl rfl rfl (Nat.le_of_ble_eq_true rfl) ⟨Nat.le_of_ble_eq_true rfl, Nat.le_of_ble_eq_true rfl, Nat.le_refl 0, Nat.le_refl 0⟩ ?_
      exact k_sub [0] rfl (hb111 K_108 Q_108 hf)
  have hb20 : ∀ (K : Sg) (Q : Sg), f_X5_readClause_b20 K Q = some (K1, Q1) → Wk Z D 2 0 0 (wK cy c b K Q) 20 [(0, .ref (c 0))] [] := by
    intro K Q hf
    unfold f_X5_readClause_b20 at hf
    refine k_aload_0 C 10 rfl 0 rfl ?_
    refine kg5_6 C 11 rfl qX5_24 0 K_c0 K_f0_6 ?_
    refine k_iconst C 12 rfl ci_0 ?_
    obtain ⟨Q_25, h5, hf⟩ := ob1_some hf
    refine k_callV (X := (wK cy c b K Q).take 5) (Y := (wK cy c b K Q).drop 10) (w2 := (wK cy c b K Q_25)) C 13 (c_X8_blame Z.2.1 D cy b Q 0 Q_25 h5) rfl qX5_54 mvX8_blame 0 8 Q_c0 rfl rfl rfl rfl rfl (Nat.le_of_ble_eq_true rfl) ⟨Nat.le_of_ble_eq_true rfl, Nat.le_of_ble_eq_true rfl, Nat.le_refl 0, Nat.le_refl 0⟩ ?_
    exact k_vret (wf := (fun u => (wK cy c b u.1 u.2))) hR 14 rfl hf
  refine k_aload_0 C 0 rfl 0 rfl ?_
  refine kg5_6 C 1 rfl qX5_24 0 K_c0 K_f0_6 ?_
  obtain ⟨r4, h5, hf⟩ := ob1_some hf
  refine k_callV (X := (wK cy c b K Q).take 5) (Y := (wK cy c b K Q).drop 10) (w2 := (wK cy c b K Q)) C 2 (c_X8_wordHere Z.2.1 D cy b Q r4 h5) rfl qX5_61 mvX8_wordHere 0 8 Q_c0 rfl rfl rfl rfl rfl (Nat.le_of_ble_eq_true rfl) ⟨Nat.le_of_ble_eq_true rfl, Nat.le_of_ble_eq_true rfl, Nat.le_refl 0, Nat.le_refl 0⟩ ?_
  refine k_istore_1 C 3 rfl (by decide) rfl ?_
  refine k_sub (lv2 := [(0, .ref (c 0)), (1, .int r4)]) [1, 0] rfl ?_
  refine k_iload_1 C 4 rfl 1 rfl ?_
  refine k_bipush C 5 rfl cb_10 ?_
  refine k_icmp_lt C 6 rfl 20 (by decide) (fun hc => ?_) (fun hc => ?_)
  · replace hf := if_t hf hc
    exact k_sub [0] rfl (hb20 K Q hf)
  · replace hf := if_f hf hc
    refine k_iload_1 C 7 rfl 1 rfl ?_
    refine k_bipush C 8 rfl cb_12 ?_
    refine k_icmp_le C 9 rfl 29 (by decide) (fun hc => ?_) (fun hc => ?_)
    · replace hf := if_t hf hc
      refine k_aload_0 C 15 rfl 0 rfl ?_
      refine kg5_5 C 16 rfl qX5_32 0 K_c0 K_f0_5 ?_
      refine k_bipush C 17 rfl cb_12 ?_
      refine k_icmp_lt C 18 rfl 47 (by decide) (fun hc => ?_) (fun hc => ?_)
      · replace hf := if_t hf hc
        refine k_aload_0 C 24 rfl 0 rfl ?_
        refine kg5_6 C 25 rfl qX5_24 0 K_c0 K_f0_6 ?_
        obtain ⟨Q_51, h5, hf⟩ := ob1_some hf
        refine k_callV (X := (wK cy c b K Q).take 5) (Y := (wK cy c b K Q).drop 10) (w2 := (wK cy c b K Q_51)) C 26 (c_X8_step Z.2.1 D cy b Q Q_51 h5) rfl qX5_65 mvX8_step 0 8 Q_c0 rfl rfl rfl rfl rfl (Nat.le_of_ble_eq_true rfl) ⟨Nat.le_of_ble_eq_true rfl, Nat.le_of_ble_eq_true rfl, Nat.le_refl 0, Nat.le_refl 0⟩ ?_
        refine k_aload_0 C 27 rfl 0 rfl ?_
        refine kg5_2 C 28 rfl qX5_15 0 K_c0 K_f0_2 ?_
        refine k_aload_0 C 29 rfl 0 rfl ?_
        refine kg5_5 C 30 rfl qX5_32 0 K_c0 K_f0_5 ?_
        refine k_iload_1 C 31 rfl 1 rfl ?_
        obtain ⟨i63, hi, hin, hf⟩ := ixd_some hf
        obtain ⟨K_63, hM, hf⟩ := bnd_some hf
        refine k_iast (w2 := (wK cy c b K_63 Q_51)) C 32 rfl 2 K_c2 hin hi (K_s2.trans (congrArg (fun z => (wK cy c b z Q_51)) hM)) ?_
        refine k_iload_1 C 33 rfl 1 rfl ?_
        refine k_bipush C 34 rfl cb_12 ?_
        refine k_icmp_eq C 35 rfl 74 (by decide) (fun hc => ?_) (fun hc => ?_)
        · replace hf := if_t hf hc
          exact k_sub [0] rfl (hb74 K_63 Q_51 hf)
        · replace hf := if_f hf hc
          refine k_aload_0 C 36 rfl 0 rfl ?_
          obtain ⟨K_71, Q_71, h5, hf⟩ := ob2_some hf
          refine k_callW C 37 (c_X5_readSum Z.2.1 D cy c b K_63 Q_51 K_71 Q_71 h5) rfl qX5_68 mvX5_readSum 0 5 K_c0 rfl rfl rfl (Nat.le_of_ble_eq_true rfl) ⟨Nat.le_of_ble_eq_true rfl, Nat.le_of_ble_eq_true rfl, Nat.le_refl 0, Nat.le_refl 0⟩ ?_
          exact k_sub [0] rfl (hb74 K_71 Q_71 hf)
      · replace hf := if_f hf hc
        refine k_aload_0 C 19 rfl 0 rfl ?_
        refine kg5_6 C 20 rfl qX5_24 0 K_c0 K_f0_6 ?_
        refine k_iconst C 21 rfl ci_4 ?_
        obtain ⟨Q_43, h5, hf⟩ := ob1_some hf
        refine k_callV (X := (wK cy c b K Q).take 5) (Y := (wK cy c b K Q).drop 10) (w2 := (wK cy c b K Q_43)) C 22 (c_X8_blame Z.2.1 D cy b Q 4 Q_43 h5) rfl qX5_54 mvX8_blame 0 8 Q_c0 rfl rfl rfl rfl rfl (Nat.le_of_ble_eq_true rfl) ⟨Nat.le_of_ble_eq_true rfl, Nat.le_of_ble_eq_true rfl, Nat.le_refl 0, Nat.le_refl 0⟩ ?_
        exact k_vret (wf := (fun u => (wK cy c b u.1 u.2))) hR 23 rfl hf
    · replace hf := if_f hf hc
      exact k_sub [0] rfl (hb20 K Q hf)
set_option maxHeartbeats 1000000 in
set_option maxRecDepth 20000 in
theorem c_X5_read (l : Launch) (D : va_G) (cy : Nat → ClassId) (c : Nat → Nat) (b : Nat → Nat) (K : Sg) (Q : Sg) (r : Bool) (K1 : Sg) (Q1 : Sg) (hf : f_X5_read K Q = some (r, K1, Q1)) : Ct l D cy yX5_read cX5_read 2 (some .boolean) 30 862 0 0 [.ref (c 0)] (wK cy c b K Q) (some (.int (bI r))) (wK cy c b K1 Q1) := by
  refine Ct_z tX5_read hX5_read (by decide) (Nat.le_of_ble_eq_true rfl) ?_
  intro Z hZ C hR
  subst hZ
  replace C : Cx Z D cy RX5 tX5_read 2 30 862 0 0 := C
  show Wk Z D 2 0 0 (wK cy c b K Q) 0 [(0, .ref (c 0))] []
  unfold f_X5_read at hf
  have hb74 : ∀ (K : Sg) (Q : Sg), f_X5_read_b74 K Q = some (r, K1, Q1) → Wk Z D 2 0 0 (wK cy c b K Q) 74 [(0, .ref (c 0))] [] := by
    intro K Q hf
    unfold f_X5_read_b74 at hf
    refine k_aload_0 C 36 rfl 0 rfl ?_
    refine kg5_6 C 37 rfl qX5_24 0 K_c0 K_f0_6 ?_
    refine kg8_2 C 38 rfl qX5_58 5 K_c5 K_f5_2 ?_
    refine k_if_ne C 39 rfl 88 (by decide) (fun hc => ?_) (fun hc => ?_)
    · replace hf := if_f hf hc
      refine k_iconst C 42 rfl ci_0 ?_
      exact k_zret (wf := (fun u => (wK cy c b u.1 u.2))) hR 43 rfl hf
    · replace hf := if_t hf hc
      refine k_iconst C 40 rfl ci_1 ?_
      refine k_goto C 41 rfl 89 (by decide) ?_
      exact k_zret (wf := (fun u => (wK cy c b u.1 u.2))) hR 43 rfl hf
  have hb56 : ∀ (K : Sg) (Q : Sg), f_X5_read_b56 K Q = some (r, K1, Q1) → Wk Z D 2 0 0 (wK cy c b K Q) 56 [(0, .ref (c 0))] [] := by
    intro K Q hf
    unfold f_X5_read_b56 at hf
    refine k_aload_0 C 28 rfl 0 rfl ?_
    refine kg5_6 C 29 rfl qX5_24 0 K_c0 K_f0_6 ?_
    obtain ⟨r60, h5, hf⟩ := ob1_some hf
    refine k_callV (X := (wK cy c b K Q).take 5) (Y := (wK cy c b K Q).drop 10) (w2 := (wK cy c b K Q)) C 30 (c_X8_isAtEnd Z.2.1 D cy b Q r60 h5) rfl qX5_50 mvX8_isAtEnd 0 8 Q_c0 rfl rfl rfl rfl rfl (Nat.le_of_ble_eq_true rfl) ⟨Nat.le_of_ble_eq_true rfl, Nat.le_of_ble_eq_true rfl, Nat.le_refl 0, Nat.le_refl 0⟩ ?_
    refine k_if_ne C 31 rfl 74 (by decide) (fun hc => ?_) (fun hc => ?_)
    · replace hf := if_f hf hc
      exact k_sub [0] rfl (hb74 K Q hf)
    · replace hf := if_t hf hc
      refine k_aload_0 C 32 rfl 0 rfl ?_
      refine kg5_6 C 33 rfl qX5_24 0 K_c0 K_f0_6 ?_
      refine k_iconst C 34 rfl ci_0 ?_
      obtain ⟨Q_71, h5, hf⟩ := ob1_some hf
      refine k_callV (X := (wK cy c b K Q).take 5) (Y := (wK cy c b K Q).drop 10) (w2 := (wK cy c b K Q_71)) C 35 (c_X8_blame Z.2.1 D cy b Q 0 Q_71 h5) rfl qX5_54 mvX8_blame 0 8 Q_c0 rfl rfl rfl rfl rfl (Nat.le_of_ble_eq_true rfl) ⟨Nat.le_of_ble_eq_true rfl, Nat.le_of_ble_eq_true rfl, Nat.le_refl 0, Nat.le_refl 0⟩ ?_
      exact k_sub [0] rfl (hb74 K Q_71 hf)
  have hq28 : ∀ (k28 : Int32 → Sg → Sg → Option (Bool × Sg × Sg)), (∀ (x1 : Int32) (K : Sg) (Q : Sg), k28 x1 K Q = some (r, K1, Q1) → Wk Z D 2 0 0 (wK cy c b K Q) 28 [(0, .ref (c 0)), (1, .int x1)] []) → ∀ (x1 : Int32) (K : Sg) (Q : Sg), f_X5_read_b28 k28 x1 K Q = some (r, K1, Q1) → Wk Z D 2 0 0 (wK cy c b K Q) 28 [(0, .ref (c 0)), (1, .int x1)] [] := by
    intro k28 hk28 x1 K Q hf
    unfold f_X5_read_b28 at hf
    refine k_iload_1 C 16 rfl 1 rfl ?_
    refine k_bipush C 17 rfl cb_12 ?_
    refine k_icmp_gt C 18 rfl 56 (by decide) (fun hc => ?_) (fun hc => ?_)
    · replace hf := if_t hf hc
      exact k_sub [0] rfl (hb56 K Q hf)
    · replace hf := if_f hf hc
      refine k_aload_0 C 19 rfl 0 rfl ?_
      refine kg5_6 C 20 rfl qX5_24 0 K_c0 K_f0_6 ?_
      refine k_bipush C 21 rfl cb_59 ?_
      obtain ⟨r40, Q_40, h5, hf⟩ := ob2_some hf
      refine k_callV (X := (wK cy c b K Q).take 5) (Y := (wK cy c b K Q).drop 10) (w2 := (wK cy c b K Q_40)) C 22 (c_X8_takesSign Z.2.1 D cy b Q 59 r40 Q_40 h5) rfl qX5_46 mvX8_takesSign 0 8 Q_c0 rfl rfl rfl rfl rfl (Nat.le_of_ble_eq_true rfl) ⟨Nat.le_of_ble_eq_true rfl, Nat.le_of_ble_eq_true rfl, Nat.le_refl 0, Nat.le_refl 0⟩ ?_
      refine k_if_eq C 23 rfl 56 (by decide) (fun hc => ?_) (fun hc => ?_)
      · replace hf := if_t hf hc
        exact k_sub [0] rfl (hb56 K Q_40 hf)
      · replace hf := if_f hf hc
        refine k_aload_0 C 24 rfl 0 rfl ?_
        obtain ⟨K_47, Q_47, h5, hf⟩ := ob2_some hf
        refine k_callW C 25 (c_X5_readClause Z.2.1 D cy c b K Q_40 K_47 Q_47 h5) rfl qX5_43 mvX5_readClause 0 5 K_c0 rfl rfl rfl (Nat.le_of_ble_eq_true rfl) ⟨Nat.le_of_ble_eq_true rfl, Nat.le_of_ble_eq_true rfl, Nat.le_refl 0, Nat.le_refl 0⟩ ?_
        obtain ⟨x1_50, hx, hf⟩ := bnd_some hf
        refine k_iinc C 26 rfl 1 rfl ((cn_1 _).trans hx) (by decide) rfl ?_
        refine k_sub (lv2 := [(0, .ref (c 0)), (1, .int x1_50)]) [1, 0] rfl ?_
        refine k_goto C 27 rfl 28 (by decide) ?_
        exact k_sub [0, 1] rfl (hk28 x1_50 K_47 Q_47 hf)
  have hb28 := flW3 hq28
  refine k_aload_0 C 0 rfl 0 rfl ?_
  refine k_iconst C 1 rfl ci_0 ?_
  obtain ⟨K_2, hM, hf⟩ := bnd_some hf
  refine kp5_1 (w2 := (wK cy c b K_2 Q)) C 2 rfl qX5_28 0 K_c0 (v := 0) K_n0 (K_p0_1.trans (congrArg (fun z => (wK cy c b z Q)) hM)) ?_
  refine k_aload_0 C 3 rfl 0 rfl ?_
  refine k_iconst C 4 rfl ci_0 ?_
  obtain ⟨K_7, hM, hf⟩ := bnd_some hf
  refine kp5_5 (w2 := (wK cy c b K_7 Q)) C 5 rfl qX5_32 0 K_c0 (v := 0) K_n0 (K_p0_5.trans (congrArg (fun z => (wK cy c b z Q)) hM)) ?_
  refine k_aload_0 C 6 rfl 0 rfl ?_
  refine k_iconst C 7 rfl ci_0 ?_
  obtain ⟨K_12, hM, hf⟩ := bnd_some hf
  refine kp5_7 (w2 := (wK cy c b K_12 Q)) C 8 rfl qX5_35 0 K_c0 (v := 0) K_n0 (K_p0_7.trans (congrArg (fun z => (wK cy c b z Q)) hM)) ?_
  refine k_aload_0 C 9 rfl 0 rfl ?_
  refine kg5_6 C 10 rfl qX5_24 0 K_c0 K_f0_6 ?_
  obtain ⟨Q_19, h5, hf⟩ := ob1_some hf
  refine k_callV (X := (wK cy c b K_12 Q).take 5) (Y := (wK cy c b K_12 Q).drop 10) (w2 := (wK cy c b K_12 Q_19)) C 11 (c_X8_open Z.2.1 D cy b Q Q_19 h5) rfl qX5_38 mvX8_open 0 8 Q_c0 rfl rfl rfl rfl rfl (Nat.le_of_ble_eq_true rfl) ⟨Nat.le_of_ble_eq_true rfl, Nat.le_of_ble_eq_true rfl, Nat.le_refl 0, Nat.le_refl 0⟩ ?_
  refine k_aload_0 C 12 rfl 0 rfl ?_
  obtain ⟨K_23, Q_23, h5, hf⟩ := ob2_some hf
  refine k_callW C 13 (c_X5_readClause Z.2.1 D cy c b K_12 Q_19 K_23 Q_23 h5) rfl qX5_43 mvX5_readClause 0 5 K_c0 rfl rfl rfl (Nat.le_of_ble_eq_true rfl) ⟨Nat.le_of_ble_eq_true rfl, Nat.le_of_ble_eq_true rfl, Nat.le_refl 0, Nat.le_refl 0⟩ ?_
  refine k_iconst C 14 rfl ci_1 ?_
  refine k_istore_1 C 15 rfl (by decide) rfl ?_
  refine k_sub (lv2 := [(0, .ref (c 0)), (1, .int 1)]) [1, 0] rfl ?_
  exact k_sub [0, 1] rfl (hb28 FU 1 K_23 Q_23 hf)
set_option maxHeartbeats 1000000 in
set_option maxRecDepth 20000 in
theorem c_X3_push (l : Launch) (D : va_G) (cy : Nat → ClassId) (c : Nat → Nat) (a : Nat → Nat) (N : Sg) (p1 : Int64) (N1 : Sg) (hf : f_X3_push N p1 = some N1) : Ct l D cy yX3_push cX3_push 3 none 0 0 0 0 [.ref (c 0), .long p1] (wN1 cy c a N) none (wN1 cy c a N1) := by
  refine Ct_v tX3_push hX3_push (by decide) (Nat.le_of_ble_eq_true rfl) ?_
  intro Z hZ C hR
  subst hZ
  replace C : Cx Z D cy RX3 tX3_push 3 0 0 0 0 := C
  show Wk Z D 3 0 0 (wN1 cy c a N) 0 [(0, .ref (c 0)), (1, .long p1)] []
  unfold f_X3_push at hf
  refine k_aload_0 C 0 rfl 0 rfl ?_
  refine kg3_2 C 1 rfl qX3_19 0 N1_c0 N1_f0_2 ?_
  refine k_sipush C 2 rfl cs_128 ?_
  refine k_icmp_ge C 3 rfl 30 (by decide) (fun hc => ?_) (fun hc => ?_)
  · replace hf := if_t hf hc
    exact k_vret (wf := (fun u => (wN1 cy c a u))) hR 16 rfl hf
  · replace hf := if_f hf hc
    refine k_aload_0 C 4 rfl 0 rfl ?_
    refine kg3_1 C 5 rfl qX3_11 0 N1_c0 N1_f0_1 ?_
    refine k_aload_0 C 6 rfl 0 rfl ?_
    refine kg3_2 C 7 rfl qX3_19 0 N1_c0 N1_f0_2 ?_
    refine k_lload_1 C 8 rfl 1 rfl ?_
    obtain ⟨i19, hi, hin, hf⟩ := ixd_some hf
    obtain ⟨N_19, hM, hf⟩ := bnd_some hf
    refine k_last (w2 := (wN1 cy c a N_19)) C 9 rfl 1 N1_c1 hin hi (N1_s1.trans (congrArg (fun z => (wN1 cy c a z)) hM)) ?_
    refine k_aload_0 C 10 rfl 0 rfl ?_
    refine k_dup C 11 rfl rfl ?_
    refine kg3_2 C 12 rfl qX3_19 0 N1_c0 N1_f0_2 ?_
    refine k_iconst C 13 rfl ci_1 ?_
    refine k_iadd C 14 rfl ?_
    obtain ⟨N_27, hM, hf⟩ := bnd_some hf
    refine kp3_2 (w2 := (wN1 cy c a N_27)) C 15 rfl qX3_19 0 N1_c0 (v := ((N_19.1 2) + 1)) N1_n0 (N1_p0_2.trans (congrArg (fun z => (wN1 cy c a z)) hM)) ?_
    exact k_vret (wf := (fun u => (wN1 cy c a u))) hR 16 rfl hf
set_option maxHeartbeats 1000000 in
set_option maxRecDepth 20000 in
theorem c_X3_pop (l : Launch) (D : va_G) (cy : Nat → ClassId) (c : Nat → Nat) (a : Nat → Nat) (N : Sg) (r : Int64) (N1 : Sg) (hf : f_X3_pop N = some (r, N1)) : Ct l D cy yX3_pop cX3_pop 1 (some .long) 0 0 0 0 [.ref (c 0)] (wN1 cy c a N) (some (.long r)) (wN1 cy c a N1) := by
  refine Ct_l tX3_pop hX3_pop (by decide) (Nat.le_of_ble_eq_true rfl) ?_
  intro Z hZ C hR
  subst hZ
  replace C : Cx Z D cy RX3 tX3_pop 1 0 0 0 0 := C
  show Wk Z D 1 0 0 (wN1 cy c a N) 0 [(0, .ref (c 0))] []
  unfold f_X3_pop at hf
  refine k_aload_0 C 0 rfl 0 rfl ?_
  refine kg3_2 C 1 rfl qX3_19 0 N1_c0 N1_f0_2 ?_
  refine k_if_gt C 2 rfl 9 (by decide) (fun hc => ?_) (fun hc => ?_)
  · replace hf := if_t hf hc
    refine k_aload_0 C 5 rfl 0 rfl ?_
    refine k_dup C 6 rfl rfl ?_
    refine kg3_2 C 7 rfl qX3_19 0 N1_c0 N1_f0_2 ?_
    refine k_iconst C 8 rfl ci_1 ?_
    refine k_isub C 9 rfl ?_
    obtain ⟨N_16, hM, hf⟩ := bnd_some hf
    refine kp3_2 (w2 := (wN1 cy c a N_16)) C 10 rfl qX3_19 0 N1_c0 (v := ((N.1 2) - 1)) N1_n0 (N1_p0_2.trans (congrArg (fun z => (wN1 cy c a z)) hM)) ?_
    refine k_aload_0 C 11 rfl 0 rfl ?_
    refine kg3_1 C 12 rfl qX3_11 0 N1_c0 N1_f0_1 ?_
    refine k_aload_0 C 13 rfl 0 rfl ?_
    refine kg3_2 C 14 rfl qX3_19 0 N1_c0 N1_f0_2 ?_
    obtain ⟨i27, hi, hin, hf⟩ := ixd_some hf
    refine k_lald C 15 rfl 1 N1_c1 hin hi ?_
    exact k_lret (wf := (fun u => (wN1 cy c a u))) hR 16 rfl hf
  · replace hf := if_f hf hc
    refine k_lconst0 C 3 rfl ?_
    exact k_lret (wf := (fun u => (wN1 cy c a u))) hR 4 rfl hf
set_option maxHeartbeats 1000000 in
set_option maxRecDepth 20000 in
theorem c_X3_isTrue (l : Launch) (D : va_G) (cy : Nat → ClassId) (p0 : Int32) (p1 : Int64) (p3 : Int64) (r : Bool) (hf : f_X3_isTrue p0 p1 p3 = some r) : Ct l D cy yX3_isTrue cX3_isTrue 5 (some .boolean) 0 0 0 0 [.int p0, .long p1, .long p3] [] (some (.int (bI r))) [] := by
  refine Ct_z tX3_isTrue hX3_isTrue (by decide) (Nat.le_of_ble_eq_true rfl) ?_
  intro Z hZ C hR
  subst hZ
  replace C : Cx Z D cy RX3 tX3_isTrue 5 0 0 0 0 := C
  show Wk Z D 5 0 0 [] 0 [(0, .int p0), (1, .long p1), (3, .long p3)] []
  unfold f_X3_isTrue at hf
  have hb90 : f_X3_isTrue_b90 p0 p1 p3 = some r → Wk Z D 5 0 0 [] 90 [] [] := by
    intro  hf
    unfold f_X3_isTrue_b90 at hf
    refine k_iconst C 22 rfl ci_1 ?_
    refine k_goto C 23 rfl 95 (by decide) ?_
    exact k_zretP hR 25 rfl hf
  have hb76 : f_X3_isTrue_b76 p0 p1 p3 = some r → Wk Z D 5 0 0 [] 76 [] [] := by
    intro  hf
    unfold f_X3_isTrue_b76 at hf
    refine k_iconst C 12 rfl ci_0 ?_
    exact k_zretP hR 13 rfl hf
  refine k_iload_0 C 0 rfl 0 rfl ?_
  obtain ⟨sw1, hx, hf⟩ := bnd_some hf
  refine k_topi hx ?_
  clear hx
  by_cases hs14 : sw1 = 14
  · subst hs14
    replace hf := if_t hf rfl
    refine k_lookup C 1 rfl 60 (by decide) (off := 59) (by decide) (by decide) ?_
    refine k_lload_1 C 2 rfl 1 rfl ?_
    refine k_lconst0 C 3 rfl ?_
    refine k_lcmp C 4 rfl ?_
    refine k_if_eq C 5 rfl 76 (by decide) (fun hc => ?_) (fun hc => ?_)
    · replace hf := if_t hf hc
      exact k_sub [] rfl (hb76  hf)
    · replace hf := if_f hf hc
      refine k_lload_3 C 6 rfl 2 rfl ?_
      refine k_lconst0 C 7 rfl ?_
      refine k_lcmp C 8 rfl ?_
      refine k_if_eq C 9 rfl 76 (by decide) (fun hc => ?_) (fun hc => ?_)
      · replace hf := if_t hf hc
        exact k_sub [] rfl (hb76  hf)
      · replace hf := if_f hf hc
        refine k_iconst C 10 rfl ci_1 ?_
        refine k_goto C 11 rfl 77 (by decide) ?_
        exact k_zretP hR 13 rfl hf
  by_cases hs15 : sw1 = 15
  · subst hs15
    replace hf := if_f hf (by decide)
    replace hf := if_t hf rfl
    refine k_lookup C 1 rfl 78 (by decide) (off := 77) (by decide) (by decide) ?_
    refine k_lload_1 C 14 rfl 1 rfl ?_
    refine k_lconst0 C 15 rfl ?_
    refine k_lcmp C 16 rfl ?_
    refine k_if_ne C 17 rfl 90 (by decide) (fun hc => ?_) (fun hc => ?_)
    · replace hf := if_f hf hc
      exact k_sub [] rfl (hb90  hf)
    · replace hf := if_t hf hc
      refine k_lload_3 C 18 rfl 2 rfl ?_
      refine k_lconst0 C 19 rfl ?_
      refine k_lcmp C 20 rfl ?_
      refine k_if_eq C 21 rfl 94 (by decide) (fun hc => ?_) (fun hc => ?_)
      · replace hf := if_t hf hc
        refine k_iconst C 24 rfl ci_0 ?_
        exact k_zretP hR 25 rfl hf
      · replace hf := if_f hf hc
        exact k_sub [] rfl (hb90  hf)
  by_cases hs60 : sw1 = 60
  · subst hs60
    replace hf := if_f hf (by decide)
    replace hf := if_f hf (by decide)
    replace hf := if_t hf rfl
    refine k_lookup C 1 rfl 96 (by decide) (off := 95) (by decide) (by decide) ?_
    refine k_lload_1 C 26 rfl 1 rfl ?_
    refine k_lload_3 C 27 rfl 2 rfl ?_
    refine k_lcmp C 28 rfl ?_
    refine k_if_ge C 29 rfl 106 (by decide) (fun hc => ?_) (fun hc => ?_)
    · replace hf := if_t hf hc
      refine k_iconst C 32 rfl ci_0 ?_
      exact k_zretP hR 33 rfl hf
    · replace hf := if_f hf hc
      refine k_iconst C 30 rfl ci_1 ?_
      refine k_goto C 31 rfl 107 (by decide) ?_
      exact k_zretP hR 33 rfl hf
  by_cases hs61 : sw1 = 61
  · subst hs61
    replace hf := if_f hf (by decide)
    replace hf := if_f hf (by decide)
    replace hf := if_f hf (by decide)
    replace hf := if_t hf rfl
    refine k_lookup C 1 rfl 120 (by decide) (off := 119) (by decide) (by decide) ?_
    refine k_lload_1 C 42 rfl 1 rfl ?_
    refine k_lload_3 C 43 rfl 2 rfl ?_
    refine k_lcmp C 44 rfl ?_
    refine k_if_ne C 45 rfl 130 (by decide) (fun hc => ?_) (fun hc => ?_)
    · replace hf := if_f hf hc
      refine k_iconst C 48 rfl ci_0 ?_
      exact k_zretP hR 49 rfl hf
    · replace hf := if_t hf hc
      refine k_iconst C 46 rfl ci_1 ?_
      refine k_goto C 47 rfl 131 (by decide) ?_
      exact k_zretP hR 49 rfl hf
  by_cases hs316 : sw1 = 316
  · subst hs316
    replace hf := if_f hf (by decide)
    replace hf := if_f hf (by decide)
    replace hf := if_f hf (by decide)
    replace hf := if_f hf (by decide)
    replace hf := if_t hf rfl
    refine k_lookup C 1 rfl 108 (by decide) (off := 107) (by decide) (by decide) ?_
    refine k_lload_1 C 34 rfl 1 rfl ?_
    refine k_lload_3 C 35 rfl 2 rfl ?_
    refine k_lcmp C 36 rfl ?_
    refine k_if_gt C 37 rfl 118 (by decide) (fun hc => ?_) (fun hc => ?_)
    · replace hf := if_t hf hc
      refine k_iconst C 40 rfl ci_0 ?_
      exact k_zretP hR 41 rfl hf
    · replace hf := if_f hf hc
      refine k_iconst C 38 rfl ci_1 ?_
      refine k_goto C 39 rfl 119 (by decide) ?_
      exact k_zretP hR 41 rfl hf
  by_cases hs318 : sw1 = 318
  · subst hs318
    replace hf := if_f hf (by decide)
    replace hf := if_f hf (by decide)
    replace hf := if_f hf (by decide)
    replace hf := if_f hf (by decide)
    replace hf := if_f hf (by decide)
    replace hf := if_t hf rfl
    refine k_lookup C 1 rfl 132 (by decide) (off := 131) (by decide) (by decide) ?_
    refine k_lload_1 C 50 rfl 1 rfl ?_
    refine k_lload_3 C 51 rfl 2 rfl ?_
    refine k_lcmp C 52 rfl ?_
    refine k_if_lt C 53 rfl 142 (by decide) (fun hc => ?_) (fun hc => ?_)
    · replace hf := if_t hf hc
      refine k_iconst C 56 rfl ci_0 ?_
      exact k_zretP hR 57 rfl hf
    · replace hf := if_f hf hc
      refine k_iconst C 54 rfl ci_1 ?_
      refine k_goto C 55 rfl 143 (by decide) ?_
      exact k_zretP hR 57 rfl hf
  replace hf := if_f hf hs14
  replace hf := if_f hf hs15
  replace hf := if_f hf hs60
  replace hf := if_f hf hs61
  replace hf := if_f hf hs316
  replace hf := if_f hf hs318
  refine k_lookup C 1 rfl 144 (by decide) (off := 143) (lk_out (by intro q hq; simp only [List.mem_cons, List.not_mem_nil, or_false] at hq; rcases hq with rfl | rfl | rfl | rfl | rfl | rfl <;> first | exact lk_ne hs14 | exact lk_ne hs15 | exact lk_ne hs60 | exact lk_ne hs61 | exact lk_ne hs316 | exact lk_ne hs318)) (by decide) ?_
  refine k_lload_1 C 58 rfl 1 rfl ?_
  refine k_lload_3 C 59 rfl 2 rfl ?_
  refine k_lcmp C 60 rfl ?_
  refine k_if_le C 61 rfl 154 (by decide) (fun hc => ?_) (fun hc => ?_)
  · replace hf := if_t hf hc
    refine k_iconst C 64 rfl ci_0 ?_
    exact k_zretP hR 65 rfl hf
  · replace hf := if_f hf hc
    refine k_iconst C 62 rfl ci_1 ?_
    refine k_goto C 63 rfl 155 (by decide) ?_
    exact k_zretP hR 65 rfl hf
set_option maxHeartbeats 1000000 in
set_option maxRecDepth 20000 in
theorem c_X3_combined (l : Launch) (D : va_G) (cy : Nat → ClassId) (p0 : Int32) (p1 : Int64) (p3 : Int64) (r : Int64) (hf : f_X3_combined p0 p1 p3 = some r) : Ct l D cy yX3_combined cX3_combined 5 (some .long) 1 24 0 0 [.int p0, .long p1, .long p3] [] (some (.long r)) [] := by
  refine Ct_l tX3_combined hX3_combined (by decide) (Nat.le_of_ble_eq_true rfl) ?_
  intro Z hZ C hR
  subst hZ
  replace C : Cx Z D cy RX3 tX3_combined 5 1 24 0 0 := C
  show Wk Z D 5 0 0 [] 0 [(0, .int p0), (1, .long p1), (3, .long p3)] []
  unfold f_X3_combined at hf
  refine k_iload_0 C 0 rfl 0 rfl ?_
  obtain ⟨sw1, hx, hf⟩ := bnd_some hf
  refine k_topi hx ?_
  clear hx
  by_cases hs37 : sw1 = 37
  · subst hs37
    replace hf := if_t hf rfl
    refine k_tabIn C 1 rfl 86 (by decide) (by decide) rfl (by decide) ?_
    refine k_lload_3 C 24 rfl 2 rfl ?_
    refine k_lconst0 C 25 rfl ?_
    refine k_lcmp C 26 rfl ?_
    refine k_if_ne C 27 rfl 96 (by decide) (fun hc => ?_) (fun hc => ?_)
    · replace hf := if_f hf hc
      refine k_lload_1 C 30 rfl 1 rfl ?_
      refine k_lload_3 C 31 rfl 2 rfl ?_
      obtain ⟨hn, hf⟩ := nzJ_some hf
      refine k_lrem C 32 rfl hn ?_
      exact k_lretP hR 33 rfl hf
    · replace hf := if_t hf hc
      refine k_lconst0 C 28 rfl ?_
      refine k_goto C 29 rfl 99 (by decide) ?_
      exact k_lretP hR 33 rfl hf
  by_cases hs38 : sw1 = 38
  · subst hs38
    replace hf := if_f hf (by decide)
    replace hf := if_f hf (by decide)
    replace hf := if_f hf (by decide)
    replace hf := if_f hf (by decide)
    replace hf := if_f hf (by decide)
    refine k_tabIn C 1 rfl 100 (by decide) (by decide) rfl (by decide) ?_
    refine k_iload_0 C 34 rfl 0 rfl ?_
    refine k_lload_1 C 35 rfl 1 rfl ?_
    refine k_lload_3 C 36 rfl 2 rfl ?_
    obtain ⟨r103, h5, hf⟩ := ob1_some hf
    refine k_callE C 37 (c_X3_isTrue Z.2.1 D cy p0 p1 p3 r103 h5) rfl qX3_44 msX3_isTrue rfl rfl (Nat.le_of_ble_eq_true rfl) ⟨Nat.le_of_ble_eq_true rfl, Nat.le_of_ble_eq_true rfl, Nat.le_refl 0, Nat.le_refl 0⟩ ?_
    refine k_if_eq C 38 rfl 113 (by decide) (fun hc => ?_) (fun hc => ?_)
    · replace hf := if_t hf hc
      refine k_lconst0 C 41 rfl ?_
      exact k_lretP hR 42 rfl hf
    · replace hf := if_f hf hc
      refine k_lconst1 C 39 rfl ?_
      refine k_goto C 40 rfl 114 (by decide) ?_
      exact k_lretP hR 42 rfl hf
  by_cases hs39 : sw1 = 39
  · subst hs39
    replace hf := if_f hf (by decide)
    replace hf := if_f hf (by decide)
    replace hf := if_f hf (by decide)
    replace hf := if_f hf (by decide)
    replace hf := if_f hf (by decide)
    refine k_tabIn C 1 rfl 100 (by decide) (by decide) rfl (by decide) ?_
    refine k_iload_0 C 34 rfl 0 rfl ?_
    refine k_lload_1 C 35 rfl 1 rfl ?_
    refine k_lload_3 C 36 rfl 2 rfl ?_
    obtain ⟨r103, h5, hf⟩ := ob1_some hf
    refine k_callE C 37 (c_X3_isTrue Z.2.1 D cy p0 p1 p3 r103 h5) rfl qX3_44 msX3_isTrue rfl rfl (Nat.le_of_ble_eq_true rfl) ⟨Nat.le_of_ble_eq_true rfl, Nat.le_of_ble_eq_true rfl, Nat.le_refl 0, Nat.le_refl 0⟩ ?_
    refine k_if_eq C 38 rfl 113 (by decide) (fun hc => ?_) (fun hc => ?_)
    · replace hf := if_t hf hc
      refine k_lconst0 C 41 rfl ?_
      exact k_lretP hR 42 rfl hf
    · replace hf := if_f hf hc
      refine k_lconst1 C 39 rfl ?_
      refine k_goto C 40 rfl 114 (by decide) ?_
      exact k_lretP hR 42 rfl hf
  by_cases hs40 : sw1 = 40
  · subst hs40
    replace hf := if_f hf (by decide)
    replace hf := if_f hf (by decide)
    replace hf := if_f hf (by decide)
    replace hf := if_f hf (by decide)
    replace hf := if_f hf (by decide)
    refine k_tabIn C 1 rfl 100 (by decide) (by decide) rfl (by decide) ?_
    refine k_iload_0 C 34 rfl 0 rfl ?_
    refine k_lload_1 C 35 rfl 1 rfl ?_
    refine k_lload_3 C 36 rfl 2 rfl ?_
    obtain ⟨r103, h5, hf⟩ := ob1_some hf
    refine k_callE C 37 (c_X3_isTrue Z.2.1 D cy p0 p1 p3 r103 h5) rfl qX3_44 msX3_isTrue rfl rfl (Nat.le_of_ble_eq_true rfl) ⟨Nat.le_of_ble_eq_true rfl, Nat.le_of_ble_eq_true rfl, Nat.le_refl 0, Nat.le_refl 0⟩ ?_
    refine k_if_eq C 38 rfl 113 (by decide) (fun hc => ?_) (fun hc => ?_)
    · replace hf := if_t hf hc
      refine k_lconst0 C 41 rfl ?_
      exact k_lretP hR 42 rfl hf
    · replace hf := if_f hf hc
      refine k_lconst1 C 39 rfl ?_
      refine k_goto C 40 rfl 114 (by decide) ?_
      exact k_lretP hR 42 rfl hf
  by_cases hs41 : sw1 = 41
  · subst hs41
    replace hf := if_f hf (by decide)
    replace hf := if_f hf (by decide)
    replace hf := if_f hf (by decide)
    replace hf := if_f hf (by decide)
    replace hf := if_f hf (by decide)
    refine k_tabIn C 1 rfl 100 (by decide) (by decide) rfl (by decide) ?_
    refine k_iload_0 C 34 rfl 0 rfl ?_
    refine k_lload_1 C 35 rfl 1 rfl ?_
    refine k_lload_3 C 36 rfl 2 rfl ?_
    obtain ⟨r103, h5, hf⟩ := ob1_some hf
    refine k_callE C 37 (c_X3_isTrue Z.2.1 D cy p0 p1 p3 r103 h5) rfl qX3_44 msX3_isTrue rfl rfl (Nat.le_of_ble_eq_true rfl) ⟨Nat.le_of_ble_eq_true rfl, Nat.le_of_ble_eq_true rfl, Nat.le_refl 0, Nat.le_refl 0⟩ ?_
    refine k_if_eq C 38 rfl 113 (by decide) (fun hc => ?_) (fun hc => ?_)
    · replace hf := if_t hf hc
      refine k_lconst0 C 41 rfl ?_
      exact k_lretP hR 42 rfl hf
    · replace hf := if_f hf hc
      refine k_lconst1 C 39 rfl ?_
      refine k_goto C 40 rfl 114 (by decide) ?_
      exact k_lretP hR 42 rfl hf
  by_cases hs42 : sw1 = 42
  · subst hs42
    replace hf := if_f hf (by decide)
    replace hf := if_t hf rfl
    refine k_tabIn C 1 rfl 68 (by decide) (by decide) rfl (by decide) ?_
    refine k_lload_1 C 10 rfl 1 rfl ?_
    refine k_lload_3 C 11 rfl 2 rfl ?_
    refine k_lmul C 12 rfl ?_
    exact k_lretP hR 13 rfl hf
  by_cases hs43 : sw1 = 43
  · subst hs43
    replace hf := if_f hf (by decide)
    replace hf := if_f hf (by decide)
    replace hf := if_t hf rfl
    refine k_tabIn C 1 rfl 60 (by decide) (by decide) rfl (by decide) ?_
    refine k_lload_1 C 2 rfl 1 rfl ?_
    refine k_lload_3 C 3 rfl 2 rfl ?_
    refine k_ladd C 4 rfl ?_
    exact k_lretP hR 5 rfl hf
  by_cases hs44 : sw1 = 44
  · subst hs44
    replace hf := if_f hf (by decide)
    replace hf := if_f hf (by decide)
    replace hf := if_f hf (by decide)
    replace hf := if_f hf (by decide)
    replace hf := if_f hf (by decide)
    refine k_tabIn C 1 rfl 100 (by decide) (by decide) rfl (by decide) ?_
    refine k_iload_0 C 34 rfl 0 rfl ?_
    refine k_lload_1 C 35 rfl 1 rfl ?_
    refine k_lload_3 C 36 rfl 2 rfl ?_
    obtain ⟨r103, h5, hf⟩ := ob1_some hf
    refine k_callE C 37 (c_X3_isTrue Z.2.1 D cy p0 p1 p3 r103 h5) rfl qX3_44 msX3_isTrue rfl rfl (Nat.le_of_ble_eq_true rfl) ⟨Nat.le_of_ble_eq_true rfl, Nat.le_of_ble_eq_true rfl, Nat.le_refl 0, Nat.le_refl 0⟩ ?_
    refine k_if_eq C 38 rfl 113 (by decide) (fun hc => ?_) (fun hc => ?_)
    · replace hf := if_t hf hc
      refine k_lconst0 C 41 rfl ?_
      exact k_lretP hR 42 rfl hf
    · replace hf := if_f hf hc
      refine k_lconst1 C 39 rfl ?_
      refine k_goto C 40 rfl 114 (by decide) ?_
      exact k_lretP hR 42 rfl hf
  by_cases hs45 : sw1 = 45
  · subst hs45
    replace hf := if_f hf (by decide)
    replace hf := if_f hf (by decide)
    replace hf := if_f hf (by decide)
    replace hf := if_t hf rfl
    refine k_tabIn C 1 rfl 64 (by decide) (by decide) rfl (by decide) ?_
    refine k_lload_1 C 6 rfl 1 rfl ?_
    refine k_lload_3 C 7 rfl 2 rfl ?_
    refine k_lsub C 8 rfl ?_
    exact k_lretP hR 9 rfl hf
  by_cases hs46 : sw1 = 46
  · subst hs46
    replace hf := if_f hf (by decide)
    replace hf := if_f hf (by decide)
    replace hf := if_f hf (by decide)
    replace hf := if_f hf (by decide)
    replace hf := if_f hf (by decide)
    refine k_tabIn C 1 rfl 100 (by decide) (by decide) rfl (by decide) ?_
    refine k_iload_0 C 34 rfl 0 rfl ?_
    refine k_lload_1 C 35 rfl 1 rfl ?_
    refine k_lload_3 C 36 rfl 2 rfl ?_
    obtain ⟨r103, h5, hf⟩ := ob1_some hf
    refine k_callE C 37 (c_X3_isTrue Z.2.1 D cy p0 p1 p3 r103 h5) rfl qX3_44 msX3_isTrue rfl rfl (Nat.le_of_ble_eq_true rfl) ⟨Nat.le_of_ble_eq_true rfl, Nat.le_of_ble_eq_true rfl, Nat.le_refl 0, Nat.le_refl 0⟩ ?_
    refine k_if_eq C 38 rfl 113 (by decide) (fun hc => ?_) (fun hc => ?_)
    · replace hf := if_t hf hc
      refine k_lconst0 C 41 rfl ?_
      exact k_lretP hR 42 rfl hf
    · replace hf := if_f hf hc
      refine k_lconst1 C 39 rfl ?_
      refine k_goto C 40 rfl 114 (by decide) ?_
      exact k_lretP hR 42 rfl hf
  by_cases hs47 : sw1 = 47
  · subst hs47
    replace hf := if_f hf (by decide)
    replace hf := if_f hf (by decide)
    replace hf := if_f hf (by decide)
    replace hf := if_f hf (by decide)
    replace hf := if_t hf rfl
    refine k_tabIn C 1 rfl 72 (by decide) (by decide) rfl (by decide) ?_
    refine k_lload_3 C 14 rfl 2 rfl ?_
    refine k_lconst0 C 15 rfl ?_
    refine k_lcmp C 16 rfl ?_
    refine k_if_ne C 17 rfl 82 (by decide) (fun hc => ?_) (fun hc => ?_)
    · replace hf := if_f hf hc
      refine k_lload_1 C 20 rfl 1 rfl ?_
      refine k_lload_3 C 21 rfl 2 rfl ?_
      obtain ⟨hn, hf⟩ := nzJ_some hf
      refine k_ldiv C 22 rfl hn ?_
      exact k_lretP hR 23 rfl hf
    · replace hf := if_t hf hc
      refine k_lconst0 C 18 rfl ?_
      refine k_goto C 19 rfl 85 (by decide) ?_
      exact k_lretP hR 23 rfl hf
  replace hf := if_f hf hs37
  replace hf := if_f hf hs42
  replace hf := if_f hf hs43
  replace hf := if_f hf hs45
  replace hf := if_f hf hs47
  refine k_tabOut C 1 rfl 100 (sw_out [37, 38, 39, 40, 41, 42, 43, 44, 45, 46, 47] (by intro v hv; simp only [List.mem_cons, List.not_mem_nil, or_false] at hv; rcases hv with rfl | rfl | rfl | rfl | rfl | rfl | rfl | rfl | rfl | rfl | rfl <;> assumption) (by decide)) (by decide) ?_
  refine k_iload_0 C 34 rfl 0 rfl ?_
  refine k_lload_1 C 35 rfl 1 rfl ?_
  refine k_lload_3 C 36 rfl 2 rfl ?_
  obtain ⟨r103, h5, hf⟩ := ob1_some hf
  refine k_callE C 37 (c_X3_isTrue Z.2.1 D cy p0 p1 p3 r103 h5) rfl qX3_44 msX3_isTrue rfl rfl (Nat.le_of_ble_eq_true rfl) ⟨Nat.le_of_ble_eq_true rfl, Nat.le_of_ble_eq_true rfl, Nat.le_refl 0, Nat.le_refl 0⟩ ?_
  refine k_if_eq C 38 rfl 113 (by decide) (fun hc => ?_) (fun hc => ?_)
  · replace hf := if_t hf hc
    refine k_lconst0 C 41 rfl ?_
    exact k_lretP hR 42 rfl hf
  · replace hf := if_f hf hc
    refine k_lconst1 C 39 rfl ?_
    refine k_goto C 40 rfl 114 (by decide) ?_
    exact k_lretP hR 42 rfl hf
set_option maxHeartbeats 1000000 in
set_option maxRecDepth 20000 in
theorem c_X3_reckon (l : Launch) (D : va_G) (cy : Nat → ClassId) (c : Nat → Nat) (b : Nat → Nat) (a : Nat → Nat) (n : Nat) (N : Sg) (G : Sg) (T : Sg) (O : Sg) (E : Sg) (X : Sg) (p2 : Int32) (p3 : Int32) (p4 : Int32) (r : Int64) (N1 : Sg) (hf : f_X3_reckon n N G T O p2 p3 p4 = some (r, N1)) : Ct l D cy yX3_reckon cX3_reckon 11 (some .long) 3 249 0 0 [.ref (c 0), .ref (b 0), .int p2, .int p3, .int p4] (wN cy c b a n N G T O E X) (some (.long r)) (wN cy c b a n N1 G T O E X) := by
  refine Ct_l tX3_reckon hX3_reckon (by decide) (Nat.le_of_ble_eq_true rfl) ?_
  intro Z hZ C hR
  subst hZ
  replace C : Cx Z D cy RX3 tX3_reckon 11 3 249 0 0 := C
  show Wk Z D 11 0 0 (wN cy c b a n N G T O E X) 0 [(0, .ref (c 0)), (1, .ref (b 0)), (2, .int p2), (3, .int p3), (4, .int p4)] []
  unfold f_X3_reckon at hf
  have hb135 : ∀ (N : Sg), f_X3_reckon_b135 n G T O p2 p3 p4 N = some (r, N1) → Wk Z D 11 0 0 (wN cy c b a n N G T O E X) 135 [(0, .ref (c 0))] [] := by
    intro N hf
    unfold f_X3_reckon_b135 at hf
    refine k_aload_0 C 68 rfl 0 rfl ?_
    obtain ⟨r136, N_136, h5, hf⟩ := ob2_some hf
    refine k_callV (X := (wN cy c b a n N G T O E X).take 0) (Y := (wN cy c b a n N G T O E X).drop 2) (w2 := (wN cy c b a n N_136 G T O E X)) C 69 (c_X3_pop Z.2.1 D cy c a N r136 N_136 h5) rfl qX3_36 mvX3_pop 0 3 N1_c0 rfl rfl rfl rfl rfl (Nat.le_of_ble_eq_true rfl) ⟨Nat.le_of_ble_eq_true rfl, Nat.le_of_ble_eq_true rfl, Nat.le_refl 0, Nat.le_refl 0⟩ ?_
    exact k_lret (wf := (fun u => (wN cy c b a n u G T O E X))) hR 70 rfl hf
  have hq8 : ∀ (k8 : Int32 → Sg → Option (Int64 × Sg)), (∀ (x5 : Int32) (N : Sg), k8 x5 N = some (r, N1) → Wk Z D 11 0 0 (wN cy c b a n N G T O E X) 8 [(0, .ref (c 0)), (1, .ref (b 0)), (3, .int p3), (4, .int p4), (5, .int x5)] []) → ∀ (x5 : Int32) (N : Sg), f_X3_reckon_b8 n G T O p2 p3 p4 k8 x5 N = some (r, N1) → Wk Z D 11 0 0 (wN cy c b a n N G T O E X) 8 [(0, .ref (c 0)), (1, .ref (b 0)), (3, .int p3), (4, .int p4), (5, .int x5)] [] := by
    intro k8 hk8 x5 N hf
    unfold f_X3_reckon_b8 at hf
    have hb129 : ∀ (x5 : Int32) (N : Sg), f_X3_reckon_b129 n G T O p2 p3 p4 k8 x5 N = some (r, N1) → Wk Z D 11 0 0 (wN cy c b a n N G T O E X) 129 [(0, .ref (c 0)), (1, .ref (b 0)), (3, .int p3), (4, .int p4), (5, .int x5)] [] := by
      intro x5 N hf
      unfold f_X3_reckon_b129 at hf
      obtain ⟨x5_129, hx, hf⟩ := bnd_some hf
      refine k_iinc C 66 rfl 4 rfl ((cn_1 _).trans hx) (by decide) rfl ?_
      refine k_sub (lv2 := [(0, .ref (c 0)), (1, .ref (b 0)), (3, .int p3), (4, .int p4), (5, .int x5_129)]) [1, 2, 3, 4, 0] rfl ?_
      refine k_goto C 67 rfl 8 (by decide) ?_
      exact k_sub [0, 1, 2, 3, 4] rfl (hk8 x5_129 N hf)
    have hb95 : ∀ (x5 : Int32) (s1 : Int64) (N : Sg), f_X3_reckon_b95 n G T O p2 p3 p4 k8 x5 s1 N = some (r, N1) → Wk Z D 11 0 0 (wN cy c b a n N G T O E X) 95 [(0, .ref (c 0)), (1, .ref (b 0)), (3, .int p3), (4, .int p4), (5, .int x5)] [.long s1, .ref (c 0)] := by
      intro x5 s1 N hf
      unfold f_X3_reckon_b95 at hf
      obtain ⟨N_95, h5, hf⟩ := ob1_some hf
      refine k_callV (X := (wN cy c b a n N G T O E X).take 0) (Y := (wN cy c b a n N G T O E X).drop 2) (w2 := (wN cy c b a n N_95 G T O E X)) C 50 (c_X3_push Z.2.1 D cy c a N s1 N_95 h5) rfl qX3_24 mvX3_push 0 3 N1_c0 rfl rfl rfl rfl rfl (Nat.le_of_ble_eq_true rfl) ⟨Nat.le_of_ble_eq_true rfl, Nat.le_of_ble_eq_true rfl, Nat.le_refl 0, Nat.le_refl 0⟩ ?_
      refine k_goto C 51 rfl 129 (by decide) ?_
      exact k_sub [0, 1, 2, 3, 4] rfl (hb129 x5 N_95 hf)
    refine k_iload C 5 rfl 4 rfl ?_
    refine k_iload_3 C 6 rfl 2 rfl ?_
    refine k_icmp_ge C 7 rfl 135 (by decide) (fun hc => ?_) (fun hc => ?_)
    · replace hf := if_t hf hc
      exact k_sub [0] rfl (hb135 N hf)
    · replace hf := if_f hf hc
      refine k_iload C 8 rfl 4 rfl ?_
      refine k_aload_1 C 9 rfl 1 rfl ?_
      refine k_alen C 10 rfl 2 1 N_c2 rfl (v := nI n) rfl ?_
      refine k_icmp_ge C 11 rfl 135 (by decide) (fun hc => ?_) (fun hc => ?_)
      · replace hf := if_t hf hc
        exact k_sub [0] rfl (hb135 N hf)
      · replace hf := if_f hf hc
        refine k_aload_1 C 12 rfl 1 rfl ?_
        refine k_iload C 13 rfl 4 rfl ?_
        obtain ⟨i24, hi, hin, hf⟩ := ixd_some hf
        refine k_iald C 14 rfl 2 N_c2 hin hi ?_
        obtain ⟨x6_25, hx, hf⟩ := bnd_some hf
        refine k_topi hx ?_
        refine k_istore C 15 rfl (by decide) rfl ?_
        refine k_sub (lv2 := [(0, .ref (c 0)), (1, .ref (b 0)), (3, .int p3), (4, .int p4), (5, .int x5), (6, .int x6_25)]) [1, 2, 3, 4, 5, 0] rfl ?_
        refine k_iload C 16 rfl 5 rfl ?_
        refine k_ldc C 17 rfl qX3_23 ?_
        refine k_icmp_ge C 18 rfl 44 (by decide) (fun hc => ?_) (fun hc => ?_)
        · replace hf := if_t hf hc
          refine k_iload C 24 rfl 5 rfl ?_
          refine k_ldc C 25 rfl qX3_28 ?_
          refine k_icmp_lt C 26 rfl 73 (by decide) (fun hc => ?_) (fun hc => ?_)
          · replace hf := if_t hf hc
            refine k_iload C 38 rfl 5 rfl ?_
            refine k_ldc C 39 rfl qX3_35 ?_
            refine k_icmp_ne C 40 rfl 101 (by decide) (fun hc => ?_) (fun hc => ?_)
            · replace hf := if_f hf hc
              refine k_aload_0 C 52 rfl 0 rfl ?_
              obtain ⟨r102, N_102, h5, hf⟩ := ob2_some hf
              refine k_callV (X := (wN cy c b a n N G T O E X).take 0) (Y := (wN cy c b a n N G T O E X).drop 2) (w2 := (wN cy c b a n N_102 G T O E X)) C 53 (c_X3_pop Z.2.1 D cy c a N r102 N_102 h5) rfl qX3_36 mvX3_pop 0 3 N1_c0 rfl rfl rfl rfl rfl (Nat.le_of_ble_eq_true rfl) ⟨Nat.le_of_ble_eq_true rfl, Nat.le_of_ble_eq_true rfl, Nat.le_refl 0, Nat.le_refl 0⟩ ?_
              refine k_lstore C 54 rfl (by decide) rfl ?_
              refine k_sub (lv2 := [(0, .ref (c 0)), (1, .ref (b 0)), (3, .int p3), (4, .int p4), (5, .int x5), (6, .int x6_25), (7, .long r102)]) [1, 2, 3, 4, 5, 6, 0] rfl ?_
              refine k_aload_0 C 55 rfl 0 rfl ?_
              obtain ⟨r108, N_108, h5, hf⟩ := ob2_some hf
              refine k_callV (X := (wN cy c b a n N_102 G T O E X).take 0) (Y := (wN cy c b a n N_102 G T O E X).drop 2) (w2 := (wN cy c b a n N_108 G T O E X)) C 56 (c_X3_pop Z.2.1 D cy c a N_102 r108 N_108 h5) rfl qX3_36 mvX3_pop 0 3 N1_c0 rfl rfl rfl rfl rfl (Nat.le_of_ble_eq_true rfl) ⟨Nat.le_of_ble_eq_true rfl, Nat.le_of_ble_eq_true rfl, Nat.le_refl 0, Nat.le_refl 0⟩ ?_
              refine k_lstore C 57 rfl (by decide) rfl ?_
              refine k_sub (lv2 := [(0, .ref (c 0)), (1, .ref (b 0)), (3, .int p3), (4, .int p4), (5, .int x5), (6, .int x6_25), (7, .long r102), (9, .long r108)]) [1, 2, 3, 4, 5, 6, 7, 0] rfl ?_
              refine k_aload_0 C 58 rfl 0 rfl ?_
              refine k_iload C 59 rfl 5 rfl ?_
              refine k_ldc C 60 rfl qX3_23 ?_
              refine k_isub C 61 rfl ?_
              refine k_lload C 62 rfl 7 rfl ?_
              refine k_lload C 63 rfl 6 rfl ?_
              obtain ⟨r123, h5, hf⟩ := ob1_some hf
              refine k_callE C 64 (c_X3_combined Z.2.1 D cy (x6_25 - 100000) r108 r102 r123 h5) rfl qX3_40 msX3_combined rfl rfl (Nat.le_of_ble_eq_true rfl) ⟨Nat.le_of_ble_eq_true rfl, Nat.le_of_ble_eq_true rfl, Nat.le_refl 0, Nat.le_refl 0⟩ ?_
              obtain ⟨N_126, h5, hf⟩ := ob1_some hf
              refine k_callV (X := (wN cy c b a n N_108 G T O E X).take 0) (Y := (wN cy c b a n N_108 G T O E X).drop 2) (w2 := (wN cy c b a n N_126 G T O E X)) C 65 (c_X3_push Z.2.1 D cy c a N_108 r123 N_126 h5) rfl qX3_24 mvX3_push 0 3 N1_c0 rfl rfl rfl rfl rfl (Nat.le_of_ble_eq_true rfl) ⟨Nat.le_of_ble_eq_true rfl, Nat.le_of_ble_eq_true rfl, Nat.le_refl 0, Nat.le_refl 0⟩ ?_
              exact k_sub [0, 1, 2, 3, 4] rfl (hb129 x5 N_126 hf)
            · replace hf := if_t hf hc
              refine k_aload_0 C 41 rfl 0 rfl ?_
              refine k_aload_0 C 42 rfl 0 rfl ?_
              obtain ⟨r82, N_82, h5, hf⟩ := ob2_some hf
              refine k_callV (X := (wN cy c b a n N G T O E X).take 0) (Y := (wN cy c b a n N G T O E X).drop 2) (w2 := (wN cy c b a n N_82 G T O E X)) C 43 (c_X3_pop Z.2.1 D cy c a N r82 N_82 h5) rfl qX3_36 mvX3_pop 0 3 N1_c0 rfl rfl rfl rfl rfl (Nat.le_of_ble_eq_true rfl) ⟨Nat.le_of_ble_eq_true rfl, Nat.le_of_ble_eq_true rfl, Nat.le_refl 0, Nat.le_refl 0⟩ ?_
              refine k_lconst0 C 44 rfl ?_
              refine k_lcmp C 45 rfl ?_
              refine k_if_ne C 46 rfl 94 (by decide) (fun hc => ?_) (fun hc => ?_)
              · replace hf := if_f hf hc
                refine k_lconst0 C 49 rfl ?_
                exact k_sub [0, 1, 2, 3, 4] rfl (hb95 x5 (0 : Int64) N_82 hf)
              · replace hf := if_t hf hc
                refine k_lconst1 C 47 rfl ?_
                refine k_goto C 48 rfl 95 (by decide) ?_
                exact k_sub [0, 1, 2, 3, 4] rfl (hb95 x5 (1 : Int64) N_82 hf)
          · replace hf := if_f hf hc
            refine k_aload_0 C 27 rfl 0 rfl ?_
            refine k_aload_0 C 28 rfl 0 rfl ?_
            refine kg3_0 C 29 rfl qX3_15 0 N_c0 N_f0_0 ?_
            refine k_iload C 30 rfl 3 rfl ?_
            refine k_iload C 31 rfl 5 rfl ?_
            refine k_ldc C 32 rfl qX3_28 ?_
            refine k_isub C 33 rfl ?_
            obtain ⟨r63, h5, hf⟩ := ob1_some hf
            refine k_callV (X := (wN cy c b a n N G T O E X).take 3) (Y := (wN cy c b a n N G T O E X).drop 26) (w2 := (wN cy c b a n N G T O E X)) C 34 (c_X10_wordOf Z.2.1 D cy a T O E X p4 (x6_25 - 200000) r63 h5) rfl qX3_29 mvX10_wordOf 0 10 W_c0 rfl rfl rfl rfl rfl (Nat.le_of_ble_eq_true rfl) ⟨Nat.le_of_ble_eq_true rfl, Nat.le_of_ble_eq_true rfl, Nat.le_refl 0, Nat.le_refl 0⟩ ?_
            refine k_i2l C 35 rfl ?_
            obtain ⟨N_67, h5, hf⟩ := ob1_some hf
            refine k_callV (X := (wN cy c b a n N G T O E X).take 0) (Y := (wN cy c b a n N G T O E X).drop 2) (w2 := (wN cy c b a n N_67 G T O E X)) C 36 (c_X3_push Z.2.1 D cy c a N r63.toInt64 N_67 h5) rfl qX3_24 mvX3_push 0 3 N1_c0 rfl rfl rfl rfl rfl (Nat.le_of_ble_eq_true rfl) ⟨Nat.le_of_ble_eq_true rfl, Nat.le_of_ble_eq_true rfl, Nat.le_refl 0, Nat.le_refl 0⟩ ?_
            refine k_goto C 37 rfl 129 (by decide) ?_
            exact k_sub [0, 1, 2, 3, 4] rfl (hb129 x5 N_67 hf)
        · replace hf := if_f hf hc
          refine k_aload_0 C 19 rfl 0 rfl ?_
          refine k_iload C 20 rfl 5 rfl ?_
          refine k_i2l C 21 rfl ?_
          obtain ⟨N_38, h5, hf⟩ := ob1_some hf
          refine k_callV (X := (wN cy c b a n N G T O E X).take 0) (Y := (wN cy c b a n N G T O E X).drop 2) (w2 := (wN cy c b a n N_38 G T O E X)) C 22 (c_X3_push Z.2.1 D cy c a N x6_25.toInt64 N_38 h5) rfl qX3_24 mvX3_push 0 3 N1_c0 rfl rfl rfl rfl rfl (Nat.le_of_ble_eq_true rfl) ⟨Nat.le_of_ble_eq_true rfl, Nat.le_of_ble_eq_true rfl, Nat.le_refl 0, Nat.le_refl 0⟩ ?_
          refine k_goto C 23 rfl 129 (by decide) ?_
          exact k_sub [0, 1, 2, 3, 4] rfl (hb129 x5 N_38 hf)
  have hb8 := flW2 hq8
  refine k_aload_0 C 0 rfl 0 rfl ?_
  refine k_iconst C 1 rfl ci_0 ?_
  obtain ⟨N_2, hM, hf⟩ := bnd_some hf
  refine kp3_2 (w2 := (wN cy c b a n N_2 G T O E X)) C 2 rfl qX3_19 0 N_c0 (v := 0) N_n0 (N_p0_2.trans (congrArg (fun z => (wN cy c b a n z G T O E X)) hM)) ?_
  refine k_iload_2 C 3 rfl 2 rfl ?_
  refine k_istore C 4 rfl (by decide) rfl ?_
  refine k_sub (lv2 := [(0, .ref (c 0)), (1, .ref (b 0)), (2, .int p2), (3, .int p3), (4, .int p4), (5, .int p2)]) [1, 2, 3, 4, 5, 0] rfl ?_
  exact k_sub [0, 1, 3, 4, 5] rfl (hb8 FU p2 N_2 hf)
set_option maxHeartbeats 1000000 in
set_option maxRecDepth 20000 in
theorem c_X6_startOf (l : Launch) (D : va_G) (cy : Nat → ClassId) (c : Nat → Nat) (a : Nat → Nat) (S : Sg) (T : Sg) (O : Sg) (E : Sg) (X : Sg) (p1 : Int32) (p2 : Int32) (r : Int32) (hf : f_X6_startOf O p1 p2 = some r) : Ct l D cy yX6_startOf cX6_startOf 4 (some .int) 1 200 0 0 [.ref (c 0), .int p1, .int p2] (wS cy c a S T O E X) (some (.int r)) (wS cy c a S T O E X) := by
  refine Ct_i tX6_startOf hX6_startOf (by decide) (Nat.le_of_ble_eq_true rfl) ?_
  intro Z hZ C hR
  subst hZ
  replace C : Cx Z D cy RX6 tX6_startOf 4 1 200 0 0 := C
  show Wk Z D 4 0 0 (wS cy c a S T O E X) 0 [(0, .ref (c 0)), (1, .int p1), (2, .int p2)] []
  unfold f_X6_startOf at hf
  refine k_aload_0 C 0 rfl 0 rfl ?_
  refine kg6_0 C 1 rfl qX6_33 0 S_c0 S_f0_0 ?_
  refine kg10_1 C 2 rfl qX6_37 8 S_c8 S_f8_1 ?_
  refine kg2_0 C 3 rfl qX6_43 21 S_c21 S_f21_0 ?_
  refine k_iload_2 C 4 rfl 2 rfl ?_
  refine k_mmax C 5 rfl qX6_49 jw_max (Nat.le_of_ble_eq_true rfl) (Nat.le_of_ble_eq_true rfl) (Nat.le_of_ble_eq_true rfl) ⟨Nat.le_refl 0, Nat.le_refl 0⟩ ?_
  obtain ⟨x3_14, hx, hf⟩ := bnd_some hf
  refine k_topi hx ?_
  refine k_istore_3 C 6 rfl (by decide) rfl ?_
  refine k_sub (lv2 := [(0, .ref (c 0)), (1, .int p1), (2, .int p2), (3, .int x3_14)]) [1, 2, 3, 0] rfl ?_
  refine k_iload_3 C 7 rfl 3 rfl ?_
  refine k_aload_0 C 8 rfl 0 rfl ?_
  refine kg6_0 C 9 rfl qX6_33 0 S_c0 S_f0_0 ?_
  refine kg10_1 C 10 rfl qX6_37 8 S_c8 S_f8_1 ?_
  refine kg2_4 C 11 rfl qX6_55 21 S_c21 S_f21_4 ?_
  refine k_iload_1 C 12 rfl 1 rfl ?_
  obtain ⟨i27, hi, hin, hf⟩ := ixd_some hf
  refine k_iald C 13 rfl 24 S_c24 hin hi ?_
  refine k_mmax C 14 rfl qX6_49 jw_max (Nat.le_of_ble_eq_true rfl) (Nat.le_of_ble_eq_true rfl) (Nat.le_of_ble_eq_true rfl) ⟨Nat.le_refl 0, Nat.le_refl 0⟩ ?_
  exact k_iretP hR 15 rfl hf
set_option maxHeartbeats 1000000 in
set_option maxRecDepth 20000 in
theorem c_X6_firstEnd (l : Launch) (D : va_G) (cy : Nat → ClassId) (c : Nat → Nat) (a : Nat → Nat) (S : Sg) (T : Sg) (O : Sg) (E : Sg) (X : Sg) (p1 : Int32) (p2 : Int32) (p3 : Int32) (p4 : Int32) (r : Int32) (hf : f_X6_firstEnd T O p1 p2 p3 p4 = some r) : Ct l D cy yX6_firstEnd cX6_firstEnd 8 (some .int) 2 227 0 0 [.ref (c 0), .int p1, .int p2, .int p3, .int p4] (wS cy c a S T O E X) (some (.int r)) (wS cy c a S T O E X) := by
  refine Ct_i tX6_firstEnd hX6_firstEnd (by decide) (Nat.le_of_ble_eq_true rfl) ?_
  intro Z hZ C hR
  subst hZ
  replace C : Cx Z D cy RX6 tX6_firstEnd 8 2 227 0 0 := C
  show Wk Z D 8 0 0 (wS cy c a S T O E X) 0 [(0, .ref (c 0)), (1, .int p1), (2, .int p2), (3, .int p3), (4, .int p4)] []
  unfold f_X6_firstEnd at hf
  have hb74 : ∀ (x6 : Int32), f_X6_firstEnd_b74 T O p1 p2 p3 p4 x6 = some r → Wk Z D 8 0 0 (wS cy c a S T O E X) 74 [(6, .int x6)] [] := by
    intro x6 hf
    unfold f_X6_firstEnd_b74 at hf
    refine k_iload C 40 rfl 0 rfl ?_
    exact k_iretP hR 41 rfl hf
  refine k_aload_0 C 0 rfl 0 rfl ?_
  refine kg6_0 C 1 rfl qX6_33 0 S_c0 S_f0_0 ?_
  refine k_iload_1 C 2 rfl 1 rfl ?_
  refine k_iload_2 C 3 rfl 2 rfl ?_
  refine k_iload_3 C 4 rfl 3 rfl ?_
  obtain ⟨r7, h5, hf⟩ := ob1_some hf
  refine k_callV (X := (wS cy c a S T O E X).take 8) (Y := (wS cy c a S T O E X).drop 31) (w2 := (wS cy c a S T O E X)) C 5 (c_X10_outsideSeconds Z.2.1 D cy a T O E X p1 p2 p3 r7 h5) rfl qX6_82 mvX10_outsideSeconds 0 10 W_c0 rfl rfl rfl rfl rfl (Nat.le_of_ble_eq_true rfl) ⟨Nat.le_of_ble_eq_true rfl, Nat.le_of_ble_eq_true rfl, Nat.le_refl 0, Nat.le_refl 0⟩ ?_
  refine k_istore C 6 rfl (by decide) rfl ?_
  refine k_sub (lv2 := [(0, .ref (c 0)), (1, .int p1), (2, .int p2), (3, .int p3), (4, .int p4), (5, .int r7)]) [1, 2, 3, 4, 5, 0] rfl ?_
  refine k_aload_0 C 7 rfl 0 rfl ?_
  refine kg6_0 C 8 rfl qX6_33 0 S_c0 S_f0_0 ?_
  refine k_iload C 9 rfl 5 rfl ?_
  refine k_iload C 10 rfl 4 rfl ?_
  obtain ⟨r20, h5, hf⟩ := ob1_some hf
  refine k_callV (X := (wS cy c a S T O E X).take 8) (Y := (wS cy c a S T O E X).drop 31) (w2 := (wS cy c a S T O E X)) C 11 (c_X10_outsideBegin Z.2.1 D cy a T O E X r7 p4 r20 h5) rfl qX6_86 mvX10_outsideBegin 0 10 W_c0 rfl rfl rfl rfl rfl (Nat.le_of_ble_eq_true rfl) ⟨Nat.le_of_ble_eq_true rfl, Nat.le_of_ble_eq_true rfl, Nat.le_refl 0, Nat.le_refl 0⟩ ?_
  refine k_iload C 12 rfl 5 rfl ?_
  refine k_iadd C 13 rfl ?_
  obtain ⟨x6_26, hx, hf⟩ := bnd_some hf
  refine k_topi hx ?_
  refine k_istore C 14 rfl (by decide) rfl ?_
  refine k_sub (lv2 := [(0, .ref (c 0)), (1, .int p1), (2, .int p2), (3, .int p3), (4, .int p4), (5, .int r7), (6, .int x6_26)]) [1, 2, 3, 4, 5, 6, 0] rfl ?_
  refine k_iload_2 C 15 rfl 2 rfl ?_
  refine k_iload_3 C 16 rfl 3 rfl ?_
  refine k_isub C 17 rfl ?_
  refine k_mabs C 18 rfl qX6_89 jw_abs (Nat.le_of_ble_eq_true rfl) (Nat.le_of_ble_eq_true rfl) (Nat.le_of_ble_eq_true rfl) ⟨Nat.le_refl 0, Nat.le_refl 0⟩ ?_
  refine k_iconst C 19 rfl ci_1 ?_
  refine k_icmp_ne C 20 rfl 74 (by decide) (fun hc => ?_) (fun hc => ?_)
  · replace hf := if_f hf hc
    exact k_sub [6] rfl (hb74 x6_26 hf)
  · replace hf := if_t hf hc
    refine k_aload_0 C 21 rfl 0 rfl ?_
    refine kg6_0 C 22 rfl qX6_33 0 S_c0 S_f0_0 ?_
    refine k_iload_1 C 23 rfl 1 rfl ?_
    refine k_iload_2 C 24 rfl 2 rfl ?_
    refine k_iload_3 C 25 rfl 3 rfl ?_
    refine k_iload C 26 rfl 4 rfl ?_
    obtain ⟨r47, h5, hf⟩ := ob1_some hf
    refine k_callV (X := (wS cy c a S T O E X).take 8) (Y := (wS cy c a S T O E X).drop 31) (w2 := (wS cy c a S T O E X)) C 27 (c_X10_insideBegin Z.2.1 D cy a T O E X p1 p2 p3 p4 r47 h5) rfl qX6_93 mvX10_insideBegin 0 10 W_c0 rfl rfl rfl rfl rfl (Nat.le_of_ble_eq_true rfl) ⟨Nat.le_of_ble_eq_true rfl, Nat.le_of_ble_eq_true rfl, Nat.le_refl 0, Nat.le_refl 0⟩ ?_
    refine k_istore C 28 rfl (by decide) rfl ?_
    refine k_sub (lv2 := [(0, .ref (c 0)), (1, .int p1), (2, .int p2), (3, .int p3), (4, .int p4), (5, .int r7), (6, .int x6_26), (7, .int r47)]) [1, 2, 3, 4, 5, 6, 7, 0] rfl ?_
    refine k_iload C 29 rfl 6 rfl ?_
    refine k_iload C 30 rfl 7 rfl ?_
    refine k_aload_0 C 31 rfl 0 rfl ?_
    refine kg6_0 C 32 rfl qX6_33 0 S_c0 S_f0_0 ?_
    refine kg10_0 C 33 rfl qX6_65 8 S_c8 S_f8_0 ?_
    refine kg9_15 C 34 rfl qX6_96 9 S_c9 S_f9_15 ?_
    refine k_iload_1 C 35 rfl 1 rfl ?_
    obtain ⟨i67, hi, hin, hf⟩ := ixd_some hf
    refine k_iald C 36 rfl 19 S_c19 hin hi ?_
    refine k_iadd C 37 rfl ?_
    refine k_mmin C 38 rfl qX6_99 jw_min (Nat.le_of_ble_eq_true rfl) (Nat.le_of_ble_eq_true rfl) (Nat.le_of_ble_eq_true rfl) ⟨Nat.le_refl 0, Nat.le_refl 0⟩ ?_
    obtain ⟨x6_72, hx, hf⟩ := bnd_some hf
    refine k_topi hx ?_
    refine k_istore C 39 rfl (by decide) rfl ?_
    refine k_sub (lv2 := [(0, .ref (c 0)), (1, .int p1), (2, .int p2), (3, .int p3), (4, .int p4), (5, .int r7), (6, .int x6_72), (7, .int r47)]) [1, 2, 3, 4, 5, 6, 0, 7] rfl ?_
    exact k_sub [6] rfl (hb74 x6_72 hf)
set_option maxHeartbeats 1000000 in
set_option maxRecDepth 20000 in
theorem c_X6_spreadFrom (l : Launch) (D : va_G) (cy : Nat → ClassId) (c : Nat → Nat) (a : Nat → Nat) (S : Sg) (T : Sg) (O : Sg) (E : Sg) (X : Sg) (p1 : Int32) (p2 : Int32) (r : Bool) (S1 : Sg) (hf : f_X6_spreadFrom S T O p1 p2 = some (r, S1)) : Ct l D cy yX6_spreadFrom cX6_spreadFrom 6 (some .boolean) 3 254 0 0 [.ref (c 0), .int p1, .int p2] (wS cy c a S T O E X) (some (.int (bI r))) (wS cy c a S1 T O E X) := by
  refine Ct_z tX6_spreadFrom hX6_spreadFrom (by decide) (Nat.le_of_ble_eq_true rfl) ?_
  intro Z hZ C hR
  subst hZ
  replace C : Cx Z D cy RX6 tX6_spreadFrom 6 3 254 0 0 := C
  show Wk Z D 6 0 0 (wS cy c a S T O E X) 0 [(0, .ref (c 0)), (1, .int p1), (2, .int p2)] []
  unfold f_X6_spreadFrom at hf
  have hq5 : ∀ (k5 : Int32 → Int32 → Sg → Option (Bool × Sg)), (∀ (x3 : Int32) (x4 : Int32) (S : Sg), k5 x3 x4 S = some (r, S1) → Wk Z D 6 0 0 (wS cy c a S T O E X) 5 [(0, .ref (c 0)), (1, .int p1), (2, .int p2), (3, .int x3), (4, .int x4)] []) → ∀ (x3 : Int32) (x4 : Int32) (S : Sg), f_X6_spreadFrom_b5 T O p1 p2 k5 x3 x4 S = some (r, S1) → Wk Z D 6 0 0 (wS cy c a S T O E X) 5 [(0, .ref (c 0)), (1, .int p1), (2, .int p2), (3, .int x3), (4, .int x4)] [] := by
    intro k5 hk5 x3 x4 S hf
    unfold f_X6_spreadFrom_b5 at hf
    have hb73 : ∀ (x3 : Int32) (x4 : Int32) (S : Sg), f_X6_spreadFrom_b73 T O p1 p2 k5 x3 x4 S = some (r, S1) → Wk Z D 6 0 0 (wS cy c a S T O E X) 73 [(0, .ref (c 0)), (1, .int p1), (2, .int p2), (3, .int x3), (4, .int x4)] [] := by
      intro x3 x4 S hf
      unfold f_X6_spreadFrom_b73 at hf
      obtain ⟨x4_73, hx, hf⟩ := bnd_some hf
      refine k_iinc C 39 rfl 4 rfl ((cn_1 _).trans hx) (by decide) rfl ?_
      refine k_sub (lv2 := [(0, .ref (c 0)), (1, .int p1), (2, .int p2), (3, .int x3), (4, .int x4_73)]) [1, 2, 3, 4, 0] rfl ?_
      refine k_goto C 40 rfl 5 (by decide) ?_
      exact k_sub [0, 1, 2, 3, 4] rfl (hk5 x3 x4_73 S hf)
    refine k_iload C 4 rfl 4 rfl ?_
    refine k_aload_0 C 5 rfl 0 rfl ?_
    refine kg6_0 C 6 rfl qX6_33 0 S_c0 S_f0_0 ?_
    refine kg10_0 C 7 rfl qX6_65 8 S_c8 S_f8_0 ?_
    refine kg9_0 C 8 rfl qX6_69 9 S_c9 S_f9_0 ?_
    refine k_icmp_ge C 9 rfl 79 (by decide) (fun hc => ?_) (fun hc => ?_)
    · replace hf := if_t hf hc
      refine k_iload_3 C 41 rfl 3 rfl ?_
      obtain ⟨b80, hx, hf⟩ := zb_some hf
      refine k_topi hx ?_
      exact k_zret (wf := (fun u => (wS cy c a u T O E X))) hR 42 rfl hf
    · replace hf := if_f hf hc
      refine k_iload C 10 rfl 4 rfl ?_
      refine k_iload_2 C 11 rfl 2 rfl ?_
      refine k_icmp_eq C 12 rfl 73 (by decide) (fun hc => ?_) (fun hc => ?_)
      · replace hf := if_t hf hc
        exact k_sub [0, 1, 2, 3, 4] rfl (hb73 x3 x4 S hf)
      · replace hf := if_f hf hc
        refine k_aload_0 C 13 rfl 0 rfl ?_
        refine k_iload_1 C 14 rfl 1 rfl ?_
        refine k_iload_2 C 15 rfl 2 rfl ?_
        refine k_iload C 16 rfl 4 rfl ?_
        refine k_aload_0 C 17 rfl 0 rfl ?_
        refine kg6_1 C 18 rfl qX6_9 0 S_c0 S_f0_1 ?_
        refine k_iload_2 C 19 rfl 2 rfl ?_
        obtain ⟨i36, hi, hin, hf⟩ := ixd_some hf
        refine k_iald C 20 rfl 1 S_c1 hin hi ?_
        obtain ⟨r37, h5, hf⟩ := ob1_some hf
        refine k_callW C 21 (c_X6_firstEnd Z.2.1 D cy c a S T O E X p1 p2 x4 (S.2.1 1 i36) r37 h5) rfl qX6_78 mvX6_firstEnd 0 6 S_c0 rfl rfl rfl (Nat.le_of_ble_eq_true rfl) ⟨Nat.le_of_ble_eq_true rfl, Nat.le_of_ble_eq_true rfl, Nat.le_refl 0, Nat.le_refl 0⟩ ?_
        refine k_istore C 22 rfl (by decide) rfl ?_
        refine k_sub (lv2 := [(0, .ref (c 0)), (1, .int p1), (2, .int p2), (3, .int x3), (4, .int x4), (5, .int r37)]) [1, 2, 3, 4, 5, 0] rfl ?_
        refine k_iload C 23 rfl 5 rfl ?_
        refine k_sipush C 24 rfl cs_999 ?_
        refine k_icmp_gt C 25 rfl 73 (by decide) (fun hc => ?_) (fun hc => ?_)
        · replace hf := if_t hf hc
          exact k_sub [0, 1, 2, 3, 4] rfl (hb73 x3 x4 S hf)
        · replace hf := if_f hf hc
          refine k_iload C 26 rfl 5 rfl ?_
          refine k_aload_0 C 27 rfl 0 rfl ?_
          refine kg6_1 C 28 rfl qX6_9 0 S_c0 S_f0_1 ?_
          refine k_iload C 29 rfl 4 rfl ?_
          obtain ⟨i58, hi, hin, hf⟩ := ixd_some hf
          refine k_iald C 30 rfl 1 S_c1 hin hi ?_
          refine k_icmp_ge C 31 rfl 73 (by decide) (fun hc => ?_) (fun hc => ?_)
          · replace hf := if_t hf hc
            exact k_sub [0, 1, 2, 3, 4] rfl (hb73 x3 x4 S hf)
          · replace hf := if_f hf hc
            refine k_aload_0 C 32 rfl 0 rfl ?_
            refine kg6_1 C 33 rfl qX6_9 0 S_c0 S_f0_1 ?_
            refine k_iload C 34 rfl 4 rfl ?_
            refine k_iload C 35 rfl 5 rfl ?_
            obtain ⟨i70, hi, hin, hf⟩ := ixd_some hf
            obtain ⟨S_70, hM, hf⟩ := bnd_some hf
            refine k_iast (w2 := (wS cy c a S_70 T O E X)) C 36 rfl 1 S_c1 hin hi (S_s1.trans (congrArg (fun z => (wS cy c a z T O E X)) hM)) ?_
            refine k_iconst C 37 rfl ci_1 ?_
            refine k_istore_3 C 38 rfl (by decide) rfl ?_
            refine k_sub (lv2 := [(0, .ref (c 0)), (1, .int p1), (2, .int p2), (3, .int 1), (4, .int x4), (5, .int r37)]) [1, 2, 3, 0, 4, 5] rfl ?_
            exact k_sub [0, 1, 2, 3, 4] rfl (hb73 1 x4 S_70 hf)
  have hb5 := flW3 hq5
  refine k_iconst C 0 rfl ci_0 ?_
  refine k_istore_3 C 1 rfl (by decide) rfl ?_
  refine k_sub (lv2 := [(0, .ref (c 0)), (1, .int p1), (2, .int p2), (3, .int 0)]) [1, 2, 3, 0] rfl ?_
  refine k_iconst C 2 rfl ci_0 ?_
  refine k_istore C 3 rfl (by decide) rfl ?_
  refine k_sub (lv2 := [(0, .ref (c 0)), (1, .int p1), (2, .int p2), (3, .int 0), (4, .int 0)]) [1, 2, 3, 4, 0] rfl ?_
  exact k_sub [0, 1, 2, 3, 4] rfl (hb5 FU 0 0 S hf)
set_option maxHeartbeats 1000000 in
set_option maxRecDepth 20000 in
theorem c_X6_spread (l : Launch) (D : va_G) (cy : Nat → ClassId) (c : Nat → Nat) (a : Nat → Nat) (S : Sg) (T : Sg) (O : Sg) (E : Sg) (X : Sg) (p1 : Int32) (p2 : Int32) (p3 : Int32) (S1 : Sg) (hf : f_X6_spread S T O p1 p2 p3 = some S1) : Ct l D cy yX6_spread cX6_spread 7 none 4 279 0 0 [.ref (c 0), .int p1, .int p2, .int p3] (wS cy c a S T O E X) none (wS cy c a S1 T O E X) := by
  refine Ct_v tX6_spread hX6_spread (by decide) (Nat.le_of_ble_eq_true rfl) ?_
  intro Z hZ C hR
  subst hZ
  replace C : Cx Z D cy RX6 tX6_spread 7 4 279 0 0 := C
  show Wk Z D 7 0 0 (wS cy c a S T O E X) 0 [(0, .ref (c 0)), (1, .int p1), (2, .int p2), (3, .int p3)] []
  unfold f_X6_spread at hf
  have hq30 : ∀ (k30 : Int32 → Int32 → Sg → Option (Sg)), (∀ (x4 : Int32) (x5 : Int32) (S : Sg), k30 x4 x5 S = some S1 → Wk Z D 7 0 0 (wS cy c a S T O E X) 30 [(0, .ref (c 0)), (1, .int p1), (4, .int x4), (5, .int x5)] []) → ∀ (x4 : Int32) (x5 : Int32) (S : Sg), f_X6_spread_b30 T O p1 p2 p3 k30 x4 x5 S = some S1 → Wk Z D 7 0 0 (wS cy c a S T O E X) 30 [(0, .ref (c 0)), (1, .int p1), (4, .int x4), (5, .int x5)] [] := by
    intro k30 hk30 x4 x5 S hf
    unfold f_X6_spread_b30 at hf
    have hq48 : ∀ (k48 : Int32 → Int32 → Int32 → Sg → Option (Sg)), (∀ (x4 : Int32) (x5 : Int32) (x6 : Int32) (S : Sg), k48 x4 x5 x6 S = some S1 → Wk Z D 7 0 0 (wS cy c a S T O E X) 48 [(0, .ref (c 0)), (1, .int p1), (4, .int x4), (5, .int x5), (6, .int x6)] []) → ∀ (x4 : Int32) (x5 : Int32) (x6 : Int32) (S : Sg), f_X6_spread_b48 T O p1 p2 p3 k30 k48 x4 x5 x6 S = some S1 → Wk Z D 7 0 0 (wS cy c a S T O E X) 48 [(0, .ref (c 0)), (1, .int p1), (4, .int x4), (5, .int x5), (6, .int x6)] [] := by
      intro k48 hk48 x4 x5 x6 S hf
      unfold f_X6_spread_b48 at hf
      have hb88 : ∀ (x4 : Int32) (x5 : Int32) (x6 : Int32) (S : Sg), f_X6_spread_b88 T O p1 p2 p3 k30 k48 x4 x5 x6 S = some S1 → Wk Z D 7 0 0 (wS cy c a S T O E X) 88 [(0, .ref (c 0)), (1, .int p1), (4, .int x4), (5, .int x5), (6, .int x6)] [] := by
        intro x4 x5 x6 S hf
        unfold f_X6_spread_b88 at hf
        obtain ⟨x6_88, hx, hf⟩ := bnd_some hf
        refine k_iinc C 45 rfl 4 rfl ((cn_1 _).trans hx) (by decide) rfl ?_
        refine k_sub (lv2 := [(0, .ref (c 0)), (1, .int p1), (4, .int x4), (5, .int x5), (6, .int x6_88)]) [1, 2, 3, 4, 0] rfl ?_
        refine k_goto C 46 rfl 48 (by decide) ?_
        exact k_sub [0, 1, 2, 3, 4] rfl (hk48 x4 x5 x6_88 S hf)
      refine k_iload C 26 rfl 4 rfl ?_
      refine k_aload_0 C 27 rfl 0 rfl ?_
      refine kg6_0 C 28 rfl qX6_33 0 S_c0 S_f0_0 ?_
      refine kg10_0 C 29 rfl qX6_65 8 S_c8 S_f8_0 ?_
      refine kg9_0 C 30 rfl qX6_69 9 S_c9 S_f9_0 ?_
      refine k_icmp_ge C 31 rfl 94 (by decide) (fun hc => ?_) (fun hc => ?_)
      · replace hf := if_t hf hc
        obtain ⟨x5_94, hx, hf⟩ := bnd_some hf
        refine k_iinc C 47 rfl 3 rfl ((cn_1 _).trans hx) (by decide) rfl ?_
        refine k_sub (lv2 := [(0, .ref (c 0)), (1, .int p1), (4, .int x4), (5, .int x5_94), (6, .int x6)]) [1, 2, 3, 0, 4] rfl ?_
        refine k_goto C 48 rfl 30 (by decide) ?_
        exact k_sub [0, 1, 2, 3] rfl (hk30 x4 x5_94 S hf)
      · replace hf := if_f hf hc
        refine k_aload_0 C 32 rfl 0 rfl ?_
        refine kg6_1 C 33 rfl qX6_9 0 S_c0 S_f0_1 ?_
        refine k_iload C 34 rfl 4 rfl ?_
        obtain ⟨i69, hi, hin, hf⟩ := ixd_some hf
        refine k_iald C 35 rfl 1 S_c1 hin hi ?_
        refine k_ldc C 36 rfl qX6_58 ?_
        refine k_icmp_eq C 37 rfl 88 (by decide) (fun hc => ?_) (fun hc => ?_)
        · replace hf := if_t hf hc
          exact k_sub [0, 1, 2, 3, 4] rfl (hb88 x4 x5 x6 S hf)
        · replace hf := if_f hf hc
          refine k_aload_0 C 38 rfl 0 rfl ?_
          refine k_iload_1 C 39 rfl 1 rfl ?_
          refine k_iload C 40 rfl 4 rfl ?_
          obtain ⟨r79, S_79, h5, hf⟩ := ob2_some hf
          refine k_callW C 41 (c_X6_spreadFrom Z.2.1 D cy c a S T O E X p1 x6 r79 S_79 h5) rfl qX6_74 mvX6_spreadFrom 0 6 S_c0 rfl rfl rfl (Nat.le_of_ble_eq_true rfl) ⟨Nat.le_of_ble_eq_true rfl, Nat.le_of_ble_eq_true rfl, Nat.le_refl 0, Nat.le_refl 0⟩ ?_
          refine k_if_eq C 42 rfl 88 (by decide) (fun hc => ?_) (fun hc => ?_)
          · replace hf := if_t hf hc
            exact k_sub [0, 1, 2, 3, 4] rfl (hb88 x4 x5 x6 S_79 hf)
          · replace hf := if_f hf hc
            refine k_iconst C 43 rfl ci_1 ?_
            refine k_istore C 44 rfl (by decide) rfl ?_
            refine k_sub (lv2 := [(0, .ref (c 0)), (1, .int p1), (4, .int 1), (5, .int x5), (6, .int x6)]) [1, 2, 0, 3, 4] rfl ?_
            exact k_sub [0, 1, 2, 3, 4] rfl (hb88 1 x5 x6 S_79 hf)
    have hb48 := flW4 hq48
    refine k_iload C 17 rfl 3 rfl ?_
    refine k_bipush C 18 rfl cb_8 ?_
    refine k_icmp_ge C 19 rfl 100 (by decide) (fun hc => ?_) (fun hc => ?_)
    · replace hf := if_t hf hc
      exact k_vret (wf := (fun u => (wS cy c a u T O E X))) hR 49 rfl hf
    · replace hf := if_f hf hc
      refine k_iload C 20 rfl 2 rfl ?_
      refine k_if_eq C 21 rfl 100 (by decide) (fun hc => ?_) (fun hc => ?_)
      · replace hf := if_t hf hc
        exact k_vret (wf := (fun u => (wS cy c a u T O E X))) hR 49 rfl hf
      · replace hf := if_f hf hc
        refine k_iconst C 22 rfl ci_0 ?_
        refine k_istore C 23 rfl (by decide) rfl ?_
        refine k_sub (lv2 := [(0, .ref (c 0)), (1, .int p1), (4, .int 0), (5, .int x5)]) [1, 2, 0, 3] rfl ?_
        refine k_iconst C 24 rfl ci_0 ?_
        refine k_istore C 25 rfl (by decide) rfl ?_
        refine k_sub (lv2 := [(0, .ref (c 0)), (1, .int p1), (4, .int 0), (5, .int x5), (6, .int 0)]) [1, 2, 3, 4, 0] rfl ?_
        exact k_sub [0, 1, 2, 3, 4] rfl (hb48 FU 0 x5 0 S hf)
  have hb30 := flW3 hq30
  refine k_aload_0 C 0 rfl 0 rfl ?_
  refine kg6_1 C 1 rfl qX6_9 0 S_c0 S_f0_1 ?_
  refine k_ldc C 2 rfl qX6_58 ?_
  obtain ⟨S_6, hM, hf⟩ := bnd_some hf
  refine k_fill (w2 := (wS cy c a S_6 T O E X)) C 3 rfl qX6_59 1 S_c1 (by decide) (Nat.le_of_ble_eq_true rfl) (Nat.le_of_ble_eq_true rfl) (Nat.le_of_ble_eq_true rfl) ⟨Nat.le_refl 0, Nat.le_refl 0⟩ (S_r1.trans (congrArg (fun z => (wS cy c a z T O E X)) hM)) ?_
  refine k_iload_3 C 4 rfl 3 rfl ?_
  refine k_sipush C 5 rfl cs_999 ?_
  refine k_icmp_le C 6 rfl 17 (by decide) (fun hc => ?_) (fun hc => ?_)
  · replace hf := if_t hf hc
    refine k_aload_0 C 8 rfl 0 rfl ?_
    refine kg6_1 C 9 rfl qX6_9 0 S_c0 S_f0_1 ?_
    refine k_iload_2 C 10 rfl 2 rfl ?_
    refine k_iload_3 C 11 rfl 3 rfl ?_
    obtain ⟨i23, hi, hin, hf⟩ := ixd_some hf
    obtain ⟨S_23, hM, hf⟩ := bnd_some hf
    refine k_iast (w2 := (wS cy c a S_23 T O E X)) C 12 rfl 1 S_c1 hin hi (S_s1.trans (congrArg (fun z => (wS cy c a z T O E X)) hM)) ?_
    refine k_iconst C 13 rfl ci_1 ?_
    refine k_istore C 14 rfl (by decide) rfl ?_
    refine k_sub (lv2 := [(0, .ref (c 0)), (1, .int p1), (2, .int p2), (3, .int p3), (4, .int 1)]) [1, 2, 3, 4, 0] rfl ?_
    refine k_iconst C 15 rfl ci_0 ?_
    refine k_istore C 16 rfl (by decide) rfl ?_
    refine k_sub (lv2 := [(0, .ref (c 0)), (1, .int p1), (2, .int p2), (3, .int p3), (4, .int 1), (5, .int 0)]) [1, 2, 3, 4, 5, 0] rfl ?_
    exact k_sub [0, 1, 4, 5] rfl (hb30 FU 1 0 S_23 hf)
  · replace hf := if_f hf hc
    exact k_vret (wf := (fun u => (wS cy c a u T O E X))) hR 7 rfl hf
set_option maxHeartbeats 1000000 in
set_option maxRecDepth 20000 in
theorem c_X6_lastBegin (l : Launch) (D : va_G) (cy : Nat → ClassId) (c : Nat → Nat) (a : Nat → Nat) (S : Sg) (T : Sg) (O : Sg) (E : Sg) (X : Sg) (p1 : Int32) (p2 : Int32) (p3 : Int32) (p4 : Int32) (r : Int32) (hf : f_X6_lastBegin T O p1 p2 p3 p4 = some r) : Ct l D cy yX6_lastBegin cX6_lastBegin 6 (some .int) 2 226 0 0 [.ref (c 0), .int p1, .int p2, .int p3, .int p4] (wS cy c a S T O E X) (some (.int r)) (wS cy c a S T O E X) := by
  refine Ct_i tX6_lastBegin hX6_lastBegin (by decide) (Nat.le_of_ble_eq_true rfl) ?_
  intro Z hZ C hR
  subst hZ
  replace C : Cx Z D cy RX6 tX6_lastBegin 6 2 226 0 0 := C
  show Wk Z D 6 0 0 (wS cy c a S T O E X) 0 [(0, .ref (c 0)), (1, .int p1), (2, .int p2), (3, .int p3), (4, .int p4)] []
  unfold f_X6_lastBegin at hf
  have hb50 : ∀ (x5 : Int32), f_X6_lastBegin_b50 T O p1 p2 p3 p4 x5 = some r → Wk Z D 6 0 0 (wS cy c a S T O E X) 50 [(5, .int x5)] [] := by
    intro x5 hf
    unfold f_X6_lastBegin_b50 at hf
    refine k_iload C 27 rfl 0 rfl ?_
    exact k_iretP hR 28 rfl hf
  refine k_aload_0 C 0 rfl 0 rfl ?_
  refine kg6_0 C 1 rfl qX6_33 0 S_c0 S_f0_0 ?_
  refine k_aload_0 C 2 rfl 0 rfl ?_
  refine kg6_0 C 3 rfl qX6_33 0 S_c0 S_f0_0 ?_
  refine k_iload_1 C 4 rfl 1 rfl ?_
  refine k_iload_2 C 5 rfl 2 rfl ?_
  refine k_iload_3 C 6 rfl 3 rfl ?_
  obtain ⟨r11, h5, hf⟩ := ob1_some hf
  refine k_callV (X := (wS cy c a S T O E X).take 8) (Y := (wS cy c a S T O E X).drop 31) (w2 := (wS cy c a S T O E X)) C 7 (c_X10_outsideSeconds Z.2.1 D cy a T O E X p1 p2 p3 r11 h5) rfl qX6_82 mvX10_outsideSeconds 0 10 W_c0 rfl rfl rfl rfl rfl (Nat.le_of_ble_eq_true rfl) ⟨Nat.le_of_ble_eq_true rfl, Nat.le_of_ble_eq_true rfl, Nat.le_refl 0, Nat.le_refl 0⟩ ?_
  refine k_iload C 8 rfl 4 rfl ?_
  obtain ⟨r16, h5, hf⟩ := ob1_some hf
  refine k_callV (X := (wS cy c a S T O E X).take 8) (Y := (wS cy c a S T O E X).drop 31) (w2 := (wS cy c a S T O E X)) C 9 (c_X10_outsideLatest Z.2.1 D cy a T O E X r11 p4 r16 h5) rfl qX6_111 mvX10_outsideLatest 0 10 W_c0 rfl rfl rfl rfl rfl (Nat.le_of_ble_eq_true rfl) ⟨Nat.le_of_ble_eq_true rfl, Nat.le_of_ble_eq_true rfl, Nat.le_refl 0, Nat.le_refl 0⟩ ?_
  refine k_istore C 10 rfl (by decide) rfl ?_
  refine k_sub (lv2 := [(0, .ref (c 0)), (1, .int p1), (2, .int p2), (3, .int p3), (4, .int p4), (5, .int r16)]) [1, 2, 3, 4, 5, 0] rfl ?_
  refine k_iload_2 C 11 rfl 2 rfl ?_
  refine k_iload_3 C 12 rfl 3 rfl ?_
  refine k_isub C 13 rfl ?_
  refine k_mabs C 14 rfl qX6_89 jw_abs (Nat.le_of_ble_eq_true rfl) (Nat.le_of_ble_eq_true rfl) (Nat.le_of_ble_eq_true rfl) ⟨Nat.le_refl 0, Nat.le_refl 0⟩ ?_
  refine k_iconst C 15 rfl ci_1 ?_
  refine k_icmp_ne C 16 rfl 50 (by decide) (fun hc => ?_) (fun hc => ?_)
  · replace hf := if_f hf hc
    exact k_sub [5] rfl (hb50 r16 hf)
  · replace hf := if_t hf hc
    refine k_iload C 17 rfl 5 rfl ?_
    refine k_aload_0 C 18 rfl 0 rfl ?_
    refine kg6_0 C 19 rfl qX6_33 0 S_c0 S_f0_0 ?_
    refine k_iload_1 C 20 rfl 1 rfl ?_
    refine k_iload_2 C 21 rfl 2 rfl ?_
    refine k_iload_3 C 22 rfl 3 rfl ?_
    refine k_iload C 23 rfl 4 rfl ?_
    obtain ⟨r42, h5, hf⟩ := ob1_some hf
    refine k_callV (X := (wS cy c a S T O E X).take 8) (Y := (wS cy c a S T O E X).drop 31) (w2 := (wS cy c a S T O E X)) C 24 (c_X10_insideLatest Z.2.1 D cy a T O E X p1 p2 p3 p4 r42 h5) rfl qX6_114 mvX10_insideLatest 0 10 W_c0 rfl rfl rfl rfl rfl (Nat.le_of_ble_eq_true rfl) ⟨Nat.le_of_ble_eq_true rfl, Nat.le_of_ble_eq_true rfl, Nat.le_refl 0, Nat.le_refl 0⟩ ?_
    refine k_mmax C 25 rfl qX6_49 jw_max (Nat.le_of_ble_eq_true rfl) (Nat.le_of_ble_eq_true rfl) (Nat.le_of_ble_eq_true rfl) ⟨Nat.le_refl 0, Nat.le_refl 0⟩ ?_
    obtain ⟨x5_48, hx, hf⟩ := bnd_some hf
    refine k_topi hx ?_
    refine k_istore C 26 rfl (by decide) rfl ?_
    refine k_sub (lv2 := [(0, .ref (c 0)), (1, .int p1), (2, .int p2), (3, .int p3), (4, .int p4), (5, .int x5_48)]) [1, 2, 3, 4, 5, 0] rfl ?_
    exact k_sub [5] rfl (hb50 x5_48 hf)
set_option maxHeartbeats 1000000 in
set_option maxRecDepth 20000 in
theorem c_X6_spreadBackFrom (l : Launch) (D : va_G) (cy : Nat → ClassId) (c : Nat → Nat) (a : Nat → Nat) (S : Sg) (T : Sg) (O : Sg) (E : Sg) (X : Sg) (p1 : Int32) (p2 : Int32) (r : Bool) (S1 : Sg) (hf : f_X6_spreadBackFrom S T O p1 p2 = some (r, S1)) : Ct l D cy yX6_spreadBackFrom cX6_spreadBackFrom 6 (some .boolean) 3 251 0 0 [.ref (c 0), .int p1, .int p2] (wS cy c a S T O E X) (some (.int (bI r))) (wS cy c a S1 T O E X) := by
  refine Ct_z tX6_spreadBackFrom hX6_spreadBackFrom (by decide) (Nat.le_of_ble_eq_true rfl) ?_
  intro Z hZ C hR
  subst hZ
  replace C : Cx Z D cy RX6 tX6_spreadBackFrom 6 3 251 0 0 := C
  show Wk Z D 6 0 0 (wS cy c a S T O E X) 0 [(0, .ref (c 0)), (1, .int p1), (2, .int p2)] []
  unfold f_X6_spreadBackFrom at hf
  have hq5 : ∀ (k5 : Int32 → Int32 → Sg → Option (Bool × Sg)), (∀ (x3 : Int32) (x4 : Int32) (S : Sg), k5 x3 x4 S = some (r, S1) → Wk Z D 6 0 0 (wS cy c a S T O E X) 5 [(0, .ref (c 0)), (1, .int p1), (2, .int p2), (3, .int x3), (4, .int x4)] []) → ∀ (x3 : Int32) (x4 : Int32) (S : Sg), f_X6_spreadBackFrom_b5 T O p1 p2 k5 x3 x4 S = some (r, S1) → Wk Z D 6 0 0 (wS cy c a S T O E X) 5 [(0, .ref (c 0)), (1, .int p1), (2, .int p2), (3, .int x3), (4, .int x4)] [] := by
    intro k5 hk5 x3 x4 S hf
    unfold f_X6_spreadBackFrom_b5 at hf
    have hb65 : ∀ (x3 : Int32) (x4 : Int32) (S : Sg), f_X6_spreadBackFrom_b65 T O p1 p2 k5 x3 x4 S = some (r, S1) → Wk Z D 6 0 0 (wS cy c a S T O E X) 65 [(0, .ref (c 0)), (1, .int p1), (2, .int p2), (3, .int x3), (4, .int x4)] [] := by
      intro x3 x4 S hf
      unfold f_X6_spreadBackFrom_b65 at hf
      obtain ⟨x4_65, hx, hf⟩ := bnd_some hf
      refine k_iinc C 36 rfl 4 rfl ((cn_1 _).trans hx) (by decide) rfl ?_
      refine k_sub (lv2 := [(0, .ref (c 0)), (1, .int p1), (2, .int p2), (3, .int x3), (4, .int x4_65)]) [1, 2, 3, 4, 0] rfl ?_
      refine k_goto C 37 rfl 5 (by decide) ?_
      exact k_sub [0, 1, 2, 3, 4] rfl (hk5 x3 x4_65 S hf)
    refine k_iload C 4 rfl 4 rfl ?_
    refine k_aload_0 C 5 rfl 0 rfl ?_
    refine kg6_0 C 6 rfl qX6_33 0 S_c0 S_f0_0 ?_
    refine kg10_0 C 7 rfl qX6_65 8 S_c8 S_f8_0 ?_
    refine kg9_0 C 8 rfl qX6_69 9 S_c9 S_f9_0 ?_
    refine k_icmp_ge C 9 rfl 71 (by decide) (fun hc => ?_) (fun hc => ?_)
    · replace hf := if_t hf hc
      refine k_iload_3 C 38 rfl 3 rfl ?_
      obtain ⟨b72, hx, hf⟩ := zb_some hf
      refine k_topi hx ?_
      exact k_zret (wf := (fun u => (wS cy c a u T O E X))) hR 39 rfl hf
    · replace hf := if_f hf hc
      refine k_iload C 10 rfl 4 rfl ?_
      refine k_iload_2 C 11 rfl 2 rfl ?_
      refine k_icmp_eq C 12 rfl 65 (by decide) (fun hc => ?_) (fun hc => ?_)
      · replace hf := if_t hf hc
        exact k_sub [0, 1, 2, 3, 4] rfl (hb65 x3 x4 S hf)
      · replace hf := if_f hf hc
        refine k_aload_0 C 13 rfl 0 rfl ?_
        refine k_iload_1 C 14 rfl 1 rfl ?_
        refine k_iload C 15 rfl 4 rfl ?_
        refine k_iload_2 C 16 rfl 2 rfl ?_
        refine k_aload_0 C 17 rfl 0 rfl ?_
        refine kg6_2 C 18 rfl qX6_15 0 S_c0 S_f0_2 ?_
        refine k_iload_2 C 19 rfl 2 rfl ?_
        obtain ⟨i36, hi, hin, hf⟩ := ixd_some hf
        refine k_iald C 20 rfl 2 S_c2 hin hi ?_
        obtain ⟨r37, h5, hf⟩ := ob1_some hf
        refine k_callW C 21 (c_X6_lastBegin Z.2.1 D cy c a S T O E X p1 x4 p2 (S.2.1 2 i36) r37 h5) rfl qX6_108 mvX6_lastBegin 0 6 S_c0 rfl rfl rfl (Nat.le_of_ble_eq_true rfl) ⟨Nat.le_of_ble_eq_true rfl, Nat.le_of_ble_eq_true rfl, Nat.le_refl 0, Nat.le_refl 0⟩ ?_
        refine k_istore C 22 rfl (by decide) rfl ?_
        refine k_sub (lv2 := [(0, .ref (c 0)), (1, .int p1), (2, .int p2), (3, .int x3), (4, .int x4), (5, .int r37)]) [1, 2, 3, 4, 5, 0] rfl ?_
        refine k_iload C 23 rfl 5 rfl ?_
        refine k_aload_0 C 24 rfl 0 rfl ?_
        refine kg6_2 C 25 rfl qX6_15 0 S_c0 S_f0_2 ?_
        refine k_iload C 26 rfl 4 rfl ?_
        obtain ⟨i50, hi, hin, hf⟩ := ixd_some hf
        refine k_iald C 27 rfl 2 S_c2 hin hi ?_
        refine k_icmp_le C 28 rfl 65 (by decide) (fun hc => ?_) (fun hc => ?_)
        · replace hf := if_t hf hc
          exact k_sub [0, 1, 2, 3, 4] rfl (hb65 x3 x4 S hf)
        · replace hf := if_f hf hc
          refine k_aload_0 C 29 rfl 0 rfl ?_
          refine kg6_2 C 30 rfl qX6_15 0 S_c0 S_f0_2 ?_
          refine k_iload C 31 rfl 4 rfl ?_
          refine k_iload C 32 rfl 5 rfl ?_
          obtain ⟨i62, hi, hin, hf⟩ := ixd_some hf
          obtain ⟨S_62, hM, hf⟩ := bnd_some hf
          refine k_iast (w2 := (wS cy c a S_62 T O E X)) C 33 rfl 2 S_c2 hin hi (S_s2.trans (congrArg (fun z => (wS cy c a z T O E X)) hM)) ?_
          refine k_iconst C 34 rfl ci_1 ?_
          refine k_istore_3 C 35 rfl (by decide) rfl ?_
          refine k_sub (lv2 := [(0, .ref (c 0)), (1, .int p1), (2, .int p2), (3, .int 1), (4, .int x4), (5, .int r37)]) [1, 2, 3, 0, 4, 5] rfl ?_
          exact k_sub [0, 1, 2, 3, 4] rfl (hb65 1 x4 S_62 hf)
  have hb5 := flW3 hq5
  refine k_iconst C 0 rfl ci_0 ?_
  refine k_istore_3 C 1 rfl (by decide) rfl ?_
  refine k_sub (lv2 := [(0, .ref (c 0)), (1, .int p1), (2, .int p2), (3, .int 0)]) [1, 2, 3, 0] rfl ?_
  refine k_iconst C 2 rfl ci_0 ?_
  refine k_istore C 3 rfl (by decide) rfl ?_
  refine k_sub (lv2 := [(0, .ref (c 0)), (1, .int p1), (2, .int p2), (3, .int 0), (4, .int 0)]) [1, 2, 3, 4, 0] rfl ?_
  exact k_sub [0, 1, 2, 3, 4] rfl (hb5 FU 0 0 S hf)
