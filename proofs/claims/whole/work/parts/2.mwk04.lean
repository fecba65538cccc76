set_option maxHeartbeats 1000000 in
set_option maxRecDepth 20000 in
theorem c_X12_pass (l : Launch) (D : va_G) (cy : Nat → ClassId) (a : Nat → Nat) (M : Sg) (p1 : Int32) (r : Int32) (M1 : Sg) (hf : f_X12_pass M p1 = some (r, M1)) : Ct l D cy yX12_pass cX12_pass 3 (some .int) 1 25 0 0 [.ref (a 0), .int p1] (mw cy a M) (some (.int r)) (mw cy a M1) := by
  refine Ct_i tX12_pass hX12_pass (by decide) (Nat.le_of_ble_eq_true rfl) ?_
  intro Z hZ C hR
  subst hZ
  replace C : Cx Z D cy RX12 tX12_pass 3 1 25 0 0 := C
  show Wk Z D 3 0 0 (mw cy a M) 0 [(0, .ref (a 0)), (1, .int p1)] []
  unfold f_X12_pass at hf
  have hq41 : ∀ (k41 : Int32 → Sg → Option (Int32 × Sg)), (∀ (x2 : Int32) (M : Sg), k41 x2 M = some (r, M1) → Wk Z D 3 0 0 (mw cy a M) 41 [(0, .ref (a 0)), (1, .int p1), (2, .int x2)] []) → ∀ (x2 : Int32) (M : Sg), f_X12_pass_b41 p1 k41 x2 M = some (r, M1) → Wk Z D 3 0 0 (mw cy a M) 41 [(0, .ref (a 0)), (1, .int p1), (2, .int x2)] [] := by
    intro k41 hk41 x2 M hf
    unfold f_X12_pass_b41 at hf
    refine k_iload_2 C 23 rfl 2 rfl ?_
    refine k_iload_1 C 24 rfl 1 rfl ?_
    refine k_icmp_ge C 25 rfl 56 (by decide) (fun hc => ?_) (fun hc => ?_)
    · replace hf := if_t hf hc
      refine k_aload_0 C 30 rfl 0 rfl ?_
      refine kg12_20 C 31 rfl qX12_39 0 M_c0 M_f0_20 ?_
      refine k_iconst C 32 rfl ci_3 ?_
      refine k_iald C 33 rfl 10 M_c10 vi_3_137 tc_3 ?_
      exact k_iret (wf := (fun u => (mw cy a u))) hR 34 rfl hf
    · replace hf := if_f hf hc
      refine k_aload_0 C 26 rfl 0 rfl ?_
      obtain ⟨M_47, h5, hf⟩ := ob1_some hf
      refine k_callW C 27 (c_X12_secondComes Z.2.1 D cy a M M_47 h5) rfl qX12_380 mvX12_secondComes 0 12 M_c0 rfl rfl rfl (Nat.le_of_ble_eq_true rfl) ⟨Nat.le_of_ble_eq_true rfl, Nat.le_of_ble_eq_true rfl, Nat.le_refl 0, Nat.le_refl 0⟩ ?_
      obtain ⟨x2_50, hx, hf⟩ := bnd_some hf
      refine k_iinc C 28 rfl 2 rfl ((cn_1 _).trans hx) (by decide) rfl ?_
      refine k_sub (lv2 := [(0, .ref (a 0)), (1, .int p1), (2, .int x2_50)]) [1, 2, 0] rfl ?_
      refine k_goto C 29 rfl 41 (by decide) ?_
      exact k_sub [0, 1, 2] rfl (hk41 x2_50 M_47 hf)
  have hb41 := flW2 hq41
  have hb33 : ∀ (M : Sg), f_X12_pass_b33 p1 M = some (r, M1) → Wk Z D 3 0 0 (mw cy a M) 33 [] [] := by
    intro M hf
    unfold f_X12_pass_b33 at hf
    refine k_iconst C 17 rfl ci_m1 ?_
    exact k_iret (wf := (fun u => (mw cy a u))) hR 18 rfl hf
  refine k_aload_0 C 0 rfl 0 rfl ?_
  obtain ⟨r1, h5, hf⟩ := ob1_some hf
  refine k_callW C 1 (c_X12_isLine Z.2.1 D cy a M r1 h5) rfl qX12_375 mvX12_isLine 0 12 M_c0 rfl rfl rfl (Nat.le_of_ble_eq_true rfl) ⟨Nat.le_of_ble_eq_true rfl, Nat.le_of_ble_eq_true rfl, Nat.le_refl 0, Nat.le_refl 0⟩ ?_
  refine k_if_eq C 2 rfl 33 (by decide) (fun hc => ?_) (fun hc => ?_)
  · replace hf := if_t hf hc
    exact k_sub [] rfl (hb33 M hf)
  · replace hf := if_f hf hc
    refine k_iload_1 C 3 rfl 1 rfl ?_
    refine k_i2l C 4 rfl ?_
    refine k_lconst1 C 5 rfl ?_
    refine k_ldc2 C 6 rfl qX12_378 ?_
    obtain ⟨r13, h5, hf⟩ := ob1_some hf
    refine k_callE C 7 (c_X12_in Z.2.1 D cy p1.toInt64 (1 : Int64) (99 : Int64) r13 h5) rfl qX12_124 msX12_in rfl rfl (Nat.le_of_ble_eq_true rfl) ⟨Nat.le_of_ble_eq_true rfl, Nat.le_of_ble_eq_true rfl, Nat.le_refl 0, Nat.le_refl 0⟩ ?_
    refine k_if_eq C 8 rfl 33 (by decide) (fun hc => ?_) (fun hc => ?_)
    · replace hf := if_t hf hc
      exact k_sub [] rfl (hb33 M hf)
    · replace hf := if_f hf hc
      refine k_aload_0 C 9 rfl 0 rfl ?_
      refine kg12_20 C 10 rfl qX12_39 0 M_c0 M_f0_20 ?_
      refine k_iconst C 11 rfl ci_3 ?_
      refine k_iald C 12 rfl 10 M_c10 vi_3_137 tc_3 ?_
      refine k_iload_1 C 13 rfl 1 rfl ?_
      refine k_iadd C 14 rfl ?_
      refine k_sipush C 15 rfl cs_999 ?_
      refine k_icmp_le C 16 rfl 35 (by decide) (fun hc => ?_) (fun hc => ?_)
      · replace hf := if_t hf hc
        refine k_aload_0 C 19 rfl 0 rfl ?_
        obtain ⟨M_36, h5, hf⟩ := ob1_some hf
        refine k_callW C 20 (c_X12_keeps Z.2.1 D cy a M M_36 h5) rfl qX12_365 mvX12_keeps 0 12 M_c0 rfl rfl rfl (Nat.le_of_ble_eq_true rfl) ⟨Nat.le_of_ble_eq_true rfl, Nat.le_of_ble_eq_true rfl, Nat.le_refl 0, Nat.le_refl 0⟩ ?_
        refine k_iconst C 21 rfl ci_0 ?_
        refine k_istore_2 C 22 rfl (by decide) rfl ?_
        refine k_sub (lv2 := [(0, .ref (a 0)), (1, .int p1), (2, .int 0)]) [1, 2, 0] rfl ?_
        exact k_sub [0, 1, 2] rfl (hb41 FU 0 M_36 hf)
      · replace hf := if_f hf hc
        exact k_sub [] rfl (hb33 M hf)
set_option maxHeartbeats 1000000 in
set_option maxRecDepth 20000 in
theorem c_X12_shut (l : Launch) (D : va_G) (cy : Nat → ClassId) (a : Nat → Nat) (M : Sg) (p1 : Int32) (p2 : Bool) (r : Bool) (M1 : Sg) (hf : f_X12_shut M p1 p2 = some (r, M1)) : Ct l D cy yX12_shut cX12_shut 3 (some .boolean) 1 21 0 0 [.ref (a 0), .int p1, .int (bI p2)] (mw cy a M) (some (.int (bI r))) (mw cy a M1) := by
  refine Ct_z tX12_shut hX12_shut (by decide) (Nat.le_of_ble_eq_true rfl) ?_
  intro Z hZ C hR
  subst hZ
  replace C : Cx Z D cy RX12 tX12_shut 3 1 21 0 0 := C
  show Wk Z D 3 0 0 (mw cy a M) 0 [(0, .ref (a 0)), (1, .int p1), (2, .int (bI p2))] []
  unfold f_X12_shut at hf
  have hb53 : ∀ (s1 : Int32) (s2 : Int32) (M : Sg), f_X12_shut_b53 p1 p2 s1 s2 M = some (r, M1) → Wk Z D 3 0 0 (mw cy a M) 53 [] [.int s2, .int s1, .ref (a 21)] := by
    intro s1 s2 M hf
    unfold f_X12_shut_b53 at hf
    obtain ⟨i53, hi, hin, hf⟩ := ixd_some hf
    obtain ⟨M_53, hM, hf⟩ := bnd_some hf
    refine k_iast (w2 := (mw cy a M_53)) C 31 rfl 10 M_c10 hin hi (M_s10.trans (congrArg (fun z => (mw cy a z)) hM)) ?_
    refine k_iconst C 32 rfl ci_1 ?_
    exact k_zret (wf := (fun u => (mw cy a u))) hR 33 rfl hf
  have hb30 : ∀ (M : Sg), f_X12_shut_b30 p1 p2 M = some (r, M1) → Wk Z D 3 0 0 (mw cy a M) 30 [] [] := by
    intro M hf
    unfold f_X12_shut_b30 at hf
    refine k_iconst C 17 rfl ci_0 ?_
    exact k_zret (wf := (fun u => (mw cy a u))) hR 18 rfl hf
  have hb26 : ∀ (s0 : Int32) (M : Sg), f_X12_shut_b26 p1 p2 s0 M = some (r, M1) → Wk Z D 3 0 0 (mw cy a M) 26 [(0, .ref (a 0)), (1, .int p1), (2, .int (bI p2))] [.int s0] := by
    intro s0 M hf
    unfold f_X12_shut_b26 at hf
    refine k_iload_2 C 15 rfl 2 rfl ?_
    refine k_icmp_ne C 16 rfl 32 (by decide) (fun hc => ?_) (fun hc => ?_)
    · replace hf := if_f hf hc
      refine k_aload_0 C 19 rfl 0 rfl ?_
      obtain ⟨M_33, h5, hf⟩ := ob1_some hf
      refine k_callW C 20 (c_X12_keeps Z.2.1 D cy a M M_33 h5) rfl qX12_365 mvX12_keeps 0 12 M_c0 rfl rfl rfl (Nat.le_of_ble_eq_true rfl) ⟨Nat.le_of_ble_eq_true rfl, Nat.le_of_ble_eq_true rfl, Nat.le_refl 0, Nat.le_refl 0⟩ ?_
      refine k_aload_0 C 21 rfl 0 rfl ?_
      refine kg12_20 C 22 rfl qX12_39 0 M_c0 M_f0_20 ?_
      refine k_bipush C 23 rfl cb_30 ?_
      refine k_iload_1 C 24 rfl 1 rfl ?_
      refine k_iadd C 25 rfl ?_
      refine k_iload_2 C 26 rfl 2 rfl ?_
      refine k_if_eq C 27 rfl 52 (by decide) (fun hc => ?_) (fun hc => ?_)
      · replace hf := if_t hf hc
        refine k_iconst C 30 rfl ci_0 ?_
        exact k_sub [] rfl (hb53 (30 + p1) 0 M_33 hf)
      · replace hf := if_f hf hc
        refine k_iconst C 28 rfl ci_1 ?_
        refine k_goto C 29 rfl 53 (by decide) ?_
        exact k_sub [] rfl (hb53 (30 + p1) 1 M_33 hf)
    · replace hf := if_t hf hc
      exact k_sub [] rfl (hb30 M hf)
  refine k_aload_0 C 0 rfl 0 rfl ?_
  refine k_iload_1 C 1 rfl 1 rfl ?_
  obtain ⟨r2, h5, hf⟩ := ob1_some hf
  refine k_callW C 2 (c_X12_isWay Z.2.1 D cy a M p1 r2 h5) rfl qX12_335 mvX12_isWay 0 12 M_c0 rfl rfl rfl (Nat.le_of_ble_eq_true rfl) ⟨Nat.le_of_ble_eq_true rfl, Nat.le_of_ble_eq_true rfl, Nat.le_refl 0, Nat.le_refl 0⟩ ?_
  refine k_if_eq C 3 rfl 30 (by decide) (fun hc => ?_) (fun hc => ?_)
  · replace hf := if_t hf hc
    exact k_sub [] rfl (hb30 M hf)
  · replace hf := if_f hf hc
    refine k_aload_0 C 4 rfl 0 rfl ?_
    refine kg12_20 C 5 rfl qX12_39 0 M_c0 M_f0_20 ?_
    refine k_bipush C 6 rfl cb_30 ?_
    refine k_iload_1 C 7 rfl 1 rfl ?_
    refine k_iadd C 8 rfl ?_
    obtain ⟨i16, hi, hin, hf⟩ := ixd_some hf
    refine k_iald C 9 rfl 10 M_c10 hin hi ?_
    refine k_iconst C 10 rfl ci_1 ?_
    refine k_icmp_ne C 11 rfl 25 (by decide) (fun hc => ?_) (fun hc => ?_)
    · replace hf := if_f hf hc
      refine k_iconst C 14 rfl ci_0 ?_
      exact k_sub [0, 1, 2] rfl (hb26 0 M hf)
    · replace hf := if_t hf hc
      refine k_iconst C 12 rfl ci_1 ?_
      refine k_goto C 13 rfl 26 (by decide) ?_
      exact k_sub [0, 1, 2] rfl (hb26 1 M hf)
set_option maxHeartbeats 1000000 in
set_option maxRecDepth 20000 in
theorem c_X12_nearest (l : Launch) (D : va_G) (cy : Nat → ClassId) (a : Nat → Nat) (M : Sg) (p1 : Int32) (r : Int32) (hf : f_X12_nearest M p1 = some r) : Ct l D cy yX12_nearest cX12_nearest 7 (some .int) 2 44 0 0 [.ref (a 0), .int p1] (mw cy a M) (some (.int r)) (mw cy a M) := by
  refine Ct_i tX12_nearest hX12_nearest (by decide) (Nat.le_of_ble_eq_true rfl) ?_
  intro Z hZ C hR
  subst hZ
  replace C : Cx Z D cy RX12 tX12_nearest 7 2 44 0 0 := C
  show Wk Z D 7 0 0 (mw cy a M) 0 [(0, .ref (a 0)), (1, .int p1)] []
  unfold f_X12_nearest at hf
  have hq12 : ∀ (k12 : Int32 → Int32 → Int32 → Option (Int32)), (∀ (x2 : Int32) (x3 : Int32) (x4 : Int32), k12 x2 x3 x4 = some r → Wk Z D 7 0 0 (mw cy a M) 12 [(0, .ref (a 0)), (1, .int p1), (2, .int x2), (3, .int x3), (4, .int x4)] []) → ∀ (x2 : Int32) (x3 : Int32) (x4 : Int32), f_X12_nearest_b12 M p1 k12 x2 x3 x4 = some r → Wk Z D 7 0 0 (mw cy a M) 12 [(0, .ref (a 0)), (1, .int p1), (2, .int x2), (3, .int x3), (4, .int x4)] [] := by
    intro k12 hk12 x2 x3 x4 hf
    unfold f_X12_nearest_b12 at hf
    have hb95 : ∀ (x2 : Int32) (x3 : Int32) (x4 : Int32), f_X12_nearest_b95 M p1 k12 x2 x3 x4 = some r → Wk Z D 7 0 0 (mw cy a M) 95 [(0, .ref (a 0)), (1, .int p1), (2, .int x2), (3, .int x3), (4, .int x4)] [] := by
      intro x2 x3 x4 hf
      unfold f_X12_nearest_b95 at hf
      obtain ⟨x4_95, hx, hf⟩ := bnd_some hf
      refine k_iinc C 54 rfl 4 rfl ((cn_1 _).trans hx) (by decide) rfl ?_
      refine k_sub (lv2 := [(0, .ref (a 0)), (1, .int p1), (2, .int x2), (3, .int x3), (4, .int x4_95)]) [1, 2, 3, 4, 0] rfl ?_
      refine k_goto C 55 rfl 12 (by decide) ?_
      exact k_sub [0, 1, 2, 3, 4] rfl (hk12 x2 x3 x4_95 hf)
    have hb94 : ∀ (x3 : Int32) (x4 : Int32) (s0 : Int32), f_X12_nearest_b94 M p1 k12 x3 x4 s0 = some r → Wk Z D 7 0 0 (mw cy a M) 94 [(0, .ref (a 0)), (1, .int p1), (3, .int x3), (4, .int x4)] [.int s0] := by
      intro x3 x4 s0 hf
      unfold f_X12_nearest_b94 at hf
      refine k_istore_2 C 53 rfl (by decide) rfl ?_
      refine k_sub (lv2 := [(0, .ref (a 0)), (1, .int p1), (2, .int s0), (3, .int x3), (4, .int x4)]) [1, 2, 0, 3, 4] rfl ?_
      exact k_sub [0, 1, 2, 3, 4] rfl (hb95 s0 x3 x4 hf)
    have hb79 : ∀ (x2 : Int32) (x3 : Int32) (x4 : Int32) (x5 : Int32) (s0 : Int32), f_X12_nearest_b79 M p1 k12 x2 x3 x4 x5 s0 = some r → Wk Z D 7 0 0 (mw cy a M) 79 [(0, .ref (a 0)), (1, .int p1), (2, .int x2), (3, .int x3), (4, .int x4), (5, .int x5)] [.int s0] := by
      intro x2 x3 x4 x5 s0 hf
      unfold f_X12_nearest_b79 at hf
      refine k_istore C 46 rfl (by decide) rfl ?_
      refine k_sub (lv2 := [(0, .ref (a 0)), (1, .int p1), (2, .int x2), (3, .int x3), (4, .int x4), (5, .int x5), (6, .int s0)]) [1, 2, 3, 4, 5, 6, 0] rfl ?_
      refine k_iload C 47 rfl 5 rfl ?_
      refine k_iload C 48 rfl 6 rfl ?_
      refine k_icmp_ge C 49 rfl 93 (by decide) (fun hc => ?_) (fun hc => ?_)
      · replace hf := if_t hf hc
        refine k_iload_2 C 52 rfl 2 rfl ?_
        exact k_sub [0, 1, 3, 4] rfl (hb94 x3 x4 x2 hf)
      · replace hf := if_f hf hc
        refine k_iload C 50 rfl 4 rfl ?_
        refine k_goto C 51 rfl 94 (by decide) ?_
        exact k_sub [0, 1, 3, 4] rfl (hb94 x3 x4 x4 hf)
    have hb53 : ∀ (x2 : Int32) (x3 : Int32) (x4 : Int32) (s0 : Int32), f_X12_nearest_b53 M p1 k12 x2 x3 x4 s0 = some r → Wk Z D 7 0 0 (mw cy a M) 53 [(0, .ref (a 0)), (1, .int p1), (2, .int x2), (3, .int x3), (4, .int x4)] [.int s0] := by
      intro x2 x3 x4 s0 hf
      unfold f_X12_nearest_b53 at hf
      refine k_istore C 31 rfl (by decide) rfl ?_
      refine k_sub (lv2 := [(0, .ref (a 0)), (1, .int p1), (2, .int x2), (3, .int x3), (4, .int x4), (5, .int s0)]) [1, 2, 3, 4, 5, 0] rfl ?_
      refine k_iload_2 C 32 rfl 2 rfl ?_
      refine k_if_ge C 33 rfl 65 (by decide) (fun hc => ?_) (fun hc => ?_)
      · replace hf := if_t hf hc
        refine k_iload_2 C 36 rfl 2 rfl ?_
        refine k_iload_3 C 37 rfl 3 rfl ?_
        refine k_icmp_ge C 38 rfl 76 (by decide) (fun hc => ?_) (fun hc => ?_)
        · replace hf := if_t hf hc
          refine k_iload_2 C 43 rfl 2 rfl ?_
          refine k_iload_3 C 44 rfl 3 rfl ?_
          refine k_isub C 45 rfl ?_
          exact k_sub [0, 1, 2, 3, 4, 5] rfl (hb79 x2 x3 x4 s0 (x2 - x3) hf)
        · replace hf := if_f hf hc
          refine k_iload_3 C 39 rfl 3 rfl ?_
          refine k_iload_2 C 40 rfl 2 rfl ?_
          refine k_isub C 41 rfl ?_
          refine k_goto C 42 rfl 79 (by decide) ?_
          exact k_sub [0, 1, 2, 3, 4, 5] rfl (hb79 x2 x3 x4 s0 (x3 - x2) hf)
      · replace hf := if_f hf hc
        refine k_sipush C 34 rfl cs_999 ?_
        refine k_goto C 35 rfl 79 (by decide) ?_
        exact k_sub [0, 1, 2, 3, 4, 5] rfl (hb79 x2 x3 x4 s0 999 hf)
    refine k_iload C 9 rfl 4 rfl ?_
    refine k_aload_0 C 10 rfl 0 rfl ?_
    refine kg12_20 C 11 rfl qX12_39 0 M_c0 M_f0_20 ?_
    refine k_iconst C 12 rfl ci_0 ?_
    refine k_iald C 13 rfl 10 M_c10 vi_0_137 tc_0 ?_
    refine k_icmp_ge C 14 rfl 101 (by decide) (fun hc => ?_) (fun hc => ?_)
    · replace hf := if_t hf hc
      refine k_iload_2 C 56 rfl 2 rfl ?_
      exact k_iretP hR 57 rfl hf
    · replace hf := if_f hf hc
      refine k_aload_0 C 15 rfl 0 rfl ?_
      refine k_iload_1 C 16 rfl 1 rfl ?_
      refine k_iload C 17 rfl 4 rfl ?_
      obtain ⟨r27, h5, hf⟩ := ob1_some hf
      refine k_callW C 18 (c_X12_isRight Z.2.1 D cy a M p1 x4 r27 h5) rfl qX12_346 mvX12_isRight 0 12 M_c0 rfl rfl rfl (Nat.le_of_ble_eq_true rfl) ⟨Nat.le_of_ble_eq_true rfl, Nat.le_of_ble_eq_true rfl, Nat.le_refl 0, Nat.le_refl 0⟩ ?_
      refine k_if_ne C 19 rfl 36 (by decide) (fun hc => ?_) (fun hc => ?_)
      · replace hf := if_f hf hc
        refine k_iload C 21 rfl 4 rfl ?_
        refine k_iload_3 C 22 rfl 3 rfl ?_
        refine k_icmp_ge C 23 rfl 49 (by decide) (fun hc => ?_) (fun hc => ?_)
        · replace hf := if_t hf hc
          refine k_iload C 28 rfl 4 rfl ?_
          refine k_iload_3 C 29 rfl 3 rfl ?_
          refine k_isub C 30 rfl ?_
          exact k_sub [0, 1, 2, 3, 4] rfl (hb53 x2 x3 x4 (x4 - x3) hf)
        · replace hf := if_f hf hc
          refine k_iload_3 C 24 rfl 3 rfl ?_
          refine k_iload C 25 rfl 4 rfl ?_
          refine k_isub C 26 rfl ?_
          refine k_goto C 27 rfl 53 (by decide) ?_
          exact k_sub [0, 1, 2, 3, 4] rfl (hb53 x2 x3 x4 (x3 - x4) hf)
      · replace hf := if_t hf hc
        refine k_goto C 20 rfl 95 (by decide) ?_
        exact k_sub [0, 1, 2, 3, 4] rfl (hb95 x2 x3 x4 hf)
  have hb12 := flW3 hq12
  refine k_iconst C 0 rfl ci_m1 ?_
  refine k_istore_2 C 1 rfl (by decide) rfl ?_
  refine k_sub (lv2 := [(0, .ref (a 0)), (1, .int p1), (2, .int (-1))]) [1, 2, 0] rfl ?_
  refine k_aload_0 C 2 rfl 0 rfl ?_
  refine k_iload_1 C 3 rfl 1 rfl ?_
  refine k_iconst C 4 rfl ci_0 ?_
  obtain ⟨r5, h5, hf⟩ := ob1_some hf
  refine k_callW C 5 (c_X12_riderOf Z.2.1 D cy a M p1 0 r5 h5) rfl qX12_312 mvX12_riderOf 0 12 M_c0 rfl rfl rfl (Nat.le_of_ble_eq_true rfl) ⟨Nat.le_of_ble_eq_true rfl, Nat.le_of_ble_eq_true rfl, Nat.le_refl 0, Nat.le_refl 0⟩ ?_
  refine k_istore_3 C 6 rfl (by decide) rfl ?_
  refine k_sub (lv2 := [(0, .ref (a 0)), (1, .int p1), (2, .int (-1)), (3, .int r5)]) [1, 2, 3, 0] rfl ?_
  refine k_iconst C 7 rfl ci_0 ?_
  refine k_istore C 8 rfl (by decide) rfl ?_
  refine k_sub (lv2 := [(0, .ref (a 0)), (1, .int p1), (2, .int (-1)), (3, .int r5), (4, .int 0)]) [1, 2, 3, 4, 0] rfl ?_
  exact k_sub [0, 1, 2, 3, 4] rfl (hb12 FU (-1) r5 0 hf)
set_option maxHeartbeats 1000000 in
set_option maxRecDepth 20000 in
theorem c_X12_words (l : Launch) (D : va_G) (cy : Nat → ClassId) (a : Nat → Nat) (M : Sg) (p1 : Int32) (M1 : Sg) (hf : f_X12_words M p1 = some M1) : Ct l D cy yX12_words cX12_words 5 none 3 70 0 0 [.ref (a 0), .int p1] (mw cy a M) none (mw cy a M1) := by
  refine Ct_v tX12_words hX12_words (by decide) (Nat.le_of_ble_eq_true rfl) ?_
  intro Z hZ C hR
  subst hZ
  replace C : Cx Z D cy RX12 tX12_words 5 3 70 0 0 := C
  show Wk Z D 5 0 0 (mw cy a M) 0 [(0, .ref (a 0)), (1, .int p1)] []
  unfold f_X12_words at hf
  have hb178 : ∀ (x2 : Int32) (s1 : Int32) (s2 : Int64) (M : Sg), f_X12_words_b178 p1 x2 s1 s2 M = some M1 → Wk Z D 5 0 0 (mw cy a M) 178 [(0, .ref (a 0)), (1, .int p1), (2, .int x2)] [.long s2, .int s1, .ref (a 20)] := by
    intro x2 s1 s2 M hf
    unfold f_X12_words_b178 at hf
    obtain ⟨i178, hi, hin, hf⟩ := ixd_some hf
    obtain ⟨M_178, hM, hf⟩ := bnd_some hf
    refine k_last (w2 := (mw cy a M_178)) C 112 rfl 9 M_c9 hin hi (M_s9.trans (congrArg (fun z => (mw cy a z)) hM)) ?_
    refine k_aload_0 C 113 rfl 0 rfl ?_
    refine kg12_19 C 114 rfl qX12_36 0 M_c0 M_f0_19 ?_
    refine k_bipush C 115 rfl cb_8 ?_
    refine k_aload_0 C 116 rfl 0 rfl ?_
    refine k_iload_1 C 117 rfl 1 rfl ?_
    refine k_iconst C 118 rfl ci_3 ?_
    obtain ⟨r188, h5, hf⟩ := ob1_some hf
    refine k_callW C 119 (c_X12_riderOf Z.2.1 D cy a M_178 p1 3 r188 h5) rfl qX12_312 mvX12_riderOf 0 12 M_c0 rfl rfl rfl (Nat.le_of_ble_eq_true rfl) ⟨Nat.le_of_ble_eq_true rfl, Nat.le_of_ble_eq_true rfl, Nat.le_refl 0, Nat.le_refl 0⟩ ?_
    refine k_i2l C 120 rfl ?_
    obtain ⟨M_192, hM, hf⟩ := bnd_some hf
    refine k_last (w2 := (mw cy a M_192)) C 121 rfl 9 M_c9 vi_8_13 tc_8 (M_s9.trans (congrArg (fun z => (mw cy a z)) hM)) ?_
    refine k_aload_0 C 122 rfl 0 rfl ?_
    refine kg12_19 C 123 rfl qX12_36 0 M_c0 M_f0_19 ?_
    refine k_bipush C 124 rfl cb_9 ?_
    refine k_aload_0 C 125 rfl 0 rfl ?_
    refine k_iload_1 C 126 rfl 1 rfl ?_
    refine k_iconst C 127 rfl ci_2 ?_
    obtain ⟨r202, h5, hf⟩ := ob1_some hf
    refine k_callW C 128 (c_X12_riderOf Z.2.1 D cy a M_192 p1 2 r202 h5) rfl qX12_312 mvX12_riderOf 0 12 M_c0 rfl rfl rfl (Nat.le_of_ble_eq_true rfl) ⟨Nat.le_of_ble_eq_true rfl, Nat.le_of_ble_eq_true rfl, Nat.le_refl 0, Nat.le_refl 0⟩ ?_
    refine k_i2l C 129 rfl ?_
    obtain ⟨M_206, hM, hf⟩ := bnd_some hf
    refine k_last (w2 := (mw cy a M_206)) C 130 rfl 9 M_c9 vi_9_13 tc_9 (M_s9.trans (congrArg (fun z => (mw cy a z)) hM)) ?_
    refine k_aload_0 C 131 rfl 0 rfl ?_
    refine kg12_19 C 132 rfl qX12_36 0 M_c0 M_f0_19 ?_
    refine k_bipush C 133 rfl cb_10 ?_
    refine k_aload_0 C 134 rfl 0 rfl ?_
    refine k_iload_2 C 135 rfl 2 rfl ?_
    obtain ⟨r215, h5, hf⟩ := ob1_some hf
    refine k_callW C 136 (c_X12_ridersIn Z.2.1 D cy a M_206 x2 r215 h5) rfl qX12_332 mvX12_ridersIn 0 12 M_c0 rfl rfl rfl (Nat.le_of_ble_eq_true rfl) ⟨Nat.le_of_ble_eq_true rfl, Nat.le_of_ble_eq_true rfl, Nat.le_refl 0, Nat.le_refl 0⟩ ?_
    obtain ⟨r218, h5, hf⟩ := ob1_some hf
    refine k_callE C 137 (c_X12_bits Z.2.1 D cy r215 r218 h5) rfl qX12_389 msX12_bits rfl rfl (Nat.le_of_ble_eq_true rfl) ⟨Nat.le_of_ble_eq_true rfl, Nat.le_of_ble_eq_true rfl, Nat.le_refl 0, Nat.le_refl 0⟩ ?_
    refine k_i2l C 138 rfl ?_
    obtain ⟨M_222, hM, hf⟩ := bnd_some hf
    refine k_last (w2 := (mw cy a M_222)) C 139 rfl 9 M_c9 vi_10_13 tc_10 (M_s9.trans (congrArg (fun z => (mw cy a z)) hM)) ?_
    refine k_aload_0 C 140 rfl 0 rfl ?_
    refine kg12_19 C 141 rfl qX12_36 0 M_c0 M_f0_19 ?_
    refine k_bipush C 142 rfl cb_11 ?_
    refine k_aload_0 C 143 rfl 0 rfl ?_
    refine kg12_20 C 144 rfl qX12_39 0 M_c0 M_f0_20 ?_
    refine k_bipush C 145 rfl cb_44 ?_
    refine k_iload_2 C 146 rfl 2 rfl ?_
    refine k_iadd C 147 rfl ?_
    obtain ⟨i237, hi, hin, hf⟩ := ixd_some hf
    refine k_iald C 148 rfl 10 M_c10 hin hi ?_
    refine k_i2l C 149 rfl ?_
    obtain ⟨M_239, hM, hf⟩ := bnd_some hf
    refine k_last (w2 := (mw cy a M_239)) C 150 rfl 9 M_c9 vi_11_13 tc_11 (M_s9.trans (congrArg (fun z => (mw cy a z)) hM)) ?_
    refine k_aload_0 C 151 rfl 0 rfl ?_
    refine kg12_19 C 152 rfl qX12_36 0 M_c0 M_f0_19 ?_
    refine k_bipush C 153 rfl cb_12 ?_
    refine k_aload_0 C 154 rfl 0 rfl ?_
    refine k_iload_1 C 155 rfl 1 rfl ?_
    refine k_bipush C 156 rfl cb_7 ?_
    obtain ⟨r250, h5, hf⟩ := ob1_some hf
    refine k_callW C 157 (c_X12_riderOf Z.2.1 D cy a M_239 p1 7 r250 h5) rfl qX12_312 mvX12_riderOf 0 12 M_c0 rfl rfl rfl (Nat.le_of_ble_eq_true rfl) ⟨Nat.le_of_ble_eq_true rfl, Nat.le_of_ble_eq_true rfl, Nat.le_refl 0, Nat.le_refl 0⟩ ?_
    refine k_i2l C 158 rfl ?_
    obtain ⟨M_254, hM, hf⟩ := bnd_some hf
    refine k_last (w2 := (mw cy a M_254)) C 159 rfl 9 M_c9 vi_12_13 tc_12 (M_s9.trans (congrArg (fun z => (mw cy a z)) hM)) ?_
    exact k_vret (wf := (fun u => (mw cy a u))) hR 160 rfl hf
  have hb140 : ∀ (x2 : Int32) (x4 : Int32) (s1 : Int32) (s2 : Int64) (M : Sg), f_X12_words_b140 p1 x2 x4 s1 s2 M = some M1 → Wk Z D 5 0 0 (mw cy a M) 140 [(0, .ref (a 0)), (1, .int p1), (2, .int x2), (4, .int x4)] [.long s2, .int s1, .ref (a 20)] := by
    intro x2 x4 s1 s2 M hf
    unfold f_X12_words_b140 at hf
    obtain ⟨i140, hi, hin, hf⟩ := ixd_some hf
    obtain ⟨M_140, hM, hf⟩ := bnd_some hf
    refine k_last (w2 := (mw cy a M_140)) C 88 rfl 9 M_c9 hin hi (M_s9.trans (congrArg (fun z => (mw cy a z)) hM)) ?_
    refine k_aload_0 C 89 rfl 0 rfl ?_
    refine kg12_19 C 90 rfl qX12_36 0 M_c0 M_f0_19 ?_
    refine k_bipush C 91 rfl cb_7 ?_
    refine k_iload C 92 rfl 3 rfl ?_
    refine k_if_ge C 93 rfl 156 (by decide) (fun hc => ?_) (fun hc => ?_)
    · replace hf := if_t hf hc
      refine k_aload_0 C 96 rfl 0 rfl ?_
      refine kg12_20 C 97 rfl qX12_39 0 M_c0 M_f0_20 ?_
      refine k_bipush C 98 rfl cb_18 ?_
      refine k_iconst C 99 rfl ci_2 ?_
      refine k_iload C 100 rfl 3 rfl ?_
      refine k_imul C 101 rfl ?_
      refine k_iadd C 102 rfl ?_
      refine k_iconst C 103 rfl ci_1 ?_
      refine k_iadd C 104 rfl ?_
      obtain ⟨i169, hi, hin, hf⟩ := ixd_some hf
      refine k_iald C 105 rfl 10 M_c10 hin hi ?_
      refine k_aload_0 C 106 rfl 0 rfl ?_
      refine kg12_20 C 107 rfl qX12_39 0 M_c0 M_f0_20 ?_
      refine k_iconst C 108 rfl ci_3 ?_
      refine k_iald C 109 rfl 10 M_c10 vi_3_137 tc_3 ?_
      refine k_isub C 110 rfl ?_
      refine k_i2l C 111 rfl ?_
      exact k_sub [0, 1, 2] rfl (hb178 x2 7 (((M_140.2.1 20 i169) - (M_140.2.1 20 3)).toInt64) M_140 hf)
    · replace hf := if_f hf hc
      refine k_lconst0 C 94 rfl ?_
      refine k_goto C 95 rfl 178 (by decide) ?_
      exact k_sub [0, 1, 2] rfl (hb178 x2 7 (0 : Int64) M_140 hf)
  have hb121 : ∀ (x2 : Int32) (x3 : Int32) (x4 : Int32) (s1 : Int32) (s2 : Int64) (M : Sg), f_X12_words_b121 p1 x2 x3 x4 s1 s2 M = some M1 → Wk Z D 5 0 0 (mw cy a M) 121 [(0, .ref (a 0)), (1, .int p1), (2, .int x2), (3, .int x3), (4, .int x4)] [.long s2, .int s1, .ref (a 20)] := by
    intro x2 x3 x4 s1 s2 M hf
    unfold f_X12_words_b121 at hf
    obtain ⟨i121, hi, hin, hf⟩ := ixd_some hf
    obtain ⟨M_121, hM, hf⟩ := bnd_some hf
    refine k_last (w2 := (mw cy a M_121)) C 78 rfl 9 M_c9 hin hi (M_s9.trans (congrArg (fun z => (mw cy a z)) hM)) ?_
    refine k_aload_0 C 79 rfl 0 rfl ?_
    refine kg12_19 C 80 rfl qX12_36 0 M_c0 M_f0_19 ?_
    refine k_bipush C 81 rfl cb_6 ?_
    refine k_iload_3 C 82 rfl 3 rfl ?_
    refine k_if_ge C 83 rfl 138 (by decide) (fun hc => ?_) (fun hc => ?_)
    · replace hf := if_t hf hc
      refine k_iload_3 C 86 rfl 3 rfl ?_
      refine k_i2l C 87 rfl ?_
      exact k_sub [0, 1, 2, 4] rfl (hb140 x2 x4 6 x3.toInt64 M_121 hf)
    · replace hf := if_f hf hc
      refine k_ldc2 C 84 rfl qX12_378 ?_
      refine k_goto C 85 rfl 140 (by decide) ?_
      exact k_sub [0, 1, 2, 4] rfl (hb140 x2 x4 6 (99 : Int64) M_121 hf)
  have hb101 : ∀ (x2 : Int32) (x3 : Int32) (x4 : Int32) (s1 : Int32) (s2 : Int64) (M : Sg), f_X12_words_b101 p1 x2 x3 x4 s1 s2 M = some M1 → Wk Z D 5 0 0 (mw cy a M) 101 [(0, .ref (a 0)), (1, .int p1), (2, .int x2), (3, .int x3), (4, .int x4)] [.long s2, .int s1, .ref (a 20)] := by
    intro x2 x3 x4 s1 s2 M hf
    unfold f_X12_words_b101 at hf
    obtain ⟨i101, hi, hin, hf⟩ := ixd_some hf
    obtain ⟨M_101, hM, hf⟩ := bnd_some hf
    refine k_last (w2 := (mw cy a M_101)) C 66 rfl 9 M_c9 hin hi (M_s9.trans (congrArg (fun z => (mw cy a z)) hM)) ?_
    refine k_aload_0 C 67 rfl 0 rfl ?_
    refine kg12_19 C 68 rfl qX12_36 0 M_c0 M_f0_19 ?_
    refine k_iconst C 69 rfl ci_5 ?_
    refine k_aload_0 C 70 rfl 0 rfl ?_
    refine k_iload_1 C 71 rfl 1 rfl ?_
    refine k_iload_2 C 72 rfl 2 rfl ?_
    obtain ⟨r110, h5, hf⟩ := ob1_some hf
    refine k_callW C 73 (c_X12_isRight Z.2.1 D cy a M_101 p1 x2 r110 h5) rfl qX12_346 mvX12_isRight 0 12 M_c0 rfl rfl rfl (Nat.le_of_ble_eq_true rfl) ⟨Nat.le_of_ble_eq_true rfl, Nat.le_of_ble_eq_true rfl, Nat.le_refl 0, Nat.le_refl 0⟩ ?_
    refine k_if_eq C 74 rfl 120 (by decide) (fun hc => ?_) (fun hc => ?_)
    · replace hf := if_t hf hc
      refine k_lconst0 C 77 rfl ?_
      exact k_sub [0, 1, 2, 3, 4] rfl (hb121 x2 x3 x4 5 (0 : Int64) M_101 hf)
    · replace hf := if_f hf hc
      refine k_lconst1 C 75 rfl ?_
      refine k_goto C 76 rfl 121 (by decide) ?_
      exact k_sub [0, 1, 2, 3, 4] rfl (hb121 x2 x3 x4 5 (1 : Int64) M_101 hf)
  refine k_aload_0 C 0 rfl 0 rfl ?_
  refine k_iload_1 C 1 rfl 1 rfl ?_
  refine k_iconst C 2 rfl ci_0 ?_
  obtain ⟨r3, h5, hf⟩ := ob1_some hf
  refine k_callW C 3 (c_X12_riderOf Z.2.1 D cy a M p1 0 r3 h5) rfl qX12_312 mvX12_riderOf 0 12 M_c0 rfl rfl rfl (Nat.le_of_ble_eq_true rfl) ⟨Nat.le_of_ble_eq_true rfl, Nat.le_of_ble_eq_true rfl, Nat.le_refl 0, Nat.le_refl 0⟩ ?_
  refine k_istore_2 C 4 rfl (by decide) rfl ?_
  refine k_sub (lv2 := [(0, .ref (a 0)), (1, .int p1), (2, .int r3)]) [1, 2, 0] rfl ?_
  refine k_aload_0 C 5 rfl 0 rfl ?_
  refine k_iload_1 C 6 rfl 1 rfl ?_
  obtain ⟨r9, h5, hf⟩ := ob1_some hf
  refine k_callW C 7 (c_X12_nearest Z.2.1 D cy a M p1 r9 h5) rfl qX12_383 mvX12_nearest 0 12 M_c0 rfl rfl rfl (Nat.le_of_ble_eq_true rfl) ⟨Nat.le_of_ble_eq_true rfl, Nat.le_of_ble_eq_true rfl, Nat.le_refl 0, Nat.le_refl 0⟩ ?_
  refine k_istore_3 C 8 rfl (by decide) rfl ?_
  refine k_sub (lv2 := [(0, .ref (a 0)), (1, .int p1), (2, .int r3), (3, .int r9)]) [1, 2, 3, 0] rfl ?_
  refine k_aload_0 C 9 rfl 0 rfl ?_
  refine k_aload_0 C 10 rfl 0 rfl ?_
  refine kg12_20 C 11 rfl qX12_39 0 M_c0 M_f0_20 ?_
  refine k_iconst C 12 rfl ci_3 ?_
  refine k_iald C 13 rfl 10 M_c10 vi_3_137 tc_3 ?_
  obtain ⟨r20, h5, hf⟩ := ob1_some hf
  refine k_callW C 14 (c_X12_haltAt Z.2.1 D cy a M (M.2.1 20 3) r20 h5) rfl qX12_386 mvX12_haltAt 0 12 M_c0 rfl rfl rfl (Nat.le_of_ble_eq_true rfl) ⟨Nat.le_of_ble_eq_true rfl, Nat.le_of_ble_eq_true rfl, Nat.le_refl 0, Nat.le_refl 0⟩ ?_
  refine k_istore C 15 rfl (by decide) rfl ?_
  refine k_sub (lv2 := [(0, .ref (a 0)), (1, .int p1), (2, .int r3), (3, .int r9), (4, .int r20)]) [1, 2, 3, 4, 0] rfl ?_
  refine k_aload_0 C 16 rfl 0 rfl ?_
  refine kg12_19 C 17 rfl qX12_36 0 M_c0 M_f0_19 ?_
  refine k_iconst C 18 rfl ci_0 ?_
  refine k_iload_1 C 19 rfl 1 rfl ?_
  refine k_i2l C 20 rfl ?_
  obtain ⟨M_32, hM, hf⟩ := bnd_some hf
  refine k_last (w2 := (mw cy a M_32)) C 21 rfl 9 M_c9 vi_0_13 tc_0 (M_s9.trans (congrArg (fun z => (mw cy a z)) hM)) ?_
  refine k_aload_0 C 22 rfl 0 rfl ?_
  refine kg12_19 C 23 rfl qX12_36 0 M_c0 M_f0_19 ?_
  refine k_iconst C 24 rfl ci_1 ?_
  refine k_aload_0 C 25 rfl 0 rfl ?_
  refine k_iload_1 C 26 rfl 1 rfl ?_
  refine k_iconst C 27 rfl ci_1 ?_
  obtain ⟨r41, h5, hf⟩ := ob1_some hf
  refine k_callW C 28 (c_X12_riderOf Z.2.1 D cy a M_32 p1 1 r41 h5) rfl qX12_312 mvX12_riderOf 0 12 M_c0 rfl rfl rfl (Nat.le_of_ble_eq_true rfl) ⟨Nat.le_of_ble_eq_true rfl, Nat.le_of_ble_eq_true rfl, Nat.le_refl 0, Nat.le_refl 0⟩ ?_
  refine k_i2l C 29 rfl ?_
  obtain ⟨M_45, hM, hf⟩ := bnd_some hf
  refine k_last (w2 := (mw cy a M_45)) C 30 rfl 9 M_c9 vi_1_13 tc_1 (M_s9.trans (congrArg (fun z => (mw cy a z)) hM)) ?_
  refine k_aload_0 C 31 rfl 0 rfl ?_
  refine kg12_19 C 32 rfl qX12_36 0 M_c0 M_f0_19 ?_
  refine k_iconst C 33 rfl ci_2 ?_
  refine k_iload_2 C 34 rfl 2 rfl ?_
  refine k_i2l C 35 rfl ?_
  obtain ⟨M_53, hM, hf⟩ := bnd_some hf
  refine k_last (w2 := (mw cy a M_53)) C 36 rfl 9 M_c9 vi_2_13 tc_2 (M_s9.trans (congrArg (fun z => (mw cy a z)) hM)) ?_
  refine k_aload_0 C 37 rfl 0 rfl ?_
  refine kg12_19 C 38 rfl qX12_36 0 M_c0 M_f0_19 ?_
  refine k_iconst C 39 rfl ci_3 ?_
  refine k_aload_0 C 40 rfl 0 rfl ?_
  refine kg12_20 C 41 rfl qX12_39 0 M_c0 M_f0_20 ?_
  refine k_iconst C 42 rfl ci_3 ?_
  refine k_iald C 43 rfl 10 M_c10 vi_3_137 tc_3 ?_
  refine k_i2l C 44 rfl ?_
  obtain ⟨M_66, hM, hf⟩ := bnd_some hf
  refine k_last (w2 := (mw cy a M_66)) C 45 rfl 9 M_c9 vi_3_13 tc_3 (M_s9.trans (congrArg (fun z => (mw cy a z)) hM)) ?_
  refine k_aload_0 C 46 rfl 0 rfl ?_
  refine kg12_19 C 47 rfl qX12_36 0 M_c0 M_f0_19 ?_
  refine k_iconst C 48 rfl ci_4 ?_
  refine k_aload_0 C 49 rfl 0 rfl ?_
  refine kg12_20 C 50 rfl qX12_39 0 M_c0 M_f0_20 ?_
  refine k_iconst C 51 rfl ci_3 ?_
  refine k_iald C 52 rfl 10 M_c10 vi_3_137 tc_3 ?_
  refine k_aload_0 C 53 rfl 0 rfl ?_
  obtain ⟨r79, h5, hf⟩ := ob1_some hf
  refine k_callW C 54 (c_X12_parting Z.2.1 D cy a M_66 r79 h5) rfl qX12_356 mvX12_parting 0 12 M_c0 rfl rfl rfl (Nat.le_of_ble_eq_true rfl) ⟨Nat.le_of_ble_eq_true rfl, Nat.le_of_ble_eq_true rfl, Nat.le_refl 0, Nat.le_refl 0⟩ ?_
  refine k_icmp_ge C 55 rfl 100 (by decide) (fun hc => ?_) (fun hc => ?_)
  · replace hf := if_t hf hc
    refine k_lconst0 C 65 rfl ?_
    exact k_sub [0, 1, 2, 3, 4] rfl (hb101 r3 r9 r20 4 (0 : Int64) M_66 hf)
  · replace hf := if_f hf hc
    refine k_aload_0 C 56 rfl 0 rfl ?_
    obtain ⟨r86, h5, hf⟩ := ob1_some hf
    refine k_callW C 57 (c_X12_parting Z.2.1 D cy a M_66 r86 h5) rfl qX12_356 mvX12_parting 0 12 M_c0 rfl rfl rfl (Nat.le_of_ble_eq_true rfl) ⟨Nat.le_of_ble_eq_true rfl, Nat.le_of_ble_eq_true rfl, Nat.le_refl 0, Nat.le_refl 0⟩ ?_
    refine k_aload_0 C 58 rfl 0 rfl ?_
    refine kg12_20 C 59 rfl qX12_39 0 M_c0 M_f0_20 ?_
    refine k_iconst C 60 rfl ci_3 ?_
    refine k_iald C 61 rfl 10 M_c10 vi_3_137 tc_3 ?_
    refine k_isub C 62 rfl ?_
    refine k_i2l C 63 rfl ?_
    refine k_goto C 64 rfl 101 (by decide) ?_
    exact k_sub [0, 1, 2, 3, 4] rfl (hb101 r3 r9 r20 4 ((r86 - (M_66.2.1 20 3)).toInt64) M_66 hf)
set_option maxHeartbeats 1000000 in
set_option maxRecDepth 20000 in
theorem c_X12_doesBy (l : Launch) (D : va_G) (cy : Nat → ClassId) (a : Nat → Nat) (M : Sg) (p1 : Int32) (p2 : Int32) (p3 : Int32) (r : Bool) (M1 : Sg) (hf : f_X12_doesBy M p1 p2 p3 = some (r, M1)) : Ct l D cy yX12_doesBy cX12_doesBy 8 (some .boolean) 5 117 0 0 [.ref (a 0), .int p1, .int p2, .int p3] (mw cy a M) (some (.int (bI r))) (mw cy a M1) := by
  refine Ct_z tX12_doesBy hX12_doesBy (by decide) (Nat.le_of_ble_eq_true rfl) ?_
  intro Z hZ C hR
  subst hZ
  replace C : Cx Z D cy RX12 tX12_doesBy 8 5 117 0 0 := C
  show Wk Z D 8 0 0 (mw cy a M) 0 [(0, .ref (a 0)), (1, .int p1), (2, .int p2), (3, .int p3)] []
  unfold f_X12_doesBy at hf
  have hb171 : ∀ (s1 : Int32) (s2 : Int32) (s3 : Int32) (M : Sg), f_X12_doesBy_b171 p1 p2 p3 s1 s2 s3 M = some (r, M1) → Wk Z D 8 0 0 (mw cy a M) 171 [] [.int s3, .int s2, .int s1, .ref (a 0)] := by
    intro s1 s2 s3 M hf
    unfold f_X12_doesBy_b171 at hf
    obtain ⟨b171, hx, hf⟩ := zb_some hf
    refine k_topi hx ?_
    obtain ⟨M_171, h5, hf⟩ := ob1_some hf
    refine k_callW C 104 (c_X12_goes Z.2.1 D cy a M s1 s2 b171 M_171 h5) rfl qX12_368 mvX12_goes 0 12 M_c0 rfl rfl rfl (Nat.le_of_ble_eq_true rfl) ⟨Nat.le_of_ble_eq_true rfl, Nat.le_of_ble_eq_true rfl, Nat.le_refl 0, Nat.le_refl 0⟩ ?_
    refine k_iconst C 105 rfl ci_1 ?_
    exact k_zret (wf := (fun u => (mw cy a u))) hR 106 rfl hf
  have hb153 : ∀ (x7 : Int32) (M : Sg), f_X12_doesBy_b153 p1 p2 p3 x7 M = some (r, M1) → Wk Z D 8 0 0 (mw cy a M) 153 [(0, .ref (a 0)), (2, .int p2), (3, .int p3), (7, .int x7)] [] := by
    intro x7 M hf
    unfold f_X12_doesBy_b153 at hf
    refine k_aload_0 C 93 rfl 0 rfl ?_
    refine k_iload_3 C 94 rfl 2 rfl ?_
    refine k_iload C 95 rfl 3 rfl ?_
    refine k_aload_0 C 96 rfl 0 rfl ?_
    refine kg12_5 C 97 rfl qX12_20 0 M_c0 M_f0_5 ?_
    refine k_iload_2 C 98 rfl 1 rfl ?_
    obtain ⟨i162, hi, hin, hf⟩ := ixd_some hf
    refine k_iald C 99 rfl 4 M_c4 hin hi ?_
    refine k_if_ne C 100 rfl 170 (by decide) (fun hc => ?_) (fun hc => ?_)
    · replace hf := if_f hf hc
      refine k_iconst C 103 rfl ci_0 ?_
      exact k_sub [] rfl (hb171 p3 x7 0 M hf)
    · replace hf := if_t hf hc
      refine k_iconst C 101 rfl ci_1 ?_
      refine k_goto C 102 rfl 171 (by decide) ?_
      exact k_sub [] rfl (hb171 p3 x7 1 M hf)
  have hb151 : ∀ (M : Sg), f_X12_doesBy_b151 p1 p2 p3 M = some (r, M1) → Wk Z D 8 0 0 (mw cy a M) 151 [] [] := by
    intro M hf
    unfold f_X12_doesBy_b151 at hf
    refine k_iconst C 91 rfl ci_0 ?_
    exact k_zret (wf := (fun u => (mw cy a u))) hR 92 rfl hf
  have hb108 : ∀ (x6 : Int32) (s0 : Int32) (M : Sg), f_X12_doesBy_b108 p1 p2 p3 x6 s0 M = some (r, M1) → Wk Z D 8 0 0 (mw cy a M) 108 [(0, .ref (a 0)), (2, .int p2), (3, .int p3), (6, .int x6)] [.int s0] := by
    intro x6 s0 M hf
    unfold f_X12_doesBy_b108 at hf
    refine k_istore C 68 rfl (by decide) rfl ?_
    refine k_sub (lv2 := [(0, .ref (a 0)), (2, .int p2), (3, .int p3), (6, .int x6), (7, .int s0)]) [1, 2, 3, 4, 0] rfl ?_
    refine k_aload_0 C 69 rfl 0 rfl ?_
    refine kg12_5 C 70 rfl qX12_20 0 M_c0 M_f0_5 ?_
    refine k_iload_2 C 71 rfl 1 rfl ?_
    obtain ⟨i115, hi, hin, hf⟩ := ixd_some hf
    refine k_iald C 72 rfl 4 M_c4 hin hi ?_
    refine k_iconst C 73 rfl ci_1 ?_
    refine k_icmp_ne C 74 rfl 141 (by decide) (fun hc => ?_) (fun hc => ?_)
    · replace hf := if_f hf hc
      refine k_aload_0 C 86 rfl 0 rfl ?_
      refine k_iload_3 C 87 rfl 2 rfl ?_
      refine k_iload C 88 rfl 4 rfl ?_
      obtain ⟨r145, h5, hf⟩ := ob1_some hf
      refine k_callW C 89 (c_X12_canInside Z.2.1 D cy a M p3 s0 r145 h5) rfl qX12_362 mvX12_canInside 0 12 M_c0 rfl rfl rfl (Nat.le_of_ble_eq_true rfl) ⟨Nat.le_of_ble_eq_true rfl, Nat.le_of_ble_eq_true rfl, Nat.le_refl 0, Nat.le_refl 0⟩ ?_
      refine k_if_ne C 90 rfl 153 (by decide) (fun hc => ?_) (fun hc => ?_)
      · replace hf := if_f hf hc
        exact k_sub [0, 1, 2, 4] rfl (hb153 s0 M hf)
      · replace hf := if_t hf hc
        exact k_sub [] rfl (hb151 M hf)
    · replace hf := if_t hf hc
      refine k_aload_0 C 75 rfl 0 rfl ?_
      refine k_iload_3 C 76 rfl 2 rfl ?_
      refine k_iload C 77 rfl 3 rfl ?_
      refine k_iload C 78 rfl 4 rfl ?_
      refine k_aload_0 C 79 rfl 0 rfl ?_
      refine kg12_20 C 80 rfl qX12_39 0 M_c0 M_f0_20 ?_
      refine k_iconst C 81 rfl ci_3 ?_
      refine k_iald C 82 rfl 10 M_c10 vi_3_137 tc_3 ?_
      obtain ⟨r132, h5, hf⟩ := ob1_some hf
      refine k_callW C 83 (c_X12_mayOutside Z.2.1 D cy a M p3 x6 s0 (M.2.1 20 3) r132 h5) rfl qX12_372 mvX12_mayOutside 0 12 M_c0 rfl rfl rfl (Nat.le_of_ble_eq_true rfl) ⟨Nat.le_of_ble_eq_true rfl, Nat.le_of_ble_eq_true rfl, Nat.le_refl 0, Nat.le_refl 0⟩ ?_
      refine k_if_ne C 84 rfl 153 (by decide) (fun hc => ?_) (fun hc => ?_)
      · replace hf := if_f hf hc
        exact k_sub [0, 1, 2, 4] rfl (hb153 s0 M hf)
      · replace hf := if_t hf hc
        refine k_goto C 85 rfl 151 (by decide) ?_
        exact k_sub [] rfl (hb151 M hf)
  have hb70 : ∀ (M : Sg), f_X12_doesBy_b70 p1 p2 p3 M = some (r, M1) → Wk Z D 8 0 0 (mw cy a M) 70 [] [] := by
    intro M hf
    unfold f_X12_doesBy_b70 at hf
    refine k_iconst C 45 rfl ci_0 ?_
    exact k_zret (wf := (fun u => (mw cy a u))) hR 46 rfl hf
  refine k_aload_0 C 0 rfl 0 rfl ?_
  refine kg12_5 C 1 rfl qX12_20 0 M_c0 M_f0_5 ?_
  refine k_iload_2 C 2 rfl 2 rfl ?_
  obtain ⟨i5, hi, hin, hf⟩ := ixd_some hf
  refine k_iald C 3 rfl 4 M_c4 hin hi ?_
  refine k_iconst C 4 rfl ci_2 ?_
  refine k_icmp_ne C 5 rfl 12 (by decide) (fun hc => ?_) (fun hc => ?_)
  · replace hf := if_f hf hc
    refine k_aload_0 C 8 rfl 0 rfl ?_
    refine k_iload_1 C 9 rfl 1 rfl ?_
    refine k_aload_0 C 10 rfl 0 rfl ?_
    refine kg12_5 C 11 rfl qX12_20 0 M_c0 M_f0_5 ?_
    refine k_iload_2 C 12 rfl 2 rfl ?_
    refine k_iconst C 13 rfl ci_1 ?_
    refine k_iadd C 14 rfl ?_
    obtain ⟨i21, hi, hin, hf⟩ := ixd_some hf
    refine k_iald C 15 rfl 4 M_c4 hin hi ?_
    refine k_aload_0 C 16 rfl 0 rfl ?_
    refine kg12_5 C 17 rfl qX12_20 0 M_c0 M_f0_5 ?_
    refine k_iload_2 C 18 rfl 2 rfl ?_
    refine k_iconst C 19 rfl ci_2 ?_
    refine k_iadd C 20 rfl ?_
    obtain ⟨i29, hi, hin, hf⟩ := ixd_some hf
    refine k_iald C 21 rfl 4 M_c4 hin hi ?_
    obtain ⟨r30, M_30, h5, hf⟩ := ob2_some hf
    refine k_callW C 22 (c_X12_reckons Z.2.1 D cy a M p1 (M.2.1 5 i21) (M.2.1 5 i29) r30 M_30 h5) rfl qX12_392 mvX12_reckons 0 12 M_c0 rfl rfl rfl (Nat.le_of_ble_eq_true rfl) ⟨Nat.le_of_ble_eq_true rfl, Nat.le_of_ble_eq_true rfl, Nat.le_refl 0, Nat.le_refl 0⟩ ?_
    refine k_lstore C 23 rfl (by decide) rfl ?_
    refine k_sub (lv2 := [(0, .ref (a 0)), (1, .int p1), (2, .int p2), (3, .int p3), (4, .long r30)]) [1, 2, 3, 4, 0] rfl ?_
    refine k_aload_0 C 24 rfl 0 rfl ?_
    refine k_iload_3 C 25 rfl 3 rfl ?_
    refine k_iconst C 26 rfl ci_0 ?_
    obtain ⟨r38, h5, hf⟩ := ob1_some hf
    refine k_callW C 27 (c_X12_riderOf Z.2.1 D cy a M_30 p3 0 r38 h5) rfl qX12_312 mvX12_riderOf 0 12 M_c0 rfl rfl rfl (Nat.le_of_ble_eq_true rfl) ⟨Nat.le_of_ble_eq_true rfl, Nat.le_of_ble_eq_true rfl, Nat.le_refl 0, Nat.le_refl 0⟩ ?_
    refine k_istore C 28 rfl (by decide) rfl ?_
    refine k_sub (lv2 := [(0, .ref (a 0)), (1, .int p1), (2, .int p2), (3, .int p3), (4, .long r30), (6, .int r38)]) [1, 2, 3, 4, 5, 0] rfl ?_
    refine k_lload C 29 rfl 4 rfl ?_
    refine k_lconst0 C 30 rfl ?_
    refine k_aload_0 C 31 rfl 0 rfl ?_
    refine kg12_20 C 32 rfl qX12_39 0 M_c0 M_f0_20 ?_
    refine k_iconst C 33 rfl ci_0 ?_
    refine k_iald C 34 rfl 10 M_c10 vi_0_137 tc_0 ?_
    refine k_i2l C 35 rfl ?_
    refine k_lconst1 C 36 rfl ?_
    refine k_lsub C 37 rfl ?_
    obtain ⟨r55, h5, hf⟩ := ob1_some hf
    refine k_callE C 38 (c_X12_in Z.2.1 D cy r30 (0 : Int64) (((M_30.2.1 20 0).toInt64) - (1 : Int64)) r55 h5) rfl qX12_124 msX12_in rfl rfl (Nat.le_of_ble_eq_true rfl) ⟨Nat.le_of_ble_eq_true rfl, Nat.le_of_ble_eq_true rfl, Nat.le_refl 0, Nat.le_refl 0⟩ ?_
    refine k_if_eq C 39 rfl 70 (by decide) (fun hc => ?_) (fun hc => ?_)
    · replace hf := if_t hf hc
      exact k_sub [] rfl (hb70 M_30 hf)
    · replace hf := if_f hf hc
      refine k_lload C 40 rfl 4 rfl ?_
      refine k_iload C 41 rfl 5 rfl ?_
      refine k_i2l C 42 rfl ?_
      refine k_lcmp C 43 rfl ?_
      refine k_if_ne C 44 rfl 72 (by decide) (fun hc => ?_) (fun hc => ?_)
      · replace hf := if_f hf hc
        refine k_aload_0 C 47 rfl 0 rfl ?_
        refine kg12_5 C 48 rfl qX12_20 0 M_c0 M_f0_5 ?_
        refine k_iload_2 C 49 rfl 2 rfl ?_
        obtain ⟨i77, hi, hin, hf⟩ := ixd_some hf
        refine k_iald C 50 rfl 4 M_c4 hin hi ?_
        refine k_iconst C 51 rfl ci_1 ?_
        refine k_icmp_ne C 52 rfl 88 (by decide) (fun hc => ?_) (fun hc => ?_)
        · replace hf := if_f hf hc
          refine k_lload C 56 rfl 4 rfl ?_
          refine k_iload C 57 rfl 5 rfl ?_
          refine k_i2l C 58 rfl ?_
          refine k_lcmp C 59 rfl ?_
          refine k_if_ge C 60 rfl 104 (by decide) (fun hc => ?_) (fun hc => ?_)
          · replace hf := if_t hf hc
            refine k_iload C 65 rfl 5 rfl ?_
            refine k_iconst C 66 rfl ci_1 ?_
            refine k_iadd C 67 rfl ?_
            exact k_sub [0, 2, 3, 5] rfl (hb108 r38 (r38 + 1) M_30 hf)
          · replace hf := if_f hf hc
            refine k_iload C 61 rfl 5 rfl ?_
            refine k_iconst C 62 rfl ci_1 ?_
            refine k_isub C 63 rfl ?_
            refine k_goto C 64 rfl 108 (by decide) ?_
            exact k_sub [0, 2, 3, 5] rfl (hb108 r38 (r38 - 1) M_30 hf)
        · replace hf := if_t hf hc
          refine k_lload C 53 rfl 4 rfl ?_
          refine k_l2i C 54 rfl ?_
          refine k_goto C 55 rfl 108 (by decide) ?_
          exact k_sub [0, 2, 3, 5] rfl (hb108 r38 r30.toInt32 M_30 hf)
      · replace hf := if_t hf hc
        exact k_sub [] rfl (hb70 M_30 hf)
  · replace hf := if_t hf hc
    refine k_iconst C 6 rfl ci_1 ?_
    exact k_zret (wf := (fun u => (mw cy a u))) hR 7 rfl hf
set_option maxHeartbeats 1000000 in
set_option maxRecDepth 20000 in
theorem c_X12_asks (l : Launch) (D : va_G) (cy : Nat → ClassId) (a : Nat → Nat) (M : Sg) (p1 : Int32) (p2 : Int32) (M1 : Sg) (hf : f_X12_asks M p1 p2 = some M1) : Ct l D cy yX12_asks cX12_asks 6 none 6 144 0 0 [.ref (a 0), .int p1, .int p2] (mw cy a M) none (mw cy a M1) := by
  refine Ct_v tX12_asks hX12_asks (by decide) (Nat.le_of_ble_eq_true rfl) ?_
  intro Z hZ C hR
  subst hZ
  replace C : Cx Z D cy RX12 tX12_asks 6 6 144 0 0 := C
  show Wk Z D 6 0 0 (mw cy a M) 0 [(0, .ref (a 0)), (1, .int p1), (2, .int p2)] []
  unfold f_X12_asks at hf
  have hq7 : ∀ (k7 : Int32 → Sg → Option (Sg)), (∀ (x3 : Int32) (M : Sg), k7 x3 M = some M1 → Wk Z D 6 0 0 (mw cy a M) 7 [(0, .ref (a 0)), (1, .int p1), (2, .int p2), (3, .int x3)] []) → ∀ (x3 : Int32) (M : Sg), f_X12_asks_b7 p1 p2 k7 x3 M = some M1 → Wk Z D 6 0 0 (mw cy a M) 7 [(0, .ref (a 0)), (1, .int p1), (2, .int p2), (3, .int x3)] [] := by
    intro k7 hk7 x3 M hf
    unfold f_X12_asks_b7 at hf
    have hb91 : ∀ (x3 : Int32) (M : Sg), f_X12_asks_b91 p1 p2 k7 x3 M = some M1 → Wk Z D 6 0 0 (mw cy a M) 91 [(0, .ref (a 0)), (1, .int p1), (2, .int p2), (3, .int x3)] [] := by
      intro x3 M hf
      unfold f_X12_asks_b91 at hf
      obtain ⟨x3_91, hx, hf⟩ := bnd_some hf
      refine k_iinc C 57 rfl 3 rfl ((cn_1 _).trans hx) (by decide) rfl ?_
      refine k_sub (lv2 := [(0, .ref (a 0)), (1, .int p1), (2, .int p2), (3, .int x3_91)]) [1, 2, 3, 0] rfl ?_
      refine k_goto C 58 rfl 7 (by decide) ?_
      exact k_sub [0, 1, 2, 3] rfl (hk7 x3_91 M hf)
    have hb72 : ∀ (x3 : Int32) (x4 : Int32) (s0 : Int32) (M : Sg), f_X12_asks_b72 p1 p2 k7 x3 x4 s0 M = some M1 → Wk Z D 6 0 0 (mw cy a M) 72 [(0, .ref (a 0)), (1, .int p1), (2, .int p2), (3, .int x3), (4, .int x4)] [.int s0] := by
      intro x3 x4 s0 M hf
      unfold f_X12_asks_b72 at hf
      refine k_istore C 47 rfl (by decide) rfl ?_
      refine k_sub (lv2 := [(0, .ref (a 0)), (1, .int p1), (2, .int p2), (3, .int x3), (4, .int x4), (5, .int s0)]) [1, 2, 3, 4, 5, 0] rfl ?_
      refine k_iload C 48 rfl 5 rfl ?_
      refine k_if_eq C 49 rfl 91 (by decide) (fun hc => ?_) (fun hc => ?_)
      · replace hf := if_t hf hc
        exact k_sub [0, 1, 2, 3] rfl (hb91 x3 M hf)
      · replace hf := if_f hf hc
        refine k_aload_0 C 50 rfl 0 rfl ?_
        refine k_iload_1 C 51 rfl 1 rfl ?_
        refine k_iload C 52 rfl 4 rfl ?_
        refine k_iload_2 C 53 rfl 2 rfl ?_
        obtain ⟨r84, M_84, h5, hf⟩ := ob2_some hf
        refine k_callW C 54 (c_X12_doesBy Z.2.1 D cy a M p1 x4 p2 r84 M_84 h5) rfl qX12_399 mvX12_doesBy 0 12 M_c0 rfl rfl rfl (Nat.le_of_ble_eq_true rfl) ⟨Nat.le_of_ble_eq_true rfl, Nat.le_of_ble_eq_true rfl, Nat.le_refl 0, Nat.le_refl 0⟩ ?_
        refine k_if_eq C 55 rfl 91 (by decide) (fun hc => ?_) (fun hc => ?_)
        · replace hf := if_t hf hc
          exact k_sub [0, 1, 2, 3] rfl (hb91 x3 M_84 hf)
        · replace hf := if_f hf hc
          exact k_vret (wf := (fun u => (mw cy a u))) hR 56 rfl hf
    have hb67 : ∀ (x3 : Int32) (x4 : Int32) (M : Sg), f_X12_asks_b67 p1 p2 k7 x3 x4 M = some M1 → Wk Z D 6 0 0 (mw cy a M) 67 [(0, .ref (a 0)), (1, .int p1), (2, .int p2), (3, .int x3), (4, .int x4)] [] := by
      intro x3 x4 M hf
      unfold f_X12_asks_b67 at hf
      refine k_iconst C 44 rfl ci_1 ?_
      refine k_goto C 45 rfl 72 (by decide) ?_
      exact k_sub [0, 1, 2, 3, 4] rfl (hb72 x3 x4 1 M hf)
    refine k_iload_3 C 5 rfl 3 rfl ?_
    refine k_aload_0 C 6 rfl 0 rfl ?_
    refine kg12_6 C 7 rfl qX12_23 0 M_c0 M_f0_6 ?_
    refine k_iload_1 C 8 rfl 1 rfl ?_
    obtain ⟨i13, hi, hin, hf⟩ := ixd_some hf
    refine k_iald C 9 rfl 5 M_c5 hin hi ?_
    refine k_icmp_ge C 10 rfl 97 (by decide) (fun hc => ?_) (fun hc => ?_)
    · replace hf := if_t hf hc
      exact k_vret (wf := (fun u => (mw cy a u))) hR 59 rfl hf
    · replace hf := if_f hf hc
      refine k_bipush C 11 rfl cb_60 ?_
      refine k_iload_1 C 12 rfl 1 rfl ?_
      refine k_imul C 13 rfl ?_
      refine k_iconst C 14 rfl ci_5 ?_
      refine k_iload_3 C 15 rfl 3 rfl ?_
      refine k_imul C 16 rfl ?_
      refine k_iadd C 17 rfl ?_
      obtain ⟨x4_25, hx, hf⟩ := bnd_some hf
      refine k_topi hx ?_
      refine k_istore C 18 rfl (by decide) rfl ?_
      refine k_sub (lv2 := [(0, .ref (a 0)), (1, .int p1), (2, .int p2), (3, .int x3), (4, .int x4_25)]) [1, 2, 3, 4, 0] rfl ?_
      refine k_aload_0 C 19 rfl 0 rfl ?_
      refine kg12_5 C 20 rfl qX12_20 0 M_c0 M_f0_5 ?_
      refine k_iload C 21 rfl 4 rfl ?_
      refine k_iconst C 22 rfl ci_3 ?_
      refine k_iadd C 23 rfl ?_
      obtain ⟨i35, hi, hin, hf⟩ := ixd_some hf
      refine k_iald C 24 rfl 4 M_c4 hin hi ?_
      refine k_if_lt C 25 rfl 67 (by decide) (fun hc => ?_) (fun hc => ?_)
      · replace hf := if_t hf hc
        exact k_sub [0, 1, 2, 3, 4] rfl (hb67 x3 x4_25 M hf)
      · replace hf := if_f hf hc
        refine k_aload_0 C 26 rfl 0 rfl ?_
        refine k_iload_1 C 27 rfl 1 rfl ?_
        refine k_aload_0 C 28 rfl 0 rfl ?_
        refine kg12_5 C 29 rfl qX12_20 0 M_c0 M_f0_5 ?_
        refine k_iload C 30 rfl 4 rfl ?_
        refine k_iconst C 31 rfl ci_3 ?_
        refine k_iadd C 32 rfl ?_
        obtain ⟨i49, hi, hin, hf⟩ := ixd_some hf
        refine k_iald C 33 rfl 4 M_c4 hin hi ?_
        refine k_aload_0 C 34 rfl 0 rfl ?_
        refine kg12_5 C 35 rfl qX12_20 0 M_c0 M_f0_5 ?_
        refine k_iload C 36 rfl 4 rfl ?_
        refine k_iconst C 37 rfl ci_4 ?_
        refine k_iadd C 38 rfl ?_
        obtain ⟨i58, hi, hin, hf⟩ := ixd_some hf
        refine k_iald C 39 rfl 4 M_c4 hin hi ?_
        obtain ⟨r59, M_59, h5, hf⟩ := ob2_some hf
        refine k_callW C 40 (c_X12_reckons Z.2.1 D cy a M p1 (M.2.1 5 i49) (M.2.1 5 i58) r59 M_59 h5) rfl qX12_392 mvX12_reckons 0 12 M_c0 rfl rfl rfl (Nat.le_of_ble_eq_true rfl) ⟨Nat.le_of_ble_eq_true rfl, Nat.le_of_ble_eq_true rfl, Nat.le_refl 0, Nat.le_refl 0⟩ ?_
        refine k_lconst1 C 41 rfl ?_
        refine k_lcmp C 42 rfl ?_
        refine k_if_ne C 43 rfl 71 (by decide) (fun hc => ?_) (fun hc => ?_)
        · replace hf := if_f hf hc
          refine k_iconst C 46 rfl ci_0 ?_
          exact k_sub [0, 1, 2, 3, 4] rfl (hb72 x3 x4_25 0 M_59 hf)
        · replace hf := if_t hf hc
          exact k_sub [0, 1, 2, 3, 4] rfl (hb67 x3 x4_25 M_59 hf)
  have hb7 := flW2 hq7
  refine k_aload_0 C 0 rfl 0 rfl ?_
  refine k_iload_2 C 1 rfl 2 rfl ?_
  obtain ⟨M_2, h5, hf⟩ := ob1_some hf
  refine k_callW C 2 (c_X12_words Z.2.1 D cy a M p2 M_2 h5) rfl qX12_396 mvX12_words 0 12 M_c0 rfl rfl rfl (Nat.le_of_ble_eq_true rfl) ⟨Nat.le_of_ble_eq_true rfl, Nat.le_of_ble_eq_true rfl, Nat.le_refl 0, Nat.le_refl 0⟩ ?_
  refine k_iconst C 3 rfl ci_0 ?_
  refine k_istore_3 C 4 rfl (by decide) rfl ?_
  refine k_sub (lv2 := [(0, .ref (a 0)), (1, .int p1), (2, .int p2), (3, .int 0)]) [1, 2, 3, 0] rfl ?_
  exact k_sub [0, 1, 2, 3] rfl (hb7 FU 0 M_2 hf)
set_option maxHeartbeats 1000000 in
set_option maxRecDepth 20000 in
theorem c_X12_run (l : Launch) (D : va_G) (cy : Nat → ClassId) (a : Nat → Nat) (M : Sg) (p1 : Int32) (p2 : Int32) (r : Int32) (M1 : Sg) (hf : f_X12_run M p1 p2 = some (r, M1)) : Ct l D cy yX12_run cX12_run 5 (some .int) 7 169 0 0 [.ref (a 0), .int p1, .int p2] (mw cy a M) (some (.int r)) (mw cy a M1) := by
  refine Ct_i tX12_run hX12_run (by decide) (Nat.le_of_ble_eq_true rfl) ?_
  intro Z hZ C hR
  subst hZ
  replace C : Cx Z D cy RX12 tX12_run 5 7 169 0 0 := C
  show Wk Z D 5 0 0 (mw cy a M) 0 [(0, .ref (a 0)), (1, .int p1), (2, .int p2)] []
  unfold f_X12_run at hf
  have hq50 : ∀ (k50 : Int32 → Sg → Option (Int32 × Sg)), (∀ (x3 : Int32) (M : Sg), k50 x3 M = some (r, M1) → Wk Z D 5 0 0 (mw cy a M) 50 [(0, .ref (a 0)), (1, .int p1), (2, .int p2), (3, .int x3)] []) → ∀ (x3 : Int32) (M : Sg), f_X12_run_b50 p1 p2 k50 x3 M = some (r, M1) → Wk Z D 5 0 0 (mw cy a M) 50 [(0, .ref (a 0)), (1, .int p1), (2, .int p2), (3, .int x3)] [] := by
    intro k50 hk50 x3 M hf
    unfold f_X12_run_b50 at hf
    have hq58 : ∀ (k58 : Int32 → Int32 → Sg → Option (Int32 × Sg)), (∀ (x3 : Int32) (x4 : Int32) (M : Sg), k58 x3 x4 M = some (r, M1) → Wk Z D 5 0 0 (mw cy a M) 58 [(0, .ref (a 0)), (1, .int p1), (2, .int p2), (3, .int x3), (4, .int x4)] []) → ∀ (x3 : Int32) (x4 : Int32) (M : Sg), f_X12_run_b58 p1 p2 k50 k58 x3 x4 M = some (r, M1) → Wk Z D 5 0 0 (mw cy a M) 58 [(0, .ref (a 0)), (1, .int p1), (2, .int p2), (3, .int x3), (4, .int x4)] [] := by
      intro k58 hk58 x3 x4 M hf
      unfold f_X12_run_b58 at hf
      have hb101 : ∀ (x3 : Int32) (x4 : Int32) (M : Sg), f_X12_run_b101 p1 p2 k50 k58 x3 x4 M = some (r, M1) → Wk Z D 5 0 0 (mw cy a M) 101 [(0, .ref (a 0)), (1, .int p1), (2, .int p2), (3, .int x3), (4, .int x4)] [] := by
        intro x3 x4 M hf
        unfold f_X12_run_b101 at hf
        obtain ⟨x4_101, hx, hf⟩ := bnd_some hf
        refine k_iinc C 56 rfl 4 rfl ((cn_1 _).trans hx) (by decide) rfl ?_
        refine k_sub (lv2 := [(0, .ref (a 0)), (1, .int p1), (2, .int p2), (3, .int x3), (4, .int x4_101)]) [1, 2, 3, 4, 0] rfl ?_
        refine k_goto C 57 rfl 58 (by decide) ?_
        exact k_sub [0, 1, 2, 3, 4] rfl (hk58 x3 x4_101 M hf)
      refine k_iload C 33 rfl 4 rfl ?_
      refine k_aload_0 C 34 rfl 0 rfl ?_
      refine kg12_20 C 35 rfl qX12_39 0 M_c0 M_f0_20 ?_
      refine k_iconst C 36 rfl ci_2 ?_
      refine k_iald C 37 rfl 10 M_c10 vi_2_137 tc_2 ?_
      refine k_icmp_ge C 38 rfl 107 (by decide) (fun hc => ?_) (fun hc => ?_)
      · replace hf := if_t hf hc
        refine k_aload_0 C 58 rfl 0 rfl ?_
        obtain ⟨M_108, h5, hf⟩ := ob1_some hf
        refine k_callW C 59 (c_X12_secondComes Z.2.1 D cy a M M_108 h5) rfl qX12_380 mvX12_secondComes 0 12 M_c0 rfl rfl rfl (Nat.le_of_ble_eq_true rfl) ⟨Nat.le_of_ble_eq_true rfl, Nat.le_of_ble_eq_true rfl, Nat.le_refl 0, Nat.le_refl 0⟩ ?_
        obtain ⟨x3_111, hx, hf⟩ := bnd_some hf
        refine k_iinc C 60 rfl 3 rfl ((cn_1 _).trans hx) (by decide) rfl ?_
        refine k_sub (lv2 := [(0, .ref (a 0)), (1, .int p1), (2, .int p2), (3, .int x3_111), (4, .int x4)]) [1, 2, 3, 0, 4] rfl ?_
        refine k_goto C 61 rfl 50 (by decide) ?_
        exact k_sub [0, 1, 2, 3] rfl (hk50 x3_111 M_108 hf)
      · replace hf := if_f hf hc
        refine k_aload_0 C 39 rfl 0 rfl ?_
        refine k_iload C 40 rfl 4 rfl ?_
        obtain ⟨r72, h5, hf⟩ := ob1_some hf
        refine k_callW C 41 (c_X12_isGoing Z.2.1 D cy a M x4 r72 h5) rfl qX12_316 mvX12_isGoing 0 12 M_c0 rfl rfl rfl (Nat.le_of_ble_eq_true rfl) ⟨Nat.le_of_ble_eq_true rfl, Nat.le_of_ble_eq_true rfl, Nat.le_refl 0, Nat.le_refl 0⟩ ?_
        refine k_if_ne C 42 rfl 101 (by decide) (fun hc => ?_) (fun hc => ?_)
        · replace hf := if_f hf hc
          exact k_sub [0, 1, 2, 3, 4] rfl (hb101 x3 x4 M hf)
        · replace hf := if_t hf hc
          refine k_aload_0 C 43 rfl 0 rfl ?_
          refine kg12_20 C 44 rfl qX12_39 0 M_c0 M_f0_20 ?_
          refine k_iconst C 45 rfl ci_3 ?_
          refine k_iald C 46 rfl 10 M_c10 vi_3_137 tc_3 ?_
          refine k_aload_0 C 47 rfl 0 rfl ?_
          refine k_iload C 48 rfl 4 rfl ?_
          refine k_iconst C 49 rfl ci_4 ?_
          obtain ⟨r88, h5, hf⟩ := ob1_some hf
          refine k_callW C 50 (c_X12_riderOf Z.2.1 D cy a M x4 4 r88 h5) rfl qX12_312 mvX12_riderOf 0 12 M_c0 rfl rfl rfl (Nat.le_of_ble_eq_true rfl) ⟨Nat.le_of_ble_eq_true rfl, Nat.le_of_ble_eq_true rfl, Nat.le_refl 0, Nat.le_refl 0⟩ ?_
          refine k_icmp_lt C 51 rfl 101 (by decide) (fun hc => ?_) (fun hc => ?_)
          · replace hf := if_t hf hc
            exact k_sub [0, 1, 2, 3, 4] rfl (hb101 x3 x4 M hf)
          · replace hf := if_f hf hc
            refine k_aload_0 C 52 rfl 0 rfl ?_
            refine k_iload_1 C 53 rfl 1 rfl ?_
            refine k_iload C 54 rfl 4 rfl ?_
            obtain ⟨M_98, h5, hf⟩ := ob1_some hf
            refine k_callW C 55 (c_X12_asks Z.2.1 D cy a M p1 x4 M_98 h5) rfl qX12_405 mvX12_asks 0 12 M_c0 rfl rfl rfl (Nat.le_of_ble_eq_true rfl) ⟨Nat.le_of_ble_eq_true rfl, Nat.le_of_ble_eq_true rfl, Nat.le_refl 0, Nat.le_refl 0⟩ ?_
            exact k_sub [0, 1, 2, 3, 4] rfl (hb101 x3 x4 M_98 hf)
    have hb58 := flW3 hq58
    refine k_iload_3 C 28 rfl 3 rfl ?_
    refine k_iload_2 C 29 rfl 2 rfl ?_
    refine k_icmp_ge C 30 rfl 117 (by decide) (fun hc => ?_) (fun hc => ?_)
    · replace hf := if_t hf hc
      refine k_aload_0 C 62 rfl 0 rfl ?_
      refine kg12_20 C 63 rfl qX12_39 0 M_c0 M_f0_20 ?_
      refine k_iconst C 64 rfl ci_3 ?_
      refine k_iald C 65 rfl 10 M_c10 vi_3_137 tc_3 ?_
      exact k_iret (wf := (fun u => (mw cy a u))) hR 66 rfl hf
    · replace hf := if_f hf hc
      refine k_iconst C 31 rfl ci_0 ?_
      refine k_istore C 32 rfl (by decide) rfl ?_
      refine k_sub (lv2 := [(0, .ref (a 0)), (1, .int p1), (2, .int p2), (3, .int x3), (4, .int 0)]) [1, 2, 3, 4, 0] rfl ?_
      exact k_sub [0, 1, 2, 3, 4] rfl (hb58 FU x3 0 M hf)
  have hb50 := flW2 hq50
  have hb41 : ∀ (M : Sg), f_X12_run_b41 p1 p2 M = some (r, M1) → Wk Z D 5 0 0 (mw cy a M) 41 [] [] := by
    intro M hf
    unfold f_X12_run_b41 at hf
    refine k_iconst C 21 rfl ci_m1 ?_
    exact k_iret (wf := (fun u => (mw cy a u))) hR 22 rfl hf
  refine k_aload_0 C 0 rfl 0 rfl ?_
  obtain ⟨r1, h5, hf⟩ := ob1_some hf
  refine k_callW C 1 (c_X12_isLine Z.2.1 D cy a M r1 h5) rfl qX12_375 mvX12_isLine 0 12 M_c0 rfl rfl rfl (Nat.le_of_ble_eq_true rfl) ⟨Nat.le_of_ble_eq_true rfl, Nat.le_of_ble_eq_true rfl, Nat.le_refl 0, Nat.le_refl 0⟩ ?_
  refine k_if_eq C 2 rfl 41 (by decide) (fun hc => ?_) (fun hc => ?_)
  · replace hf := if_t hf hc
    exact k_sub [] rfl (hb41 M hf)
  · replace hf := if_f hf hc
    refine k_aload_0 C 3 rfl 0 rfl ?_
    refine k_iload_1 C 4 rfl 1 rfl ?_
    obtain ⟨r9, h5, hf⟩ := ob1_some hf
    refine k_callW C 5 (c_X12_isRule Z.2.1 D cy a M p1 r9 h5) rfl qX12_402 mvX12_isRule 0 12 M_c0 rfl rfl rfl (Nat.le_of_ble_eq_true rfl) ⟨Nat.le_of_ble_eq_true rfl, Nat.le_of_ble_eq_true rfl, Nat.le_refl 0, Nat.le_refl 0⟩ ?_
    refine k_if_eq C 6 rfl 41 (by decide) (fun hc => ?_) (fun hc => ?_)
    · replace hf := if_t hf hc
      exact k_sub [] rfl (hb41 M hf)
    · replace hf := if_f hf hc
      refine k_iload_2 C 7 rfl 2 rfl ?_
      refine k_i2l C 8 rfl ?_
      refine k_lconst1 C 9 rfl ?_
      refine k_ldc2 C 10 rfl qX12_378 ?_
      obtain ⟨r21, h5, hf⟩ := ob1_some hf
      refine k_callE C 11 (c_X12_in Z.2.1 D cy p2.toInt64 (1 : Int64) (99 : Int64) r21 h5) rfl qX12_124 msX12_in rfl rfl (Nat.le_of_ble_eq_true rfl) ⟨Nat.le_of_ble_eq_true rfl, Nat.le_of_ble_eq_true rfl, Nat.le_refl 0, Nat.le_refl 0⟩ ?_
      refine k_if_eq C 12 rfl 41 (by decide) (fun hc => ?_) (fun hc => ?_)
      · replace hf := if_t hf hc
        exact k_sub [] rfl (hb41 M hf)
      · replace hf := if_f hf hc
        refine k_aload_0 C 13 rfl 0 rfl ?_
        refine kg12_20 C 14 rfl qX12_39 0 M_c0 M_f0_20 ?_
        refine k_iconst C 15 rfl ci_3 ?_
        refine k_iald C 16 rfl 10 M_c10 vi_3_137 tc_3 ?_
        refine k_iload_2 C 17 rfl 2 rfl ?_
        refine k_iadd C 18 rfl ?_
        refine k_sipush C 19 rfl cs_999 ?_
        refine k_icmp_le C 20 rfl 43 (by decide) (fun hc => ?_) (fun hc => ?_)
        · replace hf := if_t hf hc
          refine k_aload_0 C 23 rfl 0 rfl ?_
          refine k_iconst C 24 rfl ci_0 ?_
          obtain ⟨M_45, hM, hf⟩ := bnd_some hf
          refine kp12_23 (w2 := (mw cy a M_45)) C 25 rfl qX12_294 0 M_c0 (v := 0) M_n0 (M_p0_23.trans (congrArg (fun z => (mw cy a z)) hM)) ?_
          refine k_iconst C 26 rfl ci_0 ?_
          refine k_istore_3 C 27 rfl (by decide) rfl ?_
          refine k_sub (lv2 := [(0, .ref (a 0)), (1, .int p1), (2, .int p2), (3, .int 0)]) [1, 2, 3, 0] rfl ?_
          exact k_sub [0, 1, 2, 3] rfl (hb50 FU 0 M_45 hf)
        · replace hf := if_f hf hc
          exact k_sub [] rfl (hb41 M hf)
set_option maxHeartbeats 1000000 in
set_option maxRecDepth 20000 in
theorem c_X12_nextSoon (l : Launch) (D : va_G) (cy : Nat → ClassId) (a : Nat → Nat) (M : Sg) (r : Int32) (hf : f_X12_nextSoon M = some r) : Ct l D cy yX12_nextSoon cX12_nextSoon 3 (some .int) 0 0 0 0 [.ref (a 0)] (mw cy a M) (some (.int r)) (mw cy a M) := by
  refine Ct_i tX12_nextSoon hX12_nextSoon (by decide) (Nat.le_of_ble_eq_true rfl) ?_
  intro Z hZ C hR
  subst hZ
  replace C : Cx Z D cy RX12 tX12_nextSoon 3 0 0 0 0 := C
  show Wk Z D 3 0 0 (mw cy a M) 0 [(0, .ref (a 0))] []
  unfold f_X12_nextSoon at hf
  have hq4 : ∀ (k4 : Int32 → Int32 → Option (Int32)), (∀ (x1 : Int32) (x2 : Int32), k4 x1 x2 = some r → Wk Z D 3 0 0 (mw cy a M) 4 [(0, .ref (a 0)), (1, .int x1), (2, .int x2)] []) → ∀ (x1 : Int32) (x2 : Int32), f_X12_nextSoon_b4 M k4 x1 x2 = some r → Wk Z D 3 0 0 (mw cy a M) 4 [(0, .ref (a 0)), (1, .int x1), (2, .int x2)] [] := by
    intro k4 hk4 x1 x2 hf
    unfold f_X12_nextSoon_b4 at hf
    have hb53 : ∀ (x1 : Int32) (x2 : Int32), f_X12_nextSoon_b53 M k4 x1 x2 = some r → Wk Z D 3 0 0 (mw cy a M) 53 [(0, .ref (a 0)), (1, .int x1), (2, .int x2)] [] := by
      intro x1 x2 hf
      unfold f_X12_nextSoon_b53 at hf
      obtain ⟨x2_53, hx, hf⟩ := bnd_some hf
      refine k_iinc C 33 rfl 2 rfl ((cn_1 _).trans hx) (by decide) rfl ?_
      refine k_sub (lv2 := [(0, .ref (a 0)), (1, .int x1), (2, .int x2_53)]) [1, 2, 0] rfl ?_
      refine k_goto C 34 rfl 4 (by decide) ?_
      exact k_sub [0, 1, 2] rfl (hk4 x1 x2_53 hf)
    have hb51 : ∀ (x2 : Int32), f_X12_nextSoon_b51 M k4 x2 = some r → Wk Z D 3 0 0 (mw cy a M) 51 [(0, .ref (a 0)), (2, .int x2)] [] := by
      intro x2 hf
      unfold f_X12_nextSoon_b51 at hf
      refine k_iload_2 C 31 rfl 1 rfl ?_
      refine k_istore_1 C 32 rfl (by decide) rfl ?_
      refine k_sub (lv2 := [(0, .ref (a 0)), (1, .int x2), (2, .int x2)]) [1, 0, 2] rfl ?_
      exact k_sub [0, 1, 2] rfl (hb53 x2 x2 hf)
    refine k_iload_2 C 4 rfl 2 rfl ?_
    refine k_aload_0 C 5 rfl 0 rfl ?_
    refine kg12_20 C 6 rfl qX12_39 0 M_c0 M_f0_20 ?_
    refine k_iconst C 7 rfl ci_0 ?_
    refine k_iald C 8 rfl 10 M_c10 vi_0_137 tc_0 ?_
    refine k_icmp_ge C 9 rfl 59 (by decide) (fun hc => ?_) (fun hc => ?_)
    · replace hf := if_t hf hc
      refine k_iload_1 C 35 rfl 1 rfl ?_
      exact k_iretP hR 36 rfl hf
    · replace hf := if_f hf hc
      refine k_aload_0 C 10 rfl 0 rfl ?_
      refine kg12_24 C 11 rfl qX12_45 0 M_c0 M_f0_24 ?_
      refine k_iload_2 C 12 rfl 2 rfl ?_
      obtain ⟨i19, hi, hin, hf⟩ := ixd_some hf
      refine k_iald C 13 rfl 12 M_c12 hin hi ?_
      refine k_if_lt C 14 rfl 53 (by decide) (fun hc => ?_) (fun hc => ?_)
      · replace hf := if_t hf hc
        exact k_sub [0, 1, 2] rfl (hb53 x1 x2 hf)
      · replace hf := if_f hf hc
        refine k_aload_0 C 15 rfl 0 rfl ?_
        refine kg12_25 C 16 rfl qX12_48 0 M_c0 M_f0_25 ?_
        refine k_iload_2 C 17 rfl 2 rfl ?_
        obtain ⟨i28, hi, hin, hf⟩ := ixd_some hf
        refine k_zald C 18 rfl 13 M_c13 hin hi ?_
        refine k_if_ne C 19 rfl 53 (by decide) (fun hc => ?_) (fun hc => ?_)
        · replace hf := if_f hf hc
          exact k_sub [0, 1, 2] rfl (hb53 x1 x2 hf)
        · replace hf := if_t hf hc
          refine k_iload_1 C 20 rfl 1 rfl ?_
          refine k_if_lt C 21 rfl 51 (by decide) (fun hc => ?_) (fun hc => ?_)
          · replace hf := if_t hf hc
            exact k_sub [0, 2] rfl (hb51 x2 hf)
          · replace hf := if_f hf hc
            refine k_aload_0 C 22 rfl 0 rfl ?_
            refine kg12_24 C 23 rfl qX12_45 0 M_c0 M_f0_24 ?_
            refine k_iload_2 C 24 rfl 2 rfl ?_
            obtain ⟨i41, hi, hin, hf⟩ := ixd_some hf
            refine k_iald C 25 rfl 12 M_c12 hin hi ?_
            refine k_aload_0 C 26 rfl 0 rfl ?_
            refine kg12_24 C 27 rfl qX12_45 0 M_c0 M_f0_24 ?_
            refine k_iload_1 C 28 rfl 1 rfl ?_
            obtain ⟨i47, hi, hin, hf⟩ := ixd_some hf
            refine k_iald C 29 rfl 12 M_c12 hin hi ?_
            refine k_icmp_ge C 30 rfl 53 (by decide) (fun hc => ?_) (fun hc => ?_)
            · replace hf := if_t hf hc
              exact k_sub [0, 1, 2] rfl (hb53 x1 x2 hf)
            · replace hf := if_f hf hc
              exact k_sub [0, 2] rfl (hb51 x2 hf)
  have hb4 := flW2 hq4
  refine k_iconst C 0 rfl ci_m1 ?_
  refine k_istore_1 C 1 rfl (by decide) rfl ?_
  refine k_sub (lv2 := [(0, .ref (a 0)), (1, .int (-1))]) [1, 0] rfl ?_
  refine k_iconst C 2 rfl ci_0 ?_
  refine k_istore_2 C 3 rfl (by decide) rfl ?_
  refine k_sub (lv2 := [(0, .ref (a 0)), (1, .int (-1)), (2, .int 0)]) [1, 2, 0] rfl ?_
  exact k_sub [0, 1, 2] rfl (hb4 FU (-1) 0 hf)
set_option maxHeartbeats 1000000 in
set_option maxRecDepth 20000 in
theorem c_X12_comesAt (l : Launch) (D : va_G) (cy : Nat → ClassId) (a : Nat → Nat) (M : Sg) (p1 : Int32) (p2 : Int32) (M1 : Sg) (hf : f_X12_comesAt M p1 p2 = some M1) : Ct l D cy yX12_comesAt cX12_comesAt 3 none 0 0 0 0 [.ref (a 0), .int p1, .int p2] (mw cy a M) none (mw cy a M1) := by
  refine Ct_v tX12_comesAt hX12_comesAt (by decide) (Nat.le_of_ble_eq_true rfl) ?_
  intro Z hZ C hR
  subst hZ
  replace C : Cx Z D cy RX12 tX12_comesAt 3 0 0 0 0 := C
  show Wk Z D 3 0 0 (mw cy a M) 0 [(0, .ref (a 0)), (1, .int p1), (2, .int p2)] []
  unfold f_X12_comesAt at hf
  have hb23 : ∀ (M : Sg), f_X12_comesAt_b23 p1 p2 M = some M1 → Wk Z D 3 0 0 (mw cy a M) 23 [(0, .ref (a 0)), (1, .int p1), (2, .int p2)] [] := by
    intro M hf
    unfold f_X12_comesAt_b23 at hf
    refine k_aload_0 C 13 rfl 0 rfl ?_
    refine kg12_24 C 14 rfl qX12_45 0 M_c0 M_f0_24 ?_
    refine k_iload_1 C 15 rfl 1 rfl ?_
    refine k_iload_2 C 16 rfl 2 rfl ?_
    obtain ⟨i29, hi, hin, hf⟩ := ixd_some hf
    obtain ⟨M_29, hM, hf⟩ := bnd_some hf
    refine k_iast (w2 := (mw cy a M_29)) C 17 rfl 12 M_c12 hin hi (M_s12.trans (congrArg (fun z => (mw cy a z)) hM)) ?_
    exact k_vret (wf := (fun u => (mw cy a u))) hR 18 rfl hf
  refine k_iload_2 C 0 rfl 2 rfl ?_
  refine k_if_lt C 1 rfl 30 (by decide) (fun hc => ?_) (fun hc => ?_)
  · replace hf := if_t hf hc
    exact k_vret (wf := (fun u => (mw cy a u))) hR 18 rfl hf
  · replace hf := if_f hf hc
    refine k_aload_0 C 2 rfl 0 rfl ?_
    refine kg12_24 C 3 rfl qX12_45 0 M_c0 M_f0_24 ?_
    refine k_iload_1 C 4 rfl 1 rfl ?_
    obtain ⟨i9, hi, hin, hf⟩ := ixd_some hf
    refine k_iald C 5 rfl 12 M_c12 hin hi ?_
    refine k_if_lt C 6 rfl 23 (by decide) (fun hc => ?_) (fun hc => ?_)
    · replace hf := if_t hf hc
      exact k_sub [0, 1, 2] rfl (hb23 M hf)
    · replace hf := if_f hf hc
      refine k_iload_2 C 7 rfl 2 rfl ?_
      refine k_aload_0 C 8 rfl 0 rfl ?_
      refine kg12_24 C 9 rfl qX12_45 0 M_c0 M_f0_24 ?_
      refine k_iload_1 C 10 rfl 1 rfl ?_
      obtain ⟨i19, hi, hin, hf⟩ := ixd_some hf
      refine k_iald C 11 rfl 12 M_c12 hin hi ?_
      refine k_icmp_ge C 12 rfl 30 (by decide) (fun hc => ?_) (fun hc => ?_)
      · replace hf := if_t hf hc
        exact k_vret (wf := (fun u => (mw cy a u))) hR 18 rfl hf
      · replace hf := if_f hf hc
        exact k_sub [0, 1, 2] rfl (hb23 M hf)
set_option maxHeartbeats 1000000 in
set_option maxRecDepth 20000 in
theorem c_X12_fillsSoon (l : Launch) (D : va_G) (cy : Nat → ClassId) (a : Nat → Nat) (M : Sg) (p1 : Int32) (p2 : Int32) (p3 : Int32) (M1 : Sg) (hf : f_X12_fillsSoon M p1 p2 p3 = some M1) : Ct l D cy yX12_fillsSoon cX12_fillsSoon 7 none 5 120 0 0 [.ref (a 0), .int p1, .int p2, .int p3] (mw cy a M) none (mw cy a M1) := by
  refine Ct_v tX12_fillsSoon hX12_fillsSoon (by decide) (Nat.le_of_ble_eq_true rfl) ?_
  intro Z hZ C hR
  subst hZ
  replace C : Cx Z D cy RX12 tX12_fillsSoon 7 5 120 0 0 := C
  show Wk Z D 7 0 0 (mw cy a M) 0 [(0, .ref (a 0)), (1, .int p1), (2, .int p2), (3, .int p3)] []
  unfold f_X12_fillsSoon at hf
  have hq45 : ∀ (k45 : Int32 → Sg → Option (Sg)), (∀ (x4 : Int32) (M : Sg), k45 x4 M = some M1 → Wk Z D 7 0 0 (mw cy a M) 45 [(0, .ref (a 0)), (1, .int p1), (4, .int x4)] []) → ∀ (x4 : Int32) (M : Sg), f_X12_fillsSoon_b45 p1 p2 p3 k45 x4 M = some M1 → Wk Z D 7 0 0 (mw cy a M) 45 [(0, .ref (a 0)), (1, .int p1), (4, .int x4)] [] := by
    intro k45 hk45 x4 M hf
    unfold f_X12_fillsSoon_b45 at hf
    have hq61 : ∀ (k61 : Int32 → Int32 → Sg → Option (Sg)), (∀ (x4 : Int32) (x5 : Int32) (M : Sg), k61 x4 x5 M = some M1 → Wk Z D 7 0 0 (mw cy a M) 61 [(0, .ref (a 0)), (1, .int p1), (4, .int x4), (5, .int x5)] []) → ∀ (x4 : Int32) (x5 : Int32) (M : Sg), f_X12_fillsSoon_b61 p1 p2 p3 k45 k61 x4 x5 M = some M1 → Wk Z D 7 0 0 (mw cy a M) 61 [(0, .ref (a 0)), (1, .int p1), (4, .int x4), (5, .int x5)] [] := by
      intro k61 hk61 x4 x5 M hf
      unfold f_X12_fillsSoon_b61 at hf
      have hb196 : ∀ (x4 : Int32) (x5 : Int32) (M : Sg), f_X12_fillsSoon_b196 p1 p2 p3 k45 k61 x4 x5 M = some M1 → Wk Z D 7 0 0 (mw cy a M) 196 [(0, .ref (a 0)), (1, .int p1), (4, .int x4), (5, .int x5)] [] := by
        intro x4 x5 M hf
        unfold f_X12_fillsSoon_b196 at hf
        obtain ⟨x5_196, hx, hf⟩ := bnd_some hf
        refine k_iinc C 106 rfl 3 rfl ((cn_1 _).trans hx) (by decide) rfl ?_
        refine k_sub (lv2 := [(0, .ref (a 0)), (1, .int p1), (4, .int x4), (5, .int x5_196)]) [1, 2, 3, 0] rfl ?_
        refine k_goto C 107 rfl 61 (by decide) ?_
        exact k_sub [0, 1, 2, 3] rfl (hk61 x4 x5_196 M hf)
      have hb193 : ∀ (x4 : Int32) (x5 : Int32) (s1 : Int32) (s2 : Int32) (M : Sg), f_X12_fillsSoon_b193 p1 p2 p3 k45 k61 x4 x5 s1 s2 M = some M1 → Wk Z D 7 0 0 (mw cy a M) 193 [(0, .ref (a 0)), (1, .int p1), (4, .int x4), (5, .int x5)] [.int s2, .int s1, .ref (a 0)] := by
        intro x4 x5 s1 s2 M hf
        unfold f_X12_fillsSoon_b193 at hf
        obtain ⟨M_193, h5, hf⟩ := ob1_some hf
        refine k_callW C 105 (c_X12_comesAt Z.2.1 D cy a M s1 s2 M_193 h5) rfl qX12_415 mvX12_comesAt 0 12 M_c0 rfl rfl rfl (Nat.le_of_ble_eq_true rfl) ⟨Nat.le_of_ble_eq_true rfl, Nat.le_of_ble_eq_true rfl, Nat.le_refl 0, Nat.le_refl 0⟩ ?_
        exact k_sub [0, 1, 2, 3] rfl (hb196 x4 x5 M_193 hf)
      have hb147 : ∀ (x4 : Int32) (x5 : Int32) (s1 : Int32) (s2 : Int32) (M : Sg), f_X12_fillsSoon_b147 p1 p2 p3 k45 k61 x4 x5 s1 s2 M = some M1 → Wk Z D 7 0 0 (mw cy a M) 147 [(0, .ref (a 0)), (1, .int p1), (4, .int x4), (5, .int x5)] [.int s2, .int s1, .ref (a 0)] := by
        intro x4 x5 s1 s2 M hf
        unfold f_X12_fillsSoon_b147 at hf
        obtain ⟨M_147, h5, hf⟩ := ob1_some hf
        refine k_callW C 80 (c_X12_comesAt Z.2.1 D cy a M s1 s2 M_147 h5) rfl qX12_415 mvX12_comesAt 0 12 M_c0 rfl rfl rfl (Nat.le_of_ble_eq_true rfl) ⟨Nat.le_of_ble_eq_true rfl, Nat.le_of_ble_eq_true rfl, Nat.le_refl 0, Nat.le_refl 0⟩ ?_
        refine k_aload_0 C 81 rfl 0 rfl ?_
        refine k_iload_1 C 82 rfl 1 rfl ?_
        refine k_iload C 83 rfl 2 rfl ?_
        refine k_iload C 84 rfl 3 rfl ?_
        refine k_aload_0 C 85 rfl 0 rfl ?_
        refine kg12_24 C 86 rfl qX12_45 0 M_c0 M_f0_24 ?_
        refine k_iload C 87 rfl 2 rfl ?_
        obtain ⟨i162, hi, hin, hf⟩ := ixd_some hf
        refine k_iald C 88 rfl 12 M_c12 hin hi ?_
        obtain ⟨r163, h5, hf⟩ := ob1_some hf
        refine k_callW C 89 (c_X12_outsideFrom Z.2.1 D cy a M_147 p1 x4 x5 (M_147.2.1 24 i162) r163 h5) rfl qX12_418 mvX12_outsideFrom 0 12 M_c0 rfl rfl rfl (Nat.le_of_ble_eq_true rfl) ⟨Nat.le_of_ble_eq_true rfl, Nat.le_of_ble_eq_true rfl, Nat.le_refl 0, Nat.le_refl 0⟩ ?_
        refine k_istore C 90 rfl (by decide) rfl ?_
        refine k_sub (lv2 := [(0, .ref (a 0)), (1, .int p1), (4, .int x4), (5, .int x5), (6, .int r163)]) [1, 2, 3, 4, 0] rfl ?_
        refine k_aload_0 C 91 rfl 0 rfl ?_
        refine k_iload C 92 rfl 3 rfl ?_
        refine k_iload C 93 rfl 4 rfl ?_
        refine k_if_ge C 94 rfl 180 (by decide) (fun hc => ?_) (fun hc => ?_)
        · replace hf := if_t hf hc
          refine k_iload C 97 rfl 4 rfl ?_
          refine k_aload_0 C 98 rfl 0 rfl ?_
          refine k_iload_1 C 99 rfl 1 rfl ?_
          refine k_iload C 100 rfl 2 rfl ?_
          refine k_iload C 101 rfl 3 rfl ?_
          refine k_iconst C 102 rfl ci_0 ?_
          obtain ⟨r189, h5, hf⟩ := ob1_some hf
          refine k_callW C 103 (c_X12_timeOf Z.2.1 D cy a M_147 p1 x4 x5 false r189 h5) rfl qX12_352 mvX12_timeOf 0 12 M_c0 rfl rfl rfl (Nat.le_of_ble_eq_true rfl) ⟨Nat.le_of_ble_eq_true rfl, Nat.le_of_ble_eq_true rfl, Nat.le_refl 0, Nat.le_refl 0⟩ ?_
          refine k_iadd C 104 rfl ?_
          exact k_sub [0, 1, 2, 3] rfl (hb193 x4 x5 x5 (r163 + r189) M_147 hf)
        · replace hf := if_f hf hc
          refine k_iconst C 95 rfl ci_m1 ?_
          refine k_goto C 96 rfl 193 (by decide) ?_
          exact k_sub [0, 1, 2, 3] rfl (hb193 x4 x5 x5 (-1) M_147 hf)
      have hb120 : ∀ (x4 : Int32) (x5 : Int32) (s0 : Int32) (M : Sg), f_X12_fillsSoon_b120 p1 p2 p3 k45 k61 x4 x5 s0 M = some M1 → Wk Z D 7 0 0 (mw cy a M) 120 [(0, .ref (a 0)), (1, .int p1), (4, .int x4), (5, .int x5)] [.int s0] := by
        intro x4 x5 s0 M hf
        unfold f_X12_fillsSoon_b120 at hf
        refine k_istore C 65 rfl (by decide) rfl ?_
        refine k_sub (lv2 := [(0, .ref (a 0)), (1, .int p1), (4, .int x4), (5, .int x5), (6, .int s0)]) [1, 2, 3, 4, 0] rfl ?_
        refine k_aload_0 C 66 rfl 0 rfl ?_
        refine k_iload C 67 rfl 3 rfl ?_
        refine k_iload C 68 rfl 4 rfl ?_
        refine k_if_ge C 69 rfl 134 (by decide) (fun hc => ?_) (fun hc => ?_)
        · replace hf := if_t hf hc
          refine k_iload C 72 rfl 4 rfl ?_
          refine k_aload_0 C 73 rfl 0 rfl ?_
          refine k_iload_1 C 74 rfl 1 rfl ?_
          refine k_iload C 75 rfl 2 rfl ?_
          refine k_iload C 76 rfl 3 rfl ?_
          refine k_iconst C 77 rfl ci_1 ?_
          obtain ⟨r143, h5, hf⟩ := ob1_some hf
          refine k_callW C 78 (c_X12_timeOf Z.2.1 D cy a M p1 x4 x5 true r143 h5) rfl qX12_352 mvX12_timeOf 0 12 M_c0 rfl rfl rfl (Nat.le_of_ble_eq_true rfl) ⟨Nat.le_of_ble_eq_true rfl, Nat.le_of_ble_eq_true rfl, Nat.le_refl 0, Nat.le_refl 0⟩ ?_
          refine k_iadd C 79 rfl ?_
          exact k_sub [0, 1, 2, 3] rfl (hb147 x4 x5 x5 (s0 + r143) M hf)
        · replace hf := if_f hf hc
          refine k_iconst C 70 rfl ci_m1 ?_
          refine k_goto C 71 rfl 147 (by decide) ?_
          exact k_sub [0, 1, 2, 3] rfl (hb147 x4 x5 x5 (-1) M hf)
      have hb100 : ∀ (x4 : Int32) (x5 : Int32) (M : Sg), f_X12_fillsSoon_b100 p1 p2 p3 k45 k61 x4 x5 M = some M1 → Wk Z D 7 0 0 (mw cy a M) 100 [(0, .ref (a 0)), (1, .int p1), (4, .int x4), (5, .int x5)] [] := by
        intro x4 x5 M hf
        unfold f_X12_fillsSoon_b100 at hf
        refine k_aload_0 C 54 rfl 0 rfl ?_
        refine k_iload_1 C 55 rfl 1 rfl ?_
        refine k_iload C 56 rfl 2 rfl ?_
        refine k_iload C 57 rfl 3 rfl ?_
        refine k_aload_0 C 58 rfl 0 rfl ?_
        refine kg12_24 C 59 rfl qX12_45 0 M_c0 M_f0_24 ?_
        refine k_iload C 60 rfl 2 rfl ?_
        obtain ⟨i112, hi, hin, hf⟩ := ixd_some hf
        refine k_iald C 61 rfl 12 M_c12 hin hi ?_
        obtain ⟨r113, h5, hf⟩ := ob1_some hf
        refine k_callW C 62 (c_X12_insideFrom Z.2.1 D cy a M p1 x4 x5 (M.2.1 24 i112) r113 h5) rfl qX12_411 mvX12_insideFrom 0 12 M_c0 rfl rfl rfl (Nat.le_of_ble_eq_true rfl) ⟨Nat.le_of_ble_eq_true rfl, Nat.le_of_ble_eq_true rfl, Nat.le_refl 0, Nat.le_refl 0⟩ ?_
        refine k_goto C 63 rfl 120 (by decide) ?_
        exact k_sub [0, 1, 2, 3] rfl (hb120 x4 x5 r113 M hf)
      refine k_iload C 34 rfl 3 rfl ?_
      refine k_aload_0 C 35 rfl 0 rfl ?_
      refine kg12_20 C 36 rfl qX12_39 0 M_c0 M_f0_20 ?_
      refine k_iconst C 37 rfl ci_0 ?_
      refine k_iald C 38 rfl 10 M_c10 vi_0_137 tc_0 ?_
      refine k_icmp_ge C 39 rfl 202 (by decide) (fun hc => ?_) (fun hc => ?_)
      · replace hf := if_t hf hc
        refine k_aload_0 C 108 rfl 0 rfl ?_
        obtain ⟨r203, h5, hf⟩ := ob1_some hf
        refine k_callW C 109 (c_X12_nextSoon Z.2.1 D cy a M r203 h5) rfl qX12_408 mvX12_nextSoon 0 12 M_c0 rfl rfl rfl (Nat.le_of_ble_eq_true rfl) ⟨Nat.le_of_ble_eq_true rfl, Nat.le_of_ble_eq_true rfl, Nat.le_refl 0, Nat.le_refl 0⟩ ?_
        refine k_istore C 110 rfl (by decide) rfl ?_
        refine k_sub (lv2 := [(0, .ref (a 0)), (1, .int p1), (4, .int r203), (5, .int x5)]) [1, 2, 0, 3] rfl ?_
        refine k_goto C 111 rfl 45 (by decide) ?_
        exact k_sub [0, 1, 2] rfl (hk45 r203 M hf)
      · replace hf := if_f hf hc
        refine k_iload C 40 rfl 3 rfl ?_
        refine k_iload C 41 rfl 2 rfl ?_
        refine k_icmp_ne C 42 rfl 82 (by decide) (fun hc => ?_) (fun hc => ?_)
        · replace hf := if_f hf hc
          refine k_iload C 44 rfl 3 rfl ?_
          refine k_iload C 45 rfl 2 rfl ?_
          refine k_iconst C 46 rfl ci_1 ?_
          refine k_isub C 47 rfl ?_
          refine k_icmp_eq C 48 rfl 100 (by decide) (fun hc => ?_) (fun hc => ?_)
          · replace hf := if_t hf hc
            exact k_sub [0, 1, 2, 3] rfl (hb100 x4 x5 M hf)
          · replace hf := if_f hf hc
            refine k_iload C 49 rfl 3 rfl ?_
            refine k_iload C 50 rfl 2 rfl ?_
            refine k_iconst C 51 rfl ci_1 ?_
            refine k_iadd C 52 rfl ?_
            refine k_icmp_ne C 53 rfl 119 (by decide) (fun hc => ?_) (fun hc => ?_)
            · replace hf := if_f hf hc
              refine k_iconst C 64 rfl ci_m1 ?_
              exact k_sub [0, 1, 2, 3] rfl (hb120 x4 x5 (-1) M hf)
            · replace hf := if_t hf hc
              exact k_sub [0, 1, 2, 3] rfl (hb100 x4 x5 M hf)
        · replace hf := if_t hf hc
          refine k_goto C 43 rfl 196 (by decide) ?_
          exact k_sub [0, 1, 2, 3] rfl (hb196 x4 x5 M hf)
    have hb61 := flW3 hq61
    refine k_iload C 25 rfl 2 rfl ?_
    refine k_if_lt C 26 rfl 211 (by decide) (fun hc => ?_) (fun hc => ?_)
    · replace hf := if_t hf hc
      exact k_vret (wf := (fun u => (mw cy a u))) hR 112 rfl hf
    · replace hf := if_f hf hc
      refine k_aload_0 C 27 rfl 0 rfl ?_
      refine kg12_25 C 28 rfl qX12_48 0 M_c0 M_f0_25 ?_
      refine k_iload C 29 rfl 2 rfl ?_
      refine k_iconst C 30 rfl ci_1 ?_
      obtain ⟨i57, hi, hin, hf⟩ := ixd_some hf
      obtain ⟨M_57, hM, hf⟩ := bnd_some hf
      refine k_zast (w2 := (mw cy a M_57)) C 31 rfl 13 M_c13 hin hi (M_s13.trans (congrArg (fun z => (mw cy a z)) hM)) ?_
      refine k_iconst C 32 rfl ci_0 ?_
      refine k_istore C 33 rfl (by decide) rfl ?_
      refine k_sub (lv2 := [(0, .ref (a 0)), (1, .int p1), (4, .int x4), (5, .int 0)]) [1, 2, 3, 0] rfl ?_
      exact k_sub [0, 1, 2, 3] rfl (hb61 FU x4 0 M_57 hf)
  have hb45 := flW2 hq45
  have hq3 : ∀ (k3 : Int32 → Sg → Option (Sg)), (∀ (x4 : Int32) (M : Sg), k3 x4 M = some M1 → Wk Z D 7 0 0 (mw cy a M) 3 [(0, .ref (a 0)), (1, .int p1), (2, .int p2), (3, .int p3), (4, .int x4)] []) → ∀ (x4 : Int32) (M : Sg), f_X12_fillsSoon_b3 p1 p2 p3 k3 x4 M = some M1 → Wk Z D 7 0 0 (mw cy a M) 3 [(0, .ref (a 0)), (1, .int p1), (2, .int p2), (3, .int p3), (4, .int x4)] [] := by
    intro k3 hk3 x4 M hf
    unfold f_X12_fillsSoon_b3 at hf
    refine k_iload C 2 rfl 4 rfl ?_
    refine k_bipush C 3 rfl cb_8 ?_
    refine k_icmp_ge C 4 rfl 32 (by decide) (fun hc => ?_) (fun hc => ?_)
    · replace hf := if_t hf hc
      refine k_aload_0 C 17 rfl 0 rfl ?_
      refine kg12_24 C 18 rfl qX12_45 0 M_c0 M_f0_24 ?_
      refine k_iload_2 C 19 rfl 2 rfl ?_
      refine k_iload_3 C 20 rfl 3 rfl ?_
      obtain ⟨i38, hi, hin, hf⟩ := ixd_some hf
      obtain ⟨M_38, hM, hf⟩ := bnd_some hf
      refine k_iast (w2 := (mw cy a M_38)) C 21 rfl 12 M_c12 hin hi (M_s12.trans (congrArg (fun z => (mw cy a z)) hM)) ?_
      refine k_aload_0 C 22 rfl 0 rfl ?_
      obtain ⟨r40, h5, hf⟩ := ob1_some hf
      refine k_callW C 23 (c_X12_nextSoon Z.2.1 D cy a M_38 r40 h5) rfl qX12_408 mvX12_nextSoon 0 12 M_c0 rfl rfl rfl (Nat.le_of_ble_eq_true rfl) ⟨Nat.le_of_ble_eq_true rfl, Nat.le_of_ble_eq_true rfl, Nat.le_refl 0, Nat.le_refl 0⟩ ?_
      refine k_istore C 24 rfl (by decide) rfl ?_
      refine k_sub (lv2 := [(0, .ref (a 0)), (1, .int p1), (2, .int p2), (3, .int p3), (4, .int r40)]) [1, 2, 3, 4, 0] rfl ?_
      exact k_sub [0, 1, 4] rfl (hb45 FU r40 M_38 hf)
    · replace hf := if_f hf hc
      refine k_aload_0 C 5 rfl 0 rfl ?_
      refine kg12_24 C 6 rfl qX12_45 0 M_c0 M_f0_24 ?_
      refine k_iload C 7 rfl 4 rfl ?_
      refine k_iconst C 8 rfl ci_m1 ?_
      obtain ⟨i17, hi, hin, hf⟩ := ixd_some hf
      obtain ⟨M_17, hM, hf⟩ := bnd_some hf
      refine k_iast (w2 := (mw cy a M_17)) C 9 rfl 12 M_c12 hin hi (M_s12.trans (congrArg (fun z => (mw cy a z)) hM)) ?_
      refine k_aload_0 C 10 rfl 0 rfl ?_
      refine kg12_25 C 11 rfl qX12_48 0 M_c0 M_f0_25 ?_
      refine k_iload C 12 rfl 4 rfl ?_
      refine k_iconst C 13 rfl ci_0 ?_
      obtain ⟨i25, hi, hin, hf⟩ := ixd_some hf
      obtain ⟨M_25, hM, hf⟩ := bnd_some hf
      refine k_zast (w2 := (mw cy a M_25)) C 14 rfl 13 M_c13 hin hi (M_s13.trans (congrArg (fun z => (mw cy a z)) hM)) ?_
      obtain ⟨x4_26, hx, hf⟩ := bnd_some hf
      refine k_iinc C 15 rfl 4 rfl ((cn_1 _).trans hx) (by decide) rfl ?_
      refine k_sub (lv2 := [(0, .ref (a 0)), (1, .int p1), (2, .int p2), (3, .int p3), (4, .int x4_26)]) [1, 2, 3, 4, 0] rfl ?_
      refine k_goto C 16 rfl 3 (by decide) ?_
      exact k_sub [0, 1, 2, 3, 4] rfl (hk3 x4_26 M_25 hf)
  have hb3 := flW2 hq3
  refine k_iconst C 0 rfl ci_0 ?_
  refine k_istore C 1 rfl (by decide) rfl ?_
  refine k_sub (lv2 := [(0, .ref (a 0)), (1, .int p1), (2, .int p2), (3, .int p3), (4, .int 0)]) [1, 2, 3, 4, 0] rfl ?_
  exact k_sub [0, 1, 2, 3, 4] rfl (hb3 FU 0 M hf)
set_option maxHeartbeats 1000000 in
set_option maxRecDepth 20000 in
theorem c_X12_rightFrom (l : Launch) (D : va_G) (cy : Nat → ClassId) (a : Nat → Nat) (M : Sg) (p1 : Int32) (p2 : Int32) (p3 : Int32) (r : Int32) (M1 : Sg) (hf : f_X12_rightFrom M p1 p2 p3 = some (r, M1)) : Ct l D cy yX12_rightFrom cX12_rightFrom 6 (some .int) 6 146 0 0 [.ref (a 0), .int p1, .int p2, .int p3] (mw cy a M) (some (.int r)) (mw cy a M1) := by
  refine Ct_i tX12_rightFrom hX12_rightFrom (by decide) (Nat.le_of_ble_eq_true rfl) ?_
  intro Z hZ C hR
  subst hZ
  replace C : Cx Z D cy RX12 tX12_rightFrom 6 6 146 0 0 := C
  show Wk Z D 6 0 0 (mw cy a M) 0 [(0, .ref (a 0)), (1, .int p1), (2, .int p2), (3, .int p3)] []
  unfold f_X12_rightFrom at hf
  have hq13 : ∀ (k13 : Int32 → Int32 → Sg → Option (Int32 × Sg)), (∀ (x4 : Int32) (x5 : Int32) (M : Sg), k13 x4 x5 M = some (r, M1) → Wk Z D 6 0 0 (mw cy a M) 13 [(0, .ref (a 0)), (1, .int p1), (4, .int x4), (5, .int x5)] []) → ∀ (x4 : Int32) (x5 : Int32) (M : Sg), f_X12_rightFrom_b13 p1 p2 p3 k13 x4 x5 M = some (r, M1) → Wk Z D 6 0 0 (mw cy a M) 13 [(0, .ref (a 0)), (1, .int p1), (4, .int x4), (5, .int x5)] [] := by
    intro k13 hk13 x4 x5 M hf
    unfold f_X12_rightFrom_b13 at hf
    have hb70 : ∀ (x4 : Int32) (x5 : Int32) (M : Sg), f_X12_rightFrom_b70 p1 p2 p3 k13 x4 x5 M = some (r, M1) → Wk Z D 6 0 0 (mw cy a M) 70 [(0, .ref (a 0)), (1, .int p1), (4, .int x4), (5, .int x5)] [] := by
      intro x4 x5 M hf
      unfold f_X12_rightFrom_b70 at hf
      obtain ⟨x5_70, hx, hf⟩ := bnd_some hf
      refine k_iinc C 38 rfl 3 rfl ((cn_1 _).trans hx) (by decide) rfl ?_
      refine k_sub (lv2 := [(0, .ref (a 0)), (1, .int p1), (4, .int x4), (5, .int x5_70)]) [1, 2, 3, 0] rfl ?_
      refine k_goto C 39 rfl 13 (by decide) ?_
      exact k_sub [0, 1, 2, 3] rfl (hk13 x4 x5_70 M hf)
    have hb61 : ∀ (x5 : Int32) (M : Sg), f_X12_rightFrom_b61 p1 p2 p3 k13 x5 M = some (r, M1) → Wk Z D 6 0 0 (mw cy a M) 61 [(0, .ref (a 0)), (1, .int p1), (5, .int x5)] [] := by
      intro x5 M hf
      unfold f_X12_rightFrom_b61 at hf
      refine k_aload_0 C 33 rfl 0 rfl ?_
      refine kg12_24 C 34 rfl qX12_45 0 M_c0 M_f0_24 ?_
      refine k_iload C 35 rfl 2 rfl ?_
      obtain ⟨i67, hi, hin, hf⟩ := ixd_some hf
      refine k_iald C 36 rfl 12 M_c12 hin hi ?_
      obtain ⟨x4_68, hx, hf⟩ := bnd_some hf
      refine k_topi hx ?_
      refine k_istore C 37 rfl (by decide) rfl ?_
      refine k_sub (lv2 := [(0, .ref (a 0)), (1, .int p1), (4, .int x4_68), (5, .int x5)]) [1, 2, 0, 3] rfl ?_
      exact k_sub [0, 1, 2, 3] rfl (hb70 x4_68 x5 M hf)
    refine k_iload C 9 rfl 3 rfl ?_
    refine k_aload_0 C 10 rfl 0 rfl ?_
    refine kg12_20 C 11 rfl qX12_39 0 M_c0 M_f0_20 ?_
    refine k_iconst C 12 rfl ci_0 ?_
    refine k_iald C 13 rfl 10 M_c10 vi_0_137 tc_0 ?_
    refine k_icmp_ge C 14 rfl 76 (by decide) (fun hc => ?_) (fun hc => ?_)
    · replace hf := if_t hf hc
      refine k_iload C 40 rfl 2 rfl ?_
      exact k_iret (wf := (fun u => (mw cy a u))) hR 41 rfl hf
    · replace hf := if_f hf hc
      refine k_aload_0 C 15 rfl 0 rfl ?_
      refine k_iload_1 C 16 rfl 1 rfl ?_
      refine k_iload C 17 rfl 3 rfl ?_
      obtain ⟨r28, h5, hf⟩ := ob1_some hf
      refine k_callW C 18 (c_X12_isRight Z.2.1 D cy a M p1 x5 r28 h5) rfl qX12_346 mvX12_isRight 0 12 M_c0 rfl rfl rfl (Nat.le_of_ble_eq_true rfl) ⟨Nat.le_of_ble_eq_true rfl, Nat.le_of_ble_eq_true rfl, Nat.le_refl 0, Nat.le_refl 0⟩ ?_
      refine k_if_eq C 19 rfl 70 (by decide) (fun hc => ?_) (fun hc => ?_)
      · replace hf := if_t hf hc
        exact k_sub [0, 1, 2, 3] rfl (hb70 x4 x5 M hf)
      · replace hf := if_f hf hc
        refine k_aload_0 C 20 rfl 0 rfl ?_
        refine kg12_24 C 21 rfl qX12_45 0 M_c0 M_f0_24 ?_
        refine k_iload C 22 rfl 3 rfl ?_
        obtain ⟨i40, hi, hin, hf⟩ := ixd_some hf
        refine k_iald C 23 rfl 12 M_c12 hin hi ?_
        refine k_if_lt C 24 rfl 70 (by decide) (fun hc => ?_) (fun hc => ?_)
        · replace hf := if_t hf hc
          exact k_sub [0, 1, 2, 3] rfl (hb70 x4 x5 M hf)
        · replace hf := if_f hf hc
          refine k_iload C 25 rfl 2 rfl ?_
          refine k_if_lt C 26 rfl 61 (by decide) (fun hc => ?_) (fun hc => ?_)
          · replace hf := if_t hf hc
            exact k_sub [0, 1, 3] rfl (hb61 x5 M hf)
          · replace hf := if_f hf hc
            refine k_aload_0 C 27 rfl 0 rfl ?_
            refine kg12_24 C 28 rfl qX12_45 0 M_c0 M_f0_24 ?_
            refine k_iload C 29 rfl 3 rfl ?_
            obtain ⟨i55, hi, hin, hf⟩ := ixd_some hf
            refine k_iald C 30 rfl 12 M_c12 hin hi ?_
            refine k_iload C 31 rfl 2 rfl ?_
            refine k_icmp_ge C 32 rfl 70 (by decide) (fun hc => ?_) (fun hc => ?_)
            · replace hf := if_t hf hc
              exact k_sub [0, 1, 2, 3] rfl (hb70 x4 x5 M hf)
            · replace hf := if_f hf hc
              exact k_sub [0, 1, 3] rfl (hb61 x5 M hf)
  have hb13 := flW3 hq13
  refine k_aload_0 C 0 rfl 0 rfl ?_
  refine k_iload_1 C 1 rfl 1 rfl ?_
  refine k_iload_2 C 2 rfl 2 rfl ?_
  refine k_iload_3 C 3 rfl 3 rfl ?_
  obtain ⟨M_4, h5, hf⟩ := ob1_some hf
  refine k_callW C 4 (c_X12_fillsSoon Z.2.1 D cy a M p1 p2 p3 M_4 h5) rfl qX12_421 mvX12_fillsSoon 0 12 M_c0 rfl rfl rfl (Nat.le_of_ble_eq_true rfl) ⟨Nat.le_of_ble_eq_true rfl, Nat.le_of_ble_eq_true rfl, Nat.le_refl 0, Nat.le_refl 0⟩ ?_
  refine k_iconst C 5 rfl ci_m1 ?_
  refine k_istore C 6 rfl (by decide) rfl ?_
  refine k_sub (lv2 := [(0, .ref (a 0)), (1, .int p1), (2, .int p2), (3, .int p3), (4, .int (-1))]) [1, 2, 3, 4, 0] rfl ?_
  refine k_iconst C 7 rfl ci_0 ?_
  refine k_istore C 8 rfl (by decide) rfl ?_
  refine k_sub (lv2 := [(0, .ref (a 0)), (1, .int p1), (2, .int p2), (3, .int p3), (4, .int (-1)), (5, .int 0)]) [1, 2, 3, 4, 5, 0] rfl ?_
  exact k_sub [0, 1, 4, 5] rfl (hb13 FU (-1) 0 M_4 hf)
