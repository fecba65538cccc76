set_option maxHeartbeats 1000000 in
set_option maxRecDepth 20000 in
theorem c_X12_count (l : Launch) (D : va_G) (cy : Nat → ClassId) (a : Nat → Nat) (M : Sg) (p1 : Int32) (r : Int32) (hf : f_X12_count M p1 = some r) : Ct l D cy yX12_count cX12_count 4 (some .int) 2 47 0 0 [.ref (a 0), .int p1] (mw cy a M) (some (.int r)) (mw cy a M) := by
  refine Ct_i tX12_count hX12_count (by decide) (Nat.le_of_ble_eq_true rfl) ?_
  intro Z hZ C hR
  subst hZ
  replace C : Cx Z D cy RX12 tX12_count 4 2 47 0 0 := C
  show Wk Z D 4 0 0 (mw cy a M) 0 [(0, .ref (a 0)), (1, .int p1)] []
  unfold f_X12_count at hf
  have hq116 : ∀ (k116 : Int32 → Int32 → Option (Int32)), (∀ (x2 : Int32) (x3 : Int32), k116 x2 x3 = some r → Wk Z D 4 0 0 (mw cy a M) 116 [(0, .ref (a 0)), (1, .int p1), (2, .int x2), (3, .int x3)] []) → ∀ (x2 : Int32) (x3 : Int32), f_X12_count_b116 M p1 k116 x2 x3 = some r → Wk Z D 4 0 0 (mw cy a M) 116 [(0, .ref (a 0)), (1, .int p1), (2, .int x2), (3, .int x3)] [] := by
    intro k116 hk116 x2 x3 hf
    unfold f_X12_count_b116 at hf
    have hb163 : ∀ (x3 : Int32) (s0 : Int32) (s1 : Int32), f_X12_count_b163 M p1 k116 x3 s0 s1 = some r → Wk Z D 4 0 0 (mw cy a M) 163 [(0, .ref (a 0)), (1, .int p1), (3, .int x3)] [.int s1, .int s0] := by
      intro x3 s0 s1 hf
      unfold f_X12_count_b163 at hf
      refine k_iadd C 60 rfl ?_
      obtain ⟨x2_164, hx, hf⟩ := bnd_some hf
      refine k_topi hx ?_
      refine k_istore_2 C 61 rfl (by decide) rfl ?_
      refine k_sub (lv2 := [(0, .ref (a 0)), (1, .int p1), (2, .int x2_164), (3, .int x3)]) [1, 2, 0, 3] rfl ?_
      obtain ⟨x3_165, hx, hf⟩ := bnd_some hf
      refine k_iinc C 62 rfl 3 rfl ((cn_1 _).trans hx) (by decide) rfl ?_
      refine k_sub (lv2 := [(0, .ref (a 0)), (1, .int p1), (2, .int x2_164), (3, .int x3_165)]) [1, 2, 3, 0] rfl ?_
      refine k_goto C 63 rfl 116 (by decide) ?_
      exact k_sub [0, 1, 2, 3] rfl (hk116 x2_164 x3_165 hf)
    have hb162 : ∀ (x3 : Int32) (s0 : Int32), f_X12_count_b162 M p1 k116 x3 s0 = some r → Wk Z D 4 0 0 (mw cy a M) 162 [(0, .ref (a 0)), (1, .int p1), (3, .int x3)] [.int s0] := by
      intro x3 s0 hf
      unfold f_X12_count_b162 at hf
      refine k_iconst C 59 rfl ci_0 ?_
      exact k_sub [0, 1, 2] rfl (hb163 x3 s0 0 hf)
    have hb158 : ∀ (x3 : Int32) (s0 : Int32), f_X12_count_b158 M p1 k116 x3 s0 = some r → Wk Z D 4 0 0 (mw cy a M) 158 [(0, .ref (a 0)), (1, .int p1), (3, .int x3)] [.int s0] := by
      intro x3 s0 hf
      unfold f_X12_count_b158 at hf
      refine k_iconst C 57 rfl ci_1 ?_
      refine k_goto C 58 rfl 163 (by decide) ?_
      exact k_sub [0, 1, 2] rfl (hb163 x3 s0 1 hf)
    refine k_iload_3 C 34 rfl 3 rfl ?_
    refine k_aload_0 C 35 rfl 0 rfl ?_
    refine kg12_20 C 36 rfl qX12_39 0 M_c0 M_f0_20 ?_
    refine k_iconst C 37 rfl ci_2 ?_
    refine k_iald C 38 rfl 10 M_c10 vi_2_137 tc_2 ?_
    refine k_icmp_ge C 39 rfl 171 (by decide) (fun hc => ?_) (fun hc => ?_)
    · replace hf := if_t hf hc
      refine k_iload_2 C 64 rfl 2 rfl ?_
      exact k_iretP hR 65 rfl hf
    · replace hf := if_f hf hc
      refine k_iload_2 C 40 rfl 2 rfl ?_
      refine k_iload_1 C 41 rfl 1 rfl ?_
      refine k_bipush C 42 rfl cb_7 ?_
      refine k_icmp_ne C 43 rfl 144 (by decide) (fun hc => ?_) (fun hc => ?_)
      · replace hf := if_f hf hc
        refine k_aload_0 C 49 rfl 0 rfl ?_
        refine k_iload_3 C 50 rfl 3 rfl ?_
        refine k_aload_0 C 51 rfl 0 rfl ?_
        refine k_iload_3 C 52 rfl 3 rfl ?_
        refine k_iconst C 53 rfl ci_0 ?_
        obtain ⟨r149, h5, hf⟩ := ob1_some hf
        refine k_callW C 54 (c_X12_riderOf Z.2.1 D cy a M x3 0 r149 h5) rfl qX12_312 mvX12_riderOf 0 12 M_c0 rfl rfl rfl (Nat.le_of_ble_eq_true rfl) ⟨Nat.le_of_ble_eq_true rfl, Nat.le_of_ble_eq_true rfl, Nat.le_refl 0, Nat.le_refl 0⟩ ?_
        obtain ⟨r152, h5, hf⟩ := ob1_some hf
        refine k_callW C 55 (c_X12_isRight Z.2.1 D cy a M x3 r149 r152 h5) rfl qX12_346 mvX12_isRight 0 12 M_c0 rfl rfl rfl (Nat.le_of_ble_eq_true rfl) ⟨Nat.le_of_ble_eq_true rfl, Nat.le_of_ble_eq_true rfl, Nat.le_refl 0, Nat.le_refl 0⟩ ?_
        refine k_if_eq C 56 rfl 162 (by decide) (fun hc => ?_) (fun hc => ?_)
        · replace hf := if_t hf hc
          exact k_sub [0, 1, 3] rfl (hb162 x3 x2 hf)
        · replace hf := if_f hf hc
          exact k_sub [0, 1, 3] rfl (hb158 x3 x2 hf)
      · replace hf := if_t hf hc
        refine k_aload_0 C 44 rfl 0 rfl ?_
        refine k_iload_3 C 45 rfl 3 rfl ?_
        obtain ⟨r135, h5, hf⟩ := ob1_some hf
        refine k_callW C 46 (c_X12_isGoing Z.2.1 D cy a M x3 r135 h5) rfl qX12_316 mvX12_isGoing 0 12 M_c0 rfl rfl rfl (Nat.le_of_ble_eq_true rfl) ⟨Nat.le_of_ble_eq_true rfl, Nat.le_of_ble_eq_true rfl, Nat.le_refl 0, Nat.le_refl 0⟩ ?_
        refine k_if_eq C 47 rfl 162 (by decide) (fun hc => ?_) (fun hc => ?_)
        · replace hf := if_t hf hc
          exact k_sub [0, 1, 3] rfl (hb162 x3 x2 hf)
        · replace hf := if_f hf hc
          refine k_goto C 48 rfl 158 (by decide) ?_
          exact k_sub [0, 1, 3] rfl (hb158 x3 x2 hf)
  have hb116 := flW2 hq116
  refine k_iconst C 0 rfl ci_0 ?_
  refine k_istore_2 C 1 rfl (by decide) rfl ?_
  refine k_sub (lv2 := [(0, .ref (a 0)), (1, .int p1), (2, .int 0)]) [1, 2, 0] rfl ?_
  refine k_iload_1 C 2 rfl 1 rfl ?_
  obtain ⟨sw3, hx, hf⟩ := bnd_some hf
  refine k_topi hx ?_
  clear hx
  by_cases hs0 : sw3 = 0
  · subst hs0
    replace hf := if_t hf rfl
    refine k_tabIn C 3 rfl 68 (by decide) (by decide) rfl (by decide) ?_
    refine k_aload_0 C 4 rfl 0 rfl ?_
    refine kg12_20 C 5 rfl qX12_39 0 M_c0 M_f0_20 ?_
    refine k_iload_1 C 6 rfl 1 rfl ?_
    obtain ⟨i73, hi, hin, hf⟩ := ixd_some hf
    refine k_iald C 7 rfl 10 M_c10 hin hi ?_
    exact k_iretP hR 8 rfl hf
  by_cases hs1 : sw3 = 1
  · subst hs1
    replace hf := if_f hf (by decide)
    replace hf := if_t hf rfl
    refine k_tabIn C 3 rfl 68 (by decide) (by decide) rfl (by decide) ?_
    refine k_aload_0 C 4 rfl 0 rfl ?_
    refine kg12_20 C 5 rfl qX12_39 0 M_c0 M_f0_20 ?_
    refine k_iload_1 C 6 rfl 1 rfl ?_
    obtain ⟨i73, hi, hin, hf⟩ := ixd_some hf
    refine k_iald C 7 rfl 10 M_c10 hin hi ?_
    exact k_iretP hR 8 rfl hf
  by_cases hs2 : sw3 = 2
  · subst hs2
    replace hf := if_f hf (by decide)
    replace hf := if_f hf (by decide)
    replace hf := if_t hf rfl
    refine k_tabIn C 3 rfl 68 (by decide) (by decide) rfl (by decide) ?_
    refine k_aload_0 C 4 rfl 0 rfl ?_
    refine kg12_20 C 5 rfl qX12_39 0 M_c0 M_f0_20 ?_
    refine k_iload_1 C 6 rfl 1 rfl ?_
    obtain ⟨i73, hi, hin, hf⟩ := ixd_some hf
    refine k_iald C 7 rfl 10 M_c10 hin hi ?_
    exact k_iretP hR 8 rfl hf
  by_cases hs3 : sw3 = 3
  · subst hs3
    replace hf := if_f hf (by decide)
    replace hf := if_f hf (by decide)
    replace hf := if_f hf (by decide)
    replace hf := if_t hf rfl
    refine k_tabIn C 3 rfl 75 (by decide) (by decide) rfl (by decide) ?_
    refine k_aload_0 C 9 rfl 0 rfl ?_
    refine kg12_2 C 10 rfl qX12_288 0 M_c0 M_f0_2 ?_
    exact k_iretP hR 11 rfl hf
  by_cases hs4 : sw3 = 4
  · subst hs4
    replace hf := if_f hf (by decide)
    replace hf := if_f hf (by decide)
    replace hf := if_f hf (by decide)
    replace hf := if_f hf (by decide)
    replace hf := if_t hf rfl
    refine k_tabIn C 3 rfl 80 (by decide) (by decide) rfl (by decide) ?_
    refine k_aload_0 C 12 rfl 0 rfl ?_
    refine kg12_20 C 13 rfl qX12_39 0 M_c0 M_f0_20 ?_
    refine k_iconst C 14 rfl ci_3 ?_
    refine k_iald C 15 rfl 10 M_c10 vi_3_137 tc_3 ?_
    exact k_iretP hR 16 rfl hf
  by_cases hs5 : sw3 = 5
  · subst hs5
    replace hf := if_f hf (by decide)
    replace hf := if_f hf (by decide)
    replace hf := if_f hf (by decide)
    replace hf := if_f hf (by decide)
    replace hf := if_f hf (by decide)
    replace hf := if_t hf rfl
    refine k_tabIn C 3 rfl 87 (by decide) (by decide) rfl (by decide) ?_
    refine k_aload_0 C 17 rfl 0 rfl ?_
    obtain ⟨r88, h5, hf⟩ := ob1_some hf
    refine k_callW C 18 (c_X12_isLine Z.2.1 D cy a M r88 h5) rfl qX12_375 mvX12_isLine 0 12 M_c0 rfl rfl rfl (Nat.le_of_ble_eq_true rfl) ⟨Nat.le_of_ble_eq_true rfl, Nat.le_of_ble_eq_true rfl, Nat.le_refl 0, Nat.le_refl 0⟩ ?_
    refine k_if_eq C 19 rfl 101 (by decide) (fun hc => ?_) (fun hc => ?_)
    · replace hf := if_t hf hc
      refine k_iconst C 23 rfl ci_m1 ?_
      exact k_iretP hR 24 rfl hf
    · replace hf := if_f hf hc
      refine k_aload_0 C 20 rfl 0 rfl ?_
      obtain ⟨r95, h5, hf⟩ := ob1_some hf
      refine k_callW C 21 (c_X12_parting Z.2.1 D cy a M r95 h5) rfl qX12_356 mvX12_parting 0 12 M_c0 rfl rfl rfl (Nat.le_of_ble_eq_true rfl) ⟨Nat.le_of_ble_eq_true rfl, Nat.le_of_ble_eq_true rfl, Nat.le_refl 0, Nat.le_refl 0⟩ ?_
      refine k_goto C 22 rfl 102 (by decide) ?_
      exact k_iretP hR 24 rfl hf
  by_cases hs6 : sw3 = 6
  · subst hs6
    replace hf := if_f hf (by decide)
    replace hf := if_f hf (by decide)
    replace hf := if_f hf (by decide)
    replace hf := if_f hf (by decide)
    replace hf := if_f hf (by decide)
    replace hf := if_f hf (by decide)
    replace hf := if_t hf rfl
    refine k_tabIn C 3 rfl 103 (by decide) (by decide) rfl (by decide) ?_
    refine k_aload_0 C 25 rfl 0 rfl ?_
    refine k_aload_0 C 26 rfl 0 rfl ?_
    refine kg12_20 C 27 rfl qX12_39 0 M_c0 M_f0_20 ?_
    refine k_iconst C 28 rfl ci_3 ?_
    refine k_iald C 29 rfl 10 M_c10 vi_3_137 tc_3 ?_
    obtain ⟨r110, h5, hf⟩ := ob1_some hf
    refine k_callW C 30 (c_X12_haltAt Z.2.1 D cy a M (M.2.1 20 3) r110 h5) rfl qX12_386 mvX12_haltAt 0 12 M_c0 rfl rfl rfl (Nat.le_of_ble_eq_true rfl) ⟨Nat.le_of_ble_eq_true rfl, Nat.le_of_ble_eq_true rfl, Nat.le_refl 0, Nat.le_refl 0⟩ ?_
    exact k_iretP hR 31 rfl hf
  by_cases hs7 : sw3 = 7
  · subst hs7
    replace hf := if_f hf (by decide)
    replace hf := if_f hf (by decide)
    replace hf := if_f hf (by decide)
    replace hf := if_f hf (by decide)
    replace hf := if_f hf (by decide)
    replace hf := if_f hf (by decide)
    replace hf := if_f hf (by decide)
    replace hf := if_t hf rfl
    refine k_tabIn C 3 rfl 114 (by decide) (by decide) rfl (by decide) ?_
    refine k_iconst C 32 rfl ci_0 ?_
    refine k_istore_3 C 33 rfl (by decide) rfl ?_
    refine k_sub (lv2 := [(0, .ref (a 0)), (1, .int p1), (2, .int 0), (3, .int 0)]) [1, 2, 3, 0] rfl ?_
    exact k_sub [0, 1, 2, 3] rfl (hb116 FU 0 0 hf)
  by_cases hs8 : sw3 = 8
  · subst hs8
    replace hf := if_f hf (by decide)
    replace hf := if_f hf (by decide)
    replace hf := if_f hf (by decide)
    replace hf := if_f hf (by decide)
    replace hf := if_f hf (by decide)
    replace hf := if_f hf (by decide)
    replace hf := if_f hf (by decide)
    replace hf := if_f hf (by decide)
    replace hf := if_t hf rfl
    refine k_tabIn C 3 rfl 114 (by decide) (by decide) rfl (by decide) ?_
    refine k_iconst C 32 rfl ci_0 ?_
    refine k_istore_3 C 33 rfl (by decide) rfl ?_
    refine k_sub (lv2 := [(0, .ref (a 0)), (1, .int p1), (2, .int 0), (3, .int 0)]) [1, 2, 3, 0] rfl ?_
    exact k_sub [0, 1, 2, 3] rfl (hb116 FU 0 0 hf)
  by_cases hs9 : sw3 = 9
  · subst hs9
    replace hf := if_f hf (by decide)
    replace hf := if_f hf (by decide)
    replace hf := if_f hf (by decide)
    replace hf := if_f hf (by decide)
    replace hf := if_f hf (by decide)
    replace hf := if_f hf (by decide)
    replace hf := if_f hf (by decide)
    replace hf := if_f hf (by decide)
    replace hf := if_f hf (by decide)
    replace hf := if_t hf rfl
    refine k_tabIn C 3 rfl 173 (by decide) (by decide) rfl (by decide) ?_
    refine k_aload_0 C 66 rfl 0 rfl ?_
    refine kg12_20 C 67 rfl qX12_39 0 M_c0 M_f0_20 ?_
    refine k_sipush C 68 rfl cs_136 ?_
    refine k_iald C 69 rfl 10 M_c10 vi_136_137 tc_136 ?_
    exact k_iretP hR 70 rfl hf
  by_cases hs10 : sw3 = 10
  · subst hs10
    replace hf := if_f hf (by decide)
    replace hf := if_f hf (by decide)
    replace hf := if_f hf (by decide)
    replace hf := if_f hf (by decide)
    replace hf := if_f hf (by decide)
    replace hf := if_f hf (by decide)
    replace hf := if_f hf (by decide)
    replace hf := if_f hf (by decide)
    replace hf := if_f hf (by decide)
    replace hf := if_f hf (by decide)
    replace hf := if_t hf rfl
    refine k_tabIn C 3 rfl 182 (by decide) (by decide) rfl (by decide) ?_
    refine k_aload_0 C 71 rfl 0 rfl ?_
    refine kg12_23 C 72 rfl qX12_294 0 M_c0 M_f0_23 ?_
    exact k_iretP hR 73 rfl hf
  by_cases hs11 : sw3 = 11
  · subst hs11
    replace hf := if_f hf (by decide)
    replace hf := if_f hf (by decide)
    replace hf := if_f hf (by decide)
    replace hf := if_f hf (by decide)
    replace hf := if_f hf (by decide)
    replace hf := if_f hf (by decide)
    replace hf := if_f hf (by decide)
    replace hf := if_f hf (by decide)
    replace hf := if_f hf (by decide)
    replace hf := if_f hf (by decide)
    replace hf := if_f hf (by decide)
    replace hf := if_t hf rfl
    refine k_tabIn C 3 rfl 187 (by decide) (by decide) rfl (by decide) ?_
    refine k_aload_0 C 74 rfl 0 rfl ?_
    refine kg12_21 C 75 rfl qX12_490 0 M_c0 M_f0_21 ?_
    exact k_iretP hR 76 rfl hf
  by_cases hs12 : sw3 = 12
  · subst hs12
    replace hf := if_f hf (by decide)
    replace hf := if_f hf (by decide)
    replace hf := if_f hf (by decide)
    replace hf := if_f hf (by decide)
    replace hf := if_f hf (by decide)
    replace hf := if_f hf (by decide)
    replace hf := if_f hf (by decide)
    replace hf := if_f hf (by decide)
    replace hf := if_f hf (by decide)
    replace hf := if_f hf (by decide)
    replace hf := if_f hf (by decide)
    replace hf := if_f hf (by decide)
    replace hf := if_t hf rfl
    refine k_tabIn C 3 rfl 192 (by decide) (by decide) rfl (by decide) ?_
    refine k_aload_0 C 77 rfl 0 rfl ?_
    refine kg12_1 C 78 rfl qX12_85 0 M_c0 M_f0_1 ?_
    exact k_iretP hR 79 rfl hf
  replace hf := if_f hf hs0
  replace hf := if_f hf hs1
  replace hf := if_f hf hs2
  replace hf := if_f hf hs3
  replace hf := if_f hf hs4
  replace hf := if_f hf hs5
  replace hf := if_f hf hs6
  replace hf := if_f hf hs7
  replace hf := if_f hf hs8
  replace hf := if_f hf hs9
  replace hf := if_f hf hs10
  replace hf := if_f hf hs11
  replace hf := if_f hf hs12
  refine k_tabOut C 3 rfl 197 (sw_out [0, 1, 2, 3, 4, 5, 6, 7, 8, 9, 10, 11, 12] (by intro v hv; simp only [List.mem_cons, List.not_mem_nil, or_false] at hv; rcases hv with rfl | rfl | rfl | rfl | rfl | rfl | rfl | rfl | rfl | rfl | rfl | rfl | rfl <;> assumption) (by decide)) (by decide) ?_
  refine k_iconst C 80 rfl ci_m1 ?_
  exact k_iretP hR 81 rfl hf
set_option maxHeartbeats 1000000 in
set_option maxRecDepth 20000 in
theorem c_X12_image (l : Launch) (D : va_G) (cy : Nat → ClassId) (a : Nat → Nat) (M : Sg) (p1 : Int32) (r : Int32) (M1 : Sg) (hf : f_X12_image M p1 = some (r, M1)) : Ct l D cy yX12_image cX12_image 3 (some .int) 1 25 0 0 [.ref (a 0), .int p1] (mw cy a M) (some (.int r)) (mw cy a M1) := by
  refine Ct_i tX12_image hX12_image (by decide) (Nat.le_of_ble_eq_true rfl) ?_
  intro Z hZ C hR
  subst hZ
  replace C : Cx Z D cy RX12 tX12_image 3 1 25 0 0 := C
  show Wk Z D 3 0 0 (mw cy a M) 0 [(0, .ref (a 0)), (1, .int p1)] []
  unfold f_X12_image at hf
  have hq33 : ∀ (k33 : Int32 → Sg → Option (Int32 × Sg)), (∀ (x2 : Int32) (M : Sg), k33 x2 M = some (r, M1) → Wk Z D 3 0 0 (mw cy a M) 33 [(0, .ref (a 0)), (1, .int p1), (2, .int x2)] []) → ∀ (x2 : Int32) (M : Sg), f_X12_image_b33 p1 k33 x2 M = some (r, M1) → Wk Z D 3 0 0 (mw cy a M) 33 [(0, .ref (a 0)), (1, .int p1), (2, .int x2)] [] := by
    intro k33 hk33 x2 M hf
    unfold f_X12_image_b33 at hf
    refine k_iload_2 C 21 rfl 2 rfl ?_
    refine k_sipush C 22 rfl cs_137 ?_
    refine k_icmp_ge C 23 rfl 64 (by decide) (fun hc => ?_) (fun hc => ?_)
    · replace hf := if_t hf hc
      refine k_aload_0 C 38 rfl 0 rfl ?_
      refine kg12_20 C 39 rfl qX12_39 0 M_c0 M_f0_20 ?_
      refine k_iconst C 40 rfl ci_3 ?_
      refine k_iald C 41 rfl 10 M_c10 vi_3_137 tc_3 ?_
      exact k_iret (wf := (fun u => (mw cy a u))) hR 42 rfl hf
    · replace hf := if_f hf hc
      refine k_aload_0 C 24 rfl 0 rfl ?_
      refine kg12_36 C 25 rfl qX12_76 0 M_c0 M_f0_36 ?_
      refine k_sipush C 26 rfl cs_137 ?_
      refine k_iload_1 C 27 rfl 1 rfl ?_
      refine k_imul C 28 rfl ?_
      refine k_iload_2 C 29 rfl 2 rfl ?_
      refine k_iadd C 30 rfl ?_
      refine k_aload_0 C 31 rfl 0 rfl ?_
      refine kg12_20 C 32 rfl qX12_39 0 M_c0 M_f0_20 ?_
      refine k_iload_2 C 33 rfl 2 rfl ?_
      obtain ⟨i56, hi, hin, hf⟩ := ixd_some hf
      refine k_iald C 34 rfl 10 M_c10 hin hi ?_
      obtain ⟨i57, hi, hin, hf⟩ := ixd_some hf
      obtain ⟨M_57, hM, hf⟩ := bnd_some hf
      refine k_iast (w2 := (mw cy a M_57)) C 35 rfl 22 M_c22 hin hi (M_s22.trans (congrArg (fun z => (mw cy a z)) hM)) ?_
      obtain ⟨x2_58, hx, hf⟩ := bnd_some hf
      refine k_iinc C 36 rfl 2 rfl ((cn_1 _).trans hx) (by decide) rfl ?_
      refine k_sub (lv2 := [(0, .ref (a 0)), (1, .int p1), (2, .int x2_58)]) [1, 2, 0] rfl ?_
      refine k_goto C 37 rfl 33 (by decide) ?_
      exact k_sub [0, 1, 2] rfl (hk33 x2_58 M_57 hf)
  have hb33 := flW2 hq33
  refine k_iload_1 C 0 rfl 1 rfl ?_
  refine k_i2l C 1 rfl ?_
  refine k_lconst0 C 2 rfl ?_
  refine k_ldc2 C 3 rfl qX12_488 ?_
  obtain ⟨r6, h5, hf⟩ := ob1_some hf
  refine k_callE C 4 (c_X12_in Z.2.1 D cy p1.toInt64 (0 : Int64) (3 : Int64) r6 h5) rfl qX12_124 msX12_in rfl rfl (Nat.le_of_ble_eq_true rfl) ⟨Nat.le_of_ble_eq_true rfl, Nat.le_of_ble_eq_true rfl, Nat.le_refl 0, Nat.le_refl 0⟩ ?_
  refine k_if_ne C 5 rfl 14 (by decide) (fun hc => ?_) (fun hc => ?_)
  · replace hf := if_f hf hc
    refine k_aload_0 C 8 rfl 0 rfl ?_
    refine kg12_38 C 9 rfl qX12_82 0 M_c0 M_f0_38 ?_
    refine k_iload_1 C 10 rfl 1 rfl ?_
    refine k_iconst C 11 rfl ci_1 ?_
    obtain ⟨i20, hi, hin, hf⟩ := ixd_some hf
    obtain ⟨M_20, hM, hf⟩ := bnd_some hf
    refine k_zast (w2 := (mw cy a M_20)) C 12 rfl 24 M_c24 hin hi (M_s24.trans (congrArg (fun z => (mw cy a z)) hM)) ?_
    refine k_aload_0 C 13 rfl 0 rfl ?_
    refine kg12_37 C 14 rfl qX12_79 0 M_c0 M_f0_37 ?_
    refine k_iload_1 C 15 rfl 1 rfl ?_
    refine k_aload_0 C 16 rfl 0 rfl ?_
    refine kg12_21 C 17 rfl qX12_490 0 M_c0 M_f0_21 ?_
    obtain ⟨i30, hi, hin, hf⟩ := ixd_some hf
    obtain ⟨M_30, hM, hf⟩ := bnd_some hf
    refine k_iast (w2 := (mw cy a M_30)) C 18 rfl 23 M_c23 hin hi (M_s23.trans (congrArg (fun z => (mw cy a z)) hM)) ?_
    refine k_iconst C 19 rfl ci_0 ?_
    refine k_istore_2 C 20 rfl (by decide) rfl ?_
    refine k_sub (lv2 := [(0, .ref (a 0)), (1, .int p1), (2, .int 0)]) [1, 2, 0] rfl ?_
    exact k_sub [0, 1, 2] rfl (hb33 FU 0 M_30 hf)
  · replace hf := if_t hf hc
    refine k_iconst C 6 rfl ci_m1 ?_
    exact k_iret (wf := (fun u => (mw cy a u))) hR 7 rfl hf
set_option maxHeartbeats 1000000 in
set_option maxRecDepth 20000 in
theorem c_X12_back (l : Launch) (D : va_G) (cy : Nat → ClassId) (a : Nat → Nat) (M : Sg) (p1 : Int32) (r : Int32) (M1 : Sg) (hf : f_X12_back M p1 = some (r, M1)) : Ct l D cy yX12_back cX12_back 3 (some .int) 1 25 0 0 [.ref (a 0), .int p1] (mw cy a M) (some (.int r)) (mw cy a M1) := by
  refine Ct_i tX12_back hX12_back (by decide) (Nat.le_of_ble_eq_true rfl) ?_
  intro Z hZ C hR
  subst hZ
  replace C : Cx Z D cy RX12 tX12_back 3 1 25 0 0 := C
  show Wk Z D 3 0 0 (mw cy a M) 0 [(0, .ref (a 0)), (1, .int p1)] []
  unfold f_X12_back at hf
  have hq40 : ∀ (k40 : Int32 → Sg → Option (Int32 × Sg)), (∀ (x2 : Int32) (M : Sg), k40 x2 M = some (r, M1) → Wk Z D 3 0 0 (mw cy a M) 40 [(0, .ref (a 0)), (1, .int p1), (2, .int x2)] []) → ∀ (x2 : Int32) (M : Sg), f_X12_back_b40 p1 k40 x2 M = some (r, M1) → Wk Z D 3 0 0 (mw cy a M) 40 [(0, .ref (a 0)), (1, .int p1), (2, .int x2)] [] := by
    intro k40 hk40 x2 M hf
    unfold f_X12_back_b40 at hf
    refine k_iload_2 C 24 rfl 2 rfl ?_
    refine k_sipush C 25 rfl cs_137 ?_
    refine k_icmp_ge C 26 rfl 71 (by decide) (fun hc => ?_) (fun hc => ?_)
    · replace hf := if_t hf hc
      refine k_aload_0 C 41 rfl 0 rfl ?_
      refine kg12_20 C 42 rfl qX12_39 0 M_c0 M_f0_20 ?_
      refine k_iconst C 43 rfl ci_3 ?_
      refine k_iald C 44 rfl 10 M_c10 vi_3_137 tc_3 ?_
      exact k_iret (wf := (fun u => (mw cy a u))) hR 45 rfl hf
    · replace hf := if_f hf hc
      refine k_aload_0 C 27 rfl 0 rfl ?_
      refine kg12_20 C 28 rfl qX12_39 0 M_c0 M_f0_20 ?_
      refine k_iload_2 C 29 rfl 2 rfl ?_
      refine k_aload_0 C 30 rfl 0 rfl ?_
      refine kg12_36 C 31 rfl qX12_76 0 M_c0 M_f0_36 ?_
      refine k_sipush C 32 rfl cs_137 ?_
      refine k_iload_1 C 33 rfl 1 rfl ?_
      refine k_imul C 34 rfl ?_
      refine k_iload_2 C 35 rfl 2 rfl ?_
      refine k_iadd C 36 rfl ?_
      obtain ⟨i63, hi, hin, hf⟩ := ixd_some hf
      refine k_iald C 37 rfl 22 M_c22 hin hi ?_
      obtain ⟨i64, hi, hin, hf⟩ := ixd_some hf
      obtain ⟨M_64, hM, hf⟩ := bnd_some hf
      refine k_iast (w2 := (mw cy a M_64)) C 38 rfl 10 M_c10 hin hi (M_s10.trans (congrArg (fun z => (mw cy a z)) hM)) ?_
      obtain ⟨x2_65, hx, hf⟩ := bnd_some hf
      refine k_iinc C 39 rfl 2 rfl ((cn_1 _).trans hx) (by decide) rfl ?_
      refine k_sub (lv2 := [(0, .ref (a 0)), (1, .int p1), (2, .int x2_65)]) [1, 2, 0] rfl ?_
      refine k_goto C 40 rfl 40 (by decide) ?_
      exact k_sub [0, 1, 2] rfl (hk40 x2_65 M_64 hf)
  have hb40 := flW2 hq40
  have hb21 : ∀ (M : Sg), f_X12_back_b21 p1 M = some (r, M1) → Wk Z D 3 0 0 (mw cy a M) 21 [] [] := by
    intro M hf
    unfold f_X12_back_b21 at hf
    refine k_iconst C 11 rfl ci_m1 ?_
    exact k_iret (wf := (fun u => (mw cy a u))) hR 12 rfl hf
  refine k_iload_1 C 0 rfl 1 rfl ?_
  refine k_i2l C 1 rfl ?_
  refine k_lconst0 C 2 rfl ?_
  refine k_ldc2 C 3 rfl qX12_488 ?_
  obtain ⟨r6, h5, hf⟩ := ob1_some hf
  refine k_callE C 4 (c_X12_in Z.2.1 D cy p1.toInt64 (0 : Int64) (3 : Int64) r6 h5) rfl qX12_124 msX12_in rfl rfl (Nat.le_of_ble_eq_true rfl) ⟨Nat.le_of_ble_eq_true rfl, Nat.le_of_ble_eq_true rfl, Nat.le_refl 0, Nat.le_refl 0⟩ ?_
  refine k_if_eq C 5 rfl 21 (by decide) (fun hc => ?_) (fun hc => ?_)
  · replace hf := if_t hf hc
    exact k_sub [] rfl (hb21 M hf)
  · replace hf := if_f hf hc
    refine k_aload_0 C 6 rfl 0 rfl ?_
    refine kg12_38 C 7 rfl qX12_82 0 M_c0 M_f0_38 ?_
    refine k_iload_1 C 8 rfl 1 rfl ?_
    obtain ⟨i17, hi, hin, hf⟩ := ixd_some hf
    refine k_zald C 9 rfl 24 M_c24 hin hi ?_
    refine k_if_ne C 10 rfl 23 (by decide) (fun hc => ?_) (fun hc => ?_)
    · replace hf := if_f hf hc
      refine k_aload_0 C 13 rfl 0 rfl ?_
      refine k_aload_0 C 14 rfl 0 rfl ?_
      refine kg12_37 C 15 rfl qX12_79 0 M_c0 M_f0_37 ?_
      refine k_iload_1 C 16 rfl 1 rfl ?_
      obtain ⟨i29, hi, hin, hf⟩ := ixd_some hf
      refine k_iald C 17 rfl 23 M_c23 hin hi ?_
      obtain ⟨M_30, hM, hf⟩ := bnd_some hf
      refine kp12_21 (w2 := (mw cy a M_30)) C 18 rfl qX12_490 0 M_c0 (v := (M.2.1 37 i29)) M_n0 (M_p0_21.trans (congrArg (fun z => (mw cy a z)) hM)) ?_
      refine k_aload_0 C 19 rfl 0 rfl ?_
      refine k_iconst C 20 rfl ci_0 ?_
      obtain ⟨M_35, hM, hf⟩ := bnd_some hf
      refine kp12_23 (w2 := (mw cy a M_35)) C 21 rfl qX12_294 0 M_c0 (v := 0) M_n0 (M_p0_23.trans (congrArg (fun z => (mw cy a z)) hM)) ?_
      refine k_iconst C 22 rfl ci_0 ?_
      refine k_istore_2 C 23 rfl (by decide) rfl ?_
      refine k_sub (lv2 := [(0, .ref (a 0)), (1, .int p1), (2, .int 0)]) [1, 2, 0] rfl ?_
      exact k_sub [0, 1, 2] rfl (hb40 FU 0 M_35 hf)
    · replace hf := if_t hf hc
      exact k_sub [] rfl (hb21 M hf)
