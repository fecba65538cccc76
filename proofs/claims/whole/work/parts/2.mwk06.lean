set_option maxHeartbeats 1000000 in
set_option maxRecDepth 20000 in
theorem c_X12_allIn (l : Launch) (D : va_G) (cy : Nat → ClassId) (a : Nat → Nat) (M : Sg) (p1 : Int32) (p2 : Int32) (r : Int32) (M1 : Sg) (hf : f_X12_allIn M p1 p2 = some (r, M1)) : Ct l D cy yX12_allIn cX12_allIn 6 (some .int) 6 146 0 0 [.ref (a 0), .int p1, .int p2] (mw cy a M) (some (.int r)) (mw cy a M1) := by
  refine Ct_i tX12_allIn hX12_allIn (by decide) (Nat.le_of_ble_eq_true rfl) ?_
  intro Z hZ C hR
  subst hZ
  replace C : Cx Z D cy RX12 tX12_allIn 6 6 146 0 0 := C
  show Wk Z D 6 0 0 (mw cy a M) 0 [(0, .ref (a 0)), (1, .int p1), (2, .int p2)] []
  unfold f_X12_allIn at hf
  have hq5 : ∀ (k5 : Int32 → Int32 → Sg → Option (Int32 × Sg)), (∀ (x3 : Int32) (x4 : Int32) (M : Sg), k5 x3 x4 M = some (r, M1) → Wk Z D 6 0 0 (mw cy a M) 5 [(0, .ref (a 0)), (1, .int p1), (2, .int p2), (3, .int x3), (4, .int x4)] []) → ∀ (x3 : Int32) (x4 : Int32) (M : Sg), f_X12_allIn_b5 p1 p2 k5 x3 x4 M = some (r, M1) → Wk Z D 6 0 0 (mw cy a M) 5 [(0, .ref (a 0)), (1, .int p1), (2, .int p2), (3, .int x3), (4, .int x4)] [] := by
    intro k5 hk5 x3 x4 M hf
    unfold f_X12_allIn_b5 at hf
    have hb99 : ∀ (x3 : Int32) (x4 : Int32) (M : Sg), f_X12_allIn_b99 p1 p2 k5 x3 x4 M = some (r, M1) → Wk Z D 6 0 0 (mw cy a M) 99 [(0, .ref (a 0)), (1, .int p1), (2, .int p2), (3, .int x3), (4, .int x4)] [] := by
      intro x3 x4 M hf
      unfold f_X12_allIn_b99 at hf
      obtain ⟨x4_99, hx, hf⟩ := bnd_some hf
      refine k_iinc C 55 rfl 4 rfl ((cn_1 _).trans hx) (by decide) rfl ?_
      refine k_sub (lv2 := [(0, .ref (a 0)), (1, .int p1), (2, .int p2), (3, .int x3), (4, .int x4_99)]) [1, 2, 3, 4, 0] rfl ?_
      refine k_goto C 56 rfl 5 (by decide) ?_
      exact k_sub [0, 1, 2, 3, 4] rfl (hk5 x3 x4_99 M hf)
    have hb98 : ∀ (x4 : Int32) (s0 : Int32) (M : Sg), f_X12_allIn_b98 p1 p2 k5 x4 s0 M = some (r, M1) → Wk Z D 6 0 0 (mw cy a M) 98 [(0, .ref (a 0)), (1, .int p1), (2, .int p2), (4, .int x4)] [.int s0] := by
      intro x4 s0 M hf
      unfold f_X12_allIn_b98 at hf
      refine k_istore_3 C 54 rfl (by decide) rfl ?_
      refine k_sub (lv2 := [(0, .ref (a 0)), (1, .int p1), (2, .int p2), (3, .int s0), (4, .int x4)]) [1, 2, 3, 0, 4] rfl ?_
      exact k_sub [0, 1, 2, 3, 4] rfl (hb99 s0 x4 M hf)
    refine k_iload C 4 rfl 4 rfl ?_
    refine k_aload_0 C 5 rfl 0 rfl ?_
    refine kg12_20 C 6 rfl qX12_39 0 M_c0 M_f0_20 ?_
    refine k_iconst C 7 rfl ci_2 ?_
    refine k_iald C 8 rfl 10 M_c10 vi_2_137 tc_2 ?_
    refine k_icmp_ge C 9 rfl 105 (by decide) (fun hc => ?_) (fun hc => ?_)
    · replace hf := if_t hf hc
      refine k_iload_3 C 57 rfl 3 rfl ?_
      exact k_iret (wf := (fun u => (mw cy a u))) hR 58 rfl hf
    · replace hf := if_f hf hc
      refine k_iload_1 C 10 rfl 1 rfl ?_
      refine k_iload C 11 rfl 4 rfl ?_
      obtain ⟨r19, h5, hf⟩ := ob1_some hf
      refine k_callE C 12 (c_X12_isOf Z.2.1 D cy p1 x4 r19 h5) rfl qX12_324 msX12_isOf rfl rfl (Nat.le_of_ble_eq_true rfl) ⟨Nat.le_of_ble_eq_true rfl, Nat.le_of_ble_eq_true rfl, Nat.le_refl 0, Nat.le_refl 0⟩ ?_
      refine k_if_ne C 13 rfl 28 (by decide) (fun hc => ?_) (fun hc => ?_)
      · replace hf := if_f hf hc
        refine k_aload_0 C 15 rfl 0 rfl ?_
        refine k_iload C 16 rfl 4 rfl ?_
        refine k_aload_0 C 17 rfl 0 rfl ?_
        refine k_iload C 18 rfl 4 rfl ?_
        refine k_iconst C 19 rfl ci_4 ?_
        obtain ⟨r35, h5, hf⟩ := ob1_some hf
        refine k_callW C 20 (c_X12_riderOf Z.2.1 D cy a M x4 4 r35 h5) rfl qX12_312 mvX12_riderOf 0 12 M_c0 rfl rfl rfl (Nat.le_of_ble_eq_true rfl) ⟨Nat.le_of_ble_eq_true rfl, Nat.le_of_ble_eq_true rfl, Nat.le_refl 0, Nat.le_refl 0⟩ ?_
        obtain ⟨r38, h5, hf⟩ := ob1_some hf
        refine k_callW C 21 (c_X12_beginOf Z.2.1 D cy a M x4 r35 r38 h5) rfl qX12_425 mvX12_beginOf 0 12 M_c0 rfl rfl rfl (Nat.le_of_ble_eq_true rfl) ⟨Nat.le_of_ble_eq_true rfl, Nat.le_of_ble_eq_true rfl, Nat.le_refl 0, Nat.le_refl 0⟩ ?_
        refine k_istore C 22 rfl (by decide) rfl ?_
        refine k_sub (lv2 := [(0, .ref (a 0)), (1, .int p1), (2, .int p2), (3, .int x3), (4, .int x4), (5, .int r38)]) [1, 2, 3, 4, 5, 0] rfl ?_
        refine k_iload C 23 rfl 5 rfl ?_
        refine k_sipush C 24 rfl cs_999 ?_
        refine k_icmp_le C 25 rfl 53 (by decide) (fun hc => ?_) (fun hc => ?_)
        · replace hf := if_t hf hc
          refine k_aload_0 C 28 rfl 0 rfl ?_
          refine k_iload C 29 rfl 4 rfl ?_
          refine k_aload_0 C 30 rfl 0 rfl ?_
          refine k_iload C 31 rfl 4 rfl ?_
          obtain ⟨r59, h5, hf⟩ := ob1_some hf
          refine k_callW C 32 (c_X12_whereOf Z.2.1 D cy a M x4 r59 h5) rfl qX12_428 mvX12_whereOf 0 12 M_c0 rfl rfl rfl (Nat.le_of_ble_eq_true rfl) ⟨Nat.le_of_ble_eq_true rfl, Nat.le_of_ble_eq_true rfl, Nat.le_refl 0, Nat.le_refl 0⟩ ?_
          refine k_iload C 33 rfl 5 rfl ?_
          obtain ⟨M_64, h5, hf⟩ := ob1_some hf
          refine k_callW C 34 (c_X12_fillsSoon Z.2.1 D cy a M x4 r59 r38 M_64 h5) rfl qX12_421 mvX12_fillsSoon 0 12 M_c0 rfl rfl rfl (Nat.le_of_ble_eq_true rfl) ⟨Nat.le_of_ble_eq_true rfl, Nat.le_of_ble_eq_true rfl, Nat.le_refl 0, Nat.le_refl 0⟩ ?_
          refine k_aload_0 C 35 rfl 0 rfl ?_
          refine kg12_24 C 36 rfl qX12_45 0 M_c0 M_f0_24 ?_
          refine k_iload_2 C 37 rfl 2 rfl ?_
          obtain ⟨i72, hi, hin, hf⟩ := ixd_some hf
          refine k_iald C 38 rfl 12 M_c12 hin hi ?_
          refine k_if_ge C 39 rfl 78 (by decide) (fun hc => ?_) (fun hc => ?_)
          · replace hf := if_t hf hc
            refine k_aload_0 C 42 rfl 0 rfl ?_
            refine kg12_24 C 43 rfl qX12_45 0 M_c0 M_f0_24 ?_
            refine k_iload_2 C 44 rfl 2 rfl ?_
            obtain ⟨i83, hi, hin, hf⟩ := ixd_some hf
            refine k_iald C 45 rfl 12 M_c12 hin hi ?_
            refine k_iload_3 C 46 rfl 3 rfl ?_
            refine k_icmp_le C 47 rfl 97 (by decide) (fun hc => ?_) (fun hc => ?_)
            · replace hf := if_t hf hc
              refine k_iload_3 C 53 rfl 3 rfl ?_
              exact k_sub [0, 1, 2, 4] rfl (hb98 x4 x3 M_64 hf)
            · replace hf := if_f hf hc
              refine k_aload_0 C 48 rfl 0 rfl ?_
              refine kg12_24 C 49 rfl qX12_45 0 M_c0 M_f0_24 ?_
              refine k_iload_2 C 50 rfl 2 rfl ?_
              obtain ⟨i93, hi, hin, hf⟩ := ixd_some hf
              refine k_iald C 51 rfl 12 M_c12 hin hi ?_
              refine k_goto C 52 rfl 98 (by decide) ?_
              exact k_sub [0, 1, 2, 4] rfl (hb98 x4 (M_64.2.1 24 i93) M_64 hf)
          · replace hf := if_f hf hc
            refine k_iconst C 40 rfl ci_m1 ?_
            exact k_iret (wf := (fun u => (mw cy a u))) hR 41 rfl hf
        · replace hf := if_f hf hc
          refine k_iconst C 26 rfl ci_m1 ?_
          exact k_iret (wf := (fun u => (mw cy a u))) hR 27 rfl hf
      · replace hf := if_t hf hc
        refine k_goto C 14 rfl 99 (by decide) ?_
        exact k_sub [0, 1, 2, 3, 4] rfl (hb99 x3 x4 M hf)
  have hb5 := flW3 hq5
  refine k_iconst C 0 rfl ci_0 ?_
  refine k_istore_3 C 1 rfl (by decide) rfl ?_
  refine k_sub (lv2 := [(0, .ref (a 0)), (1, .int p1), (2, .int p2), (3, .int 0)]) [1, 2, 3, 0] rfl ?_
  refine k_iconst C 2 rfl ci_0 ?_
  refine k_istore C 3 rfl (by decide) rfl ?_
  refine k_sub (lv2 := [(0, .ref (a 0)), (1, .int p1), (2, .int p2), (3, .int 0), (4, .int 0)]) [1, 2, 3, 4, 0] rfl ?_
  exact k_sub [0, 1, 2, 3, 4] rfl (hb5 FU 0 0 M hf)
set_option maxHeartbeats 1000000 in
set_option maxRecDepth 20000 in
theorem c_X12_family (l : Launch) (D : va_G) (cy : Nat → ClassId) (a : Nat → Nat) (M : Sg) (p1 : Int32) (p2 : Int32) (r : Int32) (M1 : Sg) (hf : f_X12_family M p1 p2 = some (r, M1)) : Ct l D cy yX12_family cX12_family 8 (some .int) 7 171 0 0 [.ref (a 0), .int p1, .int p2] (mw cy a M) (some (.int r)) (mw cy a M1) := by
  refine Ct_i tX12_family hX12_family (by decide) (Nat.le_of_ble_eq_true rfl) ?_
  intro Z hZ C hR
  subst hZ
  replace C : Cx Z D cy RX12 tX12_family 8 7 171 0 0 := C
  show Wk Z D 8 0 0 (mw cy a M) 0 [(0, .ref (a 0)), (1, .int p1), (2, .int p2)] []
  unfold f_X12_family at hf
  have hq63 : ∀ (k63 : Int32 → Int32 → Int32 → Int32 → Sg → Option (Int32 × Sg)), (∀ (x3 : Int32) (x4 : Int32) (x5 : Int32) (x6 : Int32) (M : Sg), k63 x3 x4 x5 x6 M = some (r, M1) → Wk Z D 8 0 0 (mw cy a M) 63 [(0, .ref (a 0)), (1, .int p1), (2, .int p2), (3, .int x3), (4, .int x4), (5, .int x5), (6, .int x6)] []) → ∀ (x3 : Int32) (x4 : Int32) (x5 : Int32) (x6 : Int32) (M : Sg), f_X12_family_b63 p1 p2 k63 x3 x4 x5 x6 M = some (r, M1) → Wk Z D 8 0 0 (mw cy a M) 63 [(0, .ref (a 0)), (1, .int p1), (2, .int p2), (3, .int x3), (4, .int x4), (5, .int x5), (6, .int x6)] [] := by
    intro k63 hk63 x3 x4 x5 x6 M hf
    unfold f_X12_family_b63 at hf
    have hb133 : ∀ (x3 : Int32) (x4 : Int32) (x5 : Int32) (x6 : Int32) (M : Sg), f_X12_family_b133 p1 p2 k63 x3 x4 x5 x6 M = some (r, M1) → Wk Z D 8 0 0 (mw cy a M) 133 [(0, .ref (a 0)), (1, .int p1), (2, .int p2), (3, .int x3), (4, .int x4), (5, .int x5), (6, .int x6)] [] := by
      intro x3 x4 x5 x6 M hf
      unfold f_X12_family_b133 at hf
      obtain ⟨x6_133, hx, hf⟩ := bnd_some hf
      refine k_iinc C 69 rfl 6 rfl ((cn_1 _).trans hx) (by decide) rfl ?_
      refine k_sub (lv2 := [(0, .ref (a 0)), (1, .int p1), (2, .int p2), (3, .int x3), (4, .int x4), (5, .int x5), (6, .int x6_133)]) [1, 2, 3, 4, 5, 6, 0] rfl ?_
      refine k_goto C 70 rfl 63 (by decide) ?_
      exact k_sub [0, 1, 2, 3, 4, 5, 6] rfl (hk63 x3 x4 x5 x6_133 M hf)
    have hb125 : ∀ (x3 : Int32) (x6 : Int32) (x7 : Int32) (M : Sg), f_X12_family_b125 p1 p2 k63 x3 x6 x7 M = some (r, M1) → Wk Z D 8 0 0 (mw cy a M) 125 [(0, .ref (a 0)), (1, .int p1), (2, .int p2), (3, .int x3), (6, .int x6), (7, .int x7)] [] := by
      intro x3 x6 x7 M hf
      unfold f_X12_family_b125 at hf
      refine k_iload C 65 rfl 4 rfl ?_
      refine k_istore C 66 rfl (by decide) rfl ?_
      refine k_sub (lv2 := [(0, .ref (a 0)), (1, .int p1), (2, .int p2), (3, .int x3), (4, .int x6), (6, .int x6), (7, .int x7)]) [1, 2, 3, 4, 0, 5, 6] rfl ?_
      refine k_iload C 67 rfl 6 rfl ?_
      refine k_istore C 68 rfl (by decide) rfl ?_
      refine k_sub (lv2 := [(0, .ref (a 0)), (1, .int p1), (2, .int p2), (3, .int x3), (4, .int x6), (5, .int x7), (6, .int x6), (7, .int x7)]) [1, 2, 3, 4, 5, 0, 6, 7] rfl ?_
      exact k_sub [0, 1, 2, 3, 4, 5, 6] rfl (hb133 x3 x6 x7 x6 M hf)
    refine k_iload C 36 rfl 6 rfl ?_
    refine k_aload_0 C 37 rfl 0 rfl ?_
    refine kg12_20 C 38 rfl qX12_39 0 M_c0 M_f0_20 ?_
    refine k_iconst C 39 rfl ci_0 ?_
    refine k_iald C 40 rfl 10 M_c10 vi_0_137 tc_0 ?_
    refine k_icmp_ge C 41 rfl 139 (by decide) (fun hc => ?_) (fun hc => ?_)
    · replace hf := if_t hf hc
      refine k_iload_2 C 71 rfl 2 rfl ?_
      refine k_if_ne C 72 rfl 148 (by decide) (fun hc => ?_) (fun hc => ?_)
      · replace hf := if_f hf hc
        refine k_iload C 75 rfl 5 rfl ?_
        exact k_iret (wf := (fun u => (mw cy a u))) hR 76 rfl hf
      · replace hf := if_t hf hc
        refine k_iload C 73 rfl 4 rfl ?_
        refine k_goto C 74 rfl 150 (by decide) ?_
        exact k_iret (wf := (fun u => (mw cy a u))) hR 76 rfl hf
    · replace hf := if_f hf hc
      refine k_aload_0 C 42 rfl 0 rfl ?_
      refine k_iload_3 C 43 rfl 3 rfl ?_
      refine k_iload C 44 rfl 6 rfl ?_
      obtain ⟨r78, h5, hf⟩ := ob1_some hf
      refine k_callW C 45 (c_X12_isRight Z.2.1 D cy a M x3 x6 r78 h5) rfl qX12_346 mvX12_isRight 0 12 M_c0 rfl rfl rfl (Nat.le_of_ble_eq_true rfl) ⟨Nat.le_of_ble_eq_true rfl, Nat.le_of_ble_eq_true rfl, Nat.le_refl 0, Nat.le_refl 0⟩ ?_
      refine k_if_ne C 46 rfl 87 (by decide) (fun hc => ?_) (fun hc => ?_)
      · replace hf := if_f hf hc
        refine k_aload_0 C 48 rfl 0 rfl ?_
        refine k_iload_1 C 49 rfl 1 rfl ?_
        refine k_iload C 50 rfl 6 rfl ?_
        obtain ⟨r91, M_91, h5, hf⟩ := ob2_some hf
        refine k_callW C 51 (c_X12_allIn Z.2.1 D cy a M p1 x6 r91 M_91 h5) rfl qX12_471 mvX12_allIn 0 12 M_c0 rfl rfl rfl (Nat.le_of_ble_eq_true rfl) ⟨Nat.le_of_ble_eq_true rfl, Nat.le_of_ble_eq_true rfl, Nat.le_refl 0, Nat.le_refl 0⟩ ?_
        refine k_istore C 52 rfl (by decide) rfl ?_
        refine k_sub (lv2 := [(0, .ref (a 0)), (1, .int p1), (2, .int p2), (3, .int x3), (4, .int x4), (5, .int x5), (6, .int x6), (7, .int r91)]) [1, 2, 3, 4, 5, 6, 7, 0] rfl ?_
        refine k_iload C 53 rfl 7 rfl ?_
        refine k_if_lt C 54 rfl 133 (by decide) (fun hc => ?_) (fun hc => ?_)
        · replace hf := if_t hf hc
          exact k_sub [0, 1, 2, 3, 4, 5, 6] rfl (hb133 x3 x4 x5 x6 M_91 hf)
        · replace hf := if_f hf hc
          refine k_iload C 55 rfl 7 rfl ?_
          refine k_aload_0 C 56 rfl 0 rfl ?_
          obtain ⟨r104, h5, hf⟩ := ob1_some hf
          refine k_callW C 57 (c_X12_parting Z.2.1 D cy a M_91 r104 h5) rfl qX12_356 mvX12_parting 0 12 M_c0 rfl rfl rfl (Nat.le_of_ble_eq_true rfl) ⟨Nat.le_of_ble_eq_true rfl, Nat.le_of_ble_eq_true rfl, Nat.le_refl 0, Nat.le_refl 0⟩ ?_
          refine k_icmp_gt C 58 rfl 133 (by decide) (fun hc => ?_) (fun hc => ?_)
          · replace hf := if_t hf hc
            exact k_sub [0, 1, 2, 3, 4, 5, 6] rfl (hb133 x3 x4 x5 x6 M_91 hf)
          · replace hf := if_f hf hc
            refine k_iload C 59 rfl 4 rfl ?_
            refine k_if_lt C 60 rfl 125 (by decide) (fun hc => ?_) (fun hc => ?_)
            · replace hf := if_t hf hc
              exact k_sub [0, 1, 2, 3, 6, 7] rfl (hb125 x3 x6 r91 M_91 hf)
            · replace hf := if_f hf hc
              refine k_iload C 61 rfl 7 rfl ?_
              refine k_iload C 62 rfl 5 rfl ?_
              refine k_icmp_lt C 63 rfl 125 (by decide) (fun hc => ?_) (fun hc => ?_)
              · replace hf := if_t hf hc
                exact k_sub [0, 1, 2, 3, 6, 7] rfl (hb125 x3 x6 r91 M_91 hf)
              · replace hf := if_f hf hc
                refine k_goto C 64 rfl 133 (by decide) ?_
                exact k_sub [0, 1, 2, 3, 4, 5, 6] rfl (hb133 x3 x4 x5 x6 M_91 hf)
      · replace hf := if_t hf hc
        refine k_goto C 47 rfl 133 (by decide) ?_
        exact k_sub [0, 1, 2, 3, 4, 5, 6] rfl (hb133 x3 x4 x5 x6 M hf)
  have hb63 := flW5 hq63
  have hq38 : ∀ (k38 : Int32 → Sg → Option (Int32 × Sg)), (∀ (x3 : Int32) (M : Sg), k38 x3 M = some (r, M1) → Wk Z D 8 0 0 (mw cy a M) 38 [(0, .ref (a 0)), (1, .int p1), (2, .int p2), (3, .int x3)] []) → ∀ (x3 : Int32) (M : Sg), f_X12_family_b38 p1 p2 k38 x3 M = some (r, M1) → Wk Z D 8 0 0 (mw cy a M) 38 [(0, .ref (a 0)), (1, .int p1), (2, .int p2), (3, .int x3)] [] := by
    intro k38 hk38 x3 M hf
    unfold f_X12_family_b38 at hf
    refine k_iload_1 C 24 rfl 1 rfl ?_
    refine k_iload_3 C 25 rfl 3 rfl ?_
    obtain ⟨r40, h5, hf⟩ := ob1_some hf
    refine k_callE C 26 (c_X12_isOf Z.2.1 D cy p1 x3 r40 h5) rfl qX12_324 msX12_isOf rfl rfl (Nat.le_of_ble_eq_true rfl) ⟨Nat.le_of_ble_eq_true rfl, Nat.le_of_ble_eq_true rfl, Nat.le_refl 0, Nat.le_refl 0⟩ ?_
    refine k_if_ne C 27 rfl 52 (by decide) (fun hc => ?_) (fun hc => ?_)
    · replace hf := if_f hf hc
      refine k_bipush C 30 rfl cb_m2 ?_
      refine k_istore C 31 rfl (by decide) rfl ?_
      refine k_sub (lv2 := [(0, .ref (a 0)), (1, .int p1), (2, .int p2), (3, .int x3), (4, .int (-2))]) [1, 2, 3, 4, 0] rfl ?_
      refine k_bipush C 32 rfl cb_m2 ?_
      refine k_istore C 33 rfl (by decide) rfl ?_
      refine k_sub (lv2 := [(0, .ref (a 0)), (1, .int p1), (2, .int p2), (3, .int x3), (4, .int (-2)), (5, .int (-2))]) [1, 2, 3, 4, 5, 0] rfl ?_
      refine k_iconst C 34 rfl ci_0 ?_
      refine k_istore C 35 rfl (by decide) rfl ?_
      refine k_sub (lv2 := [(0, .ref (a 0)), (1, .int p1), (2, .int p2), (3, .int x3), (4, .int (-2)), (5, .int (-2)), (6, .int 0)]) [1, 2, 3, 4, 5, 6, 0] rfl ?_
      exact k_sub [0, 1, 2, 3, 4, 5, 6] rfl (hb63 FU x3 (-2) (-2) 0 M hf)
    · replace hf := if_t hf hc
      obtain ⟨x3_46, hx, hf⟩ := bnd_some hf
      refine k_iinc C 28 rfl 3 rfl ((cn_1 _).trans hx) (by decide) rfl ?_
      refine k_sub (lv2 := [(0, .ref (a 0)), (1, .int p1), (2, .int p2), (3, .int x3_46)]) [1, 2, 3, 0] rfl ?_
      refine k_goto C 29 rfl 38 (by decide) ?_
      exact k_sub [0, 1, 2, 3] rfl (hk38 x3_46 M hf)
  have hb38 := flW2 hq38
  have hb34 : ∀ (M : Sg), f_X12_family_b34 p1 p2 M = some (r, M1) → Wk Z D 8 0 0 (mw cy a M) 34 [] [] := by
    intro M hf
    unfold f_X12_family_b34 at hf
    refine k_iconst C 20 rfl ci_m1 ?_
    exact k_iret (wf := (fun u => (mw cy a u))) hR 21 rfl hf
  refine k_aload_0 C 0 rfl 0 rfl ?_
  obtain ⟨r1, h5, hf⟩ := ob1_some hf
  refine k_callW C 1 (c_X12_isLine Z.2.1 D cy a M r1 h5) rfl qX12_375 mvX12_isLine 0 12 M_c0 rfl rfl rfl (Nat.le_of_ble_eq_true rfl) ⟨Nat.le_of_ble_eq_true rfl, Nat.le_of_ble_eq_true rfl, Nat.le_refl 0, Nat.le_refl 0⟩ ?_
  refine k_if_eq C 2 rfl 34 (by decide) (fun hc => ?_) (fun hc => ?_)
  · replace hf := if_t hf hc
    exact k_sub [] rfl (hb34 M hf)
  · replace hf := if_f hf hc
    refine k_iload_1 C 3 rfl 1 rfl ?_
    refine k_iconst C 4 rfl ci_1 ?_
    refine k_icmp_lt C 5 rfl 34 (by decide) (fun hc => ?_) (fun hc => ?_)
    · replace hf := if_t hf hc
      exact k_sub [] rfl (hb34 M hf)
    · replace hf := if_f hf hc
      refine k_iload_1 C 6 rfl 1 rfl ?_
      refine k_iconst C 7 rfl ci_1 ?_
      refine k_aload_0 C 8 rfl 0 rfl ?_
      refine kg12_20 C 9 rfl qX12_39 0 M_c0 M_f0_20 ?_
      refine k_iconst C 10 rfl ci_2 ?_
      refine k_iald C 11 rfl 10 M_c10 vi_2_137 tc_2 ?_
      refine k_ishl C 12 rfl ?_
      refine k_icmp_ge C 13 rfl 34 (by decide) (fun hc => ?_) (fun hc => ?_)
      · replace hf := if_t hf hc
        exact k_sub [] rfl (hb34 M hf)
      · replace hf := if_f hf hc
        refine k_iload_2 C 14 rfl 2 rfl ?_
        refine k_i2l C 15 rfl ?_
        refine k_lconst0 C 16 rfl ?_
        refine k_lconst1 C 17 rfl ?_
        obtain ⟨r28, h5, hf⟩ := ob1_some hf
        refine k_callE C 18 (c_X12_in Z.2.1 D cy p2.toInt64 (0 : Int64) (1 : Int64) r28 h5) rfl qX12_124 msX12_in rfl rfl (Nat.le_of_ble_eq_true rfl) ⟨Nat.le_of_ble_eq_true rfl, Nat.le_of_ble_eq_true rfl, Nat.le_refl 0, Nat.le_refl 0⟩ ?_
        refine k_if_ne C 19 rfl 36 (by decide) (fun hc => ?_) (fun hc => ?_)
        · replace hf := if_f hf hc
          refine k_iconst C 22 rfl ci_0 ?_
          refine k_istore_3 C 23 rfl (by decide) rfl ?_
          refine k_sub (lv2 := [(0, .ref (a 0)), (1, .int p1), (2, .int p2), (3, .int 0)]) [1, 2, 3, 0] rfl ?_
          exact k_sub [0, 1, 2, 3] rfl (hb38 FU 0 M hf)
        · replace hf := if_t hf hc
          exact k_sub [] rfl (hb34 M hf)
set_option maxHeartbeats 1000000 in
set_option maxRecDepth 20000 in
theorem c_X12_goesStraight (l : Launch) (D : va_G) (cy : Nat → ClassId) (a : Nat → Nat) (M : Sg) (p1 : Int32) (p2 : Int32) (p3 : Int32) (M1 : Sg) (hf : f_X12_goesStraight M p1 p2 p3 = some M1) : Ct l D cy yX12_goesStraight cX12_goesStraight 8 none 5 120 0 0 [.ref (a 0), .int p1, .int p2, .int p3] (mw cy a M) none (mw cy a M1) := by
  refine Ct_v tX12_goesStraight hX12_goesStraight (by decide) (Nat.le_of_ble_eq_true rfl) ?_
  intro Z hZ C hR
  subst hZ
  replace C : Cx Z D cy RX12 tX12_goesStraight 8 5 120 0 0 := C
  show Wk Z D 8 0 0 (mw cy a M) 0 [(0, .ref (a 0)), (1, .int p1), (2, .int p2), (3, .int p3)] []
  unfold f_X12_goesStraight at hf
  have hq46 : ∀ (k46 : Int32 → Int32 → Sg → Option (Sg)), (∀ (x4 : Int32) (x5 : Int32) (M : Sg), k46 x4 x5 M = some M1 → Wk Z D 8 0 0 (mw cy a M) 46 [(0, .ref (a 0)), (1, .int p1), (2, .int p2), (3, .int p3), (4, .int x4), (5, .int x5)] []) → ∀ (x4 : Int32) (x5 : Int32) (M : Sg), f_X12_goesStraight_b46 p1 p2 p3 k46 x4 x5 M = some M1 → Wk Z D 8 0 0 (mw cy a M) 46 [(0, .ref (a 0)), (1, .int p1), (2, .int p2), (3, .int p3), (4, .int x4), (5, .int x5)] [] := by
    intro k46 hk46 x4 x5 M hf
    unfold f_X12_goesStraight_b46 at hf
    have hb94 : ∀ (x4 : Int32) (x6 : Int32) (s0 : Int32) (M : Sg), f_X12_goesStraight_b94 p1 p2 p3 k46 x4 x6 s0 M = some M1 → Wk Z D 8 0 0 (mw cy a M) 94 [(0, .ref (a 0)), (1, .int p1), (2, .int p2), (3, .int p3), (4, .int x4), (6, .int x6)] [.int s0] := by
      intro x4 x6 s0 M hf
      unfold f_X12_goesStraight_b94 at hf
      refine k_istore C 51 rfl (by decide) rfl ?_
      refine k_sub (lv2 := [(0, .ref (a 0)), (1, .int p1), (2, .int p2), (3, .int p3), (4, .int x4), (6, .int x6), (7, .int s0)]) [1, 2, 3, 4, 5, 6, 0] rfl ?_
      refine k_iload C 52 rfl 6 rfl ?_
      refine k_if_ge C 53 rfl 102 (by decide) (fun hc => ?_) (fun hc => ?_)
      · replace hf := if_t hf hc
        refine k_iload C 55 rfl 6 rfl ?_
        refine k_aload_0 C 56 rfl 0 rfl ?_
        refine k_iload_1 C 57 rfl 1 rfl ?_
        refine k_iload C 58 rfl 4 rfl ?_
        refine k_iload C 59 rfl 5 rfl ?_
        refine k_iconst C 60 rfl ci_1 ?_
        obtain ⟨r111, h5, hf⟩ := ob1_some hf
        refine k_callW C 61 (c_X12_timeOf Z.2.1 D cy a M p1 x4 x6 true r111 h5) rfl qX12_352 mvX12_timeOf 0 12 M_c0 rfl rfl rfl (Nat.le_of_ble_eq_true rfl) ⟨Nat.le_of_ble_eq_true rfl, Nat.le_of_ble_eq_true rfl, Nat.le_refl 0, Nat.le_refl 0⟩ ?_
        refine k_iadd C 62 rfl ?_
        obtain ⟨x5_115, hx, hf⟩ := bnd_some hf
        refine k_topi hx ?_
        refine k_istore C 63 rfl (by decide) rfl ?_
        refine k_sub (lv2 := [(0, .ref (a 0)), (1, .int p1), (2, .int p2), (3, .int p3), (4, .int x4), (5, .int x5_115), (6, .int x6), (7, .int s0)]) [1, 2, 3, 4, 5, 0, 6, 7] rfl ?_
        refine k_aload_0 C 64 rfl 0 rfl ?_
        refine kg12_33 C 65 rfl qX12_70 0 M_c0 M_f0_33 ?_
        refine k_iload_3 C 66 rfl 3 rfl ?_
        refine k_iload C 67 rfl 4 rfl ?_
        refine k_iload C 68 rfl 6 rfl ?_
        obtain ⟨r126, h5, hf⟩ := ob1_some hf
        refine k_callE C 69 (c_X12_wayOf Z.2.1 D cy x4 x6 r126 h5) rfl qX12_321 msX12_wayOf rfl rfl (Nat.le_of_ble_eq_true rfl) ⟨Nat.le_of_ble_eq_true rfl, Nat.le_of_ble_eq_true rfl, Nat.le_refl 0, Nat.le_refl 0⟩ ?_
        refine k_iadd C 70 rfl ?_
        refine k_iload C 71 rfl 7 rfl ?_
        obtain ⟨i132, hi, hin, hf⟩ := ixd_some hf
        obtain ⟨M_132, hM, hf⟩ := bnd_some hf
        refine k_iast (w2 := (mw cy a M_132)) C 72 rfl 20 M_c20 hin hi (M_s20.trans (congrArg (fun z => (mw cy a z)) hM)) ?_
        refine k_aload_0 C 73 rfl 0 rfl ?_
        refine kg12_34 C 74 rfl qX12_73 0 M_c0 M_f0_34 ?_
        refine k_iload_3 C 75 rfl 3 rfl ?_
        refine k_iload C 76 rfl 4 rfl ?_
        refine k_iload C 77 rfl 6 rfl ?_
        obtain ⟨r142, h5, hf⟩ := ob1_some hf
        refine k_callE C 78 (c_X12_wayOf Z.2.1 D cy x4 x6 r142 h5) rfl qX12_321 msX12_wayOf rfl rfl (Nat.le_of_ble_eq_true rfl) ⟨Nat.le_of_ble_eq_true rfl, Nat.le_of_ble_eq_true rfl, Nat.le_refl 0, Nat.le_refl 0⟩ ?_
        refine k_iadd C 79 rfl ?_
        refine k_iload C 80 rfl 5 rfl ?_
        obtain ⟨i148, hi, hin, hf⟩ := ixd_some hf
        obtain ⟨M_148, hM, hf⟩ := bnd_some hf
        refine k_iast (w2 := (mw cy a M_148)) C 81 rfl 21 M_c21 hin hi (M_s21.trans (congrArg (fun z => (mw cy a z)) hM)) ?_
        refine k_iload C 82 rfl 6 rfl ?_
        refine k_istore C 83 rfl (by decide) rfl ?_
        refine k_sub (lv2 := [(0, .ref (a 0)), (1, .int p1), (2, .int p2), (3, .int p3), (4, .int x6), (5, .int x5_115), (6, .int x6), (7, .int s0)]) [1, 2, 3, 4, 0, 5, 6, 7] rfl ?_
        refine k_goto C 84 rfl 46 (by decide) ?_
        exact k_sub [0, 1, 2, 3, 4, 5] rfl (hk46 x6 x5_115 M_148 hf)
      · replace hf := if_f hf hc
        exact k_vret (wf := (fun u => (mw cy a u))) hR 54 rfl hf
    have hb69 : ∀ (x4 : Int32) (x5 : Int32) (s0 : Int32) (M : Sg), f_X12_goesStraight_b69 p1 p2 p3 k46 x4 x5 s0 M = some M1 → Wk Z D 8 0 0 (mw cy a M) 69 [(0, .ref (a 0)), (1, .int p1), (2, .int p2), (3, .int p3), (4, .int x4), (5, .int x5)] [.int s0] := by
      intro x4 x5 s0 M hf
      unfold f_X12_goesStraight_b69 at hf
      refine k_istore C 39 rfl (by decide) rfl ?_
      refine k_sub (lv2 := [(0, .ref (a 0)), (1, .int p1), (2, .int p2), (3, .int p3), (4, .int x4), (5, .int x5), (6, .int s0)]) [1, 2, 3, 4, 5, 6, 0] rfl ?_
      refine k_iload C 40 rfl 5 rfl ?_
      refine k_sipush C 41 rfl cs_999 ?_
      refine k_icmp_le C 42 rfl 83 (by decide) (fun hc => ?_) (fun hc => ?_)
      · replace hf := if_t hf hc
        refine k_aload_0 C 45 rfl 0 rfl ?_
        refine k_iload_1 C 46 rfl 1 rfl ?_
        refine k_iload C 47 rfl 4 rfl ?_
        refine k_iload C 48 rfl 6 rfl ?_
        refine k_iload C 49 rfl 5 rfl ?_
        obtain ⟨r91, h5, hf⟩ := ob1_some hf
        refine k_callW C 50 (c_X12_insideFrom Z.2.1 D cy a M p1 x4 s0 x5 r91 h5) rfl qX12_411 mvX12_insideFrom 0 12 M_c0 rfl rfl rfl (Nat.le_of_ble_eq_true rfl) ⟨Nat.le_of_ble_eq_true rfl, Nat.le_of_ble_eq_true rfl, Nat.le_refl 0, Nat.le_refl 0⟩ ?_
        exact k_sub [0, 1, 2, 3, 4, 6] rfl (hb94 x4 s0 r91 M hf)
      · replace hf := if_f hf hc
        refine k_iconst C 43 rfl ci_m1 ?_
        refine k_goto C 44 rfl 94 (by decide) ?_
        exact k_sub [0, 1, 2, 3, 4, 6] rfl (hb94 x4 s0 (-1) M hf)
    refine k_iload C 26 rfl 4 rfl ?_
    refine k_iload_2 C 27 rfl 2 rfl ?_
    refine k_icmp_eq C 28 rfl 156 (by decide) (fun hc => ?_) (fun hc => ?_)
    · replace hf := if_t hf hc
      exact k_vret (wf := (fun u => (mw cy a u))) hR 85 rfl hf
    · replace hf := if_f hf hc
      refine k_iload_2 C 29 rfl 2 rfl ?_
      refine k_iload C 30 rfl 4 rfl ?_
      refine k_icmp_ge C 31 rfl 65 (by decide) (fun hc => ?_) (fun hc => ?_)
      · replace hf := if_t hf hc
        refine k_iload C 36 rfl 4 rfl ?_
        refine k_iconst C 37 rfl ci_1 ?_
        refine k_iadd C 38 rfl ?_
        exact k_sub [0, 1, 2, 3, 4, 5] rfl (hb69 x4 x5 (x4 + 1) M hf)
      · replace hf := if_f hf hc
        refine k_iload C 32 rfl 4 rfl ?_
        refine k_iconst C 33 rfl ci_1 ?_
        refine k_isub C 34 rfl ?_
        refine k_goto C 35 rfl 69 (by decide) ?_
        exact k_sub [0, 1, 2, 3, 4, 5] rfl (hb69 x4 x5 (x4 - 1) M hf)
  have hb46 := flW3 hq46
  have hq3 : ∀ (k3 : Int32 → Sg → Option (Sg)), (∀ (x4 : Int32) (M : Sg), k3 x4 M = some M1 → Wk Z D 8 0 0 (mw cy a M) 3 [(0, .ref (a 0)), (1, .int p1), (2, .int p2), (3, .int p3), (4, .int x4)] []) → ∀ (x4 : Int32) (M : Sg), f_X12_goesStraight_b3 p1 p2 p3 k3 x4 M = some M1 → Wk Z D 8 0 0 (mw cy a M) 3 [(0, .ref (a 0)), (1, .int p1), (2, .int p2), (3, .int p3), (4, .int x4)] [] := by
    intro k3 hk3 x4 M hf
    unfold f_X12_goesStraight_b3 at hf
    refine k_iload C 2 rfl 4 rfl ?_
    refine k_bipush C 3 rfl cb_7 ?_
    refine k_icmp_ge C 4 rfl 26 (by decide) (fun hc => ?_) (fun hc => ?_)
    · replace hf := if_t hf hc
      refine k_aload_0 C 14 rfl 0 rfl ?_
      refine k_iload_1 C 15 rfl 1 rfl ?_
      obtain ⟨r28, h5, hf⟩ := ob1_some hf
      refine k_callW C 16 (c_X12_whereOf Z.2.1 D cy a M p1 r28 h5) rfl qX12_428 mvX12_whereOf 0 12 M_c0 rfl rfl rfl (Nat.le_of_ble_eq_true rfl) ⟨Nat.le_of_ble_eq_true rfl, Nat.le_of_ble_eq_true rfl, Nat.le_refl 0, Nat.le_refl 0⟩ ?_
      refine k_istore C 17 rfl (by decide) rfl ?_
      refine k_sub (lv2 := [(0, .ref (a 0)), (1, .int p1), (2, .int p2), (3, .int p3), (4, .int r28)]) [1, 2, 3, 4, 0] rfl ?_
      refine k_aload_0 C 18 rfl 0 rfl ?_
      refine k_iload_1 C 19 rfl 1 rfl ?_
      refine k_aload_0 C 20 rfl 0 rfl ?_
      refine k_iload_1 C 21 rfl 1 rfl ?_
      refine k_iconst C 22 rfl ci_4 ?_
      obtain ⟨r38, h5, hf⟩ := ob1_some hf
      refine k_callW C 23 (c_X12_riderOf Z.2.1 D cy a M p1 4 r38 h5) rfl qX12_312 mvX12_riderOf 0 12 M_c0 rfl rfl rfl (Nat.le_of_ble_eq_true rfl) ⟨Nat.le_of_ble_eq_true rfl, Nat.le_of_ble_eq_true rfl, Nat.le_refl 0, Nat.le_refl 0⟩ ?_
      obtain ⟨r41, h5, hf⟩ := ob1_some hf
      refine k_callW C 24 (c_X12_beginOf Z.2.1 D cy a M p1 r38 r41 h5) rfl qX12_425 mvX12_beginOf 0 12 M_c0 rfl rfl rfl (Nat.le_of_ble_eq_true rfl) ⟨Nat.le_of_ble_eq_true rfl, Nat.le_of_ble_eq_true rfl, Nat.le_refl 0, Nat.le_refl 0⟩ ?_
      refine k_istore C 25 rfl (by decide) rfl ?_
      refine k_sub (lv2 := [(0, .ref (a 0)), (1, .int p1), (2, .int p2), (3, .int p3), (4, .int r28), (5, .int r41)]) [1, 2, 3, 4, 5, 0] rfl ?_
      exact k_sub [0, 1, 2, 3, 4, 5] rfl (hb46 FU r28 r41 M hf)
    · replace hf := if_f hf hc
      refine k_aload_0 C 5 rfl 0 rfl ?_
      refine kg12_33 C 6 rfl qX12_70 0 M_c0 M_f0_33 ?_
      refine k_iload_3 C 7 rfl 3 rfl ?_
      refine k_iload C 8 rfl 4 rfl ?_
      refine k_iadd C 9 rfl ?_
      refine k_iconst C 10 rfl ci_m1 ?_
      obtain ⟨i19, hi, hin, hf⟩ := ixd_some hf
      obtain ⟨M_19, hM, hf⟩ := bnd_some hf
      refine k_iast (w2 := (mw cy a M_19)) C 11 rfl 20 M_c20 hin hi (M_s20.trans (congrArg (fun z => (mw cy a z)) hM)) ?_
      obtain ⟨x4_20, hx, hf⟩ := bnd_some hf
      refine k_iinc C 12 rfl 4 rfl ((cn_1 _).trans hx) (by decide) rfl ?_
      refine k_sub (lv2 := [(0, .ref (a 0)), (1, .int p1), (2, .int p2), (3, .int p3), (4, .int x4_20)]) [1, 2, 3, 4, 0] rfl ?_
      refine k_goto C 13 rfl 3 (by decide) ?_
      exact k_sub [0, 1, 2, 3, 4] rfl (hk3 x4_20 M_19 hf)
  have hb3 := flW2 hq3
  refine k_iconst C 0 rfl ci_0 ?_
  refine k_istore C 1 rfl (by decide) rfl ?_
  refine k_sub (lv2 := [(0, .ref (a 0)), (1, .int p1), (2, .int p2), (3, .int p3), (4, .int 0)]) [1, 2, 3, 4, 0] rfl ?_
  exact k_sub [0, 1, 2, 3, 4] rfl (hb3 FU 0 M hf)
set_option maxHeartbeats 1000000 in
set_option maxRecDepth 20000 in
theorem c_X12_meet (l : Launch) (D : va_G) (cy : Nat → ClassId) (a : Nat → Nat) (M : Sg) (p1 : Int32) (p2 : Int32) (p3 : Int32) (r : Int32) (M1 : Sg) (hf : f_X12_meet M p1 p2 p3 = some (r, M1)) : Ct l D cy yX12_meet cX12_meet 9 (some .int) 6 147 0 0 [.ref (a 0), .int p1, .int p2, .int p3] (mw cy a M) (some (.int r)) (mw cy a M1) := by
  refine Ct_i tX12_meet hX12_meet (by decide) (Nat.le_of_ble_eq_true rfl) ?_
  intro Z hZ C hR
  subst hZ
  replace C : Cx Z D cy RX12 tX12_meet 9 6 147 0 0 := C
  show Wk Z D 9 0 0 (mw cy a M) 0 [(0, .ref (a 0)), (1, .int p1), (2, .int p2), (3, .int p3)] []
  unfold f_X12_meet at hf
  have hq67 : ∀ (k67 : Int32 → Int32 → Int32 → Sg → Option (Int32 × Sg)), (∀ (x4 : Int32) (x5 : Int32) (x6 : Int32) (M : Sg), k67 x4 x5 x6 M = some (r, M1) → Wk Z D 9 0 0 (mw cy a M) 67 [(0, .ref (a 0)), (3, .int p3), (4, .int x4), (5, .int x5), (6, .int x6)] []) → ∀ (x4 : Int32) (x5 : Int32) (x6 : Int32) (M : Sg), f_X12_meet_b67 p1 p2 p3 k67 x4 x5 x6 M = some (r, M1) → Wk Z D 9 0 0 (mw cy a M) 67 [(0, .ref (a 0)), (3, .int p3), (4, .int x4), (5, .int x5), (6, .int x6)] [] := by
    intro k67 hk67 x4 x5 x6 M hf
    unfold f_X12_meet_b67 at hf
    have hb214 : ∀ (x4 : Int32) (x5 : Int32) (x6 : Int32) (M : Sg), f_X12_meet_b214 p1 p2 p3 k67 x4 x5 x6 M = some (r, M1) → Wk Z D 9 0 0 (mw cy a M) 214 [(0, .ref (a 0)), (3, .int p3), (4, .int x4), (5, .int x5), (6, .int x6)] [] := by
      intro x4 x5 x6 M hf
      unfold f_X12_meet_b214 at hf
      obtain ⟨x6_214, hx, hf⟩ := bnd_some hf
      refine k_iinc C 114 rfl 4 rfl ((cn_1 _).trans hx) (by decide) rfl ?_
      refine k_sub (lv2 := [(0, .ref (a 0)), (3, .int p3), (4, .int x4), (5, .int x5), (6, .int x6_214)]) [1, 2, 3, 4, 0] rfl ?_
      refine k_goto C 115 rfl 67 (by decide) ?_
      exact k_sub [0, 1, 2, 3, 4] rfl (hk67 x4 x5 x6_214 M hf)
    have hb206 : ∀ (x6 : Int32) (x7 : Int32) (M : Sg), f_X12_meet_b206 p1 p2 p3 k67 x6 x7 M = some (r, M1) → Wk Z D 9 0 0 (mw cy a M) 206 [(0, .ref (a 0)), (3, .int p3), (6, .int x6), (7, .int x7)] [] := by
      intro x6 x7 M hf
      unfold f_X12_meet_b206 at hf
      refine k_iload C 110 rfl 2 rfl ?_
      refine k_istore C 111 rfl (by decide) rfl ?_
      refine k_sub (lv2 := [(0, .ref (a 0)), (3, .int p3), (4, .int x6), (6, .int x6), (7, .int x7)]) [1, 2, 0, 3, 4] rfl ?_
      refine k_iload C 112 rfl 4 rfl ?_
      refine k_istore C 113 rfl (by decide) rfl ?_
      refine k_sub (lv2 := [(0, .ref (a 0)), (3, .int p3), (4, .int x6), (5, .int x7), (6, .int x6), (7, .int x7)]) [1, 2, 3, 0, 4, 5] rfl ?_
      exact k_sub [0, 1, 2, 3, 4] rfl (hb214 x6 x7 x6 M hf)
    have hb182 : ∀ (x4 : Int32) (x5 : Int32) (x6 : Int32) (x7 : Int32) (s0 : Int32) (M : Sg), f_X12_meet_b182 p1 p2 p3 k67 x4 x5 x6 x7 s0 M = some (r, M1) → Wk Z D 9 0 0 (mw cy a M) 182 [(0, .ref (a 0)), (3, .int p3), (4, .int x4), (5, .int x5), (6, .int x6), (7, .int x7)] [.int s0] := by
      intro x4 x5 x6 x7 s0 M hf
      unfold f_X12_meet_b182 at hf
      refine k_istore C 100 rfl (by decide) rfl ?_
      refine k_sub (lv2 := [(0, .ref (a 0)), (3, .int p3), (4, .int x4), (5, .int x5), (6, .int x6), (7, .int x7), (8, .int s0)]) [1, 2, 3, 4, 5, 6, 0] rfl ?_
      refine k_iload C 101 rfl 5 rfl ?_
      refine k_iload C 102 rfl 6 rfl ?_
      refine k_icmp_ge C 103 rfl 214 (by decide) (fun hc => ?_) (fun hc => ?_)
      · replace hf := if_t hf hc
        exact k_sub [0, 1, 2, 3, 4] rfl (hb214 x4 x5 x6 M hf)
      · replace hf := if_f hf hc
        refine k_iload C 104 rfl 2 rfl ?_
        refine k_if_lt C 105 rfl 206 (by decide) (fun hc => ?_) (fun hc => ?_)
        · replace hf := if_t hf hc
          exact k_sub [0, 1, 4, 5] rfl (hb206 x6 x7 M hf)
        · replace hf := if_f hf hc
          refine k_iload C 106 rfl 5 rfl ?_
          refine k_iload C 107 rfl 3 rfl ?_
          refine k_icmp_lt C 108 rfl 206 (by decide) (fun hc => ?_) (fun hc => ?_)
          · replace hf := if_t hf hc
            exact k_sub [0, 1, 4, 5] rfl (hb206 x6 x7 M hf)
          · replace hf := if_f hf hc
            refine k_goto C 109 rfl 214 (by decide) ?_
            exact k_sub [0, 1, 2, 3, 4] rfl (hb214 x4 x5 x6 M hf)
    have hb140 : ∀ (x4 : Int32) (x5 : Int32) (x6 : Int32) (s0 : Int32) (M : Sg), f_X12_meet_b140 p1 p2 p3 k67 x4 x5 x6 s0 M = some (r, M1) → Wk Z D 9 0 0 (mw cy a M) 140 [(0, .ref (a 0)), (3, .int p3), (4, .int x4), (5, .int x5), (6, .int x6)] [.int s0] := by
      intro x4 x5 x6 s0 M hf
      unfold f_X12_meet_b140 at hf
      refine k_istore C 77 rfl (by decide) rfl ?_
      refine k_sub (lv2 := [(0, .ref (a 0)), (3, .int p3), (4, .int x4), (5, .int x5), (6, .int x6), (7, .int s0)]) [1, 2, 3, 4, 5, 0] rfl ?_
      refine k_aload_0 C 78 rfl 0 rfl ?_
      refine kg12_34 C 79 rfl qX12_73 0 M_c0 M_f0_34 ?_
      refine k_iload C 80 rfl 4 rfl ?_
      obtain ⟨i148, hi, hin, hf⟩ := ixd_some hf
      refine k_iald C 81 rfl 21 M_c21 hin hi ?_
      refine k_aload_0 C 82 rfl 0 rfl ?_
      refine kg12_34 C 83 rfl qX12_73 0 M_c0 M_f0_34 ?_
      refine k_bipush C 84 rfl cb_7 ?_
      refine k_iload C 85 rfl 4 rfl ?_
      refine k_iadd C 86 rfl ?_
      obtain ⟨i158, hi, hin, hf⟩ := ixd_some hf
      refine k_iald C 87 rfl 21 M_c21 hin hi ?_
      refine k_icmp_ge C 88 rfl 172 (by decide) (fun hc => ?_) (fun hc => ?_)
      · replace hf := if_t hf hc
        refine k_aload_0 C 94 rfl 0 rfl ?_
        refine kg12_34 C 95 rfl qX12_73 0 M_c0 M_f0_34 ?_
        refine k_bipush C 96 rfl cb_7 ?_
        refine k_iload C 97 rfl 4 rfl ?_
        refine k_iadd C 98 rfl ?_
        obtain ⟨i181, hi, hin, hf⟩ := ixd_some hf
        refine k_iald C 99 rfl 21 M_c21 hin hi ?_
        exact k_sub [0, 1, 2, 3, 4, 5] rfl (hb182 x4 x5 x6 s0 (M.2.1 34 i181) M hf)
      · replace hf := if_f hf hc
        refine k_aload_0 C 89 rfl 0 rfl ?_
        refine kg12_34 C 90 rfl qX12_73 0 M_c0 M_f0_34 ?_
        refine k_iload C 91 rfl 4 rfl ?_
        obtain ⟨i168, hi, hin, hf⟩ := ixd_some hf
        refine k_iald C 92 rfl 21 M_c21 hin hi ?_
        refine k_goto C 93 rfl 182 (by decide) ?_
        exact k_sub [0, 1, 2, 3, 4, 5] rfl (hb182 x4 x5 x6 s0 (M.2.1 34 i168) M hf)
    refine k_iload C 39 rfl 4 rfl ?_
    refine k_bipush C 40 rfl cb_7 ?_
    refine k_icmp_ge C 41 rfl 220 (by decide) (fun hc => ?_) (fun hc => ?_)
    · replace hf := if_t hf hc
      refine k_iload_3 C 116 rfl 1 rfl ?_
      refine k_if_ne C 117 rfl 229 (by decide) (fun hc => ?_) (fun hc => ?_)
      · replace hf := if_f hf hc
        refine k_iload C 120 rfl 3 rfl ?_
        exact k_iret (wf := (fun u => (mw cy a u))) hR 121 rfl hf
      · replace hf := if_t hf hc
        refine k_iload C 118 rfl 2 rfl ?_
        refine k_goto C 119 rfl 231 (by decide) ?_
        exact k_iret (wf := (fun u => (mw cy a u))) hR 121 rfl hf
    · replace hf := if_f hf hc
      refine k_aload_0 C 42 rfl 0 rfl ?_
      refine kg12_33 C 43 rfl qX12_70 0 M_c0 M_f0_33 ?_
      refine k_iload C 44 rfl 4 rfl ?_
      obtain ⟨i80, hi, hin, hf⟩ := ixd_some hf
      refine k_iald C 45 rfl 20 M_c20 hin hi ?_
      refine k_if_lt C 46 rfl 214 (by decide) (fun hc => ?_) (fun hc => ?_)
      · replace hf := if_t hf hc
        exact k_sub [0, 1, 2, 3, 4] rfl (hb214 x4 x5 x6 M hf)
      · replace hf := if_f hf hc
        refine k_aload_0 C 47 rfl 0 rfl ?_
        refine kg12_33 C 48 rfl qX12_70 0 M_c0 M_f0_33 ?_
        refine k_bipush C 49 rfl cb_7 ?_
        refine k_iload C 50 rfl 4 rfl ?_
        refine k_iadd C 51 rfl ?_
        obtain ⟨i93, hi, hin, hf⟩ := ixd_some hf
        refine k_iald C 52 rfl 20 M_c20 hin hi ?_
        refine k_if_ge C 53 rfl 100 (by decide) (fun hc => ?_) (fun hc => ?_)
        · replace hf := if_t hf hc
          refine k_aload_0 C 55 rfl 0 rfl ?_
          refine kg12_33 C 56 rfl qX12_70 0 M_c0 M_f0_33 ?_
          refine k_iload C 57 rfl 4 rfl ?_
          obtain ⟨i106, hi, hin, hf⟩ := ixd_some hf
          refine k_iald C 58 rfl 20 M_c20 hin hi ?_
          refine k_aload_0 C 59 rfl 0 rfl ?_
          refine kg12_33 C 60 rfl qX12_70 0 M_c0 M_f0_33 ?_
          refine k_bipush C 61 rfl cb_7 ?_
          refine k_iload C 62 rfl 4 rfl ?_
          refine k_iadd C 63 rfl ?_
          obtain ⟨i116, hi, hin, hf⟩ := ixd_some hf
          refine k_iald C 64 rfl 20 M_c20 hin hi ?_
          refine k_icmp_le C 65 rfl 130 (by decide) (fun hc => ?_) (fun hc => ?_)
          · replace hf := if_t hf hc
            refine k_aload_0 C 71 rfl 0 rfl ?_
            refine kg12_33 C 72 rfl qX12_70 0 M_c0 M_f0_33 ?_
            refine k_bipush C 73 rfl cb_7 ?_
            refine k_iload C 74 rfl 4 rfl ?_
            refine k_iadd C 75 rfl ?_
            obtain ⟨i139, hi, hin, hf⟩ := ixd_some hf
            refine k_iald C 76 rfl 20 M_c20 hin hi ?_
            exact k_sub [0, 1, 2, 3, 4] rfl (hb140 x4 x5 x6 (M.2.1 33 i139) M hf)
          · replace hf := if_f hf hc
            refine k_aload_0 C 66 rfl 0 rfl ?_
            refine kg12_33 C 67 rfl qX12_70 0 M_c0 M_f0_33 ?_
            refine k_iload C 68 rfl 4 rfl ?_
            obtain ⟨i126, hi, hin, hf⟩ := ixd_some hf
            refine k_iald C 69 rfl 20 M_c20 hin hi ?_
            refine k_goto C 70 rfl 140 (by decide) ?_
            exact k_sub [0, 1, 2, 3, 4] rfl (hb140 x4 x5 x6 (M.2.1 33 i126) M hf)
        · replace hf := if_f hf hc
          refine k_goto C 54 rfl 214 (by decide) ?_
          exact k_sub [0, 1, 2, 3, 4] rfl (hb214 x4 x5 x6 M hf)
  have hb67 := flW4 hq67
  have hb31 : ∀ (M : Sg), f_X12_meet_b31 p1 p2 p3 M = some (r, M1) → Wk Z D 9 0 0 (mw cy a M) 31 [] [] := by
    intro M hf
    unfold f_X12_meet_b31 at hf
    refine k_iconst C 17 rfl ci_m1 ?_
    exact k_iret (wf := (fun u => (mw cy a u))) hR 18 rfl hf
  refine k_aload_0 C 0 rfl 0 rfl ?_
  refine k_iload_1 C 1 rfl 1 rfl ?_
  obtain ⟨r2, h5, hf⟩ := ob1_some hf
  refine k_callW C 2 (c_X12_isRider Z.2.1 D cy a M p1 r2 h5) rfl qX12_341 mvX12_isRider 0 12 M_c0 rfl rfl rfl (Nat.le_of_ble_eq_true rfl) ⟨Nat.le_of_ble_eq_true rfl, Nat.le_of_ble_eq_true rfl, Nat.le_refl 0, Nat.le_refl 0⟩ ?_
  refine k_if_eq C 3 rfl 31 (by decide) (fun hc => ?_) (fun hc => ?_)
  · replace hf := if_t hf hc
    exact k_sub [] rfl (hb31 M hf)
  · replace hf := if_f hf hc
    refine k_aload_0 C 4 rfl 0 rfl ?_
    refine k_iload_2 C 5 rfl 2 rfl ?_
    obtain ⟨r10, h5, hf⟩ := ob1_some hf
    refine k_callW C 6 (c_X12_isRider Z.2.1 D cy a M p2 r10 h5) rfl qX12_341 mvX12_isRider 0 12 M_c0 rfl rfl rfl (Nat.le_of_ble_eq_true rfl) ⟨Nat.le_of_ble_eq_true rfl, Nat.le_of_ble_eq_true rfl, Nat.le_refl 0, Nat.le_refl 0⟩ ?_
    refine k_if_eq C 7 rfl 31 (by decide) (fun hc => ?_) (fun hc => ?_)
    · replace hf := if_t hf hc
      exact k_sub [] rfl (hb31 M hf)
    · replace hf := if_f hf hc
      refine k_iload_1 C 8 rfl 1 rfl ?_
      refine k_iload_2 C 9 rfl 2 rfl ?_
      refine k_icmp_eq C 10 rfl 31 (by decide) (fun hc => ?_) (fun hc => ?_)
      · replace hf := if_t hf hc
        exact k_sub [] rfl (hb31 M hf)
      · replace hf := if_f hf hc
        refine k_iload_3 C 11 rfl 3 rfl ?_
        refine k_i2l C 12 rfl ?_
        refine k_lconst0 C 13 rfl ?_
        refine k_lconst1 C 14 rfl ?_
        obtain ⟨r25, h5, hf⟩ := ob1_some hf
        refine k_callE C 15 (c_X12_in Z.2.1 D cy p3.toInt64 (0 : Int64) (1 : Int64) r25 h5) rfl qX12_124 msX12_in rfl rfl (Nat.le_of_ble_eq_true rfl) ⟨Nat.le_of_ble_eq_true rfl, Nat.le_of_ble_eq_true rfl, Nat.le_refl 0, Nat.le_refl 0⟩ ?_
        refine k_if_ne C 16 rfl 33 (by decide) (fun hc => ?_) (fun hc => ?_)
        · replace hf := if_f hf hc
          refine k_aload_0 C 19 rfl 0 rfl ?_
          refine k_iload_1 C 20 rfl 1 rfl ?_
          refine k_aload_0 C 21 rfl 0 rfl ?_
          refine k_iload_2 C 22 rfl 2 rfl ?_
          obtain ⟨r37, h5, hf⟩ := ob1_some hf
          refine k_callW C 23 (c_X12_whereOf Z.2.1 D cy a M p2 r37 h5) rfl qX12_428 mvX12_whereOf 0 12 M_c0 rfl rfl rfl (Nat.le_of_ble_eq_true rfl) ⟨Nat.le_of_ble_eq_true rfl, Nat.le_of_ble_eq_true rfl, Nat.le_refl 0, Nat.le_refl 0⟩ ?_
          refine k_iconst C 24 rfl ci_0 ?_
          obtain ⟨M_41, h5, hf⟩ := ob1_some hf
          refine k_callW C 25 (c_X12_goesStraight Z.2.1 D cy a M p1 r37 0 M_41 h5) rfl qX12_474 mvX12_goesStraight 0 12 M_c0 rfl rfl rfl (Nat.le_of_ble_eq_true rfl) ⟨Nat.le_of_ble_eq_true rfl, Nat.le_of_ble_eq_true rfl, Nat.le_refl 0, Nat.le_refl 0⟩ ?_
          refine k_aload_0 C 26 rfl 0 rfl ?_
          refine k_iload_2 C 27 rfl 2 rfl ?_
          refine k_aload_0 C 28 rfl 0 rfl ?_
          refine k_iload_1 C 29 rfl 1 rfl ?_
          obtain ⟨r48, h5, hf⟩ := ob1_some hf
          refine k_callW C 30 (c_X12_whereOf Z.2.1 D cy a M_41 p1 r48 h5) rfl qX12_428 mvX12_whereOf 0 12 M_c0 rfl rfl rfl (Nat.le_of_ble_eq_true rfl) ⟨Nat.le_of_ble_eq_true rfl, Nat.le_of_ble_eq_true rfl, Nat.le_refl 0, Nat.le_refl 0⟩ ?_
          refine k_bipush C 31 rfl cb_7 ?_
          obtain ⟨M_53, h5, hf⟩ := ob1_some hf
          refine k_callW C 32 (c_X12_goesStraight Z.2.1 D cy a M_41 p2 r48 7 M_53 h5) rfl qX12_474 mvX12_goesStraight 0 12 M_c0 rfl rfl rfl (Nat.le_of_ble_eq_true rfl) ⟨Nat.le_of_ble_eq_true rfl, Nat.le_of_ble_eq_true rfl, Nat.le_refl 0, Nat.le_refl 0⟩ ?_
          refine k_bipush C 33 rfl cb_m2 ?_
          refine k_istore C 34 rfl (by decide) rfl ?_
          refine k_sub (lv2 := [(0, .ref (a 0)), (1, .int p1), (2, .int p2), (3, .int p3), (4, .int (-2))]) [1, 2, 3, 4, 0] rfl ?_
          refine k_bipush C 35 rfl cb_m2 ?_
          refine k_istore C 36 rfl (by decide) rfl ?_
          refine k_sub (lv2 := [(0, .ref (a 0)), (1, .int p1), (2, .int p2), (3, .int p3), (4, .int (-2)), (5, .int (-2))]) [1, 2, 3, 4, 5, 0] rfl ?_
          refine k_iconst C 37 rfl ci_0 ?_
          refine k_istore C 38 rfl (by decide) rfl ?_
          refine k_sub (lv2 := [(0, .ref (a 0)), (1, .int p1), (2, .int p2), (3, .int p3), (4, .int (-2)), (5, .int (-2)), (6, .int 0)]) [1, 2, 3, 4, 5, 6, 0] rfl ?_
          exact k_sub [0, 3, 4, 5, 6] rfl (hb67 FU (-2) (-2) 0 M_53 hf)
        · replace hf := if_t hf hc
          exact k_sub [] rfl (hb31 M hf)
set_option maxHeartbeats 1000000 in
set_option maxRecDepth 20000 in
theorem c_X12_seen (l : Launch) (D : va_G) (cy : Nat → ClassId) (a : Nat → Nat) (M : Sg) (p1 : Int32) (p2 : Int32) (p3 : Int32) (r : Int32) (M1 : Sg) (hf : f_X12_seen M p1 p2 p3 = some (r, M1)) : Ct l D cy yX12_seen cX12_seen 5 (some .int) 1 25 0 0 [.ref (a 0), .int p1, .int p2, .int p3] (mw cy a M) (some (.int r)) (mw cy a M1) := by
  refine Ct_i tX12_seen hX12_seen (by decide) (Nat.le_of_ble_eq_true rfl) ?_
  intro Z hZ C hR
  subst hZ
  replace C : Cx Z D cy RX12 tX12_seen 5 1 25 0 0 := C
  show Wk Z D 5 0 0 (mw cy a M) 0 [(0, .ref (a 0)), (1, .int p1), (2, .int p2), (3, .int p3)] []
  unfold f_X12_seen at hf
  have hb57 : ∀ (M : Sg), f_X12_seen_b57 p1 p2 p3 M = some (r, M1) → Wk Z D 5 0 0 (mw cy a M) 57 [] [] := by
    intro M hf
    unfold f_X12_seen_b57 at hf
    refine k_bipush C 30 rfl cb_m2 ?_
    exact k_iret (wf := (fun u => (mw cy a u))) hR 31 rfl hf
  refine k_iload_1 C 0 rfl 1 rfl ?_
  refine k_iconst C 1 rfl ci_m1 ?_
  refine k_icmp_ne C 2 rfl 16 (by decide) (fun hc => ?_) (fun hc => ?_)
  · replace hf := if_f hf hc
    refine k_aload_0 C 10 rfl 0 rfl ?_
    refine k_iload_1 C 11 rfl 1 rfl ?_
    obtain ⟨r18, h5, hf⟩ := ob1_some hf
    refine k_callW C 12 (c_X12_isRider Z.2.1 D cy a M p1 r18 h5) rfl qX12_341 mvX12_isRider 0 12 M_c0 rfl rfl rfl (Nat.le_of_ble_eq_true rfl) ⟨Nat.le_of_ble_eq_true rfl, Nat.le_of_ble_eq_true rfl, Nat.le_refl 0, Nat.le_refl 0⟩ ?_
    refine k_if_eq C 13 rfl 57 (by decide) (fun hc => ?_) (fun hc => ?_)
    · replace hf := if_t hf hc
      exact k_sub [] rfl (hb57 M hf)
    · replace hf := if_f hf hc
      refine k_aload_0 C 14 rfl 0 rfl ?_
      refine k_iload_2 C 15 rfl 2 rfl ?_
      obtain ⟨r26, h5, hf⟩ := ob1_some hf
      refine k_callW C 16 (c_X12_isCoach Z.2.1 D cy a M p2 r26 h5) rfl qX12_327 mvX12_isCoach 0 12 M_c0 rfl rfl rfl (Nat.le_of_ble_eq_true rfl) ⟨Nat.le_of_ble_eq_true rfl, Nat.le_of_ble_eq_true rfl, Nat.le_refl 0, Nat.le_refl 0⟩ ?_
      refine k_if_eq C 17 rfl 57 (by decide) (fun hc => ?_) (fun hc => ?_)
      · replace hf := if_t hf hc
        exact k_sub [] rfl (hb57 M hf)
      · replace hf := if_f hf hc
        refine k_iload_3 C 18 rfl 3 rfl ?_
        refine k_i2l C 19 rfl ?_
        refine k_lconst0 C 20 rfl ?_
        refine k_ldc2 C 21 rfl qX12_477 ?_
        obtain ⟨r38, h5, hf⟩ := ob1_some hf
        refine k_callE C 22 (c_X12_in Z.2.1 D cy p3.toInt64 (0 : Int64) (999 : Int64) r38 h5) rfl qX12_124 msX12_in rfl rfl (Nat.le_of_ble_eq_true rfl) ⟨Nat.le_of_ble_eq_true rfl, Nat.le_of_ble_eq_true rfl, Nat.le_refl 0, Nat.le_refl 0⟩ ?_
        refine k_if_eq C 23 rfl 57 (by decide) (fun hc => ?_) (fun hc => ?_)
        · replace hf := if_t hf hc
          exact k_sub [] rfl (hb57 M hf)
        · replace hf := if_f hf hc
          refine k_aload_0 C 24 rfl 0 rfl ?_
          refine kg12_20 C 25 rfl qX12_39 0 M_c0 M_f0_20 ?_
          refine k_sipush C 26 rfl cs_136 ?_
          refine k_iald C 27 rfl 10 M_c10 vi_136_137 tc_136 ?_
          refine k_bipush C 28 rfl cb_12 ?_
          refine k_icmp_ne C 29 rfl 60 (by decide) (fun hc => ?_) (fun hc => ?_)
          · replace hf := if_f hf hc
            refine k_bipush C 32 rfl cb_100 ?_
            refine k_iconst C 33 rfl ci_3 ?_
            refine k_aload_0 C 34 rfl 0 rfl ?_
            refine kg12_20 C 35 rfl qX12_39 0 M_c0 M_f0_20 ?_
            refine k_sipush C 36 rfl cs_136 ?_
            refine k_iald C 37 rfl 10 M_c10 vi_136_137 tc_136 ?_
            refine k_imul C 38 rfl ?_
            refine k_iadd C 39 rfl ?_
            obtain ⟨x4_73, hx, hf⟩ := bnd_some hf
            refine k_topi hx ?_
            refine k_istore C 40 rfl (by decide) rfl ?_
            refine k_sub (lv2 := [(0, .ref (a 0)), (1, .int p1), (2, .int p2), (3, .int p3), (4, .int x4_73)]) [1, 2, 3, 4, 0] rfl ?_
            refine k_aload_0 C 41 rfl 0 rfl ?_
            refine kg12_20 C 42 rfl qX12_39 0 M_c0 M_f0_20 ?_
            refine k_iload C 43 rfl 4 rfl ?_
            refine k_iload_1 C 44 rfl 1 rfl ?_
            obtain ⟨i82, hi, hin, hf⟩ := ixd_some hf
            obtain ⟨M_82, hM, hf⟩ := bnd_some hf
            refine k_iast (w2 := (mw cy a M_82)) C 45 rfl 10 M_c10 hin hi (M_s10.trans (congrArg (fun z => (mw cy a z)) hM)) ?_
            refine k_aload_0 C 46 rfl 0 rfl ?_
            refine kg12_20 C 47 rfl qX12_39 0 M_c0 M_f0_20 ?_
            refine k_iload C 48 rfl 4 rfl ?_
            refine k_iconst C 49 rfl ci_1 ?_
            refine k_iadd C 50 rfl ?_
            refine k_iload_2 C 51 rfl 2 rfl ?_
            obtain ⟨i92, hi, hin, hf⟩ := ixd_some hf
            obtain ⟨M_92, hM, hf⟩ := bnd_some hf
            refine k_iast (w2 := (mw cy a M_92)) C 52 rfl 10 M_c10 hin hi (M_s10.trans (congrArg (fun z => (mw cy a z)) hM)) ?_
            refine k_aload_0 C 53 rfl 0 rfl ?_
            refine kg12_20 C 54 rfl qX12_39 0 M_c0 M_f0_20 ?_
            refine k_iload C 55 rfl 4 rfl ?_
            refine k_iconst C 56 rfl ci_2 ?_
            refine k_iadd C 57 rfl ?_
            refine k_iload_3 C 58 rfl 3 rfl ?_
            obtain ⟨i102, hi, hin, hf⟩ := ixd_some hf
            obtain ⟨M_102, hM, hf⟩ := bnd_some hf
            refine k_iast (w2 := (mw cy a M_102)) C 59 rfl 10 M_c10 hin hi (M_s10.trans (congrArg (fun z => (mw cy a z)) hM)) ?_
            refine k_aload_0 C 60 rfl 0 rfl ?_
            refine kg12_20 C 61 rfl qX12_39 0 M_c0 M_f0_20 ?_
            refine k_sipush C 62 rfl cs_136 ?_
            refine k_dup2 C 63 rfl rfl rfl ?_
            refine k_iald C 64 rfl 10 M_c10 vi_136_137 tc_136 ?_
            refine k_iconst C 65 rfl ci_1 ?_
            refine k_iadd C 66 rfl ?_
            obtain ⟨M_114, hM, hf⟩ := bnd_some hf
            refine k_iast (w2 := (mw cy a M_114)) C 67 rfl 10 M_c10 vi_136_137 tc_136 (M_s10.trans (congrArg (fun z => (mw cy a z)) hM)) ?_
            refine k_aload_0 C 68 rfl 0 rfl ?_
            refine kg12_20 C 69 rfl qX12_39 0 M_c0 M_f0_20 ?_
            refine k_sipush C 70 rfl cs_136 ?_
            refine k_iald C 71 rfl 10 M_c10 vi_136_137 tc_136 ?_
            exact k_iret (wf := (fun u => (mw cy a u))) hR 72 rfl hf
          · replace hf := if_t hf hc
            exact k_sub [] rfl (hb57 M hf)
  · replace hf := if_t hf hc
    refine k_aload_0 C 3 rfl 0 rfl ?_
    refine kg12_20 C 4 rfl qX12_39 0 M_c0 M_f0_20 ?_
    refine k_sipush C 5 rfl cs_136 ?_
    refine k_iconst C 6 rfl ci_0 ?_
    obtain ⟨M_13, hM, hf⟩ := bnd_some hf
    refine k_iast (w2 := (mw cy a M_13)) C 7 rfl 10 M_c10 vi_136_137 tc_136 (M_s10.trans (congrArg (fun z => (mw cy a z)) hM)) ?_
    refine k_iconst C 8 rfl ci_0 ?_
    exact k_iret (wf := (fun u => (mw cy a u))) hR 9 rfl hf
set_option maxHeartbeats 1000000 in
set_option maxRecDepth 20000 in
theorem c_X12_secondOf (l : Launch) (D : va_G) (cy : Nat → ClassId) (a : Nat → Nat) (M : Sg) (p1 : Int32) (r : Int32) (hf : f_X12_secondOf M p1 = some r) : Ct l D cy yX12_secondOf cX12_secondOf 2 (some .int) 0 0 0 0 [.ref (a 0), .int p1] (mw cy a M) (some (.int r)) (mw cy a M) := by
  refine Ct_i tX12_secondOf hX12_secondOf (by decide) (Nat.le_of_ble_eq_true rfl) ?_
  intro Z hZ C hR
  subst hZ
  replace C : Cx Z D cy RX12 tX12_secondOf 2 0 0 0 0 := C
  show Wk Z D 2 0 0 (mw cy a M) 0 [(0, .ref (a 0)), (1, .int p1)] []
  unfold f_X12_secondOf at hf
  refine k_aload_0 C 0 rfl 0 rfl ?_
  refine kg12_20 C 1 rfl qX12_39 0 M_c0 M_f0_20 ?_
  refine k_bipush C 2 rfl cb_100 ?_
  refine k_iconst C 3 rfl ci_3 ?_
  refine k_iload_1 C 4 rfl 1 rfl ?_
  refine k_imul C 5 rfl ?_
  refine k_iadd C 6 rfl ?_
  refine k_iconst C 7 rfl ci_2 ?_
  refine k_iadd C 8 rfl ?_
  obtain ⟨i12, hi, hin, hf⟩ := ixd_some hf
  refine k_iald C 9 rfl 10 M_c10 hin hi ?_
  exact k_iretP hR 10 rfl hf
set_option maxHeartbeats 1000000 in
set_option maxRecDepth 20000 in
theorem c_X12_nextSeen (l : Launch) (D : va_G) (cy : Nat → ClassId) (a : Nat → Nat) (M : Sg) (p1 : Int32) (p2 : Int32) (r : Int32) (hf : f_X12_nextSeen M p1 p2 = some r) : Ct l D cy yX12_nextSeen cX12_nextSeen 5 (some .int) 1 21 0 0 [.ref (a 0), .int p1, .int p2] (mw cy a M) (some (.int r)) (mw cy a M) := by
  refine Ct_i tX12_nextSeen hX12_nextSeen (by decide) (Nat.le_of_ble_eq_true rfl) ?_
  intro Z hZ C hR
  subst hZ
  replace C : Cx Z D cy RX12 tX12_nextSeen 5 1 21 0 0 := C
  show Wk Z D 5 0 0 (mw cy a M) 0 [(0, .ref (a 0)), (1, .int p1), (2, .int p2)] []
  unfold f_X12_nextSeen at hf
  have hq5 : ∀ (k5 : Int32 → Int32 → Option (Int32)), (∀ (x3 : Int32) (x4 : Int32), k5 x3 x4 = some r → Wk Z D 5 0 0 (mw cy a M) 5 [(0, .ref (a 0)), (1, .int p1), (2, .int p2), (3, .int x3), (4, .int x4)] []) → ∀ (x3 : Int32) (x4 : Int32), f_X12_nextSeen_b5 M p1 p2 k5 x3 x4 = some r → Wk Z D 5 0 0 (mw cy a M) 5 [(0, .ref (a 0)), (1, .int p1), (2, .int p2), (3, .int x3), (4, .int x4)] [] := by
    intro k5 hk5 x3 x4 hf
    unfold f_X12_nextSeen_b5 at hf
    have hb100 : ∀ (x3 : Int32) (x4 : Int32), f_X12_nextSeen_b100 M p1 p2 k5 x3 x4 = some r → Wk Z D 5 0 0 (mw cy a M) 100 [(0, .ref (a 0)), (1, .int p1), (2, .int p2), (3, .int x3), (4, .int x4)] [] := by
      intro x3 x4 hf
      unfold f_X12_nextSeen_b100 at hf
      obtain ⟨x4_100, hx, hf⟩ := bnd_some hf
      refine k_iinc C 53 rfl 4 rfl ((cn_1 _).trans hx) (by decide) rfl ?_
      refine k_sub (lv2 := [(0, .ref (a 0)), (1, .int p1), (2, .int p2), (3, .int x3), (4, .int x4_100)]) [1, 2, 3, 4, 0] rfl ?_
      refine k_goto C 54 rfl 5 (by decide) ?_
      exact k_sub [0, 1, 2, 3, 4] rfl (hk5 x3 x4_100 hf)
    have hb99 : ∀ (x4 : Int32) (s0 : Int32), f_X12_nextSeen_b99 M p1 p2 k5 x4 s0 = some r → Wk Z D 5 0 0 (mw cy a M) 99 [(0, .ref (a 0)), (1, .int p1), (2, .int p2), (4, .int x4)] [.int s0] := by
      intro x4 s0 hf
      unfold f_X12_nextSeen_b99 at hf
      refine k_istore_3 C 52 rfl (by decide) rfl ?_
      refine k_sub (lv2 := [(0, .ref (a 0)), (1, .int p1), (2, .int p2), (3, .int s0), (4, .int x4)]) [1, 2, 3, 0, 4] rfl ?_
      exact k_sub [0, 1, 2, 3, 4] rfl (hb100 s0 x4 hf)
    have hb93 : ∀ (x4 : Int32), f_X12_nextSeen_b93 M p1 p2 k5 x4 = some r → Wk Z D 5 0 0 (mw cy a M) 93 [(0, .ref (a 0)), (1, .int p1), (2, .int p2), (4, .int x4)] [] := by
      intro x4 hf
      unfold f_X12_nextSeen_b93 at hf
      refine k_iload C 49 rfl 3 rfl ?_
      refine k_goto C 50 rfl 99 (by decide) ?_
      exact k_sub [0, 1, 2, 3] rfl (hb99 x4 x4 hf)
    have hb75 : ∀ (x3 : Int32) (x4 : Int32), f_X12_nextSeen_b75 M p1 p2 k5 x3 x4 = some r → Wk Z D 5 0 0 (mw cy a M) 75 [(0, .ref (a 0)), (1, .int p1), (2, .int p2), (3, .int x3), (4, .int x4)] [] := by
      intro x3 x4 hf
      unfold f_X12_nextSeen_b75 at hf
      refine k_iload_3 C 40 rfl 3 rfl ?_
      refine k_if_lt C 41 rfl 93 (by decide) (fun hc => ?_) (fun hc => ?_)
      · replace hf := if_t hf hc
        exact k_sub [0, 1, 2, 4] rfl (hb93 x4 hf)
      · replace hf := if_f hf hc
        refine k_aload_0 C 42 rfl 0 rfl ?_
        refine k_iload C 43 rfl 4 rfl ?_
        obtain ⟨r82, h5, hf⟩ := ob1_some hf
        refine k_callW C 44 (c_X12_secondOf Z.2.1 D cy a M x4 r82 h5) rfl qX12_479 mvX12_secondOf 0 12 M_c0 rfl rfl rfl (Nat.le_of_ble_eq_true rfl) ⟨Nat.le_of_ble_eq_true rfl, Nat.le_of_ble_eq_true rfl, Nat.le_refl 0, Nat.le_refl 0⟩ ?_
        refine k_aload_0 C 45 rfl 0 rfl ?_
        refine k_iload_3 C 46 rfl 3 rfl ?_
        obtain ⟨r87, h5, hf⟩ := ob1_some hf
        refine k_callW C 47 (c_X12_secondOf Z.2.1 D cy a M x3 r87 h5) rfl qX12_479 mvX12_secondOf 0 12 M_c0 rfl rfl rfl (Nat.le_of_ble_eq_true rfl) ⟨Nat.le_of_ble_eq_true rfl, Nat.le_of_ble_eq_true rfl, Nat.le_refl 0, Nat.le_refl 0⟩ ?_
        refine k_icmp_ge C 48 rfl 98 (by decide) (fun hc => ?_) (fun hc => ?_)
        · replace hf := if_t hf hc
          refine k_iload_3 C 51 rfl 3 rfl ?_
          exact k_sub [0, 1, 2, 4] rfl (hb99 x4 x3 hf)
        · replace hf := if_f hf hc
          exact k_sub [0, 1, 2, 4] rfl (hb93 x4 hf)
    refine k_iload C 4 rfl 4 rfl ?_
    refine k_aload_0 C 5 rfl 0 rfl ?_
    refine kg12_20 C 6 rfl qX12_39 0 M_c0 M_f0_20 ?_
    refine k_sipush C 7 rfl cs_136 ?_
    refine k_iald C 8 rfl 10 M_c10 vi_136_137 tc_136 ?_
    refine k_icmp_ge C 9 rfl 106 (by decide) (fun hc => ?_) (fun hc => ?_)
    · replace hf := if_t hf hc
      refine k_iload_3 C 55 rfl 3 rfl ?_
      exact k_iretP hR 56 rfl hf
    · replace hf := if_f hf hc
      refine k_aload_0 C 10 rfl 0 rfl ?_
      refine kg12_20 C 11 rfl qX12_39 0 M_c0 M_f0_20 ?_
      refine k_bipush C 12 rfl cb_100 ?_
      refine k_iconst C 13 rfl ci_3 ?_
      refine k_iload C 14 rfl 4 rfl ?_
      refine k_imul C 15 rfl ?_
      refine k_iadd C 16 rfl ?_
      obtain ⟨i29, hi, hin, hf⟩ := ixd_some hf
      refine k_iald C 17 rfl 10 M_c10 hin hi ?_
      refine k_iload_1 C 18 rfl 1 rfl ?_
      refine k_icmp_ne C 19 rfl 100 (by decide) (fun hc => ?_) (fun hc => ?_)
      · replace hf := if_f hf hc
        exact k_sub [0, 1, 2, 3, 4] rfl (hb100 x3 x4 hf)
      · replace hf := if_t hf hc
        refine k_iload_2 C 20 rfl 2 rfl ?_
        refine k_if_lt C 21 rfl 75 (by decide) (fun hc => ?_) (fun hc => ?_)
        · replace hf := if_t hf hc
          exact k_sub [0, 1, 2, 3, 4] rfl (hb75 x3 x4 hf)
        · replace hf := if_f hf hc
          refine k_aload_0 C 22 rfl 0 rfl ?_
          refine k_iload C 23 rfl 4 rfl ?_
          obtain ⟨r41, h5, hf⟩ := ob1_some hf
          refine k_callW C 24 (c_X12_secondOf Z.2.1 D cy a M x4 r41 h5) rfl qX12_479 mvX12_secondOf 0 12 M_c0 rfl rfl rfl (Nat.le_of_ble_eq_true rfl) ⟨Nat.le_of_ble_eq_true rfl, Nat.le_of_ble_eq_true rfl, Nat.le_refl 0, Nat.le_refl 0⟩ ?_
          refine k_aload_0 C 25 rfl 0 rfl ?_
          refine k_iload_2 C 26 rfl 2 rfl ?_
          obtain ⟨r46, h5, hf⟩ := ob1_some hf
          refine k_callW C 27 (c_X12_secondOf Z.2.1 D cy a M p2 r46 h5) rfl qX12_479 mvX12_secondOf 0 12 M_c0 rfl rfl rfl (Nat.le_of_ble_eq_true rfl) ⟨Nat.le_of_ble_eq_true rfl, Nat.le_of_ble_eq_true rfl, Nat.le_refl 0, Nat.le_refl 0⟩ ?_
          refine k_icmp_lt C 28 rfl 100 (by decide) (fun hc => ?_) (fun hc => ?_)
          · replace hf := if_t hf hc
            exact k_sub [0, 1, 2, 3, 4] rfl (hb100 x3 x4 hf)
          · replace hf := if_f hf hc
            refine k_aload_0 C 29 rfl 0 rfl ?_
            refine k_iload C 30 rfl 4 rfl ?_
            obtain ⟨r55, h5, hf⟩ := ob1_some hf
            refine k_callW C 31 (c_X12_secondOf Z.2.1 D cy a M x4 r55 h5) rfl qX12_479 mvX12_secondOf 0 12 M_c0 rfl rfl rfl (Nat.le_of_ble_eq_true rfl) ⟨Nat.le_of_ble_eq_true rfl, Nat.le_of_ble_eq_true rfl, Nat.le_refl 0, Nat.le_refl 0⟩ ?_
            refine k_aload_0 C 32 rfl 0 rfl ?_
            refine k_iload_2 C 33 rfl 2 rfl ?_
            obtain ⟨r60, h5, hf⟩ := ob1_some hf
            refine k_callW C 34 (c_X12_secondOf Z.2.1 D cy a M p2 r60 h5) rfl qX12_479 mvX12_secondOf 0 12 M_c0 rfl rfl rfl (Nat.le_of_ble_eq_true rfl) ⟨Nat.le_of_ble_eq_true rfl, Nat.le_of_ble_eq_true rfl, Nat.le_refl 0, Nat.le_refl 0⟩ ?_
            refine k_icmp_ne C 35 rfl 75 (by decide) (fun hc => ?_) (fun hc => ?_)
            · replace hf := if_f hf hc
              exact k_sub [0, 1, 2, 3, 4] rfl (hb75 x3 x4 hf)
            · replace hf := if_t hf hc
              refine k_iload C 36 rfl 4 rfl ?_
              refine k_iload_2 C 37 rfl 2 rfl ?_
              refine k_icmp_gt C 38 rfl 75 (by decide) (fun hc => ?_) (fun hc => ?_)
              · replace hf := if_t hf hc
                exact k_sub [0, 1, 2, 3, 4] rfl (hb75 x3 x4 hf)
              · replace hf := if_f hf hc
                refine k_goto C 39 rfl 100 (by decide) ?_
                exact k_sub [0, 1, 2, 3, 4] rfl (hb100 x3 x4 hf)
  have hb5 := flW2 hq5
  refine k_iconst C 0 rfl ci_m1 ?_
  refine k_istore_3 C 1 rfl (by decide) rfl ?_
  refine k_sub (lv2 := [(0, .ref (a 0)), (1, .int p1), (2, .int p2), (3, .int (-1))]) [1, 2, 3, 0] rfl ?_
  refine k_iconst C 2 rfl ci_0 ?_
  refine k_istore C 3 rfl (by decide) rfl ?_
  refine k_sub (lv2 := [(0, .ref (a 0)), (1, .int p1), (2, .int p2), (3, .int (-1)), (4, .int 0)]) [1, 2, 3, 4, 0] rfl ?_
  exact k_sub [0, 1, 2, 3, 4] rfl (hb5 FU (-1) 0 hf)
set_option maxHeartbeats 1000000 in
set_option maxRecDepth 20000 in
theorem c_X12_canHaveBeen (l : Launch) (D : va_G) (cy : Nat → ClassId) (a : Nat → Nat) (M : Sg) (p1 : Int32) (p2 : Int32) (r : Bool) (M1 : Sg) (hf : f_X12_canHaveBeen M p1 p2 = some (r, M1)) : Ct l D cy yX12_canHaveBeen cX12_canHaveBeen 7 (some .boolean) 6 146 0 0 [.ref (a 0), .int p1, .int p2] (mw cy a M) (some (.int (bI r))) (mw cy a M1) := by
  refine Ct_z tX12_canHaveBeen hX12_canHaveBeen (by decide) (Nat.le_of_ble_eq_true rfl) ?_
  intro Z hZ C hR
  subst hZ
  replace C : Cx Z D cy RX12 tX12_canHaveBeen 7 6 146 0 0 := C
  show Wk Z D 7 0 0 (mw cy a M) 0 [(0, .ref (a 0)), (1, .int p1), (2, .int p2)] []
  unfold f_X12_canHaveBeen at hf
  have hb68 : ∀ (M : Sg), f_X12_canHaveBeen_b68 p1 p2 M = some (r, M1) → Wk Z D 7 0 0 (mw cy a M) 68 [] [] := by
    intro M hf
    unfold f_X12_canHaveBeen_b68 at hf
    refine k_iconst C 40 rfl ci_0 ?_
    exact k_zret (wf := (fun u => (mw cy a u))) hR 41 rfl hf
  have hq13 : ∀ (k13 : Int32 → Int32 → Int32 → Sg → Option (Bool × Sg)), (∀ (x3 : Int32) (x4 : Int32) (x5 : Int32) (M : Sg), k13 x3 x4 x5 M = some (r, M1) → Wk Z D 7 0 0 (mw cy a M) 13 [(0, .ref (a 0)), (1, .int p1), (3, .int x3), (4, .int x4), (5, .int x5)] []) → ∀ (x3 : Int32) (x4 : Int32) (x5 : Int32) (M : Sg), f_X12_canHaveBeen_b13 p1 p2 k13 x3 x4 x5 M = some (r, M1) → Wk Z D 7 0 0 (mw cy a M) 13 [(0, .ref (a 0)), (1, .int p1), (3, .int x3), (4, .int x4), (5, .int x5)] [] := by
    intro k13 hk13 x3 x4 x5 M hf
    unfold f_X12_canHaveBeen_b13 at hf
    refine k_iload C 9 rfl 4 rfl ?_
    refine k_if_lt C 10 rfl 93 (by decide) (fun hc => ?_) (fun hc => ?_)
    · replace hf := if_t hf hc
      refine k_iconst C 54 rfl ci_1 ?_
      exact k_zret (wf := (fun u => (mw cy a u))) hR 55 rfl hf
    · replace hf := if_f hf hc
      refine k_aload_0 C 11 rfl 0 rfl ?_
      refine kg12_20 C 12 rfl qX12_39 0 M_c0 M_f0_20 ?_
      refine k_bipush C 13 rfl cb_100 ?_
      refine k_iconst C 14 rfl ci_3 ?_
      refine k_iload C 15 rfl 4 rfl ?_
      refine k_imul C 16 rfl ?_
      refine k_iadd C 17 rfl ?_
      refine k_iconst C 18 rfl ci_1 ?_
      refine k_iadd C 19 rfl ?_
      obtain ⟨i31, hi, hin, hf⟩ := ixd_some hf
      refine k_iald C 20 rfl 10 M_c10 hin hi ?_
      obtain ⟨x6_32, hx, hf⟩ := bnd_some hf
      refine k_topi hx ?_
      refine k_istore C 21 rfl (by decide) rfl ?_
      refine k_sub (lv2 := [(0, .ref (a 0)), (1, .int p1), (3, .int x3), (4, .int x4), (5, .int x5), (6, .int x6_32)]) [1, 2, 3, 4, 5, 0] rfl ?_
      refine k_aload_0 C 22 rfl 0 rfl ?_
      refine k_iload_1 C 23 rfl 1 rfl ?_
      refine k_iload_3 C 24 rfl 2 rfl ?_
      refine k_iload C 25 rfl 3 rfl ?_
      obtain ⟨M_39, h5, hf⟩ := ob1_some hf
      refine k_callW C 26 (c_X12_fillsSoon Z.2.1 D cy a M p1 x3 x4 M_39 h5) rfl qX12_421 mvX12_fillsSoon 0 12 M_c0 rfl rfl rfl (Nat.le_of_ble_eq_true rfl) ⟨Nat.le_of_ble_eq_true rfl, Nat.le_of_ble_eq_true rfl, Nat.le_refl 0, Nat.le_refl 0⟩ ?_
      refine k_aload_0 C 27 rfl 0 rfl ?_
      refine kg12_24 C 28 rfl qX12_45 0 M_c0 M_f0_24 ?_
      refine k_iload C 29 rfl 5 rfl ?_
      obtain ⟨i48, hi, hin, hf⟩ := ixd_some hf
      refine k_iald C 30 rfl 12 M_c12 hin hi ?_
      refine k_if_lt C 31 rfl 68 (by decide) (fun hc => ?_) (fun hc => ?_)
      · replace hf := if_t hf hc
        exact k_sub [] rfl (hb68 M_39 hf)
      · replace hf := if_f hf hc
        refine k_aload_0 C 32 rfl 0 rfl ?_
        refine kg12_24 C 33 rfl qX12_45 0 M_c0 M_f0_24 ?_
        refine k_iload C 34 rfl 5 rfl ?_
        obtain ⟨i58, hi, hin, hf⟩ := ixd_some hf
        refine k_iald C 35 rfl 12 M_c12 hin hi ?_
        refine k_aload_0 C 36 rfl 0 rfl ?_
        refine k_iload C 37 rfl 4 rfl ?_
        obtain ⟨r62, h5, hf⟩ := ob1_some hf
        refine k_callW C 38 (c_X12_secondOf Z.2.1 D cy a M_39 x5 r62 h5) rfl qX12_479 mvX12_secondOf 0 12 M_c0 rfl rfl rfl (Nat.le_of_ble_eq_true rfl) ⟨Nat.le_of_ble_eq_true rfl, Nat.le_of_ble_eq_true rfl, Nat.le_refl 0, Nat.le_refl 0⟩ ?_
        refine k_icmp_le C 39 rfl 70 (by decide) (fun hc => ?_) (fun hc => ?_)
        · replace hf := if_t hf hc
          refine k_iload C 42 rfl 5 rfl ?_
          refine k_istore_3 C 43 rfl (by decide) rfl ?_
          refine k_sub (lv2 := [(0, .ref (a 0)), (1, .int p1), (3, .int x6_32), (4, .int x4), (5, .int x5), (6, .int x6_32)]) [1, 2, 0, 3, 4, 5] rfl ?_
          refine k_aload_0 C 44 rfl 0 rfl ?_
          refine k_iload C 45 rfl 4 rfl ?_
          obtain ⟨r76, h5, hf⟩ := ob1_some hf
          refine k_callW C 46 (c_X12_secondOf Z.2.1 D cy a M_39 x5 r76 h5) rfl qX12_479 mvX12_secondOf 0 12 M_c0 rfl rfl rfl (Nat.le_of_ble_eq_true rfl) ⟨Nat.le_of_ble_eq_true rfl, Nat.le_of_ble_eq_true rfl, Nat.le_refl 0, Nat.le_refl 0⟩ ?_
          refine k_istore C 47 rfl (by decide) rfl ?_
          refine k_sub (lv2 := [(0, .ref (a 0)), (1, .int p1), (3, .int x6_32), (4, .int r76), (5, .int x5), (6, .int x6_32)]) [1, 2, 3, 0, 4, 5] rfl ?_
          refine k_aload_0 C 48 rfl 0 rfl ?_
          refine k_iload_1 C 49 rfl 1 rfl ?_
          refine k_iload C 50 rfl 4 rfl ?_
          obtain ⟨r85, h5, hf⟩ := ob1_some hf
          refine k_callW C 51 (c_X12_nextSeen Z.2.1 D cy a M_39 p1 x5 r85 h5) rfl qX12_482 mvX12_nextSeen 0 12 M_c0 rfl rfl rfl (Nat.le_of_ble_eq_true rfl) ⟨Nat.le_of_ble_eq_true rfl, Nat.le_of_ble_eq_true rfl, Nat.le_refl 0, Nat.le_refl 0⟩ ?_
          refine k_istore C 52 rfl (by decide) rfl ?_
          refine k_sub (lv2 := [(0, .ref (a 0)), (1, .int p1), (3, .int x6_32), (4, .int r76), (5, .int r85), (6, .int x6_32)]) [1, 2, 3, 4, 0, 5] rfl ?_
          refine k_goto C 53 rfl 13 (by decide) ?_
          exact k_sub [0, 1, 2, 3, 4] rfl (hk13 x6_32 r76 r85 M_39 hf)
        · replace hf := if_f hf hc
          exact k_sub [] rfl (hb68 M_39 hf)
  have hb13 := flW4 hq13
  refine k_iload_2 C 0 rfl 2 rfl ?_
  refine k_istore_3 C 1 rfl (by decide) rfl ?_
  refine k_sub (lv2 := [(0, .ref (a 0)), (1, .int p1), (2, .int p2), (3, .int p2)]) [1, 2, 3, 0] rfl ?_
  refine k_iconst C 2 rfl ci_0 ?_
  refine k_istore C 3 rfl (by decide) rfl ?_
  refine k_sub (lv2 := [(0, .ref (a 0)), (1, .int p1), (2, .int p2), (3, .int p2), (4, .int 0)]) [1, 2, 3, 4, 0] rfl ?_
  refine k_aload_0 C 4 rfl 0 rfl ?_
  refine k_iload_1 C 5 rfl 1 rfl ?_
  refine k_iconst C 6 rfl ci_m1 ?_
  obtain ⟨r8, h5, hf⟩ := ob1_some hf
  refine k_callW C 7 (c_X12_nextSeen Z.2.1 D cy a M p1 (-1) r8 h5) rfl qX12_482 mvX12_nextSeen 0 12 M_c0 rfl rfl rfl (Nat.le_of_ble_eq_true rfl) ⟨Nat.le_of_ble_eq_true rfl, Nat.le_of_ble_eq_true rfl, Nat.le_refl 0, Nat.le_refl 0⟩ ?_
  refine k_istore C 8 rfl (by decide) rfl ?_
  refine k_sub (lv2 := [(0, .ref (a 0)), (1, .int p1), (2, .int p2), (3, .int p2), (4, .int 0), (5, .int r8)]) [1, 2, 3, 4, 5, 0] rfl ?_
  exact k_sub [0, 1, 3, 4, 5] rfl (hb13 FU p2 0 r8 M hf)
set_option maxHeartbeats 1000000 in
set_option maxRecDepth 20000 in
theorem c_X12_gotIn (l : Launch) (D : va_G) (cy : Nat → ClassId) (a : Nat → Nat) (M : Sg) (p1 : Int32) (r : Int32) (M1 : Sg) (hf : f_X12_gotIn M p1 = some (r, M1)) : Ct l D cy yX12_gotIn cX12_gotIn 4 (some .int) 7 172 0 0 [.ref (a 0), .int p1] (mw cy a M) (some (.int r)) (mw cy a M1) := by
  refine Ct_i tX12_gotIn hX12_gotIn (by decide) (Nat.le_of_ble_eq_true rfl) ?_
  intro Z hZ C hR
  subst hZ
  replace C : Cx Z D cy RX12 tX12_gotIn 4 7 172 0 0 := C
  show Wk Z D 4 0 0 (mw cy a M) 0 [(0, .ref (a 0)), (1, .int p1)] []
  unfold f_X12_gotIn at hf
  have hq14 : ∀ (k14 : Int32 → Int32 → Sg → Option (Int32 × Sg)), (∀ (x2 : Int32) (x3 : Int32) (M : Sg), k14 x2 x3 M = some (r, M1) → Wk Z D 4 0 0 (mw cy a M) 14 [(0, .ref (a 0)), (1, .int p1), (2, .int x2), (3, .int x3)] []) → ∀ (x2 : Int32) (x3 : Int32) (M : Sg), f_X12_gotIn_b14 p1 k14 x2 x3 M = some (r, M1) → Wk Z D 4 0 0 (mw cy a M) 14 [(0, .ref (a 0)), (1, .int p1), (2, .int x2), (3, .int x3)] [] := by
    intro k14 hk14 x2 x3 M hf
    unfold f_X12_gotIn_b14 at hf
    have hb41 : ∀ (x3 : Int32) (s0 : Int32) (s1 : Int32) (M : Sg), f_X12_gotIn_b41 p1 k14 x3 s0 s1 M = some (r, M1) → Wk Z D 4 0 0 (mw cy a M) 41 [(0, .ref (a 0)), (1, .int p1), (3, .int x3)] [.int s1, .int s0] := by
      intro x3 s0 s1 M hf
      unfold f_X12_gotIn_b41 at hf
      refine k_ior C 27 rfl ?_
      obtain ⟨x2_42, hx, hf⟩ := bnd_some hf
      refine k_topi hx ?_
      refine k_istore_2 C 28 rfl (by decide) rfl ?_
      refine k_sub (lv2 := [(0, .ref (a 0)), (1, .int p1), (2, .int x2_42), (3, .int x3)]) [1, 2, 0, 3] rfl ?_
      obtain ⟨x3_43, hx, hf⟩ := bnd_some hf
      refine k_iinc C 29 rfl 3 rfl ((cn_1 _).trans hx) (by decide) rfl ?_
      refine k_sub (lv2 := [(0, .ref (a 0)), (1, .int p1), (2, .int x2_42), (3, .int x3_43)]) [1, 2, 3, 0] rfl ?_
      refine k_goto C 30 rfl 14 (by decide) ?_
      exact k_sub [0, 1, 2, 3] rfl (hk14 x2_42 x3_43 M hf)
    refine k_iload_3 C 10 rfl 3 rfl ?_
    refine k_aload_0 C 11 rfl 0 rfl ?_
    refine kg12_20 C 12 rfl qX12_39 0 M_c0 M_f0_20 ?_
    refine k_iconst C 13 rfl ci_0 ?_
    refine k_iald C 14 rfl 10 M_c10 vi_0_137 tc_0 ?_
    refine k_icmp_ge C 15 rfl 49 (by decide) (fun hc => ?_) (fun hc => ?_)
    · replace hf := if_t hf hc
      refine k_iload_2 C 31 rfl 2 rfl ?_
      exact k_iret (wf := (fun u => (mw cy a u))) hR 32 rfl hf
    · replace hf := if_f hf hc
      refine k_iload_2 C 16 rfl 2 rfl ?_
      refine k_aload_0 C 17 rfl 0 rfl ?_
      refine k_iload_1 C 18 rfl 1 rfl ?_
      refine k_iload_3 C 19 rfl 3 rfl ?_
      obtain ⟨r28, M_28, h5, hf⟩ := ob2_some hf
      refine k_callW C 20 (c_X12_canHaveBeen Z.2.1 D cy a M p1 x3 r28 M_28 h5) rfl qX12_485 mvX12_canHaveBeen 0 12 M_c0 rfl rfl rfl (Nat.le_of_ble_eq_true rfl) ⟨Nat.le_of_ble_eq_true rfl, Nat.le_of_ble_eq_true rfl, Nat.le_refl 0, Nat.le_refl 0⟩ ?_
      refine k_if_eq C 21 rfl 40 (by decide) (fun hc => ?_) (fun hc => ?_)
      · replace hf := if_t hf hc
        refine k_iconst C 26 rfl ci_0 ?_
        exact k_sub [0, 1, 3] rfl (hb41 x3 x2 0 M_28 hf)
      · replace hf := if_f hf hc
        refine k_iconst C 22 rfl ci_1 ?_
        refine k_iload_3 C 23 rfl 3 rfl ?_
        refine k_ishl C 24 rfl ?_
        refine k_goto C 25 rfl 41 (by decide) ?_
        exact k_sub [0, 1, 3] rfl (hb41 x3 x2 ((1 : Int32) <<< (x3 &&& 31)) M_28 hf)
  have hb14 := flW3 hq14
  refine k_aload_0 C 0 rfl 0 rfl ?_
  refine k_iload_1 C 1 rfl 1 rfl ?_
  obtain ⟨r2, h5, hf⟩ := ob1_some hf
  refine k_callW C 2 (c_X12_isRider Z.2.1 D cy a M p1 r2 h5) rfl qX12_341 mvX12_isRider 0 12 M_c0 rfl rfl rfl (Nat.le_of_ble_eq_true rfl) ⟨Nat.le_of_ble_eq_true rfl, Nat.le_of_ble_eq_true rfl, Nat.le_refl 0, Nat.le_refl 0⟩ ?_
  refine k_if_ne C 3 rfl 10 (by decide) (fun hc => ?_) (fun hc => ?_)
  · replace hf := if_f hf hc
    refine k_iconst C 6 rfl ci_0 ?_
    refine k_istore_2 C 7 rfl (by decide) rfl ?_
    refine k_sub (lv2 := [(0, .ref (a 0)), (1, .int p1), (2, .int 0)]) [1, 2, 0] rfl ?_
    refine k_iconst C 8 rfl ci_0 ?_
    refine k_istore_3 C 9 rfl (by decide) rfl ?_
    refine k_sub (lv2 := [(0, .ref (a 0)), (1, .int p1), (2, .int 0), (3, .int 0)]) [1, 2, 3, 0] rfl ?_
    exact k_sub [0, 1, 2, 3] rfl (hb14 FU 0 0 M hf)
  · replace hf := if_t hf hc
    refine k_iconst C 4 rfl ci_m1 ?_
    exact k_iret (wf := (fun u => (mw cy a u))) hR 5 rfl hf
set_option maxHeartbeats 1000000 in
set_option maxRecDepth 20000 in
theorem c_X12_sit (l : Launch) (D : va_G) (cy : Nat → ClassId) (a : Nat → Nat) (M : Sg) (p1 : Int32) (r : Int32) (hf : f_X12_sit M p1 = some r) : Ct l D cy yX12_sit cX12_sit 6 (some .int) 2 45 0 0 [.ref (a 0), .int p1] (mw cy a M) (some (.int r)) (mw cy a M) := by
  refine Ct_i tX12_sit hX12_sit (by decide) (Nat.le_of_ble_eq_true rfl) ?_
  intro Z hZ C hR
  subst hZ
  replace C : Cx Z D cy RX12 tX12_sit 6 2 45 0 0 := C
  show Wk Z D 6 0 0 (mw cy a M) 0 [(0, .ref (a 0)), (1, .int p1)] []
  unfold f_X12_sit at hf
  have hq29 : ∀ (k29 : Int32 → Int32 → Int32 → Option (Int32)), (∀ (x2 : Int32) (x3 : Int32) (x4 : Int32), k29 x2 x3 x4 = some r → Wk Z D 6 0 0 (mw cy a M) 29 [(0, .ref (a 0)), (1, .int p1), (2, .int x2), (3, .int x3), (4, .int x4)] []) → ∀ (x2 : Int32) (x3 : Int32) (x4 : Int32), f_X12_sit_b29 M p1 k29 x2 x3 x4 = some r → Wk Z D 6 0 0 (mw cy a M) 29 [(0, .ref (a 0)), (1, .int p1), (2, .int x2), (3, .int x3), (4, .int x4)] [] := by
    intro k29 hk29 x2 x3 x4 hf
    unfold f_X12_sit_b29 at hf
    have hb91 : ∀ (x2 : Int32) (x3 : Int32) (x4 : Int32), f_X12_sit_b91 M p1 k29 x2 x3 x4 = some r → Wk Z D 6 0 0 (mw cy a M) 91 [(0, .ref (a 0)), (1, .int p1), (2, .int x2), (3, .int x3), (4, .int x4)] [] := by
      intro x2 x3 x4 hf
      unfold f_X12_sit_b91 at hf
      obtain ⟨x4_91, hx, hf⟩ := bnd_some hf
      refine k_iinc C 51 rfl 4 rfl ((cn_1 _).trans hx) (by decide) rfl ?_
      refine k_sub (lv2 := [(0, .ref (a 0)), (1, .int p1), (2, .int x2), (3, .int x3), (4, .int x4_91)]) [1, 2, 3, 4, 0] rfl ?_
      refine k_goto C 52 rfl 29 (by decide) ?_
      exact k_sub [0, 1, 2, 3, 4] rfl (hk29 x2 x3 x4_91 hf)
    refine k_iload C 17 rfl 4 rfl ?_
    refine k_aload_0 C 18 rfl 0 rfl ?_
    refine kg12_20 C 19 rfl qX12_39 0 M_c0 M_f0_20 ?_
    refine k_iconst C 20 rfl ci_0 ?_
    refine k_iald C 21 rfl 10 M_c10 vi_0_137 tc_0 ?_
    refine k_icmp_ge C 22 rfl 97 (by decide) (fun hc => ?_) (fun hc => ?_)
    · replace hf := if_t hf hc
      refine k_iload_2 C 53 rfl 2 rfl ?_
      exact k_iretP hR 54 rfl hf
    · replace hf := if_f hf hc
      refine k_aload_0 C 23 rfl 0 rfl ?_
      refine kg12_20 C 24 rfl qX12_39 0 M_c0 M_f0_20 ?_
      refine k_bipush C 25 rfl cb_44 ?_
      refine k_iload C 26 rfl 4 rfl ?_
      refine k_iadd C 27 rfl ?_
      obtain ⟨i49, hi, hin, hf⟩ := ixd_some hf
      refine k_iald C 28 rfl 10 M_c10 hin hi ?_
      refine k_aload_0 C 29 rfl 0 rfl ?_
      refine k_iload C 30 rfl 4 rfl ?_
      obtain ⟨r53, h5, hf⟩ := ob1_some hf
      refine k_callW C 31 (c_X12_ridersIn Z.2.1 D cy a M x4 r53 h5) rfl qX12_332 mvX12_ridersIn 0 12 M_c0 rfl rfl rfl (Nat.le_of_ble_eq_true rfl) ⟨Nat.le_of_ble_eq_true rfl, Nat.le_of_ble_eq_true rfl, Nat.le_refl 0, Nat.le_refl 0⟩ ?_
      obtain ⟨r56, h5, hf⟩ := ob1_some hf
      refine k_callE C 32 (c_X12_bits Z.2.1 D cy r53 r56 h5) rfl qX12_389 msX12_bits rfl rfl (Nat.le_of_ble_eq_true rfl) ⟨Nat.le_of_ble_eq_true rfl, Nat.le_of_ble_eq_true rfl, Nat.le_refl 0, Nat.le_refl 0⟩ ?_
      refine k_isub C 33 rfl ?_
      obtain ⟨x5_60, hx, hf⟩ := bnd_some hf
      refine k_topi hx ?_
      refine k_istore C 34 rfl (by decide) rfl ?_
      refine k_sub (lv2 := [(0, .ref (a 0)), (1, .int p1), (2, .int x2), (3, .int x3), (4, .int x4), (5, .int x5_60)]) [1, 2, 3, 4, 5, 0] rfl ?_
      refine k_aload_0 C 35 rfl 0 rfl ?_
      refine kg12_20 C 36 rfl qX12_39 0 M_c0 M_f0_20 ?_
      refine k_bipush C 37 rfl cb_10 ?_
      refine k_iload C 38 rfl 4 rfl ?_
      refine k_iadd C 39 rfl ?_
      obtain ⟨i71, hi, hin, hf⟩ := ixd_some hf
      refine k_iald C 40 rfl 10 M_c10 hin hi ?_
      refine k_iload_1 C 41 rfl 1 rfl ?_
      refine k_icmp_ne C 42 rfl 91 (by decide) (fun hc => ?_) (fun hc => ?_)
      · replace hf := if_f hf hc
        exact k_sub [0, 1, 2, 3, 4] rfl (hb91 x2 x3 x4 hf)
      · replace hf := if_t hf hc
        refine k_iload C 43 rfl 5 rfl ?_
        refine k_iload_3 C 44 rfl 3 rfl ?_
        refine k_icmp_gt C 45 rfl 85 (by decide) (fun hc => ?_) (fun hc => ?_)
        · replace hf := if_t hf hc
          refine k_iload C 47 rfl 4 rfl ?_
          refine k_istore_2 C 48 rfl (by decide) rfl ?_
          refine k_sub (lv2 := [(0, .ref (a 0)), (1, .int p1), (2, .int x4), (3, .int x3), (4, .int x4), (5, .int x5_60)]) [1, 2, 0, 3, 4, 5] rfl ?_
          refine k_iload C 49 rfl 5 rfl ?_
          refine k_istore_3 C 50 rfl (by decide) rfl ?_
          refine k_sub (lv2 := [(0, .ref (a 0)), (1, .int p1), (2, .int x4), (3, .int x5_60), (4, .int x4), (5, .int x5_60)]) [1, 2, 3, 0, 4, 5] rfl ?_
          exact k_sub [0, 1, 2, 3, 4] rfl (hb91 x4 x5_60 x4 hf)
        · replace hf := if_f hf hc
          refine k_goto C 46 rfl 91 (by decide) ?_
          exact k_sub [0, 1, 2, 3, 4] rfl (hb91 x2 x3 x4 hf)
  have hb29 := flW3 hq29
  have hb19 : f_X12_sit_b19 M p1 = some r → Wk Z D 6 0 0 (mw cy a M) 19 [] [] := by
    intro  hf
    unfold f_X12_sit_b19 at hf
    refine k_iconst C 9 rfl ci_m1 ?_
    exact k_iretP hR 10 rfl hf
  refine k_aload_0 C 0 rfl 0 rfl ?_
  obtain ⟨r1, h5, hf⟩ := ob1_some hf
  refine k_callW C 1 (c_X12_isLine Z.2.1 D cy a M r1 h5) rfl qX12_375 mvX12_isLine 0 12 M_c0 rfl rfl rfl (Nat.le_of_ble_eq_true rfl) ⟨Nat.le_of_ble_eq_true rfl, Nat.le_of_ble_eq_true rfl, Nat.le_refl 0, Nat.le_refl 0⟩ ?_
  refine k_if_eq C 2 rfl 19 (by decide) (fun hc => ?_) (fun hc => ?_)
  · replace hf := if_t hf hc
    exact k_sub [] rfl (hb19  hf)
  · replace hf := if_f hf hc
    refine k_iload_1 C 3 rfl 1 rfl ?_
    refine k_i2l C 4 rfl ?_
    refine k_lconst0 C 5 rfl ?_
    refine k_ldc2 C 6 rfl qX12_488 ?_
    obtain ⟨r13, h5, hf⟩ := ob1_some hf
    refine k_callE C 7 (c_X12_in Z.2.1 D cy p1.toInt64 (0 : Int64) (3 : Int64) r13 h5) rfl qX12_124 msX12_in rfl rfl (Nat.le_of_ble_eq_true rfl) ⟨Nat.le_of_ble_eq_true rfl, Nat.le_of_ble_eq_true rfl, Nat.le_refl 0, Nat.le_refl 0⟩ ?_
    refine k_if_ne C 8 rfl 21 (by decide) (fun hc => ?_) (fun hc => ?_)
    · replace hf := if_f hf hc
      refine k_bipush C 11 rfl cb_m2 ?_
      refine k_istore_2 C 12 rfl (by decide) rfl ?_
      refine k_sub (lv2 := [(0, .ref (a 0)), (1, .int p1), (2, .int (-2))]) [1, 2, 0] rfl ?_
      refine k_iconst C 13 rfl ci_0 ?_
      refine k_istore_3 C 14 rfl (by decide) rfl ?_
      refine k_sub (lv2 := [(0, .ref (a 0)), (1, .int p1), (2, .int (-2)), (3, .int 0)]) [1, 2, 3, 0] rfl ?_
      refine k_iconst C 15 rfl ci_0 ?_
      refine k_istore C 16 rfl (by decide) rfl ?_
      refine k_sub (lv2 := [(0, .ref (a 0)), (1, .int p1), (2, .int (-2)), (3, .int 0), (4, .int 0)]) [1, 2, 3, 4, 0] rfl ?_
      exact k_sub [0, 1, 2, 3, 4] rfl (hb29 FU (-2) 0 0 hf)
    · replace hf := if_t hf hc
      exact k_sub [] rfl (hb19  hf)
set_option maxHeartbeats 1000000 in
set_option maxRecDepth 20000 in
theorem c_X12_seed (l : Launch) (D : va_G) (cy : Nat → ClassId) (a : Nat → Nat) (M : Sg) (p1 : Int32) (r : Int32) (M1 : Sg) (hf : f_X12_seed M p1 = some (r, M1)) : Ct l D cy yX12_seed cX12_seed 3 (some .int) 0 0 0 0 [.ref (a 0), .int p1] (mw cy a M) (some (.int r)) (mw cy a M1) := by
  refine Ct_i tX12_seed hX12_seed (by decide) (Nat.le_of_ble_eq_true rfl) ?_
  intro Z hZ C hR
  subst hZ
  replace C : Cx Z D cy RX12 tX12_seed 3 0 0 0 0 := C
  show Wk Z D 3 0 0 (mw cy a M) 0 [(0, .ref (a 0)), (1, .int p1)] []
  unfold f_X12_seed at hf
  refine k_iload_1 C 0 rfl 1 rfl ?_
  refine k_if_ge C 1 rfl 6 (by decide) (fun hc => ?_) (fun hc => ?_)
  · replace hf := if_t hf hc
    refine k_aload_0 C 4 rfl 0 rfl ?_
    refine kg12_21 C 5 rfl qX12_490 0 M_c0 M_f0_21 ?_
    obtain ⟨x2_10, hx, hf⟩ := bnd_some hf
    refine k_topi hx ?_
    refine k_istore_2 C 6 rfl (by decide) rfl ?_
    refine k_sub (lv2 := [(0, .ref (a 0)), (1, .int p1), (2, .int x2_10)]) [1, 2, 0] rfl ?_
    refine k_aload_0 C 7 rfl 0 rfl ?_
    refine k_iload_1 C 8 rfl 1 rfl ?_
    obtain ⟨M_13, hM, hf⟩ := bnd_some hf
    refine kp12_21 (w2 := (mw cy a M_13)) C 9 rfl qX12_490 0 M_c0 (v := p1) M_n0 (M_p0_21.trans (congrArg (fun z => (mw cy a z)) hM)) ?_
    refine k_iload_2 C 10 rfl 2 rfl ?_
    exact k_iret (wf := (fun u => (mw cy a u))) hR 11 rfl hf
  · replace hf := if_f hf hc
    refine k_iconst C 2 rfl ci_m1 ?_
    exact k_iret (wf := (fun u => (mw cy a u))) hR 3 rfl hf
set_option maxHeartbeats 1000000 in
set_option maxRecDepth 20000 in
theorem c_X12_draw (l : Launch) (D : va_G) (cy : Nat → ClassId) (a : Nat → Nat) (M : Sg) (p1 : Int32) (r : Int32) (M1 : Sg) (hf : f_X12_draw M p1 = some (r, M1)) : Ct l D cy yX12_draw cX12_draw 2 (some .int) 0 0 0 0 [.ref (a 0), .int p1] (mw cy a M) (some (.int r)) (mw cy a M1) := by
  refine Ct_i tX12_draw hX12_draw (by decide) (Nat.le_of_ble_eq_true rfl) ?_
  intro Z hZ C hR
  subst hZ
  replace C : Cx Z D cy RX12 tX12_draw 2 0 0 0 0 := C
  show Wk Z D 2 0 0 (mw cy a M) 0 [(0, .ref (a 0)), (1, .int p1)] []
  unfold f_X12_draw at hf
  refine k_aload_0 C 0 rfl 0 rfl ?_
  refine k_aload_0 C 1 rfl 0 rfl ?_
  refine kg12_35 C 2 rfl qX12_493 0 M_c0 M_f0_35 ?_
  refine k_ldc2 C 3 rfl qX12_497 ?_
  refine k_lmul C 4 rfl ?_
  refine k_ldc2 C 5 rfl qX12_499 ?_
  refine k_ladd C 6 rfl ?_
  refine k_ldc2 C 7 rfl qX12_501 ?_
  obtain ⟨hn, hf⟩ := nzJ_some hf
  refine k_lrem C 8 rfl hn ?_
  obtain ⟨M_17, hM, hf⟩ := bnd_some hf
  refine kp12_35 (w2 := (mw cy a M_17)) C 9 rfl qX12_493 0 M_c0 (v := ((((M.2.2 35 0) * (1103515245 : Int64)) + (12345 : Int64)) - (((M.2.2 35 0) * (1103515245 : Int64)) + (12345 : Int64)) / (2147483648 : Int64) * (2147483648 : Int64))) M_n0 (M_p0_35.trans (congrArg (fun z => (mw cy a z)) hM)) ?_
  refine k_aload_0 C 10 rfl 0 rfl ?_
  refine kg12_35 C 11 rfl qX12_493 0 M_c0 M_f0_35 ?_
  refine k_ldc2 C 12 rfl qX12_503 ?_
  obtain ⟨hn, hf⟩ := nzJ_some hf
  refine k_ldiv C 13 rfl hn ?_
  refine k_iload_1 C 14 rfl 1 rfl ?_
  refine k_i2l C 15 rfl ?_
  obtain ⟨hn, hf⟩ := nzJ_some hf
  refine k_lrem C 16 rfl hn ?_
  refine k_l2i C 17 rfl ?_
  exact k_iret (wf := (fun u => (mw cy a u))) hR 18 rfl hf
set_option maxHeartbeats 1000000 in
set_option maxRecDepth 20000 in
theorem c_X12_journeys (l : Launch) (D : va_G) (cy : Nat → ClassId) (a : Nat → Nat) (M : Sg) (p1 : Int32) (p2 : Int32) (r : Int32) (M1 : Sg) (hf : f_X12_journeys M p1 p2 = some (r, M1)) : Ct l D cy yX12_journeys cX12_journeys 10 (some .int) 8 195 0 0 [.ref (a 0), .int p1, .int p2] (mw cy a M) (some (.int r)) (mw cy a M1) := by
  refine Ct_i tX12_journeys hX12_journeys (by decide) (Nat.le_of_ble_eq_true rfl) ?_
  intro Z hZ C hR
  subst hZ
  replace C : Cx Z D cy RX12 tX12_journeys 10 8 195 0 0 := C
  show Wk Z D 10 0 0 (mw cy a M) 0 [(0, .ref (a 0)), (1, .int p1), (2, .int p2)] []
  unfold f_X12_journeys at hf
  have hq48 : ∀ (k48 : Int32 → Int32 → Int32 → Sg → Option (Int32 × Sg)), (∀ (x3 : Int32) (x4 : Int32) (x5 : Int32) (M : Sg), k48 x3 x4 x5 M = some (r, M1) → Wk Z D 10 0 0 (mw cy a M) 48 [(0, .ref (a 0)), (1, .int p1), (2, .int p2), (3, .int x3), (4, .int x4), (5, .int x5)] []) → ∀ (x3 : Int32) (x4 : Int32) (x5 : Int32) (M : Sg), f_X12_journeys_b48 p1 p2 k48 x3 x4 x5 M = some (r, M1) → Wk Z D 10 0 0 (mw cy a M) 48 [(0, .ref (a 0)), (1, .int p1), (2, .int p2), (3, .int x3), (4, .int x4), (5, .int x5)] [] := by
    intro k48 hk48 x3 x4 x5 M hf
    unfold f_X12_journeys_b48 at hf
    have hq57 : ∀ (k57 : Int32 → Int32 → Int32 → Int32 → Sg → Option (Int32 × Sg)), (∀ (x3 : Int32) (x4 : Int32) (x5 : Int32) (x6 : Int32) (M : Sg), k57 x3 x4 x5 x6 M = some (r, M1) → Wk Z D 10 0 0 (mw cy a M) 57 [(0, .ref (a 0)), (1, .int p1), (2, .int p2), (3, .int x3), (4, .int x4), (5, .int x5), (6, .int x6)] []) → ∀ (x3 : Int32) (x4 : Int32) (x5 : Int32) (x6 : Int32) (M : Sg), f_X12_journeys_b57 p1 p2 k48 k57 x3 x4 x5 x6 M = some (r, M1) → Wk Z D 10 0 0 (mw cy a M) 57 [(0, .ref (a 0)), (1, .int p1), (2, .int p2), (3, .int x3), (4, .int x4), (5, .int x5), (6, .int x6)] [] := by
      intro k57 hk57 x3 x4 x5 x6 M hf
      unfold f_X12_journeys_b57 at hf
      have hb166 : ∀ (x3 : Int32) (x4 : Int32) (x5 : Int32) (x6 : Int32) (M : Sg), f_X12_journeys_b166 p1 p2 k48 k57 x3 x4 x5 x6 M = some (r, M1) → Wk Z D 10 0 0 (mw cy a M) 166 [(0, .ref (a 0)), (1, .int p1), (2, .int p2), (3, .int x3), (4, .int x4), (5, .int x5), (6, .int x6)] [] := by
        intro x3 x4 x5 x6 M hf
        unfold f_X12_journeys_b166 at hf
        obtain ⟨x6_166, hx, hf⟩ := bnd_some hf
        refine k_iinc C 86 rfl 6 rfl ((cn_1 _).trans hx) (by decide) rfl ?_
        refine k_sub (lv2 := [(0, .ref (a 0)), (1, .int p1), (2, .int p2), (3, .int x3), (4, .int x4), (5, .int x5), (6, .int x6_166)]) [1, 2, 3, 4, 5, 6, 0] rfl ?_
        refine k_goto C 87 rfl 57 (by decide) ?_
        exact k_sub [0, 1, 2, 3, 4, 5, 6] rfl (hk57 x3 x4 x5 x6_166 M hf)
      have hb163 : ∀ (x3 : Int32) (x5 : Int32) (x6 : Int32) (s0 : Int32) (s1 : Int32) (M : Sg), f_X12_journeys_b163 p1 p2 k48 k57 x3 x5 x6 s0 s1 M = some (r, M1) → Wk Z D 10 0 0 (mw cy a M) 163 [(0, .ref (a 0)), (1, .int p1), (2, .int p2), (3, .int x3), (5, .int x5), (6, .int x6)] [.int s1, .int s0] := by
        intro x3 x5 x6 s0 s1 M hf
        unfold f_X12_journeys_b163 at hf
        refine k_iadd C 84 rfl ?_
        obtain ⟨x4_164, hx, hf⟩ := bnd_some hf
        refine k_topi hx ?_
        refine k_istore C 85 rfl (by decide) rfl ?_
        refine k_sub (lv2 := [(0, .ref (a 0)), (1, .int p1), (2, .int p2), (3, .int x3), (4, .int x4_164), (5, .int x5), (6, .int x6)]) [1, 2, 3, 4, 0, 5, 6] rfl ?_
        exact k_sub [0, 1, 2, 3, 4, 5, 6] rfl (hb166 x3 x4_164 x5 x6 M hf)
      have hb162 : ∀ (x3 : Int32) (x5 : Int32) (x6 : Int32) (s0 : Int32) (M : Sg), f_X12_journeys_b162 p1 p2 k48 k57 x3 x5 x6 s0 M = some (r, M1) → Wk Z D 10 0 0 (mw cy a M) 162 [(0, .ref (a 0)), (1, .int p1), (2, .int p2), (3, .int x3), (5, .int x5), (6, .int x6)] [.int s0] := by
        intro x3 x5 x6 s0 M hf
        unfold f_X12_journeys_b162 at hf
        refine k_iconst C 83 rfl ci_0 ?_
        exact k_sub [0, 1, 2, 3, 4, 5] rfl (hb163 x3 x5 x6 s0 0 M hf)
      have hb134 : ∀ (x3 : Int32) (x4 : Int32) (x5 : Int32) (x6 : Int32) (s0 : Int32) (M : Sg), f_X12_journeys_b134 p1 p2 k48 k57 x3 x4 x5 x6 s0 M = some (r, M1) → Wk Z D 10 0 0 (mw cy a M) 134 [(0, .ref (a 0)), (1, .int p1), (2, .int p2), (3, .int x3), (4, .int x4), (5, .int x5), (6, .int x6)] [.int s0] := by
        intro x3 x4 x5 x6 s0 M hf
        unfold f_X12_journeys_b134 at hf
        refine k_istore C 70 rfl (by decide) rfl ?_
        refine k_sub (lv2 := [(0, .ref (a 0)), (1, .int p1), (2, .int p2), (3, .int x3), (4, .int x4), (5, .int x5), (6, .int x6), (9, .int s0)]) [1, 2, 3, 4, 5, 6, 7, 0] rfl ?_
        refine k_iload C 71 rfl 4 rfl ?_
        refine k_iload C 72 rfl 7 rfl ?_
        refine k_if_lt C 73 rfl 162 (by decide) (fun hc => ?_) (fun hc => ?_)
        · replace hf := if_t hf hc
          exact k_sub [0, 1, 2, 3, 5, 6] rfl (hb162 x3 x5 x6 x4 M hf)
        · replace hf := if_f hf hc
          refine k_iload C 74 rfl 7 rfl ?_
          refine k_aload_0 C 75 rfl 0 rfl ?_
          obtain ⟨r146, h5, hf⟩ := ob1_some hf
          refine k_callW C 76 (c_X12_parting Z.2.1 D cy a M r146 h5) rfl qX12_356 mvX12_parting 0 12 M_c0 rfl rfl rfl (Nat.le_of_ble_eq_true rfl) ⟨Nat.le_of_ble_eq_true rfl, Nat.le_of_ble_eq_true rfl, Nat.le_refl 0, Nat.le_refl 0⟩ ?_
          refine k_icmp_ge C 77 rfl 162 (by decide) (fun hc => ?_) (fun hc => ?_)
          · replace hf := if_t hf hc
            exact k_sub [0, 1, 2, 3, 5, 6] rfl (hb162 x3 x5 x6 x4 M hf)
          · replace hf := if_f hf hc
            refine k_aload_0 C 78 rfl 0 rfl ?_
            obtain ⟨r153, h5, hf⟩ := ob1_some hf
            refine k_callW C 79 (c_X12_parting Z.2.1 D cy a M r153 h5) rfl qX12_356 mvX12_parting 0 12 M_c0 rfl rfl rfl (Nat.le_of_ble_eq_true rfl) ⟨Nat.le_of_ble_eq_true rfl, Nat.le_of_ble_eq_true rfl, Nat.le_refl 0, Nat.le_refl 0⟩ ?_
            refine k_iload C 80 rfl 7 rfl ?_
            refine k_isub C 81 rfl ?_
            refine k_goto C 82 rfl 163 (by decide) ?_
            exact k_sub [0, 1, 2, 3, 5, 6] rfl (hb163 x3 x5 x6 x4 (r153 - s0) M hf)
      refine k_iload C 33 rfl 6 rfl ?_
      refine k_aload_0 C 34 rfl 0 rfl ?_
      refine kg12_20 C 35 rfl qX12_39 0 M_c0 M_f0_20 ?_
      refine k_iconst C 36 rfl ci_2 ?_
      refine k_iald C 37 rfl 10 M_c10 vi_2_137 tc_2 ?_
      refine k_icmp_ge C 38 rfl 172 (by decide) (fun hc => ?_) (fun hc => ?_)
      · replace hf := if_t hf hc
        obtain ⟨x5_172, hx, hf⟩ := bnd_some hf
        refine k_iinc C 88 rfl 5 rfl ((cn_1 _).trans hx) (by decide) rfl ?_
        refine k_sub (lv2 := [(0, .ref (a 0)), (1, .int p1), (2, .int p2), (3, .int x3), (4, .int x4), (5, .int x5_172), (6, .int x6)]) [1, 2, 3, 4, 5, 0, 6] rfl ?_
        refine k_goto C 89 rfl 48 (by decide) ?_
        exact k_sub [0, 1, 2, 3, 4, 5] rfl (hk48 x3 x4 x5_172 M hf)
      · replace hf := if_f hf hc
        refine k_aload_0 C 39 rfl 0 rfl ?_
        refine k_aload_0 C 40 rfl 0 rfl ?_
        obtain ⟨r70, h5, hf⟩ := ob1_some hf
        refine k_callW C 41 (c_X12_parting Z.2.1 D cy a M r70 h5) rfl qX12_356 mvX12_parting 0 12 M_c0 rfl rfl rfl (Nat.le_of_ble_eq_true rfl) ⟨Nat.le_of_ble_eq_true rfl, Nat.le_of_ble_eq_true rfl, Nat.le_refl 0, Nat.le_refl 0⟩ ?_
        refine k_iconst C 42 rfl ci_1 ?_
        refine k_iadd C 43 rfl ?_
        obtain ⟨r75, M_75, h5, hf⟩ := ob2_some hf
        refine k_callW C 44 (c_X12_draw Z.2.1 D cy a M (r70 + 1) r75 M_75 h5) rfl qX12_507 mvX12_draw 0 12 M_c0 rfl rfl rfl (Nat.le_of_ble_eq_true rfl) ⟨Nat.le_of_ble_eq_true rfl, Nat.le_of_ble_eq_true rfl, Nat.le_refl 0, Nat.le_refl 0⟩ ?_
        refine k_istore C 45 rfl (by decide) rfl ?_
        refine k_sub (lv2 := [(0, .ref (a 0)), (1, .int p1), (2, .int p2), (3, .int x3), (4, .int x4), (5, .int x5), (6, .int x6), (7, .int r75)]) [1, 2, 3, 4, 5, 6, 7, 0] rfl ?_
        refine k_aload_0 C 46 rfl 0 rfl ?_
        refine k_iload C 47 rfl 6 rfl ?_
        refine k_iload C 48 rfl 7 rfl ?_
        obtain ⟨r85, M_85, h5, hf⟩ := ob2_some hf
        refine k_callW C 49 (c_X12_isLost Z.2.1 D cy a M_75 x6 r75 r85 M_85 h5) rfl qX12_454 mvX12_isLost 0 12 M_c0 rfl rfl rfl (Nat.le_of_ble_eq_true rfl) ⟨Nat.le_of_ble_eq_true rfl, Nat.le_of_ble_eq_true rfl, Nat.le_refl 0, Nat.le_refl 0⟩ ?_
        refine k_if_eq C 50 rfl 97 (by decide) (fun hc => ?_) (fun hc => ?_)
        · replace hf := if_t hf hc
          refine k_aload_0 C 53 rfl 0 rfl ?_
          refine k_iload C 54 rfl 6 rfl ?_
          refine k_iload C 55 rfl 7 rfl ?_
          obtain ⟨r102, h5, hf⟩ := ob1_some hf
          refine k_callW C 56 (c_X12_beginOf Z.2.1 D cy a M_85 x6 r75 r102 h5) rfl qX12_425 mvX12_beginOf 0 12 M_c0 rfl rfl rfl (Nat.le_of_ble_eq_true rfl) ⟨Nat.le_of_ble_eq_true rfl, Nat.le_of_ble_eq_true rfl, Nat.le_refl 0, Nat.le_refl 0⟩ ?_
          refine k_istore C 57 rfl (by decide) rfl ?_
          refine k_sub (lv2 := [(0, .ref (a 0)), (1, .int p1), (2, .int p2), (3, .int x3), (4, .int x4), (5, .int x5), (6, .int x6), (7, .int r75), (8, .int r102)]) [1, 2, 3, 4, 5, 6, 7, 8, 0] rfl ?_
          refine k_iload C 58 rfl 8 rfl ?_
          refine k_sipush C 59 rfl cs_999 ?_
          refine k_icmp_le C 60 rfl 120 (by decide) (fun hc => ?_) (fun hc => ?_)
          · replace hf := if_t hf hc
            refine k_aload_0 C 63 rfl 0 rfl ?_
            refine k_iload C 64 rfl 6 rfl ?_
            refine k_aload_0 C 65 rfl 0 rfl ?_
            refine k_iload C 66 rfl 6 rfl ?_
            obtain ⟨r126, h5, hf⟩ := ob1_some hf
            refine k_callW C 67 (c_X12_whereOf Z.2.1 D cy a M_85 x6 r126 h5) rfl qX12_428 mvX12_whereOf 0 12 M_c0 rfl rfl rfl (Nat.le_of_ble_eq_true rfl) ⟨Nat.le_of_ble_eq_true rfl, Nat.le_of_ble_eq_true rfl, Nat.le_refl 0, Nat.le_refl 0⟩ ?_
            refine k_iload C 68 rfl 8 rfl ?_
            obtain ⟨r131, M_131, h5, hf⟩ := ob2_some hf
            refine k_callW C 69 (c_X12_rightFrom Z.2.1 D cy a M_85 x6 r126 r102 r131 M_131 h5) rfl qX12_431 mvX12_rightFrom 0 12 M_c0 rfl rfl rfl (Nat.le_of_ble_eq_true rfl) ⟨Nat.le_of_ble_eq_true rfl, Nat.le_of_ble_eq_true rfl, Nat.le_refl 0, Nat.le_refl 0⟩ ?_
            exact k_sub [0, 1, 2, 3, 4, 5, 6] rfl (hb134 x3 x4 x5 x6 r131 M_131 hf)
          · replace hf := if_f hf hc
            refine k_iload C 61 rfl 8 rfl ?_
            refine k_goto C 62 rfl 134 (by decide) ?_
            exact k_sub [0, 1, 2, 3, 4, 5, 6] rfl (hb134 x3 x4 x5 x6 r102 M_85 hf)
        · replace hf := if_f hf hc
          obtain ⟨x3_91, hx, hf⟩ := bnd_some hf
          refine k_iinc C 51 rfl 3 rfl ((cn_1 _).trans hx) (by decide) rfl ?_
          refine k_sub (lv2 := [(0, .ref (a 0)), (1, .int p1), (2, .int p2), (3, .int x3_91), (4, .int x4), (5, .int x5), (6, .int x6), (7, .int r75)]) [1, 2, 3, 0, 4, 5, 6, 7] rfl ?_
          refine k_goto C 52 rfl 166 (by decide) ?_
          exact k_sub [0, 1, 2, 3, 4, 5, 6] rfl (hb166 x3_91 x4 x5 x6 M_85 hf)
    have hb57 := flW5 hq57
    refine k_iload C 28 rfl 5 rfl ?_
    refine k_iload_1 C 29 rfl 1 rfl ?_
    refine k_icmp_ge C 30 rfl 178 (by decide) (fun hc => ?_) (fun hc => ?_)
    · replace hf := if_t hf hc
      refine k_iload_2 C 90 rfl 2 rfl ?_
      refine k_if_ne C 91 rfl 186 (by decide) (fun hc => ?_) (fun hc => ?_)
      · replace hf := if_f hf hc
        refine k_iload C 94 rfl 4 rfl ?_
        exact k_iret (wf := (fun u => (mw cy a u))) hR 95 rfl hf
      · replace hf := if_t hf hc
        refine k_iload_3 C 92 rfl 3 rfl ?_
        refine k_goto C 93 rfl 188 (by decide) ?_
        exact k_iret (wf := (fun u => (mw cy a u))) hR 95 rfl hf
    · replace hf := if_f hf hc
      refine k_iconst C 31 rfl ci_0 ?_
      refine k_istore C 32 rfl (by decide) rfl ?_
      refine k_sub (lv2 := [(0, .ref (a 0)), (1, .int p1), (2, .int p2), (3, .int x3), (4, .int x4), (5, .int x5), (6, .int 0)]) [1, 2, 3, 4, 5, 6, 0] rfl ?_
      exact k_sub [0, 1, 2, 3, 4, 5, 6] rfl (hb57 FU x3 x4 x5 0 M hf)
  have hb48 := flW4 hq48
  have hb29 : ∀ (M : Sg), f_X12_journeys_b29 p1 p2 M = some (r, M1) → Wk Z D 10 0 0 (mw cy a M) 29 [] [] := by
    intro M hf
    unfold f_X12_journeys_b29 at hf
    refine k_iconst C 15 rfl ci_m1 ?_
    exact k_iret (wf := (fun u => (mw cy a u))) hR 16 rfl hf
  refine k_aload_0 C 0 rfl 0 rfl ?_
  obtain ⟨r1, h5, hf⟩ := ob1_some hf
  refine k_callW C 1 (c_X12_isLine Z.2.1 D cy a M r1 h5) rfl qX12_375 mvX12_isLine 0 12 M_c0 rfl rfl rfl (Nat.le_of_ble_eq_true rfl) ⟨Nat.le_of_ble_eq_true rfl, Nat.le_of_ble_eq_true rfl, Nat.le_refl 0, Nat.le_refl 0⟩ ?_
  refine k_if_eq C 2 rfl 29 (by decide) (fun hc => ?_) (fun hc => ?_)
  · replace hf := if_t hf hc
    exact k_sub [] rfl (hb29 M hf)
  · replace hf := if_f hf hc
    refine k_iload_1 C 3 rfl 1 rfl ?_
    refine k_i2l C 4 rfl ?_
    refine k_lconst1 C 5 rfl ?_
    refine k_ldc2 C 6 rfl qX12_505 ?_
    obtain ⟨r13, h5, hf⟩ := ob1_some hf
    refine k_callE C 7 (c_X12_in Z.2.1 D cy p1.toInt64 (1 : Int64) (20 : Int64) r13 h5) rfl qX12_124 msX12_in rfl rfl (Nat.le_of_ble_eq_true rfl) ⟨Nat.le_of_ble_eq_true rfl, Nat.le_of_ble_eq_true rfl, Nat.le_refl 0, Nat.le_refl 0⟩ ?_
    refine k_if_eq C 8 rfl 29 (by decide) (fun hc => ?_) (fun hc => ?_)
    · replace hf := if_t hf hc
      exact k_sub [] rfl (hb29 M hf)
    · replace hf := if_f hf hc
      refine k_iload_2 C 9 rfl 2 rfl ?_
      refine k_i2l C 10 rfl ?_
      refine k_lconst0 C 11 rfl ?_
      refine k_lconst1 C 12 rfl ?_
      obtain ⟨r23, h5, hf⟩ := ob1_some hf
      refine k_callE C 13 (c_X12_in Z.2.1 D cy p2.toInt64 (0 : Int64) (1 : Int64) r23 h5) rfl qX12_124 msX12_in rfl rfl (Nat.le_of_ble_eq_true rfl) ⟨Nat.le_of_ble_eq_true rfl, Nat.le_of_ble_eq_true rfl, Nat.le_refl 0, Nat.le_refl 0⟩ ?_
      refine k_if_ne C 14 rfl 31 (by decide) (fun hc => ?_) (fun hc => ?_)
      · replace hf := if_f hf hc
        refine k_aload_0 C 17 rfl 0 rfl ?_
        refine k_aload_0 C 18 rfl 0 rfl ?_
        refine kg12_21 C 19 rfl qX12_490 0 M_c0 M_f0_21 ?_
        refine k_i2l C 20 rfl ?_
        obtain ⟨M_37, hM, hf⟩ := bnd_some hf
        refine kp12_35 (w2 := (mw cy a M_37)) C 21 rfl qX12_493 0 M_c0 (v := (M.1 21).toInt64) M_n0 (M_p0_35.trans (congrArg (fun z => (mw cy a z)) hM)) ?_
        refine k_iconst C 22 rfl ci_0 ?_
        refine k_istore_3 C 23 rfl (by decide) rfl ?_
        refine k_sub (lv2 := [(0, .ref (a 0)), (1, .int p1), (2, .int p2), (3, .int 0)]) [1, 2, 3, 0] rfl ?_
        refine k_iconst C 24 rfl ci_0 ?_
        refine k_istore C 25 rfl (by decide) rfl ?_
        refine k_sub (lv2 := [(0, .ref (a 0)), (1, .int p1), (2, .int p2), (3, .int 0), (4, .int 0)]) [1, 2, 3, 4, 0] rfl ?_
        refine k_iconst C 26 rfl ci_0 ?_
        refine k_istore C 27 rfl (by decide) rfl ?_
        refine k_sub (lv2 := [(0, .ref (a 0)), (1, .int p1), (2, .int p2), (3, .int 0), (4, .int 0), (5, .int 0)]) [1, 2, 3, 4, 5, 0] rfl ?_
        exact k_sub [0, 1, 2, 3, 4, 5] rfl (hb48 FU 0 0 0 M_37 hf)
      · replace hf := if_t hf hc
        exact k_sub [] rfl (hb29 M hf)
