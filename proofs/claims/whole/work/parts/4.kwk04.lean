set_option maxHeartbeats 1000000 in
set_option maxRecDepth 20000 in
theorem c_X6_spreadBack (l : Launch) (D : va_G) (cy : Nat → ClassId) (c : Nat → Nat) (a : Nat → Nat) (S : Sg) (T : Sg) (O : Sg) (E : Sg) (X : Sg) (p1 : Int32) (p2 : Int32) (S1 : Sg) (hf : f_X6_spreadBack S T O p1 p2 = some S1) : Ct l D cy yX6_spreadBack cX6_spreadBack 6 none 4 276 0 0 [.ref (c 0), .int p1, .int p2] (wS cy c a S T O E X) none (wS cy c a S1 T O E X) := by
  refine Ct_v tX6_spreadBack hX6_spreadBack (by decide) (Nat.le_of_ble_eq_true rfl) ?_
  intro Z hZ C hR
  subst hZ
  replace C : Cx Z D cy RX6 tX6_spreadBack 6 4 276 0 0 := C
  show Wk Z D 6 0 0 (wS cy c a S T O E X) 0 [(0, .ref (c 0)), (1, .int p1), (2, .int p2)] []
  unfold f_X6_spreadBack at hf
  have hq50 : ∀ (k50 : Int32 → Int32 → Sg → Option (Sg)), (∀ (x3 : Int32) (x4 : Int32) (S : Sg), k50 x3 x4 S = some S1 → Wk Z D 6 0 0 (wS cy c a S T O E X) 50 [(0, .ref (c 0)), (1, .int p1), (3, .int x3), (4, .int x4)] []) → ∀ (x3 : Int32) (x4 : Int32) (S : Sg), f_X6_spreadBack_b50 T O p1 p2 k50 x3 x4 S = some S1 → Wk Z D 6 0 0 (wS cy c a S T O E X) 50 [(0, .ref (c 0)), (1, .int p1), (3, .int x3), (4, .int x4)] [] := by
    intro k50 hk50 x3 x4 S hf
    unfold f_X6_spreadBack_b50 at hf
    have hq66 : ∀ (k66 : Int32 → Int32 → Int32 → Sg → Option (Sg)), (∀ (x3 : Int32) (x4 : Int32) (x5 : Int32) (S : Sg), k66 x3 x4 x5 S = some S1 → Wk Z D 6 0 0 (wS cy c a S T O E X) 66 [(0, .ref (c 0)), (1, .int p1), (3, .int x3), (4, .int x4), (5, .int x5)] []) → ∀ (x3 : Int32) (x4 : Int32) (x5 : Int32) (S : Sg), f_X6_spreadBack_b66 T O p1 p2 k50 k66 x3 x4 x5 S = some S1 → Wk Z D 6 0 0 (wS cy c a S T O E X) 66 [(0, .ref (c 0)), (1, .int p1), (3, .int x3), (4, .int x4), (5, .int x5)] [] := by
      intro k66 hk66 x3 x4 x5 S hf
      unfold f_X6_spreadBack_b66 at hf
      have hb104 : ∀ (x3 : Int32) (x4 : Int32) (x5 : Int32) (S : Sg), f_X6_spreadBack_b104 T O p1 p2 k50 k66 x3 x4 x5 S = some S1 → Wk Z D 6 0 0 (wS cy c a S T O E X) 104 [(0, .ref (c 0)), (1, .int p1), (3, .int x3), (4, .int x4), (5, .int x5)] [] := by
        intro x3 x4 x5 S hf
        unfold f_X6_spreadBack_b104 at hf
        obtain ⟨x5_104, hx, hf⟩ := bnd_some hf
        refine k_iinc C 55 rfl 4 rfl ((cn_1 _).trans hx) (by decide) rfl ?_
        refine k_sub (lv2 := [(0, .ref (c 0)), (1, .int p1), (3, .int x3), (4, .int x4), (5, .int x5_104)]) [1, 2, 3, 4, 0] rfl ?_
        refine k_goto C 56 rfl 66 (by decide) ?_
        exact k_sub [0, 1, 2, 3, 4] rfl (hk66 x3 x4 x5_104 S hf)
      refine k_iload C 36 rfl 4 rfl ?_
      refine k_aload_0 C 37 rfl 0 rfl ?_
      refine kg6_0 C 38 rfl qX6_33 0 S_c0 S_f0_0 ?_
      refine kg10_0 C 39 rfl qX6_65 8 S_c8 S_f8_0 ?_
      refine kg9_0 C 40 rfl qX6_69 9 S_c9 S_f9_0 ?_
      refine k_icmp_ge C 41 rfl 110 (by decide) (fun hc => ?_) (fun hc => ?_)
      · replace hf := if_t hf hc
        obtain ⟨x4_110, hx, hf⟩ := bnd_some hf
        refine k_iinc C 57 rfl 3 rfl ((cn_1 _).trans hx) (by decide) rfl ?_
        refine k_sub (lv2 := [(0, .ref (c 0)), (1, .int p1), (3, .int x3), (4, .int x4_110), (5, .int x5)]) [1, 2, 3, 0, 4] rfl ?_
        refine k_goto C 58 rfl 50 (by decide) ?_
        exact k_sub [0, 1, 2, 3] rfl (hk50 x3 x4_110 S hf)
      · replace hf := if_f hf hc
        refine k_aload_0 C 42 rfl 0 rfl ?_
        refine kg6_2 C 43 rfl qX6_15 0 S_c0 S_f0_2 ?_
        refine k_iload C 44 rfl 4 rfl ?_
        obtain ⟨i87, hi, hin, hf⟩ := ixd_some hf
        refine k_iald C 45 rfl 2 S_c2 hin hi ?_
        refine k_iconst C 46 rfl ci_m1 ?_
        refine k_icmp_eq C 47 rfl 104 (by decide) (fun hc => ?_) (fun hc => ?_)
        · replace hf := if_t hf hc
          exact k_sub [0, 1, 2, 3, 4] rfl (hb104 x3 x4 x5 S hf)
        · replace hf := if_f hf hc
          refine k_aload_0 C 48 rfl 0 rfl ?_
          refine k_iload_1 C 49 rfl 1 rfl ?_
          refine k_iload C 50 rfl 4 rfl ?_
          obtain ⟨r96, S_96, h5, hf⟩ := ob2_some hf
          refine k_callW C 51 (c_X6_spreadBackFrom Z.2.1 D cy c a S T O E X p1 x5 r96 S_96 h5) rfl qX6_105 mvX6_spreadBackFrom 0 6 S_c0 rfl rfl rfl (Nat.le_of_ble_eq_true rfl) ⟨Nat.le_of_ble_eq_true rfl, Nat.le_of_ble_eq_true rfl, Nat.le_refl 0, Nat.le_refl 0⟩ ?_
          refine k_if_eq C 52 rfl 104 (by decide) (fun hc => ?_) (fun hc => ?_)
          · replace hf := if_t hf hc
            exact k_sub [0, 1, 2, 3, 4] rfl (hb104 x3 x4 x5 S_96 hf)
          · replace hf := if_f hf hc
            refine k_iconst C 53 rfl ci_1 ?_
            refine k_istore_3 C 54 rfl (by decide) rfl ?_
            refine k_sub (lv2 := [(0, .ref (c 0)), (1, .int p1), (3, .int 1), (4, .int x4), (5, .int x5)]) [1, 2, 0, 3, 4] rfl ?_
            exact k_sub [0, 1, 2, 3, 4] rfl (hb104 1 x4 x5 S_96 hf)
    have hb66 := flW4 hq66
    refine k_iload C 27 rfl 3 rfl ?_
    refine k_bipush C 28 rfl cb_8 ?_
    refine k_icmp_ge C 29 rfl 116 (by decide) (fun hc => ?_) (fun hc => ?_)
    · replace hf := if_t hf hc
      exact k_vret (wf := (fun u => (wS cy c a u T O E X))) hR 59 rfl hf
    · replace hf := if_f hf hc
      refine k_iload_3 C 30 rfl 2 rfl ?_
      refine k_if_eq C 31 rfl 116 (by decide) (fun hc => ?_) (fun hc => ?_)
      · replace hf := if_t hf hc
        exact k_vret (wf := (fun u => (wS cy c a u T O E X))) hR 59 rfl hf
      · replace hf := if_f hf hc
        refine k_iconst C 32 rfl ci_0 ?_
        refine k_istore_3 C 33 rfl (by decide) rfl ?_
        refine k_sub (lv2 := [(0, .ref (c 0)), (1, .int p1), (3, .int 0), (4, .int x4)]) [1, 2, 0, 3] rfl ?_
        refine k_iconst C 34 rfl ci_0 ?_
        refine k_istore C 35 rfl (by decide) rfl ?_
        refine k_sub (lv2 := [(0, .ref (c 0)), (1, .int p1), (3, .int 0), (4, .int x4), (5, .int 0)]) [1, 2, 3, 4, 0] rfl ?_
        exact k_sub [0, 1, 2, 3, 4] rfl (hb66 FU 0 x4 0 S hf)
  have hb50 := flW3 hq50
  have hq2 : ∀ (k2 : Int32 → Sg → Option (Sg)), (∀ (x3 : Int32) (S : Sg), k2 x3 S = some S1 → Wk Z D 6 0 0 (wS cy c a S T O E X) 2 [(0, .ref (c 0)), (1, .int p1), (2, .int p2), (3, .int x3)] []) → ∀ (x3 : Int32) (S : Sg), f_X6_spreadBack_b2 T O p1 p2 k2 x3 S = some S1 → Wk Z D 6 0 0 (wS cy c a S T O E X) 2 [(0, .ref (c 0)), (1, .int p1), (2, .int p2), (3, .int x3)] [] := by
    intro k2 hk2 x3 S hf
    unfold f_X6_spreadBack_b2 at hf
    have hb38 : ∀ (x3 : Int32) (s1 : Int32) (s2 : Int32) (S : Sg), f_X6_spreadBack_b38 T O p1 p2 k2 x3 s1 s2 S = some S1 → Wk Z D 6 0 0 (wS cy c a S T O E X) 38 [(0, .ref (c 0)), (1, .int p1), (2, .int p2), (3, .int x3)] [.int s2, .int s1, .ref (c 2)] := by
      intro x3 s1 s2 S hf
      unfold f_X6_spreadBack_b38 at hf
      obtain ⟨i38, hi, hin, hf⟩ := ixd_some hf
      obtain ⟨S_38, hM, hf⟩ := bnd_some hf
      refine k_iast (w2 := (wS cy c a S_38 T O E X)) C 20 rfl 2 S_c2 hin hi (S_s2.trans (congrArg (fun z => (wS cy c a z T O E X)) hM)) ?_
      obtain ⟨x3_39, hx, hf⟩ := bnd_some hf
      refine k_iinc C 21 rfl 3 rfl ((cn_1 _).trans hx) (by decide) rfl ?_
      refine k_sub (lv2 := [(0, .ref (c 0)), (1, .int p1), (2, .int p2), (3, .int x3_39)]) [1, 2, 3, 0] rfl ?_
      refine k_goto C 22 rfl 2 (by decide) ?_
      exact k_sub [0, 1, 2, 3] rfl (hk2 x3_39 S_38 hf)
    refine k_iload_3 C 2 rfl 3 rfl ?_
    refine k_aload_0 C 3 rfl 0 rfl ?_
    refine kg6_0 C 4 rfl qX6_33 0 S_c0 S_f0_0 ?_
    refine kg10_0 C 5 rfl qX6_65 8 S_c8 S_f8_0 ?_
    refine kg9_0 C 6 rfl qX6_69 9 S_c9 S_f9_0 ?_
    refine k_icmp_ge C 7 rfl 45 (by decide) (fun hc => ?_) (fun hc => ?_)
    · replace hf := if_t hf hc
      refine k_iconst C 23 rfl ci_1 ?_
      refine k_istore_3 C 24 rfl (by decide) rfl ?_
      refine k_sub (lv2 := [(0, .ref (c 0)), (1, .int p1), (2, .int p2), (3, .int 1)]) [1, 2, 3, 0] rfl ?_
      refine k_iconst C 25 rfl ci_0 ?_
      refine k_istore C 26 rfl (by decide) rfl ?_
      refine k_sub (lv2 := [(0, .ref (c 0)), (1, .int p1), (2, .int p2), (3, .int 1), (4, .int 0)]) [1, 2, 3, 4, 0] rfl ?_
      exact k_sub [0, 1, 3, 4] rfl (hb50 FU 1 0 S hf)
    · replace hf := if_f hf hc
      refine k_aload_0 C 8 rfl 0 rfl ?_
      refine kg6_2 C 9 rfl qX6_15 0 S_c0 S_f0_2 ?_
      refine k_iload_3 C 10 rfl 3 rfl ?_
      refine k_aload_0 C 11 rfl 0 rfl ?_
      refine kg6_0 C 12 rfl qX6_33 0 S_c0 S_f0_0 ?_
      refine k_iload_1 C 13 rfl 1 rfl ?_
      refine k_iload_3 C 14 rfl 3 rfl ?_
      obtain ⟨r27, h5, hf⟩ := ob1_some hf
      refine k_callV (X := (wS cy c a S T O E X).take 8) (Y := (wS cy c a S T O E X).drop 31) (w2 := (wS cy c a S T O E X)) C 15 (c_X10_isRight Z.2.1 D cy a T O E X p1 x3 r27 h5) rfl qX6_102 mvX10_isRight 0 10 W_c0 rfl rfl rfl rfl rfl (Nat.le_of_ble_eq_true rfl) ⟨Nat.le_of_ble_eq_true rfl, Nat.le_of_ble_eq_true rfl, Nat.le_refl 0, Nat.le_refl 0⟩ ?_
      refine k_if_eq C 16 rfl 37 (by decide) (fun hc => ?_) (fun hc => ?_)
      · replace hf := if_t hf hc
        refine k_iconst C 19 rfl ci_m1 ?_
        exact k_sub [0, 1, 2, 3] rfl (hb38 x3 x3 (-1) S hf)
      · replace hf := if_f hf hc
        refine k_iload_2 C 17 rfl 2 rfl ?_
        refine k_goto C 18 rfl 38 (by decide) ?_
        exact k_sub [0, 1, 2, 3] rfl (hb38 x3 x3 p2 S hf)
  have hb2 := flW2 hq2
  refine k_iconst C 0 rfl ci_0 ?_
  refine k_istore_3 C 1 rfl (by decide) rfl ?_
  refine k_sub (lv2 := [(0, .ref (c 0)), (1, .int p1), (2, .int p2), (3, .int 0)]) [1, 2, 3, 0] rfl ?_
  exact k_sub [0, 1, 2, 3] rfl (hb2 FU 0 S hf)
set_option maxHeartbeats 1000000 in
set_option maxRecDepth 20000 in
theorem c_X6_soonestOf (l : Launch) (D : va_G) (cy : Nat → ClassId) (c : Nat → Nat) (a : Nat → Nat) (S : Sg) (T : Sg) (O : Sg) (E : Sg) (X : Sg) (p1 : Int32) (p2 : Int32) (r : Int32) (S1 : Sg) (hf : f_X6_soonestOf S T O p1 p2 = some (r, S1)) : Ct l D cy yX6_soonestOf cX6_soonestOf 5 (some .int) 5 305 0 0 [.ref (c 0), .int p1, .int p2] (wS cy c a S T O E X) (some (.int r)) (wS cy c a S1 T O E X) := by
  refine Ct_i tX6_soonestOf hX6_soonestOf (by decide) (Nat.le_of_ble_eq_true rfl) ?_
  intro Z hZ C hR
  subst hZ
  replace C : Cx Z D cy RX6 tX6_soonestOf 5 5 305 0 0 := C
  show Wk Z D 5 0 0 (wS cy c a S T O E X) 0 [(0, .ref (c 0)), (1, .int p1), (2, .int p2)] []
  unfold f_X6_soonestOf at hf
  have hq25 : ∀ (k25 : Int32 → Int32 → Sg → Option (Int32 × Sg)), (∀ (x3 : Int32) (x4 : Int32) (S : Sg), k25 x3 x4 S = some (r, S1) → Wk Z D 5 0 0 (wS cy c a S T O E X) 25 [(0, .ref (c 0)), (1, .int p1), (3, .int x3), (4, .int x4)] []) → ∀ (x3 : Int32) (x4 : Int32) (S : Sg), f_X6_soonestOf_b25 T O p1 p2 k25 x3 x4 S = some (r, S1) → Wk Z D 5 0 0 (wS cy c a S T O E X) 25 [(0, .ref (c 0)), (1, .int p1), (3, .int x3), (4, .int x4)] [] := by
    intro k25 hk25 x3 x4 S hf
    unfold f_X6_soonestOf_b25 at hf
    have hb65 : ∀ (x3 : Int32) (x4 : Int32) (S : Sg), f_X6_soonestOf_b65 T O p1 p2 k25 x3 x4 S = some (r, S1) → Wk Z D 5 0 0 (wS cy c a S T O E X) 65 [(0, .ref (c 0)), (1, .int p1), (3, .int x3), (4, .int x4)] [] := by
      intro x3 x4 S hf
      unfold f_X6_soonestOf_b65 at hf
      obtain ⟨x4_65, hx, hf⟩ := bnd_some hf
      refine k_iinc C 34 rfl 3 rfl ((cn_1 _).trans hx) (by decide) rfl ?_
      refine k_sub (lv2 := [(0, .ref (c 0)), (1, .int p1), (3, .int x3), (4, .int x4_65)]) [1, 2, 3, 0] rfl ?_
      refine k_goto C 35 rfl 25 (by decide) ?_
      exact k_sub [0, 1, 2, 3] rfl (hk25 x3 x4_65 S hf)
    refine k_iload C 15 rfl 3 rfl ?_
    refine k_aload_0 C 16 rfl 0 rfl ?_
    refine kg6_0 C 17 rfl qX6_33 0 S_c0 S_f0_0 ?_
    refine kg10_0 C 18 rfl qX6_65 8 S_c8 S_f8_0 ?_
    refine kg9_0 C 19 rfl qX6_69 9 S_c9 S_f9_0 ?_
    refine k_icmp_ge C 20 rfl 71 (by decide) (fun hc => ?_) (fun hc => ?_)
    · replace hf := if_t hf hc
      refine k_iload_3 C 36 rfl 2 rfl ?_
      exact k_iret (wf := (fun u => (wS cy c a u T O E X))) hR 37 rfl hf
    · replace hf := if_f hf hc
      refine k_aload_0 C 21 rfl 0 rfl ?_
      refine kg6_0 C 22 rfl qX6_33 0 S_c0 S_f0_0 ?_
      refine k_iload_1 C 23 rfl 1 rfl ?_
      refine k_iload C 24 rfl 3 rfl ?_
      obtain ⟨r47, h5, hf⟩ := ob1_some hf
      refine k_callV (X := (wS cy c a S T O E X).take 8) (Y := (wS cy c a S T O E X).drop 31) (w2 := (wS cy c a S T O E X)) C 25 (c_X10_isRight Z.2.1 D cy a T O E X p1 x4 r47 h5) rfl qX6_102 mvX10_isRight 0 10 W_c0 rfl rfl rfl rfl rfl (Nat.le_of_ble_eq_true rfl) ⟨Nat.le_of_ble_eq_true rfl, Nat.le_of_ble_eq_true rfl, Nat.le_refl 0, Nat.le_refl 0⟩ ?_
      refine k_if_eq C 26 rfl 65 (by decide) (fun hc => ?_) (fun hc => ?_)
      · replace hf := if_t hf hc
        exact k_sub [0, 1, 2, 3] rfl (hb65 x3 x4 S hf)
      · replace hf := if_f hf hc
        refine k_iload_3 C 27 rfl 2 rfl ?_
        refine k_aload_0 C 28 rfl 0 rfl ?_
        refine kg6_1 C 29 rfl qX6_9 0 S_c0 S_f0_1 ?_
        refine k_iload C 30 rfl 3 rfl ?_
        obtain ⟨i60, hi, hin, hf⟩ := ixd_some hf
        refine k_iald C 31 rfl 1 S_c1 hin hi ?_
        refine k_mmin C 32 rfl qX6_99 jw_min (Nat.le_of_ble_eq_true rfl) (Nat.le_of_ble_eq_true rfl) (Nat.le_of_ble_eq_true rfl) ⟨Nat.le_refl 0, Nat.le_refl 0⟩ ?_
        obtain ⟨x3_64, hx, hf⟩ := bnd_some hf
        refine k_topi hx ?_
        refine k_istore_3 C 33 rfl (by decide) rfl ?_
        refine k_sub (lv2 := [(0, .ref (c 0)), (1, .int p1), (3, .int x3_64), (4, .int x4)]) [1, 2, 0, 3] rfl ?_
        exact k_sub [0, 1, 2, 3] rfl (hb65 x3_64 x4 S hf)
  have hb25 := flW3 hq25
  refine k_aload_0 C 0 rfl 0 rfl ?_
  refine k_iload_1 C 1 rfl 1 rfl ?_
  refine k_aload_0 C 2 rfl 0 rfl ?_
  refine kg6_0 C 3 rfl qX6_33 0 S_c0 S_f0_0 ?_
  refine k_iload_1 C 4 rfl 1 rfl ?_
  obtain ⟨r7, h5, hf⟩ := ob1_some hf
  refine k_callV (X := (wS cy c a S T O E X).take 8) (Y := (wS cy c a S T O E X).drop 31) (w2 := (wS cy c a S T O E X)) C 5 (c_X10_placeOf Z.2.1 D cy a T O E X p1 r7 h5) rfl qX6_117 mvX10_placeOf 0 10 W_c0 rfl rfl rfl rfl rfl (Nat.le_of_ble_eq_true rfl) ⟨Nat.le_of_ble_eq_true rfl, Nat.le_of_ble_eq_true rfl, Nat.le_refl 0, Nat.le_refl 0⟩ ?_
  refine k_aload_0 C 6 rfl 0 rfl ?_
  refine k_iload_1 C 7 rfl 1 rfl ?_
  refine k_iload_2 C 8 rfl 2 rfl ?_
  obtain ⟨r13, h5, hf⟩ := ob1_some hf
  refine k_callW C 9 (c_X6_startOf Z.2.1 D cy c a S T O E X p1 p2 r13 h5) rfl qX6_120 mvX6_startOf 0 6 S_c0 rfl rfl rfl (Nat.le_of_ble_eq_true rfl) ⟨Nat.le_of_ble_eq_true rfl, Nat.le_of_ble_eq_true rfl, Nat.le_refl 0, Nat.le_refl 0⟩ ?_
  obtain ⟨S_16, h5, hf⟩ := ob1_some hf
  refine k_callW C 10 (c_X6_spread Z.2.1 D cy c a S T O E X p1 r7 r13 S_16 h5) rfl qX6_123 mvX6_spread 0 6 S_c0 rfl rfl rfl (Nat.le_of_ble_eq_true rfl) ⟨Nat.le_of_ble_eq_true rfl, Nat.le_of_ble_eq_true rfl, Nat.le_refl 0, Nat.le_refl 0⟩ ?_
  refine k_ldc C 11 rfl qX6_58 ?_
  refine k_istore_3 C 12 rfl (by decide) rfl ?_
  refine k_sub (lv2 := [(0, .ref (c 0)), (1, .int p1), (2, .int p2), (3, .int 1000000)]) [1, 2, 3, 0] rfl ?_
  refine k_iconst C 13 rfl ci_0 ?_
  refine k_istore C 14 rfl (by decide) rfl ?_
  refine k_sub (lv2 := [(0, .ref (c 0)), (1, .int p1), (2, .int p2), (3, .int 1000000), (4, .int 0)]) [1, 2, 3, 4, 0] rfl ?_
  exact k_sub [0, 1, 3, 4] rfl (hb25 FU 1000000 0 S_16 hf)
set_option maxHeartbeats 1000000 in
set_option maxRecDepth 20000 in
theorem c_X6_latestOf (l : Launch) (D : va_G) (cy : Nat → ClassId) (c : Nat → Nat) (a : Nat → Nat) (S : Sg) (T : Sg) (O : Sg) (E : Sg) (X : Sg) (p1 : Int32) (r : Int32) (S1 : Sg) (hf : f_X6_latestOf S T O p1 = some (r, S1)) : Ct l D cy yX6_latestOf cX6_latestOf 2 (some .int) 5 301 0 0 [.ref (c 0), .int p1] (wS cy c a S T O E X) (some (.int r)) (wS cy c a S1 T O E X) := by
  refine Ct_i tX6_latestOf hX6_latestOf (by decide) (Nat.le_of_ble_eq_true rfl) ?_
  intro Z hZ C hR
  subst hZ
  replace C : Cx Z D cy RX6 tX6_latestOf 2 5 301 0 0 := C
  show Wk Z D 2 0 0 (wS cy c a S T O E X) 0 [(0, .ref (c 0)), (1, .int p1)] []
  unfold f_X6_latestOf at hf
  refine k_aload_0 C 0 rfl 0 rfl ?_
  refine k_iload_1 C 1 rfl 1 rfl ?_
  refine k_aload_0 C 2 rfl 0 rfl ?_
  refine kg6_0 C 3 rfl qX6_33 0 S_c0 S_f0_0 ?_
  refine kg10_0 C 4 rfl qX6_65 8 S_c8 S_f8_0 ?_
  refine kg9_4 C 5 rfl qX6_127 9 S_c9 S_f9_4 ?_
  obtain ⟨S_12, h5, hf⟩ := ob1_some hf
  refine k_callW C 6 (c_X6_spreadBack Z.2.1 D cy c a S T O E X p1 (T.1 4) S_12 h5) rfl qX6_130 mvX6_spreadBack 0 6 S_c0 rfl rfl rfl (Nat.le_of_ble_eq_true rfl) ⟨Nat.le_of_ble_eq_true rfl, Nat.le_of_ble_eq_true rfl, Nat.le_refl 0, Nat.le_refl 0⟩ ?_
  refine k_aload_0 C 7 rfl 0 rfl ?_
  refine kg6_2 C 8 rfl qX6_15 0 S_c0 S_f0_2 ?_
  refine k_aload_0 C 9 rfl 0 rfl ?_
  refine kg6_0 C 10 rfl qX6_33 0 S_c0 S_f0_0 ?_
  refine k_iload_1 C 11 rfl 1 rfl ?_
  obtain ⟨r24, h5, hf⟩ := ob1_some hf
  refine k_callV (X := (wS cy c a S_12 T O E X).take 8) (Y := (wS cy c a S_12 T O E X).drop 31) (w2 := (wS cy c a S_12 T O E X)) C 12 (c_X10_placeOf Z.2.1 D cy a T O E X p1 r24 h5) rfl qX6_117 mvX10_placeOf 0 10 W_c0 rfl rfl rfl rfl rfl (Nat.le_of_ble_eq_true rfl) ⟨Nat.le_of_ble_eq_true rfl, Nat.le_of_ble_eq_true rfl, Nat.le_refl 0, Nat.le_refl 0⟩ ?_
  obtain ⟨i27, hi, hin, hf⟩ := ixd_some hf
  refine k_iald C 13 rfl 2 S_c2 hin hi ?_
  exact k_iret (wf := (fun u => (wS cy c a u T O E X))) hR 14 rfl hf
set_option maxHeartbeats 1000000 in
set_option maxRecDepth 20000 in
theorem c_X6_isLost (l : Launch) (D : va_G) (cy : Nat → ClassId) (c : Nat → Nat) (a : Nat → Nat) (S : Sg) (T : Sg) (O : Sg) (E : Sg) (X : Sg) (p1 : Int32) (p2 : Int32) (r : Bool) (hf : f_X6_isLost T O p1 p2 = some r) : Ct l D cy yX6_isLost cX6_isLost 3 (some .boolean) 2 42 0 0 [.ref (c 0), .int p1, .int p2] (wS cy c a S T O E X) (some (.int (bI r))) (wS cy c a S T O E X) := by
  refine Ct_z tX6_isLost hX6_isLost (by decide) (Nat.le_of_ble_eq_true rfl) ?_
  intro Z hZ C hR
  subst hZ
  replace C : Cx Z D cy RX6 tX6_isLost 3 2 42 0 0 := C
  show Wk Z D 3 0 0 (wS cy c a S T O E X) 0 [(0, .ref (c 0)), (1, .int p1), (2, .int p2)] []
  unfold f_X6_isLost at hf
  have hb37 : f_X6_isLost_b37 T O p1 p2 = some r → Wk Z D 3 0 0 (wS cy c a S T O E X) 37 [] [] := by
    intro  hf
    unfold f_X6_isLost_b37 at hf
    refine k_iconst C 17 rfl ci_0 ?_
    exact k_zretP hR 18 rfl hf
  refine k_aload_0 C 0 rfl 0 rfl ?_
  refine kg6_0 C 1 rfl qX6_33 0 S_c0 S_f0_0 ?_
  refine k_iload_1 C 2 rfl 1 rfl ?_
  refine k_aload_0 C 3 rfl 0 rfl ?_
  refine kg6_0 C 4 rfl qX6_33 0 S_c0 S_f0_0 ?_
  refine k_iload_1 C 5 rfl 1 rfl ?_
  obtain ⟨r10, h5, hf⟩ := ob1_some hf
  refine k_callV (X := (wS cy c a S T O E X).take 8) (Y := (wS cy c a S T O E X).drop 31) (w2 := (wS cy c a S T O E X)) C 6 (c_X10_placeOf Z.2.1 D cy a T O E X p1 r10 h5) rfl qX6_117 mvX10_placeOf 0 10 W_c0 rfl rfl rfl rfl rfl (Nat.le_of_ble_eq_true rfl) ⟨Nat.le_of_ble_eq_true rfl, Nat.le_of_ble_eq_true rfl, Nat.le_refl 0, Nat.le_refl 0⟩ ?_
  obtain ⟨r13, h5, hf⟩ := ob1_some hf
  refine k_callV (X := (wS cy c a S T O E X).take 8) (Y := (wS cy c a S T O E X).drop 31) (w2 := (wS cy c a S T O E X)) C 7 (c_X10_isRight Z.2.1 D cy a T O E X p1 r10 r13 h5) rfl qX6_102 mvX10_isRight 0 10 W_c0 rfl rfl rfl rfl rfl (Nat.le_of_ble_eq_true rfl) ⟨Nat.le_of_ble_eq_true rfl, Nat.le_of_ble_eq_true rfl, Nat.le_refl 0, Nat.le_refl 0⟩ ?_
  refine k_if_ne C 8 rfl 37 (by decide) (fun hc => ?_) (fun hc => ?_)
  · replace hf := if_f hf hc
    exact k_sub [] rfl (hb37  hf)
  · replace hf := if_t hf hc
    refine k_iload_2 C 9 rfl 2 rfl ?_
    refine k_aload_0 C 10 rfl 0 rfl ?_
    refine kg6_0 C 11 rfl qX6_33 0 S_c0 S_f0_0 ?_
    refine kg10_0 C 12 rfl qX6_65 8 S_c8 S_f8_0 ?_
    refine kg9_4 C 13 rfl qX6_127 9 S_c9 S_f9_4 ?_
    refine k_icmp_le C 14 rfl 37 (by decide) (fun hc => ?_) (fun hc => ?_)
    · replace hf := if_t hf hc
      exact k_sub [] rfl (hb37  hf)
    · replace hf := if_f hf hc
      refine k_iconst C 15 rfl ci_1 ?_
      refine k_goto C 16 rfl 38 (by decide) ?_
      exact k_zretP hR 18 rfl hf
set_option maxHeartbeats 1000000 in
set_option maxRecDepth 20000 in
theorem c_X6_takeAsFound (l : Launch) (D : va_G) (cy : Nat → ClassId) (c : Nat → Nat) (a : Nat → Nat) (S : Sg) (p1 : Bool) (p2 : Int32) (p3 : Int32) (p4 : Int32) (S1 : Sg) (hf : f_X6_takeAsFound S p1 p2 p3 p4 = some S1) : Ct l D cy yX6_takeAsFound cX6_takeAsFound 5 none 0 0 0 0 [.ref (c 0), .int (bI p1), .int p2, .int p3, .int p4] (wS1 cy c a S) none (wS1 cy c a S1) := by
  refine Ct_v tX6_takeAsFound hX6_takeAsFound (by decide) (Nat.le_of_ble_eq_true rfl) ?_
  intro Z hZ C hR
  subst hZ
  replace C : Cx Z D cy RX6 tX6_takeAsFound 5 0 0 0 0 := C
  show Wk Z D 5 0 0 (wS1 cy c a S) 0 [(0, .ref (c 0)), (1, .int (bI p1)), (2, .int p2), (3, .int p3), (4, .int p4)] []
  unfold f_X6_takeAsFound at hf
  refine k_aload_0 C 0 rfl 0 rfl ?_
  refine k_iload_1 C 1 rfl 1 rfl ?_
  obtain ⟨S_2, hM, hf⟩ := bnd_some hf
  refine kp6_8 (w2 := (wS1 cy c a S_2)) C 2 rfl qX6_162 0 S1_c0 (v := p1) S1_n0 (S1_p0_8.trans (congrArg (fun z => (wS1 cy c a z)) hM)) ?_
  refine k_aload_0 C 3 rfl 0 rfl ?_
  refine k_iload_2 C 4 rfl 2 rfl ?_
  obtain ⟨S_7, hM, hf⟩ := bnd_some hf
  refine kp6_9 (w2 := (wS1 cy c a S_7)) C 5 rfl qX6_144 0 S1_c0 (v := p2) S1_n0 (S1_p0_9.trans (congrArg (fun z => (wS1 cy c a z)) hM)) ?_
  refine k_aload_0 C 6 rfl 0 rfl ?_
  refine k_iload_3 C 7 rfl 3 rfl ?_
  obtain ⟨S_12, hM, hf⟩ := bnd_some hf
  refine kp6_10 (w2 := (wS1 cy c a S_12)) C 8 rfl qX6_166 0 S1_c0 (v := p3) S1_n0 (S1_p0_10.trans (congrArg (fun z => (wS1 cy c a z)) hM)) ?_
  refine k_aload_0 C 9 rfl 0 rfl ?_
  refine k_iload C 10 rfl 4 rfl ?_
  obtain ⟨S_18, hM, hf⟩ := bnd_some hf
  refine kp6_11 (w2 := (wS1 cy c a S_18)) C 11 rfl qX6_147 0 S1_c0 (v := p4) S1_n0 (S1_p0_11.trans (congrArg (fun z => (wS1 cy c a z)) hM)) ?_
  exact k_vret (wf := (fun u => (wS1 cy c a u))) hR 12 rfl hf
set_option maxHeartbeats 1000000 in
set_option maxRecDepth 20000 in
theorem c_X6_isInTimeInside (l : Launch) (D : va_G) (cy : Nat → ClassId) (c : Nat → Nat) (a : Nat → Nat) (S : Sg) (T : Sg) (O : Sg) (E : Sg) (X : Sg) (p1 : Int32) (p2 : Int32) (p3 : Int32) (p4 : Int32) (r : Bool) (S1 : Sg) (hf : f_X6_isInTimeInside S T O p1 p2 p3 p4 = some (r, S1)) : Ct l D cy yX6_isInTimeInside cX6_isInTimeInside 7 (some .boolean) 2 227 0 0 [.ref (c 0), .int p1, .int p2, .int p3, .int p4] (wS cy c a S T O E X) (some (.int (bI r))) (wS cy c a S1 T O E X) := by
  refine Ct_z tX6_isInTimeInside hX6_isInTimeInside (by decide) (Nat.le_of_ble_eq_true rfl) ?_
  intro Z hZ C hR
  subst hZ
  replace C : Cx Z D cy RX6 tX6_isInTimeInside 7 2 227 0 0 := C
  show Wk Z D 7 0 0 (wS cy c a S T O E X) 0 [(0, .ref (c 0)), (1, .int p1), (2, .int p2), (3, .int p3), (4, .int p4)] []
  unfold f_X6_isInTimeInside at hf
  refine k_aload_0 C 0 rfl 0 rfl ?_
  refine kg6_0 C 1 rfl qX6_33 0 S_c0 S_f0_0 ?_
  refine k_iload_3 C 2 rfl 3 rfl ?_
  obtain ⟨r5, h5, hf⟩ := ob1_some hf
  refine k_callV (X := (wS cy c a S T O E X).take 8) (Y := (wS cy c a S T O E X).drop 31) (w2 := (wS cy c a S T O E X)) C 3 (c_X10_hasCoach Z.2.1 D cy a T O E X p3 r5 h5) rfl qX6_158 mvX10_hasCoach 0 10 W_c0 rfl rfl rfl rfl rfl (Nat.le_of_ble_eq_true rfl) ⟨Nat.le_of_ble_eq_true rfl, Nat.le_of_ble_eq_true rfl, Nat.le_refl 0, Nat.le_refl 0⟩ ?_
  refine k_if_ne C 4 rfl 13 (by decide) (fun hc => ?_) (fun hc => ?_)
  · replace hf := if_f hf hc
    refine k_aload_0 C 7 rfl 0 rfl ?_
    refine kg6_0 C 8 rfl qX6_33 0 S_c0 S_f0_0 ?_
    refine k_iload_1 C 9 rfl 1 rfl ?_
    refine k_iload_2 C 10 rfl 2 rfl ?_
    refine k_iload_3 C 11 rfl 3 rfl ?_
    refine k_iload C 12 rfl 4 rfl ?_
    obtain ⟨r22, h5, hf⟩ := ob1_some hf
    refine k_callV (X := (wS cy c a S T O E X).take 8) (Y := (wS cy c a S T O E X).drop 31) (w2 := (wS cy c a S T O E X)) C 13 (c_X10_insideBegin Z.2.1 D cy a T O E X p1 p2 p3 p4 r22 h5) rfl qX6_93 mvX10_insideBegin 0 10 W_c0 rfl rfl rfl rfl rfl (Nat.le_of_ble_eq_true rfl) ⟨Nat.le_of_ble_eq_true rfl, Nat.le_of_ble_eq_true rfl, Nat.le_refl 0, Nat.le_refl 0⟩ ?_
    refine k_istore C 14 rfl (by decide) rfl ?_
    refine k_sub (lv2 := [(0, .ref (c 0)), (1, .int p1), (2, .int p2), (3, .int p3), (4, .int p4), (5, .int r22)]) [1, 2, 3, 4, 5, 0] rfl ?_
    refine k_iload C 15 rfl 5 rfl ?_
    refine k_aload_0 C 16 rfl 0 rfl ?_
    refine kg6_0 C 17 rfl qX6_33 0 S_c0 S_f0_0 ?_
    refine kg10_0 C 18 rfl qX6_65 8 S_c8 S_f8_0 ?_
    refine kg9_15 C 19 rfl qX6_96 9 S_c9 S_f9_15 ?_
    refine k_iload_1 C 20 rfl 1 rfl ?_
    obtain ⟨i40, hi, hin, hf⟩ := ixd_some hf
    refine k_iald C 21 rfl 19 S_c19 hin hi ?_
    refine k_iadd C 22 rfl ?_
    obtain ⟨x6_42, hx, hf⟩ := bnd_some hf
    refine k_topi hx ?_
    refine k_istore C 23 rfl (by decide) rfl ?_
    refine k_sub (lv2 := [(0, .ref (c 0)), (1, .int p1), (2, .int p2), (3, .int p3), (4, .int p4), (5, .int r22), (6, .int x6_42)]) [1, 2, 3, 4, 5, 6, 0] rfl ?_
    refine k_iload C 24 rfl 6 rfl ?_
    refine k_aload_0 C 25 rfl 0 rfl ?_
    refine kg6_2 C 26 rfl qX6_15 0 S_c0 S_f0_2 ?_
    refine k_iload_3 C 27 rfl 3 rfl ?_
    obtain ⟨i51, hi, hin, hf⟩ := ixd_some hf
    refine k_iald C 28 rfl 2 S_c2 hin hi ?_
    refine k_icmp_le C 29 rfl 57 (by decide) (fun hc => ?_) (fun hc => ?_)
    · replace hf := if_t hf hc
      refine k_aload_0 C 32 rfl 0 rfl ?_
      refine k_iconst C 33 rfl ci_0 ?_
      refine k_iload_3 C 34 rfl 3 rfl ?_
      refine k_iload C 35 rfl 5 rfl ?_
      refine k_iload C 36 rfl 6 rfl ?_
      obtain ⟨S_64, h5, hf⟩ := ob1_some hf
      refine k_callV (X := (wS cy c a S T O E X).take 0) (Y := (wS cy c a S T O E X).drop 8) (w2 := (wS cy c a S_64 T O E X)) C 37 (c_X6_takeAsFound Z.2.1 D cy c a S false p3 r22 x6_42 S_64 h5) rfl qX6_154 mvX6_takeAsFound 0 6 S1_c0 rfl rfl rfl rfl rfl (Nat.le_of_ble_eq_true rfl) ⟨Nat.le_of_ble_eq_true rfl, Nat.le_of_ble_eq_true rfl, Nat.le_refl 0, Nat.le_refl 0⟩ ?_
      refine k_iconst C 38 rfl ci_1 ?_
      exact k_zret (wf := (fun u => (wS cy c a u T O E X))) hR 39 rfl hf
    · replace hf := if_f hf hc
      refine k_iconst C 30 rfl ci_0 ?_
      exact k_zret (wf := (fun u => (wS cy c a u T O E X))) hR 31 rfl hf
  · replace hf := if_t hf hc
    refine k_iconst C 5 rfl ci_0 ?_
    exact k_zret (wf := (fun u => (wS cy c a u T O E X))) hR 6 rfl hf
set_option maxHeartbeats 1000000 in
set_option maxRecDepth 20000 in
theorem c_X6_findFirst (l : Launch) (D : va_G) (cy : Nat → ClassId) (c : Nat → Nat) (a : Nat → Nat) (S : Sg) (T : Sg) (O : Sg) (E : Sg) (X : Sg) (p1 : Int32) (p2 : Int32) (p3 : Int32) (r : Bool) (S1 : Sg) (hf : f_X6_findFirst S T O p1 p2 p3 = some (r, S1)) : Ct l D cy yX6_findFirst cX6_findFirst 8 (some .boolean) 3 253 0 0 [.ref (c 0), .int p1, .int p2, .int p3] (wS cy c a S T O E X) (some (.int (bI r))) (wS cy c a S1 T O E X) := by
  refine Ct_z tX6_findFirst hX6_findFirst (by decide) (Nat.le_of_ble_eq_true rfl) ?_
  intro Z hZ C hR
  subst hZ
  replace C : Cx Z D cy RX6 tX6_findFirst 8 3 253 0 0 := C
  show Wk Z D 8 0 0 (wS cy c a S T O E X) 0 [(0, .ref (c 0)), (1, .int p1), (2, .int p2), (3, .int p3)] []
  unfold f_X6_findFirst at hf
  have hq31 : ∀ (k31 : Int32 → Sg → Option (Bool × Sg)), (∀ (x4 : Int32) (S : Sg), k31 x4 S = some (r, S1) → Wk Z D 8 0 0 (wS cy c a S T O E X) 31 [(0, .ref (c 0)), (1, .int p1), (2, .int p2), (3, .int p3), (4, .int x4)] []) → ∀ (x4 : Int32) (S : Sg), f_X6_findFirst_b31 T O p1 p2 p3 k31 x4 S = some (r, S1) → Wk Z D 8 0 0 (wS cy c a S T O E X) 31 [(0, .ref (c 0)), (1, .int p1), (2, .int p2), (3, .int p3), (4, .int x4)] [] := by
    intro k31 hk31 x4 S hf
    unfold f_X6_findFirst_b31 at hf
    have hb109 : ∀ (x4 : Int32) (S : Sg), f_X6_findFirst_b109 T O p1 p2 p3 k31 x4 S = some (r, S1) → Wk Z D 8 0 0 (wS cy c a S T O E X) 109 [(0, .ref (c 0)), (1, .int p1), (2, .int p2), (3, .int p3), (4, .int x4)] [] := by
      intro x4 S hf
      unfold f_X6_findFirst_b109 at hf
      obtain ⟨x4_109, hx, hf⟩ := bnd_some hf
      refine k_iinc C 62 rfl 4 rfl ((cn_1 _).trans hx) (by decide) rfl ?_
      refine k_sub (lv2 := [(0, .ref (c 0)), (1, .int p1), (2, .int p2), (3, .int p3), (4, .int x4_109)]) [1, 2, 3, 4, 0] rfl ?_
      refine k_goto C 63 rfl 31 (by decide) ?_
      exact k_sub [0, 1, 2, 3, 4] rfl (hk31 x4_109 S hf)
    refine k_iload C 22 rfl 4 rfl ?_
    refine k_aload_0 C 23 rfl 0 rfl ?_
    refine kg6_0 C 24 rfl qX6_33 0 S_c0 S_f0_0 ?_
    refine kg10_0 C 25 rfl qX6_65 8 S_c8 S_f8_0 ?_
    refine kg9_0 C 26 rfl qX6_69 9 S_c9 S_f9_0 ?_
    refine k_icmp_ge C 27 rfl 115 (by decide) (fun hc => ?_) (fun hc => ?_)
    · replace hf := if_t hf hc
      refine k_iconst C 64 rfl ci_0 ?_
      exact k_zret (wf := (fun u => (wS cy c a u T O E X))) hR 65 rfl hf
    · replace hf := if_f hf hc
      refine k_iload C 28 rfl 4 rfl ?_
      refine k_iload_2 C 29 rfl 2 rfl ?_
      refine k_icmp_eq C 30 rfl 109 (by decide) (fun hc => ?_) (fun hc => ?_)
      · replace hf := if_t hf hc
        exact k_sub [0, 1, 2, 3, 4] rfl (hb109 x4 S hf)
      · replace hf := if_f hf hc
        refine k_aload_0 C 31 rfl 0 rfl ?_
        refine kg6_0 C 32 rfl qX6_33 0 S_c0 S_f0_0 ?_
        refine k_iload_1 C 33 rfl 1 rfl ?_
        refine k_iload_2 C 34 rfl 2 rfl ?_
        refine k_iload C 35 rfl 4 rfl ?_
        obtain ⟨r60, h5, hf⟩ := ob1_some hf
        refine k_callV (X := (wS cy c a S T O E X).take 8) (Y := (wS cy c a S T O E X).drop 31) (w2 := (wS cy c a S T O E X)) C 36 (c_X10_outsideSeconds Z.2.1 D cy a T O E X p1 p2 x4 r60 h5) rfl qX6_82 mvX10_outsideSeconds 0 10 W_c0 rfl rfl rfl rfl rfl (Nat.le_of_ble_eq_true rfl) ⟨Nat.le_of_ble_eq_true rfl, Nat.le_of_ble_eq_true rfl, Nat.le_refl 0, Nat.le_refl 0⟩ ?_
        refine k_istore C 37 rfl (by decide) rfl ?_
        refine k_sub (lv2 := [(0, .ref (c 0)), (1, .int p1), (2, .int p2), (3, .int p3), (4, .int x4), (5, .int r60)]) [1, 2, 3, 4, 5, 0] rfl ?_
        refine k_aload_0 C 38 rfl 0 rfl ?_
        refine kg6_0 C 39 rfl qX6_33 0 S_c0 S_f0_0 ?_
        refine k_iload C 40 rfl 5 rfl ?_
        refine k_iload_3 C 41 rfl 3 rfl ?_
        obtain ⟨r72, h5, hf⟩ := ob1_some hf
        refine k_callV (X := (wS cy c a S T O E X).take 8) (Y := (wS cy c a S T O E X).drop 31) (w2 := (wS cy c a S T O E X)) C 42 (c_X10_outsideBegin Z.2.1 D cy a T O E X r60 p3 r72 h5) rfl qX6_86 mvX10_outsideBegin 0 10 W_c0 rfl rfl rfl rfl rfl (Nat.le_of_ble_eq_true rfl) ⟨Nat.le_of_ble_eq_true rfl, Nat.le_of_ble_eq_true rfl, Nat.le_refl 0, Nat.le_refl 0⟩ ?_
        refine k_istore C 43 rfl (by decide) rfl ?_
        refine k_sub (lv2 := [(0, .ref (c 0)), (1, .int p1), (2, .int p2), (3, .int p3), (4, .int x4), (5, .int r60), (6, .int r72)]) [1, 2, 3, 4, 5, 6, 0] rfl ?_
        refine k_iload C 44 rfl 6 rfl ?_
        refine k_iload C 45 rfl 5 rfl ?_
        refine k_iadd C 46 rfl ?_
        obtain ⟨x7_82, hx, hf⟩ := bnd_some hf
        refine k_topi hx ?_
        refine k_istore C 47 rfl (by decide) rfl ?_
        refine k_sub (lv2 := [(0, .ref (c 0)), (1, .int p1), (2, .int p2), (3, .int p3), (4, .int x4), (5, .int r60), (6, .int r72), (7, .int x7_82)]) [1, 2, 3, 4, 5, 6, 7, 0] rfl ?_
        refine k_iload C 48 rfl 7 rfl ?_
        refine k_aload_0 C 49 rfl 0 rfl ?_
        refine kg6_2 C 50 rfl qX6_15 0 S_c0 S_f0_2 ?_
        refine k_iload C 51 rfl 4 rfl ?_
        obtain ⟨i92, hi, hin, hf⟩ := ixd_some hf
        refine k_iald C 52 rfl 2 S_c2 hin hi ?_
        refine k_icmp_gt C 53 rfl 109 (by decide) (fun hc => ?_) (fun hc => ?_)
        · replace hf := if_t hf hc
          exact k_sub [0, 1, 2, 3, 4] rfl (hb109 x4 S hf)
        · replace hf := if_f hf hc
          refine k_aload_0 C 54 rfl 0 rfl ?_
          refine k_iconst C 55 rfl ci_1 ?_
          refine k_iload C 56 rfl 4 rfl ?_
          refine k_iload C 57 rfl 6 rfl ?_
          refine k_iload C 58 rfl 7 rfl ?_
          obtain ⟨S_104, h5, hf⟩ := ob1_some hf
          refine k_callV (X := (wS cy c a S T O E X).take 0) (Y := (wS cy c a S T O E X).drop 8) (w2 := (wS cy c a S_104 T O E X)) C 59 (c_X6_takeAsFound Z.2.1 D cy c a S true x4 r72 x7_82 S_104 h5) rfl qX6_154 mvX6_takeAsFound 0 6 S1_c0 rfl rfl rfl rfl rfl (Nat.le_of_ble_eq_true rfl) ⟨Nat.le_of_ble_eq_true rfl, Nat.le_of_ble_eq_true rfl, Nat.le_refl 0, Nat.le_refl 0⟩ ?_
          refine k_iconst C 60 rfl ci_1 ?_
          exact k_zret (wf := (fun u => (wS cy c a u T O E X))) hR 61 rfl hf
  have hb31 := flW2 hq31
  have hb26 : ∀ (S : Sg), f_X6_findFirst_b26 T O p1 p2 p3 S = some (r, S1) → Wk Z D 8 0 0 (wS cy c a S T O E X) 26 [] [] := by
    intro S hf
    unfold f_X6_findFirst_b26 at hf
    refine k_iconst C 18 rfl ci_1 ?_
    exact k_zret (wf := (fun u => (wS cy c a u T O E X))) hR 19 rfl hf
  refine k_aload_0 C 0 rfl 0 rfl ?_
  refine k_iload_1 C 1 rfl 1 rfl ?_
  refine k_iload_2 C 2 rfl 2 rfl ?_
  refine k_iload_2 C 3 rfl 2 rfl ?_
  refine k_iconst C 4 rfl ci_1 ?_
  refine k_isub C 5 rfl ?_
  refine k_iload_3 C 6 rfl 3 rfl ?_
  obtain ⟨r7, S_7, h5, hf⟩ := ob2_some hf
  refine k_callW C 7 (c_X6_isInTimeInside Z.2.1 D cy c a S T O E X p1 p2 (p2 - 1) p3 r7 S_7 h5) rfl qX6_150 mvX6_isInTimeInside 0 6 S_c0 rfl rfl rfl (Nat.le_of_ble_eq_true rfl) ⟨Nat.le_of_ble_eq_true rfl, Nat.le_of_ble_eq_true rfl, Nat.le_refl 0, Nat.le_refl 0⟩ ?_
  refine k_if_ne C 8 rfl 26 (by decide) (fun hc => ?_) (fun hc => ?_)
  · replace hf := if_f hf hc
    exact k_sub [] rfl (hb26 S_7 hf)
  · replace hf := if_t hf hc
    refine k_aload_0 C 9 rfl 0 rfl ?_
    refine k_iload_1 C 10 rfl 1 rfl ?_
    refine k_iload_2 C 11 rfl 2 rfl ?_
    refine k_iload_2 C 12 rfl 2 rfl ?_
    refine k_iconst C 13 rfl ci_1 ?_
    refine k_iadd C 14 rfl ?_
    refine k_iload_3 C 15 rfl 3 rfl ?_
    obtain ⟨r20, S_20, h5, hf⟩ := ob2_some hf
    refine k_callW C 16 (c_X6_isInTimeInside Z.2.1 D cy c a S_7 T O E X p1 p2 (p2 + 1) p3 r20 S_20 h5) rfl qX6_150 mvX6_isInTimeInside 0 6 S_c0 rfl rfl rfl (Nat.le_of_ble_eq_true rfl) ⟨Nat.le_of_ble_eq_true rfl, Nat.le_of_ble_eq_true rfl, Nat.le_refl 0, Nat.le_refl 0⟩ ?_
    refine k_if_eq C 17 rfl 28 (by decide) (fun hc => ?_) (fun hc => ?_)
    · replace hf := if_t hf hc
      refine k_iconst C 20 rfl ci_0 ?_
      refine k_istore C 21 rfl (by decide) rfl ?_
      refine k_sub (lv2 := [(0, .ref (c 0)), (1, .int p1), (2, .int p2), (3, .int p3), (4, .int 0)]) [1, 2, 3, 4, 0] rfl ?_
      exact k_sub [0, 1, 2, 3, 4] rfl (hb31 FU 0 S_20 hf)
    · replace hf := if_f hf hc
      exact k_sub [] rfl (hb26 S_20 hf)
set_option maxHeartbeats 1000000 in
set_option maxRecDepth 20000 in
theorem c_X6_findGoing (l : Launch) (D : va_G) (cy : Nat → ClassId) (c : Nat → Nat) (a : Nat → Nat) (S : Sg) (T : Sg) (O : Sg) (E : Sg) (X : Sg) (p1 : Int32) (p2 : Int32) (r : Bool) (S1 : Sg) (hf : f_X6_findGoing S T O p1 p2 = some (r, S1)) : Ct l D cy yX6_findGoing cX6_findGoing 7 (some .boolean) 6 329 0 0 [.ref (c 0), .int p1, .int p2] (wS cy c a S T O E X) (some (.int (bI r))) (wS cy c a S1 T O E X) := by
  refine Ct_z tX6_findGoing hX6_findGoing (by decide) (Nat.le_of_ble_eq_true rfl) ?_
  intro Z hZ C hR
  subst hZ
  replace C : Cx Z D cy RX6 tX6_findGoing 7 6 329 0 0 := C
  show Wk Z D 7 0 0 (wS cy c a S T O E X) 0 [(0, .ref (c 0)), (1, .int p1), (2, .int p2)] []
  unfold f_X6_findGoing at hf
  have hb97 : ∀ (S : Sg), f_X6_findGoing_b97 T O p1 p2 S = some (r, S1) → Wk Z D 7 0 0 (wS cy c a S T O E X) 97 [] [] := by
    intro S hf
    unfold f_X6_findGoing_b97 at hf
    refine k_iconst C 51 rfl ci_0 ?_
    exact k_zret (wf := (fun u => (wS cy c a u T O E X))) hR 52 rfl hf
  have hq64 : ∀ (k64 : Int32 → Int32 → Int32 → Sg → Option (Bool × Sg)), (∀ (x4 : Int32) (x5 : Int32) (x6 : Int32) (S : Sg), k64 x4 x5 x6 S = some (r, S1) → Wk Z D 7 0 0 (wS cy c a S T O E X) 64 [(0, .ref (c 0)), (1, .int p1), (2, .int p2), (4, .int x4), (5, .int x5), (6, .int x6)] []) → ∀ (x4 : Int32) (x5 : Int32) (x6 : Int32) (S : Sg), f_X6_findGoing_b64 T O p1 p2 k64 x4 x5 x6 S = some (r, S1) → Wk Z D 7 0 0 (wS cy c a S T O E X) 64 [(0, .ref (c 0)), (1, .int p1), (2, .int p2), (4, .int x4), (5, .int x5), (6, .int x6)] [] := by
    intro k64 hk64 x4 x5 x6 S hf
    unfold f_X6_findGoing_b64 at hf
    refine k_iload C 36 rfl 5 rfl ?_
    refine k_sipush C 37 rfl cs_999 ?_
    refine k_icmp_gt C 38 rfl 125 (by decide) (fun hc => ?_) (fun hc => ?_)
    · replace hf := if_t hf hc
      refine k_iconst C 66 rfl ci_0 ?_
      exact k_zret (wf := (fun u => (wS cy c a u T O E X))) hR 67 rfl hf
    · replace hf := if_f hf hc
      refine k_aload_0 C 39 rfl 0 rfl ?_
      refine kg6_0 C 40 rfl qX6_33 0 S_c0 S_f0_0 ?_
      refine k_iload_1 C 41 rfl 1 rfl ?_
      refine k_iload C 42 rfl 3 rfl ?_
      obtain ⟨r79, h5, hf⟩ := ob1_some hf
      refine k_callV (X := (wS cy c a S T O E X).take 8) (Y := (wS cy c a S T O E X).drop 31) (w2 := (wS cy c a S T O E X)) C 43 (c_X10_isRight Z.2.1 D cy a T O E X p1 x4 r79 h5) rfl qX6_102 mvX10_isRight 0 10 W_c0 rfl rfl rfl rfl rfl (Nat.le_of_ble_eq_true rfl) ⟨Nat.le_of_ble_eq_true rfl, Nat.le_of_ble_eq_true rfl, Nat.le_refl 0, Nat.le_refl 0⟩ ?_
      refine k_if_ne C 44 rfl 97 (by decide) (fun hc => ?_) (fun hc => ?_)
      · replace hf := if_f hf hc
        exact k_sub [] rfl (hb97 S hf)
      · replace hf := if_t hf hc
        refine k_aload_0 C 45 rfl 0 rfl ?_
        refine k_iload_1 C 46 rfl 1 rfl ?_
        refine k_iload C 47 rfl 3 rfl ?_
        refine k_iload C 48 rfl 4 rfl ?_
        obtain ⟨r91, S_91, h5, hf⟩ := ob2_some hf
        refine k_callW C 49 (c_X6_findFirst Z.2.1 D cy c a S T O E X p1 x4 x5 r91 S_91 h5) rfl qX6_140 mvX6_findFirst 0 6 S_c0 rfl rfl rfl (Nat.le_of_ble_eq_true rfl) ⟨Nat.le_of_ble_eq_true rfl, Nat.le_of_ble_eq_true rfl, Nat.le_refl 0, Nat.le_refl 0⟩ ?_
        refine k_if_ne C 50 rfl 99 (by decide) (fun hc => ?_) (fun hc => ?_)
        · replace hf := if_f hf hc
          refine k_iload C 53 rfl 5 rfl ?_
          refine k_iload_2 C 54 rfl 2 rfl ?_
          refine k_icmp_ne C 55 rfl 107 (by decide) (fun hc => ?_) (fun hc => ?_)
          · replace hf := if_f hf hc
            refine k_aload_0 C 58 rfl 0 rfl ?_
            refine kg6_9 C 59 rfl qX6_144 0 S_c0 S_f0_9 ?_
            obtain ⟨x4_111, hx, hf⟩ := bnd_some hf
            refine k_topi hx ?_
            refine k_istore C 60 rfl (by decide) rfl ?_
            refine k_sub (lv2 := [(0, .ref (c 0)), (1, .int p1), (2, .int p2), (4, .int x4_111), (5, .int x5), (6, .int x6)]) [1, 2, 3, 0, 4, 5] rfl ?_
            refine k_aload_0 C 61 rfl 0 rfl ?_
            refine kg6_11 C 62 rfl qX6_147 0 S_c0 S_f0_11 ?_
            obtain ⟨x5_117, hx, hf⟩ := bnd_some hf
            refine k_topi hx ?_
            refine k_istore C 63 rfl (by decide) rfl ?_
            refine k_sub (lv2 := [(0, .ref (c 0)), (1, .int p1), (2, .int p2), (4, .int x4_111), (5, .int x5_117), (6, .int x6)]) [1, 2, 3, 4, 0, 5] rfl ?_
            obtain ⟨x6_119, hx, hf⟩ := bnd_some hf
            refine k_iinc C 64 rfl 5 rfl ((cn_1 _).trans hx) (by decide) rfl ?_
            refine k_sub (lv2 := [(0, .ref (c 0)), (1, .int p1), (2, .int p2), (4, .int x4_111), (5, .int x5_117), (6, .int x6_119)]) [1, 2, 3, 4, 5, 0] rfl ?_
            refine k_goto C 65 rfl 64 (by decide) ?_
            exact k_sub [0, 1, 2, 3, 4, 5] rfl (hk64 x4_111 x5_117 x6_119 S_91 hf)
          · replace hf := if_t hf hc
            refine k_iconst C 56 rfl ci_1 ?_
            exact k_zret (wf := (fun u => (wS cy c a u T O E X))) hR 57 rfl hf
        · replace hf := if_t hf hc
          exact k_sub [] rfl (hb97 S_91 hf)
  have hb64 := flW4 hq64
  refine k_aload_0 C 0 rfl 0 rfl ?_
  refine k_iload_1 C 1 rfl 1 rfl ?_
  refine k_aload_0 C 2 rfl 0 rfl ?_
  refine kg6_0 C 3 rfl qX6_33 0 S_c0 S_f0_0 ?_
  refine kg10_0 C 4 rfl qX6_65 8 S_c8 S_f8_0 ?_
  refine kg9_14 C 5 rfl qX6_134 9 S_c9 S_f9_14 ?_
  refine k_iload_1 C 6 rfl 1 rfl ?_
  obtain ⟨i13, hi, hin, hf⟩ := ixd_some hf
  refine k_iald C 7 rfl 18 S_c18 hin hi ?_
  obtain ⟨r14, S_14, h5, hf⟩ := ob2_some hf
  refine k_callW C 8 (c_X6_soonestOf Z.2.1 D cy c a S T O E X p1 (T.2.1 14 i13) r14 S_14 h5) rfl qX6_137 mvX6_soonestOf 0 6 S_c0 rfl rfl rfl (Nat.le_of_ble_eq_true rfl) ⟨Nat.le_of_ble_eq_true rfl, Nat.le_of_ble_eq_true rfl, Nat.le_refl 0, Nat.le_refl 0⟩ ?_
  refine k_istore_3 C 9 rfl (by decide) rfl ?_
  refine k_sub (lv2 := [(0, .ref (c 0)), (1, .int p1), (2, .int p2), (3, .int r14)]) [1, 2, 3, 0] rfl ?_
  refine k_iload_3 C 10 rfl 3 rfl ?_
  refine k_ldc C 11 rfl qX6_58 ?_
  refine k_icmp_ne C 12 rfl 26 (by decide) (fun hc => ?_) (fun hc => ?_)
  · replace hf := if_f hf hc
    refine k_aload_0 C 15 rfl 0 rfl ?_
    refine k_iload_1 C 16 rfl 1 rfl ?_
    refine k_iload_3 C 17 rfl 3 rfl ?_
    obtain ⟨S_29, h5, hf⟩ := ob1_some hf
    refine k_callW C 18 (c_X6_spreadBack Z.2.1 D cy c a S_14 T O E X p1 r14 S_29 h5) rfl qX6_130 mvX6_spreadBack 0 6 S_c0 rfl rfl rfl (Nat.le_of_ble_eq_true rfl) ⟨Nat.le_of_ble_eq_true rfl, Nat.le_of_ble_eq_true rfl, Nat.le_refl 0, Nat.le_refl 0⟩ ?_
    refine k_aload_0 C 19 rfl 0 rfl ?_
    refine kg6_0 C 20 rfl qX6_33 0 S_c0 S_f0_0 ?_
    refine k_iload_1 C 21 rfl 1 rfl ?_
    obtain ⟨r37, h5, hf⟩ := ob1_some hf
    refine k_callV (X := (wS cy c a S_29 T O E X).take 8) (Y := (wS cy c a S_29 T O E X).drop 31) (w2 := (wS cy c a S_29 T O E X)) C 22 (c_X10_placeOf Z.2.1 D cy a T O E X p1 r37 h5) rfl qX6_117 mvX10_placeOf 0 10 W_c0 rfl rfl rfl rfl rfl (Nat.le_of_ble_eq_true rfl) ⟨Nat.le_of_ble_eq_true rfl, Nat.le_of_ble_eq_true rfl, Nat.le_refl 0, Nat.le_refl 0⟩ ?_
    refine k_istore C 23 rfl (by decide) rfl ?_
    refine k_sub (lv2 := [(0, .ref (c 0)), (1, .int p1), (2, .int p2), (3, .int r14), (4, .int r37)]) [1, 2, 3, 4, 0] rfl ?_
    refine k_aload_0 C 24 rfl 0 rfl ?_
    refine k_iload_1 C 25 rfl 1 rfl ?_
    refine k_aload_0 C 26 rfl 0 rfl ?_
    refine kg6_0 C 27 rfl qX6_33 0 S_c0 S_f0_0 ?_
    refine kg10_0 C 28 rfl qX6_65 8 S_c8 S_f8_0 ?_
    refine kg9_14 C 29 rfl qX6_134 9 S_c9 S_f9_14 ?_
    refine k_iload_1 C 30 rfl 1 rfl ?_
    obtain ⟨i55, hi, hin, hf⟩ := ixd_some hf
    refine k_iald C 31 rfl 18 S_c18 hin hi ?_
    obtain ⟨r56, h5, hf⟩ := ob1_some hf
    refine k_callW C 32 (c_X6_startOf Z.2.1 D cy c a S_29 T O E X p1 (T.2.1 14 i55) r56 h5) rfl qX6_120 mvX6_startOf 0 6 S_c0 rfl rfl rfl (Nat.le_of_ble_eq_true rfl) ⟨Nat.le_of_ble_eq_true rfl, Nat.le_of_ble_eq_true rfl, Nat.le_refl 0, Nat.le_refl 0⟩ ?_
    refine k_istore C 33 rfl (by decide) rfl ?_
    refine k_sub (lv2 := [(0, .ref (c 0)), (1, .int p1), (2, .int p2), (3, .int r14), (4, .int r37), (5, .int r56)]) [1, 2, 3, 4, 5, 0] rfl ?_
    refine k_iconst C 34 rfl ci_0 ?_
    refine k_istore C 35 rfl (by decide) rfl ?_
    refine k_sub (lv2 := [(0, .ref (c 0)), (1, .int p1), (2, .int p2), (3, .int r14), (4, .int r37), (5, .int r56), (6, .int 0)]) [1, 2, 3, 4, 5, 6, 0] rfl ?_
    exact k_sub [0, 1, 2, 4, 5, 6] rfl (hb64 FU r37 r56 0 S_29 hf)
  · replace hf := if_t hf hc
    refine k_iconst C 13 rfl ci_0 ?_
    exact k_zret (wf := (fun u => (wS cy c a u T O E X))) hR 14 rfl hf
set_option maxHeartbeats 1000000 in
set_option maxRecDepth 20000 in
theorem c_X6_voiceIn (l : Launch) (D : va_G) (cy : Nat → ClassId) (c : Nat → Nat) (a : Nat → Nat) (S : Sg) (T : Sg) (O : Sg) (E : Sg) (X : Sg) (p1 : Int32) (r : Int32) (S1 : Sg) (hf : f_X6_voiceIn S T O p1 = some (r, S1)) : Ct l D cy yX6_voiceIn cX6_voiceIn 5 (some .int) 6 322 0 0 [.ref (c 0), .int p1] (wS cy c a S T O E X) (some (.int r)) (wS cy c a S1 T O E X) := by
  refine Ct_i tX6_voiceIn hX6_voiceIn (by decide) (Nat.le_of_ble_eq_true rfl) ?_
  intro Z hZ C hR
  subst hZ
  replace C : Cx Z D cy RX6 tX6_voiceIn 5 6 322 0 0 := C
  show Wk Z D 5 0 0 (wS cy c a S T O E X) 0 [(0, .ref (c 0)), (1, .int p1)] []
  unfold f_X6_voiceIn at hf
  have hq5 : ∀ (k5 : Int32 → Int32 → Sg → Option (Int32 × Sg)), (∀ (x2 : Int32) (x3 : Int32) (S : Sg), k5 x2 x3 S = some (r, S1) → Wk Z D 5 0 0 (wS cy c a S T O E X) 5 [(0, .ref (c 0)), (1, .int p1), (2, .int x2), (3, .int x3)] []) → ∀ (x2 : Int32) (x3 : Int32) (S : Sg), f_X6_voiceIn_b5 T O p1 k5 x2 x3 S = some (r, S1) → Wk Z D 5 0 0 (wS cy c a S T O E X) 5 [(0, .ref (c 0)), (1, .int p1), (2, .int x2), (3, .int x3)] [] := by
    intro k5 hk5 x2 x3 S hf
    unfold f_X6_voiceIn_b5 at hf
    have hb63 : ∀ (x2 : Int32) (x3 : Int32) (S : Sg), f_X6_voiceIn_b63 T O p1 k5 x2 x3 S = some (r, S1) → Wk Z D 5 0 0 (wS cy c a S T O E X) 63 [(0, .ref (c 0)), (1, .int p1), (2, .int x2), (3, .int x3)] [] := by
      intro x2 x3 S hf
      unfold f_X6_voiceIn_b63 at hf
      obtain ⟨x3_63, hx, hf⟩ := bnd_some hf
      refine k_iinc C 33 rfl 3 rfl ((cn_1 _).trans hx) (by decide) rfl ?_
      refine k_sub (lv2 := [(0, .ref (c 0)), (1, .int p1), (2, .int x2), (3, .int x3_63)]) [1, 2, 3, 0] rfl ?_
      refine k_goto C 34 rfl 5 (by decide) ?_
      exact k_sub [0, 1, 2, 3] rfl (hk5 x2 x3_63 S hf)
    refine k_iload_3 C 4 rfl 3 rfl ?_
    refine k_aload_0 C 5 rfl 0 rfl ?_
    refine kg6_0 C 6 rfl qX6_33 0 S_c0 S_f0_0 ?_
    refine kg10_0 C 7 rfl qX6_65 8 S_c8 S_f8_0 ?_
    refine kg9_2 C 8 rfl qX6_169 9 S_c9 S_f9_2 ?_
    refine k_icmp_ge C 9 rfl 69 (by decide) (fun hc => ?_) (fun hc => ?_)
    · replace hf := if_t hf hc
      refine k_iload_2 C 35 rfl 2 rfl ?_
      exact k_iret (wf := (fun u => (wS cy c a u T O E X))) hR 36 rfl hf
    · replace hf := if_f hf hc
      refine k_aload_0 C 10 rfl 0 rfl ?_
      refine kg6_0 C 11 rfl qX6_33 0 S_c0 S_f0_0 ?_
      refine k_iload_3 C 12 rfl 3 rfl ?_
      obtain ⟨r24, h5, hf⟩ := ob1_some hf
      refine k_callV (X := (wS cy c a S T O E X).take 8) (Y := (wS cy c a S T O E X).drop 31) (w2 := (wS cy c a S T O E X)) C 13 (c_X10_placeOf Z.2.1 D cy a T O E X x3 r24 h5) rfl qX6_117 mvX10_placeOf 0 10 W_c0 rfl rfl rfl rfl rfl (Nat.le_of_ble_eq_true rfl) ⟨Nat.le_of_ble_eq_true rfl, Nat.le_of_ble_eq_true rfl, Nat.le_refl 0, Nat.le_refl 0⟩ ?_
      refine k_iload_1 C 14 rfl 1 rfl ?_
      refine k_icmp_ne C 15 rfl 63 (by decide) (fun hc => ?_) (fun hc => ?_)
      · replace hf := if_f hf hc
        exact k_sub [0, 1, 2, 3] rfl (hb63 x2 x3 S hf)
      · replace hf := if_t hf hc
        refine k_aload_0 C 16 rfl 0 rfl ?_
        refine kg6_0 C 17 rfl qX6_33 0 S_c0 S_f0_0 ?_
        refine k_iload_3 C 18 rfl 3 rfl ?_
        refine k_iload_1 C 19 rfl 1 rfl ?_
        obtain ⟨r37, h5, hf⟩ := ob1_some hf
        refine k_callV (X := (wS cy c a S T O E X).take 8) (Y := (wS cy c a S T O E X).drop 31) (w2 := (wS cy c a S T O E X)) C 20 (c_X10_isRight Z.2.1 D cy a T O E X x3 p1 r37 h5) rfl qX6_102 mvX10_isRight 0 10 W_c0 rfl rfl rfl rfl rfl (Nat.le_of_ble_eq_true rfl) ⟨Nat.le_of_ble_eq_true rfl, Nat.le_of_ble_eq_true rfl, Nat.le_refl 0, Nat.le_refl 0⟩ ?_
        refine k_if_ne C 21 rfl 63 (by decide) (fun hc => ?_) (fun hc => ?_)
        · replace hf := if_f hf hc
          exact k_sub [0, 1, 2, 3] rfl (hb63 x2 x3 S hf)
        · replace hf := if_t hf hc
          refine k_aload_0 C 22 rfl 0 rfl ?_
          refine k_iload_3 C 23 rfl 3 rfl ?_
          obtain ⟨r45, S_45, h5, hf⟩ := ob2_some hf
          refine k_callW C 24 (c_X6_latestOf Z.2.1 D cy c a S T O E X x3 r45 S_45 h5) rfl qX6_172 mvX6_latestOf 0 6 S_c0 rfl rfl rfl (Nat.le_of_ble_eq_true rfl) ⟨Nat.le_of_ble_eq_true rfl, Nat.le_of_ble_eq_true rfl, Nat.le_refl 0, Nat.le_refl 0⟩ ?_
          refine k_istore C 25 rfl (by decide) rfl ?_
          refine k_sub (lv2 := [(0, .ref (c 0)), (1, .int p1), (2, .int x2), (3, .int x3), (4, .int r45)]) [1, 2, 3, 4, 0] rfl ?_
          refine k_iload C 26 rfl 4 rfl ?_
          refine k_iconst C 27 rfl ci_m1 ?_
          refine k_icmp_eq C 28 rfl 63 (by decide) (fun hc => ?_) (fun hc => ?_)
          · replace hf := if_t hf hc
            exact k_sub [0, 1, 2, 3] rfl (hb63 x2 x3 S_45 hf)
          · replace hf := if_f hf hc
            refine k_iload_2 C 29 rfl 2 rfl ?_
            refine k_iload C 30 rfl 4 rfl ?_
            refine k_mmin C 31 rfl qX6_99 jw_min (Nat.le_of_ble_eq_true rfl) (Nat.le_of_ble_eq_true rfl) (Nat.le_of_ble_eq_true rfl) ⟨Nat.le_refl 0, Nat.le_refl 0⟩ ?_
            obtain ⟨x2_62, hx, hf⟩ := bnd_some hf
            refine k_topi hx ?_
            refine k_istore_2 C 32 rfl (by decide) rfl ?_
            refine k_sub (lv2 := [(0, .ref (c 0)), (1, .int p1), (2, .int x2_62), (3, .int x3), (4, .int r45)]) [1, 2, 0, 3, 4] rfl ?_
            exact k_sub [0, 1, 2, 3] rfl (hb63 x2_62 x3 S_45 hf)
  have hb5 := flW3 hq5
  refine k_ldc C 0 rfl qX6_58 ?_
  refine k_istore_2 C 1 rfl (by decide) rfl ?_
  refine k_sub (lv2 := [(0, .ref (c 0)), (1, .int p1), (2, .int 1000000)]) [1, 2, 0] rfl ?_
  refine k_iconst C 2 rfl ci_0 ?_
  refine k_istore_3 C 3 rfl (by decide) rfl ?_
  refine k_sub (lv2 := [(0, .ref (c 0)), (1, .int p1), (2, .int 1000000), (3, .int 0)]) [1, 2, 3, 0] rfl ?_
  exact k_sub [0, 1, 2, 3] rfl (hb5 FU 1000000 0 S hf)
set_option maxHeartbeats 1000000 in
set_option maxRecDepth 20000 in
theorem c_X6_hasUnlikeDigits (l : Launch) (D : va_G) (cy : Nat → ClassId) (p0 : Int32) (r : Bool) (hf : f_X6_hasUnlikeDigits p0 = some r) : Ct l D cy yX6_hasUnlikeDigits cX6_hasUnlikeDigits 3 (some .boolean) 0 0 0 0 [.int p0] [] (some (.int (bI r))) [] := by
  refine Ct_z tX6_hasUnlikeDigits hX6_hasUnlikeDigits (by decide) (Nat.le_of_ble_eq_true rfl) ?_
  intro Z hZ C hR
  subst hZ
  replace C : Cx Z D cy RX6 tX6_hasUnlikeDigits 3 0 0 0 0 := C
  show Wk Z D 3 0 0 [] 0 [(0, .int p0)] []
  unfold f_X6_hasUnlikeDigits at hf
  have hq4 : ∀ (k4 : Int32 → Int32 → Option (Bool)), (∀ (x1 : Int32) (x2 : Int32), k4 x1 x2 = some r → Wk Z D 3 0 0 [] 4 [(0, .int p0), (1, .int x1), (2, .int x2)] []) → ∀ (x1 : Int32) (x2 : Int32), f_X6_hasUnlikeDigits_b4 p0 k4 x1 x2 = some r → Wk Z D 3 0 0 [] 4 [(0, .int p0), (1, .int x1), (2, .int x2)] [] := by
    intro k4 hk4 x1 x2 hf
    unfold f_X6_hasUnlikeDigits_b4 at hf
    refine k_iload_2 C 4 rfl 2 rfl ?_
    refine k_bipush C 5 rfl cb_8 ?_
    refine k_icmp_ge C 6 rfl 26 (by decide) (fun hc => ?_) (fun hc => ?_)
    · replace hf := if_t hf hc
      refine k_iload_1 C 19 rfl 1 rfl ?_
      refine k_bipush C 20 rfl cb_15 ?_
      refine k_icmp_ne C 21 rfl 36 (by decide) (fun hc => ?_) (fun hc => ?_)
      · replace hf := if_f hf hc
        refine k_iconst C 24 rfl ci_0 ?_
        exact k_zretP hR 25 rfl hf
      · replace hf := if_t hf hc
        refine k_iconst C 22 rfl ci_1 ?_
        refine k_goto C 23 rfl 37 (by decide) ?_
        exact k_zretP hR 25 rfl hf
    · replace hf := if_f hf hc
      refine k_iload_1 C 7 rfl 1 rfl ?_
      refine k_iconst C 8 rfl ci_1 ?_
      refine k_iload_0 C 9 rfl 0 rfl ?_
      refine k_iload_2 C 10 rfl 2 rfl ?_
      refine k_ishr C 11 rfl ?_
      refine k_iconst C 12 rfl ci_3 ?_
      refine k_iand C 13 rfl ?_
      refine k_ishl C 14 rfl ?_
      refine k_ior C 15 rfl ?_
      obtain ⟨x1_19, hx, hf⟩ := bnd_some hf
      refine k_topi hx ?_
      refine k_istore_1 C 16 rfl (by decide) rfl ?_
      refine k_sub (lv2 := [(0, .int p0), (1, .int x1_19), (2, .int x2)]) [1, 0, 2] rfl ?_
      obtain ⟨x2_20, hx, hf⟩ := bnd_some hf
      refine k_iinc C 17 rfl 2 rfl ((cn_2 _).trans hx) (by decide) rfl ?_
      refine k_sub (lv2 := [(0, .int p0), (1, .int x1_19), (2, .int x2_20)]) [1, 2, 0] rfl ?_
      refine k_goto C 18 rfl 4 (by decide) ?_
      exact k_sub [0, 1, 2] rfl (hk4 x1_19 x2_20 hf)
  have hb4 := flW2 hq4
  refine k_iconst C 0 rfl ci_0 ?_
  refine k_istore_1 C 1 rfl (by decide) rfl ?_
  refine k_sub (lv2 := [(0, .int p0), (1, .int 0)]) [1, 0] rfl ?_
  refine k_iconst C 2 rfl ci_0 ?_
  refine k_istore_2 C 3 rfl (by decide) rfl ?_
  refine k_sub (lv2 := [(0, .int p0), (1, .int 0), (2, .int 0)]) [1, 2, 0] rfl ?_
  exact k_sub [0, 1, 2] rfl (hb4 FU 0 0 hf)
set_option maxHeartbeats 1000000 in
set_option maxRecDepth 20000 in
theorem c_X6_lineUp (l : Launch) (D : va_G) (cy : Nat → ClassId) (c : Nat → Nat) (a : Nat → Nat) (S : Sg) (T : Sg) (O : Sg) (E : Sg) (X : Sg) (p1 : Int32) (S1 : Sg) (hf : f_X6_lineUp S T p1 = some S1) : Ct l D cy yX6_lineUp cX6_lineUp 6 none 0 0 0 0 [.ref (c 0), .int p1] (wS cy c a S T O E X) none (wS cy c a S1 T O E X) := by
  refine Ct_v tX6_lineUp hX6_lineUp (by decide) (Nat.le_of_ble_eq_true rfl) ?_
  intro Z hZ C hR
  subst hZ
  replace C : Cx Z D cy RX6 tX6_lineUp 6 0 0 0 0 := C
  show Wk Z D 6 0 0 (wS cy c a S T O E X) 0 [(0, .ref (c 0)), (1, .int p1)] []
  unfold f_X6_lineUp at hf
  have hq5 : ∀ (k5 : Int32 → Int32 → Sg → Option (Sg)), (∀ (x2 : Int32) (x3 : Int32) (S : Sg), k5 x2 x3 S = some S1 → Wk Z D 6 0 0 (wS cy c a S T O E X) 5 [(0, .ref (c 0)), (1, .int p1), (2, .int x2), (3, .int x3)] []) → ∀ (x2 : Int32) (x3 : Int32) (S : Sg), f_X6_lineUp_b5 T p1 k5 x2 x3 S = some S1 → Wk Z D 6 0 0 (wS cy c a S T O E X) 5 [(0, .ref (c 0)), (1, .int p1), (2, .int x2), (3, .int x3)] [] := by
    intro k5 hk5 x2 x3 S hf
    unfold f_X6_lineUp_b5 at hf
    have hq19 : ∀ (k19 : Int32 → Int32 → Int32 → Int32 → Sg → Option (Sg)), (∀ (x2 : Int32) (x3 : Int32) (x4 : Int32) (x5 : Int32) (S : Sg), k19 x2 x3 x4 x5 S = some S1 → Wk Z D 6 0 0 (wS cy c a S T O E X) 19 [(0, .ref (c 0)), (1, .int p1), (2, .int x2), (3, .int x3), (4, .int x4), (5, .int x5)] []) → ∀ (x2 : Int32) (x3 : Int32) (x4 : Int32) (x5 : Int32) (S : Sg), f_X6_lineUp_b19 T p1 k5 k19 x2 x3 x4 x5 S = some S1 → Wk Z D 6 0 0 (wS cy c a S T O E X) 19 [(0, .ref (c 0)), (1, .int p1), (2, .int x2), (3, .int x3), (4, .int x4), (5, .int x5)] [] := by
      intro k19 hk19 x2 x3 x4 x5 S hf
      unfold f_X6_lineUp_b19 at hf
      have hb69 : ∀ (x2 : Int32) (x3 : Int32) (x4 : Int32) (x5 : Int32) (S : Sg), f_X6_lineUp_b69 T p1 k5 k19 x2 x3 x4 x5 S = some S1 → Wk Z D 6 0 0 (wS cy c a S T O E X) 69 [(0, .ref (c 0)), (1, .int p1), (2, .int x2), (3, .int x3), (4, .int x4), (5, .int x5)] [] := by
        intro x2 x3 x4 x5 S hf
        unfold f_X6_lineUp_b69 at hf
        obtain ⟨x5_69, hx, hf⟩ := bnd_some hf
        refine k_iinc C 37 rfl 5 rfl ((cn_1 _).trans hx) (by decide) rfl ?_
        refine k_sub (lv2 := [(0, .ref (c 0)), (1, .int p1), (2, .int x2), (3, .int x3), (4, .int x4), (5, .int x5_69)]) [1, 2, 3, 4, 5, 0] rfl ?_
        refine k_goto C 38 rfl 19 (by decide) ?_
        exact k_sub [0, 1, 2, 3, 4, 5] rfl (hk19 x2 x3 x4 x5_69 S hf)
      refine k_iload C 14 rfl 5 rfl ?_
      refine k_aload_0 C 15 rfl 0 rfl ?_
      refine kg6_0 C 16 rfl qX6_33 0 S_c0 S_f0_0 ?_
      refine kg10_0 C 17 rfl qX6_65 8 S_c8 S_f8_0 ?_
      refine kg9_0 C 18 rfl qX6_69 9 S_c9 S_f9_0 ?_
      refine k_icmp_ge C 19 rfl 75 (by decide) (fun hc => ?_) (fun hc => ?_)
      · replace hf := if_t hf hc
        obtain ⟨x3_75, hx, hf⟩ := bnd_some hf
        refine k_iinc C 39 rfl 3 rfl ((cn_m2 _).trans hx) (by decide) rfl ?_
        refine k_sub (lv2 := [(0, .ref (c 0)), (1, .int p1), (2, .int x2), (3, .int x3_75), (4, .int x4), (5, .int x5)]) [1, 2, 3, 0, 4, 5] rfl ?_
        refine k_goto C 40 rfl 5 (by decide) ?_
        exact k_sub [0, 1, 2, 3] rfl (hk5 x2 x3_75 S hf)
      · replace hf := if_f hf hc
        refine k_aload_0 C 20 rfl 0 rfl ?_
        refine kg6_0 C 21 rfl qX6_33 0 S_c0 S_f0_0 ?_
        refine kg10_0 C 22 rfl qX6_65 8 S_c8 S_f8_0 ?_
        refine kg9_6 C 23 rfl qX6_192 9 S_c9 S_f9_6 ?_
        refine k_iload C 24 rfl 5 rfl ?_
        obtain ⟨i46, hi, hin, hf⟩ := ixd_some hf
        refine k_iald C 25 rfl 10 S_c10 hin hi ?_
        refine k_iload C 26 rfl 4 rfl ?_
        refine k_icmp_ne C 27 rfl 69 (by decide) (fun hc => ?_) (fun hc => ?_)
        · replace hf := if_f hf hc
          exact k_sub [0, 1, 2, 3, 4, 5] rfl (hb69 x2 x3 x4 x5 S hf)
        · replace hf := if_t hf hc
          refine k_iload_2 C 28 rfl 2 rfl ?_
          refine k_bipush C 29 rfl cb_8 ?_
          refine k_icmp_ge C 30 rfl 69 (by decide) (fun hc => ?_) (fun hc => ?_)
          · replace hf := if_t hf hc
            exact k_sub [0, 1, 2, 3, 4, 5] rfl (hb69 x2 x3 x4 x5 S hf)
          · replace hf := if_f hf hc
            refine k_aload_0 C 31 rfl 0 rfl ?_
            refine kg6_7 C 32 rfl qX6_30 0 S_c0 S_f0_7 ?_
            refine k_iload_2 C 33 rfl 2 rfl ?_
            refine k_iload C 34 rfl 4 rfl ?_
            obtain ⟨i65, hi, hin, hf⟩ := ixd_some hf
            obtain ⟨S_65, hM, hf⟩ := bnd_some hf
            refine k_iast (w2 := (wS cy c a S_65 T O E X)) C 35 rfl 7 S_c7 hin hi (S_s7.trans (congrArg (fun z => (wS cy c a z T O E X)) hM)) ?_
            obtain ⟨x2_66, hx, hf⟩ := bnd_some hf
            refine k_iinc C 36 rfl 2 rfl ((cn_1 _).trans hx) (by decide) rfl ?_
            refine k_sub (lv2 := [(0, .ref (c 0)), (1, .int p1), (2, .int x2_66), (3, .int x3), (4, .int x4), (5, .int x5)]) [1, 2, 0, 3, 4, 5] rfl ?_
            exact k_sub [0, 1, 2, 3, 4, 5] rfl (hb69 x2_66 x3 x4 x5 S_65 hf)
    have hb19 := flW5 hq19
    refine k_iload_3 C 4 rfl 3 rfl ?_
    refine k_if_lt C 5 rfl 81 (by decide) (fun hc => ?_) (fun hc => ?_)
    · replace hf := if_t hf hc
      exact k_vret (wf := (fun u => (wS cy c a u T O E X))) hR 41 rfl hf
    · replace hf := if_f hf hc
      refine k_iload_1 C 6 rfl 1 rfl ?_
      refine k_iload_3 C 7 rfl 3 rfl ?_
      refine k_ishr C 8 rfl ?_
      refine k_iconst C 9 rfl ci_3 ?_
      refine k_iand C 10 rfl ?_
      obtain ⟨x4_14, hx, hf⟩ := bnd_some hf
      refine k_topi hx ?_
      refine k_istore C 11 rfl (by decide) rfl ?_
      refine k_sub (lv2 := [(0, .ref (c 0)), (1, .int p1), (2, .int x2), (3, .int x3), (4, .int x4_14)]) [1, 2, 3, 4, 0] rfl ?_
      refine k_iconst C 12 rfl ci_0 ?_
      refine k_istore C 13 rfl (by decide) rfl ?_
      refine k_sub (lv2 := [(0, .ref (c 0)), (1, .int p1), (2, .int x2), (3, .int x3), (4, .int x4_14), (5, .int 0)]) [1, 2, 3, 4, 5, 0] rfl ?_
      exact k_sub [0, 1, 2, 3, 4, 5] rfl (hb19 FU x2 x3 x4_14 0 S hf)
  have hb5 := flW3 hq5
  refine k_iconst C 0 rfl ci_0 ?_
  refine k_istore_2 C 1 rfl (by decide) rfl ?_
  refine k_sub (lv2 := [(0, .ref (c 0)), (1, .int p1), (2, .int 0)]) [1, 2, 0] rfl ?_
  refine k_bipush C 2 rfl cb_6 ?_
  refine k_istore_3 C 3 rfl (by decide) rfl ?_
  refine k_sub (lv2 := [(0, .ref (c 0)), (1, .int p1), (2, .int 0), (3, .int 6)]) [1, 2, 3, 0] rfl ?_
  exact k_sub [0, 1, 2, 3] rfl (hb5 FU 0 6 S hf)
set_option maxHeartbeats 1000000 in
set_option maxRecDepth 20000 in
theorem c_X6_misplacedRiders (l : Launch) (D : va_G) (cy : Nat → ClassId) (c : Nat → Nat) (a : Nat → Nat) (S : Sg) (T : Sg) (O : Sg) (E : Sg) (X : Sg) (r : Int32) (hf : f_X6_misplacedRiders S T O = some r) : Ct l D cy yX6_misplacedRiders cX6_misplacedRiders 3 (some .int) 0 0 0 0 [.ref (c 0)] (wS cy c a S T O E X) (some (.int r)) (wS cy c a S T O E X) := by
  refine Ct_i tX6_misplacedRiders hX6_misplacedRiders (by decide) (Nat.le_of_ble_eq_true rfl) ?_
  intro Z hZ C hR
  subst hZ
  replace C : Cx Z D cy RX6 tX6_misplacedRiders 3 0 0 0 0 := C
  show Wk Z D 3 0 0 (wS cy c a S T O E X) 0 [(0, .ref (c 0))] []
  unfold f_X6_misplacedRiders at hf
  have hq4 : ∀ (k4 : Int32 → Int32 → Option (Int32)), (∀ (x1 : Int32) (x2 : Int32), k4 x1 x2 = some r → Wk Z D 3 0 0 (wS cy c a S T O E X) 4 [(0, .ref (c 0)), (1, .int x1), (2, .int x2)] []) → ∀ (x1 : Int32) (x2 : Int32), f_X6_misplacedRiders_b4 S T O k4 x1 x2 = some r → Wk Z D 3 0 0 (wS cy c a S T O E X) 4 [(0, .ref (c 0)), (1, .int x1), (2, .int x2)] [] := by
    intro k4 hk4 x1 x2 hf
    unfold f_X6_misplacedRiders_b4 at hf
    have hb53 : ∀ (x1 : Int32) (x2 : Int32), f_X6_misplacedRiders_b53 S T O k4 x1 x2 = some r → Wk Z D 3 0 0 (wS cy c a S T O E X) 53 [(0, .ref (c 0)), (1, .int x1), (2, .int x2)] [] := by
      intro x1 x2 hf
      unfold f_X6_misplacedRiders_b53 at hf
      obtain ⟨x2_53, hx, hf⟩ := bnd_some hf
      refine k_iinc C 27 rfl 2 rfl ((cn_1 _).trans hx) (by decide) rfl ?_
      refine k_sub (lv2 := [(0, .ref (c 0)), (1, .int x1), (2, .int x2_53)]) [1, 2, 0] rfl ?_
      refine k_goto C 28 rfl 4 (by decide) ?_
      exact k_sub [0, 1, 2] rfl (hk4 x1 x2_53 hf)
    refine k_iload_2 C 4 rfl 2 rfl ?_
    refine k_aload_0 C 5 rfl 0 rfl ?_
    refine kg6_0 C 6 rfl qX6_33 0 S_c0 S_f0_0 ?_
    refine kg10_0 C 7 rfl qX6_65 8 S_c8 S_f8_0 ?_
    refine kg9_2 C 8 rfl qX6_169 9 S_c9 S_f9_2 ?_
    refine k_icmp_ge C 9 rfl 59 (by decide) (fun hc => ?_) (fun hc => ?_)
    · replace hf := if_t hf hc
      refine k_iload_1 C 29 rfl 1 rfl ?_
      exact k_iretP hR 30 rfl hf
    · replace hf := if_f hf hc
      refine k_aload_0 C 10 rfl 0 rfl ?_
      refine kg6_7 C 11 rfl qX6_30 0 S_c0 S_f0_7 ?_
      refine k_aload_0 C 12 rfl 0 rfl ?_
      refine kg6_0 C 13 rfl qX6_33 0 S_c0 S_f0_0 ?_
      refine kg10_1 C 14 rfl qX6_37 8 S_c8 S_f8_1 ?_
      refine kg2_2 C 15 rfl qX6_195 21 S_c21 S_f21_2 ?_
      refine k_iload_2 C 16 rfl 2 rfl ?_
      obtain ⟨i33, hi, hin, hf⟩ := ixd_some hf
      refine k_iald C 17 rfl 22 S_c22 hin hi ?_
      obtain ⟨i34, hi, hin, hf⟩ := ixd_some hf
      refine k_iald C 18 rfl 7 S_c7 hin hi ?_
      refine k_aload_0 C 19 rfl 0 rfl ?_
      refine kg6_0 C 20 rfl qX6_33 0 S_c0 S_f0_0 ?_
      refine kg10_0 C 21 rfl qX6_65 8 S_c8 S_f8_0 ?_
      refine kg9_11 C 22 rfl qX6_198 9 S_c9 S_f9_11 ?_
      refine k_iload_2 C 23 rfl 2 rfl ?_
      obtain ⟨i46, hi, hin, hf⟩ := ixd_some hf
      refine k_iald C 24 rfl 15 S_c15 hin hi ?_
      refine k_icmp_eq C 25 rfl 53 (by decide) (fun hc => ?_) (fun hc => ?_)
      · replace hf := if_t hf hc
        exact k_sub [0, 1, 2] rfl (hb53 x1 x2 hf)
      · replace hf := if_f hf hc
        obtain ⟨x1_50, hx, hf⟩ := bnd_some hf
        refine k_iinc C 26 rfl 1 rfl ((cn_1 _).trans hx) (by decide) rfl ?_
        refine k_sub (lv2 := [(0, .ref (c 0)), (1, .int x1_50), (2, .int x2)]) [1, 0, 2] rfl ?_
        exact k_sub [0, 1, 2] rfl (hb53 x1_50 x2 hf)
  have hb4 := flW2 hq4
  refine k_iconst C 0 rfl ci_0 ?_
  refine k_istore_1 C 1 rfl (by decide) rfl ?_
  refine k_sub (lv2 := [(0, .ref (c 0)), (1, .int 0)]) [1, 0] rfl ?_
  refine k_iconst C 2 rfl ci_0 ?_
  refine k_istore_2 C 3 rfl (by decide) rfl ?_
  refine k_sub (lv2 := [(0, .ref (c 0)), (1, .int 0), (2, .int 0)]) [1, 2, 0] rfl ?_
  exact k_sub [0, 1, 2] rfl (hb4 FU 0 0 hf)
set_option maxHeartbeats 1000000 in
set_option maxRecDepth 20000 in
theorem c_X6_findOrder (l : Launch) (D : va_G) (cy : Nat → ClassId) (c : Nat → Nat) (a : Nat → Nat) (S : Sg) (T : Sg) (O : Sg) (E : Sg) (X : Sg) (r : Int32) (S1 : Sg) (hf : f_X6_findOrder S T O = some (r, S1)) : Ct l D cy yX6_findOrder cX6_findOrder 4 (some .int) 1 200 0 0 [.ref (c 0)] (wS cy c a S T O E X) (some (.int r)) (wS cy c a S1 T O E X) := by
  refine Ct_i tX6_findOrder hX6_findOrder (by decide) (Nat.le_of_ble_eq_true rfl) ?_
  intro Z hZ C hR
  subst hZ
  replace C : Cx Z D cy RX6 tX6_findOrder 4 1 200 0 0 := C
  show Wk Z D 4 0 0 (wS cy c a S T O E X) 0 [(0, .ref (c 0))] []
  unfold f_X6_findOrder at hf
  have hq5 : ∀ (k5 : Int32 → Int32 → Sg → Option (Int32 × Sg)), (∀ (x1 : Int32) (x2 : Int32) (S : Sg), k5 x1 x2 S = some (r, S1) → Wk Z D 4 0 0 (wS cy c a S T O E X) 5 [(0, .ref (c 0)), (1, .int x1), (2, .int x2)] []) → ∀ (x1 : Int32) (x2 : Int32) (S : Sg), f_X6_findOrder_b5 T O k5 x1 x2 S = some (r, S1) → Wk Z D 4 0 0 (wS cy c a S T O E X) 5 [(0, .ref (c 0)), (1, .int x1), (2, .int x2)] [] := by
    intro k5 hk5 x1 x2 S hf
    unfold f_X6_findOrder_b5 at hf
    have hb51 : ∀ (x1 : Int32) (x2 : Int32) (S : Sg), f_X6_findOrder_b51 T O k5 x1 x2 S = some (r, S1) → Wk Z D 4 0 0 (wS cy c a S T O E X) 51 [(0, .ref (c 0)), (1, .int x1), (2, .int x2)] [] := by
      intro x1 x2 S hf
      unfold f_X6_findOrder_b51 at hf
      obtain ⟨x2_51, hx, hf⟩ := bnd_some hf
      refine k_iinc C 29 rfl 2 rfl ((cn_1 _).trans hx) (by decide) rfl ?_
      refine k_sub (lv2 := [(0, .ref (c 0)), (1, .int x1), (2, .int x2_51)]) [1, 2, 0] rfl ?_
      refine k_goto C 30 rfl 5 (by decide) ?_
      exact k_sub [0, 1, 2] rfl (hk5 x1 x2_51 S hf)
    refine k_iload_2 C 4 rfl 2 rfl ?_
    refine k_sipush C 5 rfl cs_256 ?_
    refine k_icmp_ge C 6 rfl 57 (by decide) (fun hc => ?_) (fun hc => ?_)
    · replace hf := if_t hf hc
      refine k_iload_1 C 31 rfl 1 rfl ?_
      exact k_iret (wf := (fun u => (wS cy c a u T O E X))) hR 32 rfl hf
    · replace hf := if_f hf hc
      refine k_iload_2 C 7 rfl 2 rfl ?_
      obtain ⟨r13, h5, hf⟩ := ob1_some hf
      refine k_callE C 8 (c_X6_hasUnlikeDigits Z.2.1 D cy x2 r13 h5) rfl qX6_175 msX6_hasUnlikeDigits rfl rfl (Nat.le_of_ble_eq_true rfl) ⟨Nat.le_of_ble_eq_true rfl, Nat.le_of_ble_eq_true rfl, Nat.le_refl 0, Nat.le_refl 0⟩ ?_
      refine k_if_eq C 9 rfl 51 (by decide) (fun hc => ?_) (fun hc => ?_)
      · replace hf := if_t hf hc
        exact k_sub [0, 1, 2] rfl (hb51 x1 x2 S hf)
      · replace hf := if_f hf hc
        refine k_aload_0 C 10 rfl 0 rfl ?_
        refine k_iload_2 C 11 rfl 2 rfl ?_
        obtain ⟨S_21, h5, hf⟩ := ob1_some hf
        refine k_callW C 12 (c_X6_lineUp Z.2.1 D cy c a S T O E X x2 S_21 h5) rfl qX6_178 mvX6_lineUp 0 6 S_c0 rfl rfl rfl (Nat.le_of_ble_eq_true rfl) ⟨Nat.le_of_ble_eq_true rfl, Nat.le_of_ble_eq_true rfl, Nat.le_refl 0, Nat.le_refl 0⟩ ?_
        refine k_aload_0 C 13 rfl 0 rfl ?_
        obtain ⟨r25, h5, hf⟩ := ob1_some hf
        refine k_callW C 14 (c_X6_misplacedRiders Z.2.1 D cy c a S_21 T O E X r25 h5) rfl qX6_182 mvX6_misplacedRiders 0 6 S_c0 rfl rfl rfl (Nat.le_of_ble_eq_true rfl) ⟨Nat.le_of_ble_eq_true rfl, Nat.le_of_ble_eq_true rfl, Nat.le_refl 0, Nat.le_refl 0⟩ ?_
        refine k_istore_3 C 15 rfl (by decide) rfl ?_
        refine k_sub (lv2 := [(0, .ref (c 0)), (1, .int x1), (2, .int x2), (3, .int r25)]) [1, 2, 3, 0] rfl ?_
        refine k_iload_3 C 16 rfl 3 rfl ?_
        refine k_iload_1 C 17 rfl 1 rfl ?_
        refine k_icmp_ge C 18 rfl 51 (by decide) (fun hc => ?_) (fun hc => ?_)
        · replace hf := if_t hf hc
          exact k_sub [0, 1, 2] rfl (hb51 x1 x2 S_21 hf)
        · replace hf := if_f hf hc
          refine k_iload_3 C 19 rfl 3 rfl ?_
          refine k_istore_1 C 20 rfl (by decide) rfl ?_
          refine k_sub (lv2 := [(0, .ref (c 0)), (1, .int r25), (2, .int x2), (3, .int r25)]) [1, 0, 2, 3] rfl ?_
          refine k_aload_0 C 21 rfl 0 rfl ?_
          refine kg6_7 C 22 rfl qX6_30 0 S_c0 S_f0_7 ?_
          refine k_iconst C 23 rfl ci_0 ?_
          refine k_aload_0 C 24 rfl 0 rfl ?_
          refine kg6_6 C 25 rfl qX6_27 0 S_c0 S_f0_6 ?_
          refine k_iconst C 26 rfl ci_0 ?_
          refine k_bipush C 27 rfl cb_8 ?_
          obtain ⟨S_48, hM, hf⟩ := bnd_some hf
          refine k_copy (w2 := (wS cy c a S_48 T O E X)) C 28 rfl qX6_186 jw_copy 7 6 S_c7 S_c6 8 (by decide) (by decide) (by decide) (by decide) (Nat.le_of_ble_eq_true rfl) (Nat.le_of_ble_eq_true rfl) (Nat.le_of_ble_eq_true rfl) (S_r6.trans (congrArg (fun z => (wS cy c a z T O E X)) hM)) ?_
          exact k_sub [0, 1, 2] rfl (hb51 r25 x2 S_48 hf)
  have hb5 := flW3 hq5
  refine k_ldc C 0 rfl qX6_58 ?_
  refine k_istore_1 C 1 rfl (by decide) rfl ?_
  refine k_sub (lv2 := [(0, .ref (c 0)), (1, .int 1000000)]) [1, 0] rfl ?_
  refine k_iconst C 2 rfl ci_0 ?_
  refine k_istore_2 C 3 rfl (by decide) rfl ?_
  refine k_sub (lv2 := [(0, .ref (c 0)), (1, .int 1000000), (2, .int 0)]) [1, 2, 0] rfl ?_
  exact k_sub [0, 1, 2] rfl (hb5 FU 1000000 0 S hf)
set_option maxHeartbeats 1000000 in
set_option maxRecDepth 20000 in
theorem c_X6_bestFor (l : Launch) (D : va_G) (cy : Nat → ClassId) (c : Nat → Nat) (a : Nat → Nat) (S : Sg) (T : Sg) (O : Sg) (E : Sg) (X : Sg) (p1 : Int32) (r : Int32) (hf : f_X6_bestFor S T p1 = some r) : Ct l D cy yX6_bestFor cX6_bestFor 5 (some .int) 1 22 0 0 [.ref (c 0), .int p1] (wS cy c a S T O E X) (some (.int r)) (wS cy c a S T O E X) := by
  refine Ct_i tX6_bestFor hX6_bestFor (by decide) (Nat.le_of_ble_eq_true rfl) ?_
  intro Z hZ C hR
  subst hZ
  replace C : Cx Z D cy RX6 tX6_bestFor 5 1 22 0 0 := C
  show Wk Z D 5 0 0 (wS cy c a S T O E X) 0 [(0, .ref (c 0)), (1, .int p1)] []
  unfold f_X6_bestFor at hf
  have hq18 : ∀ (k18 : Int32 → Int32 → Int32 → Option (Int32)), (∀ (x2 : Int32) (x3 : Int32) (x4 : Int32), k18 x2 x3 x4 = some r → Wk Z D 5 0 0 (wS cy c a S T O E X) 18 [(0, .ref (c 0)), (1, .int p1), (2, .int x2), (3, .int x3), (4, .int x4)] []) → ∀ (x2 : Int32) (x3 : Int32) (x4 : Int32), f_X6_bestFor_b18 S T p1 k18 x2 x3 x4 = some r → Wk Z D 5 0 0 (wS cy c a S T O E X) 18 [(0, .ref (c 0)), (1, .int p1), (2, .int x2), (3, .int x3), (4, .int x4)] [] := by
    intro k18 hk18 x2 x3 x4 hf
    unfold f_X6_bestFor_b18 at hf
    have hb68 : ∀ (x2 : Int32) (x3 : Int32) (x4 : Int32), f_X6_bestFor_b68 S T p1 k18 x2 x3 x4 = some r → Wk Z D 5 0 0 (wS cy c a S T O E X) 68 [(0, .ref (c 0)), (1, .int p1), (2, .int x2), (3, .int x3), (4, .int x4)] [] := by
      intro x2 x3 x4 hf
      unfold f_X6_bestFor_b68 at hf
      obtain ⟨x4_68, hx, hf⟩ := bnd_some hf
      refine k_iinc C 36 rfl 4 rfl ((cn_1 _).trans hx) (by decide) rfl ?_
      refine k_sub (lv2 := [(0, .ref (c 0)), (1, .int p1), (2, .int x2), (3, .int x3), (4, .int x4_68)]) [1, 2, 3, 4, 0] rfl ?_
      refine k_goto C 37 rfl 18 (by decide) ?_
      exact k_sub [0, 1, 2, 3, 4] rfl (hk18 x2 x3 x4_68 hf)
    refine k_iload C 11 rfl 4 rfl ?_
    refine k_aload_0 C 12 rfl 0 rfl ?_
    refine kg6_0 C 13 rfl qX6_33 0 S_c0 S_f0_0 ?_
    refine kg10_0 C 14 rfl qX6_65 8 S_c8 S_f8_0 ?_
    refine kg9_0 C 15 rfl qX6_69 9 S_c9 S_f9_0 ?_
    refine k_icmp_ge C 16 rfl 74 (by decide) (fun hc => ?_) (fun hc => ?_)
    · replace hf := if_t hf hc
      refine k_iload_2 C 38 rfl 2 rfl ?_
      exact k_iretP hR 39 rfl hf
    · replace hf := if_f hf hc
      refine k_aload_0 C 17 rfl 0 rfl ?_
      refine kg6_0 C 18 rfl qX6_33 0 S_c0 S_f0_0 ?_
      refine k_iload_1 C 19 rfl 1 rfl ?_
      refine k_iload C 20 rfl 4 rfl ?_
      obtain ⟨r40, h5, hf⟩ := ob1_some hf
      refine k_callV (X := (wS cy c a S T O E X).take 8) (Y := (wS cy c a S T O E X).drop 31) (w2 := (wS cy c a S T O E X)) C 21 (c_X10_isRight Z.2.1 D cy a T O E X p1 x4 r40 h5) rfl qX6_102 mvX10_isRight 0 10 W_c0 rfl rfl rfl rfl rfl (Nat.le_of_ble_eq_true rfl) ⟨Nat.le_of_ble_eq_true rfl, Nat.le_of_ble_eq_true rfl, Nat.le_refl 0, Nat.le_refl 0⟩ ?_
      refine k_if_eq C 22 rfl 68 (by decide) (fun hc => ?_) (fun hc => ?_)
      · replace hf := if_t hf hc
        exact k_sub [0, 1, 2, 3, 4] rfl (hb68 x2 x3 x4 hf)
      · replace hf := if_f hf hc
        refine k_aload_0 C 23 rfl 0 rfl ?_
        refine kg6_3 C 24 rfl qX6_18 0 S_c0 S_f0_3 ?_
        refine k_iload C 25 rfl 4 rfl ?_
        obtain ⟨i52, hi, hin, hf⟩ := ixd_some hf
        refine k_iald C 26 rfl 3 S_c3 hin hi ?_
        refine k_iload_3 C 27 rfl 3 rfl ?_
        refine k_icmp_ge C 28 rfl 68 (by decide) (fun hc => ?_) (fun hc => ?_)
        · replace hf := if_t hf hc
          exact k_sub [0, 1, 2, 3, 4] rfl (hb68 x2 x3 x4 hf)
        · replace hf := if_f hf hc
          refine k_iload C 29 rfl 4 rfl ?_
          refine k_istore_2 C 30 rfl (by decide) rfl ?_
          refine k_sub (lv2 := [(0, .ref (c 0)), (1, .int p1), (2, .int x4), (3, .int x3), (4, .int x4)]) [1, 2, 0, 3, 4] rfl ?_
          refine k_aload_0 C 31 rfl 0 rfl ?_
          refine kg6_3 C 32 rfl qX6_18 0 S_c0 S_f0_3 ?_
          refine k_iload C 33 rfl 4 rfl ?_
          obtain ⟨i66, hi, hin, hf⟩ := ixd_some hf
          refine k_iald C 34 rfl 3 S_c3 hin hi ?_
          obtain ⟨x3_67, hx, hf⟩ := bnd_some hf
          refine k_topi hx ?_
          refine k_istore_3 C 35 rfl (by decide) rfl ?_
          refine k_sub (lv2 := [(0, .ref (c 0)), (1, .int p1), (2, .int x4), (3, .int x3_67), (4, .int x4)]) [1, 2, 3, 0, 4] rfl ?_
          exact k_sub [0, 1, 2, 3, 4] rfl (hb68 x4 x3_67 x4 hf)
  have hb18 := flW3 hq18
  refine k_iconst C 0 rfl ci_m1 ?_
  refine k_istore_2 C 1 rfl (by decide) rfl ?_
  refine k_sub (lv2 := [(0, .ref (c 0)), (1, .int p1), (2, .int (-1))]) [1, 2, 0] rfl ?_
  refine k_aload_0 C 2 rfl 0 rfl ?_
  refine kg6_0 C 3 rfl qX6_33 0 S_c0 S_f0_0 ?_
  refine kg10_0 C 4 rfl qX6_65 8 S_c8 S_f8_0 ?_
  refine kg9_4 C 5 rfl qX6_127 9 S_c9 S_f9_4 ?_
  refine k_iconst C 6 rfl ci_1 ?_
  refine k_iadd C 7 rfl ?_
  obtain ⟨x3_14, hx, hf⟩ := bnd_some hf
  refine k_topi hx ?_
  refine k_istore_3 C 8 rfl (by decide) rfl ?_
  refine k_sub (lv2 := [(0, .ref (c 0)), (1, .int p1), (2, .int (-1)), (3, .int x3_14)]) [1, 2, 3, 0] rfl ?_
  refine k_iconst C 9 rfl ci_0 ?_
  refine k_istore C 10 rfl (by decide) rfl ?_
  refine k_sub (lv2 := [(0, .ref (c 0)), (1, .int p1), (2, .int (-1)), (3, .int x3_14), (4, .int 0)]) [1, 2, 3, 4, 0] rfl ?_
  exact k_sub [0, 1, 2, 3, 4] rfl (hb18 FU (-1) x3_14 0 hf)
set_option maxHeartbeats 1000000 in
set_option maxRecDepth 20000 in
theorem c_X6_familyCoach (l : Launch) (D : va_G) (cy : Nat → ClassId) (c : Nat → Nat) (a : Nat → Nat) (S : Sg) (T : Sg) (O : Sg) (E : Sg) (X : Sg) (p1 : Int32) (r : Int32) (S1 : Sg) (hf : f_X6_familyCoach S T O p1 = some (r, S1)) : Ct l D cy yX6_familyCoach cX6_familyCoach 5 (some .int) 5 305 0 0 [.ref (c 0), .int p1] (wS cy c a S T O E X) (some (.int r)) (wS cy c a S1 T O E X) := by
  refine Ct_i tX6_familyCoach hX6_familyCoach (by decide) (Nat.le_of_ble_eq_true rfl) ?_
  intro Z hZ C hR
  subst hZ
  replace C : Cx Z D cy RX6 tX6_familyCoach 5 5 305 0 0 := C
  show Wk Z D 5 0 0 (wS cy c a S T O E X) 0 [(0, .ref (c 0)), (1, .int p1)] []
  unfold f_X6_familyCoach at hf
  have hq12 : ∀ (k12 : Int32 → Int32 → Sg → Option (Int32 × Sg)), (∀ (x2 : Int32) (x3 : Int32) (S : Sg), k12 x2 x3 S = some (r, S1) → Wk Z D 5 0 0 (wS cy c a S T O E X) 12 [(0, .ref (c 0)), (1, .int p1), (2, .int x2), (3, .int x3)] []) → ∀ (x2 : Int32) (x3 : Int32) (S : Sg), f_X6_familyCoach_b12 T O p1 k12 x2 x3 S = some (r, S1) → Wk Z D 5 0 0 (wS cy c a S T O E X) 12 [(0, .ref (c 0)), (1, .int p1), (2, .int x2), (3, .int x3)] [] := by
    intro k12 hk12 x2 x3 S hf
    unfold f_X6_familyCoach_b12 at hf
    have hb123 : ∀ (x2 : Int32) (x3 : Int32) (S : Sg), f_X6_familyCoach_b123 T O p1 k12 x2 x3 S = some (r, S1) → Wk Z D 5 0 0 (wS cy c a S T O E X) 123 [(0, .ref (c 0)), (1, .int p1), (2, .int x2), (3, .int x3)] [] := by
      intro x2 x3 S hf
      unfold f_X6_familyCoach_b123 at hf
      obtain ⟨x3_123, hx, hf⟩ := bnd_some hf
      refine k_iinc C 66 rfl 3 rfl ((cn_1 _).trans hx) (by decide) rfl ?_
      refine k_sub (lv2 := [(0, .ref (c 0)), (1, .int p1), (2, .int x2), (3, .int x3_123)]) [1, 2, 3, 0] rfl ?_
      refine k_goto C 67 rfl 12 (by decide) ?_
      exact k_sub [0, 1, 2, 3] rfl (hk12 x2 x3_123 S hf)
    have hq78 : ∀ (k78 : Int32 → Int32 → Int32 → Sg → Option (Int32 × Sg)), (∀ (x2 : Int32) (x3 : Int32) (x4 : Int32) (S : Sg), k78 x2 x3 x4 S = some (r, S1) → Wk Z D 5 0 0 (wS cy c a S T O E X) 78 [(0, .ref (c 0)), (1, .int p1), (2, .int x2), (3, .int x3), (4, .int x4)] []) → ∀ (x2 : Int32) (x3 : Int32) (x4 : Int32) (S : Sg), f_X6_familyCoach_b78 T O p1 k12 k78 x2 x3 x4 S = some (r, S1) → Wk Z D 5 0 0 (wS cy c a S T O E X) 78 [(0, .ref (c 0)), (1, .int p1), (2, .int x2), (3, .int x3), (4, .int x4)] [] := by
      intro k78 hk78 x2 x3 x4 S hf
      unfold f_X6_familyCoach_b78 at hf
      refine k_iload C 45 rfl 4 rfl ?_
      refine k_aload_0 C 46 rfl 0 rfl ?_
      refine kg6_0 C 47 rfl qX6_33 0 S_c0 S_f0_0 ?_
      refine kg10_0 C 48 rfl qX6_65 8 S_c8 S_f8_0 ?_
      refine kg9_0 C 49 rfl qX6_69 9 S_c9 S_f9_0 ?_
      refine k_icmp_ge C 50 rfl 123 (by decide) (fun hc => ?_) (fun hc => ?_)
      · replace hf := if_t hf hc
        exact k_sub [0, 1, 2, 3] rfl (hb123 x2 x3 S hf)
      · replace hf := if_f hf hc
        refine k_aload_0 C 51 rfl 0 rfl ?_
        refine kg6_3 C 52 rfl qX6_18 0 S_c0 S_f0_3 ?_
        refine k_iload C 53 rfl 4 rfl ?_
        refine k_aload_0 C 54 rfl 0 rfl ?_
        refine kg6_3 C 55 rfl qX6_18 0 S_c0 S_f0_3 ?_
        refine k_iload C 56 rfl 4 rfl ?_
        obtain ⟨i105, hi, hin, hf⟩ := ixd_some hf
        refine k_iald C 57 rfl 3 S_c3 hin hi ?_
        refine k_aload_0 C 58 rfl 0 rfl ?_
        refine kg6_1 C 59 rfl qX6_9 0 S_c0 S_f0_1 ?_
        refine k_iload C 60 rfl 4 rfl ?_
        obtain ⟨i112, hi, hin, hf⟩ := ixd_some hf
        refine k_iald C 61 rfl 1 S_c1 hin hi ?_
        refine k_mmax C 62 rfl qX6_49 jw_max (Nat.le_of_ble_eq_true rfl) (Nat.le_of_ble_eq_true rfl) (Nat.le_of_ble_eq_true rfl) ⟨Nat.le_refl 0, Nat.le_refl 0⟩ ?_
        obtain ⟨i116, hi, hin, hf⟩ := ixd_some hf
        obtain ⟨S_116, hM, hf⟩ := bnd_some hf
        refine k_iast (w2 := (wS cy c a S_116 T O E X)) C 63 rfl 3 S_c3 hin hi (S_s3.trans (congrArg (fun z => (wS cy c a z T O E X)) hM)) ?_
        obtain ⟨x4_117, hx, hf⟩ := bnd_some hf
        refine k_iinc C 64 rfl 4 rfl ((cn_1 _).trans hx) (by decide) rfl ?_
        refine k_sub (lv2 := [(0, .ref (c 0)), (1, .int p1), (2, .int x2), (3, .int x3), (4, .int x4_117)]) [1, 2, 3, 4, 0] rfl ?_
        refine k_goto C 65 rfl 78 (by decide) ?_
        exact k_sub [0, 1, 2, 3, 4] rfl (hk78 x2 x3 x4_117 S_116 hf)
    have hb78 := flW4 hq78
    have hb44 : ∀ (x3 : Int32) (s0 : Int32) (S : Sg), f_X6_familyCoach_b44 T O p1 k12 x3 s0 S = some (r, S1) → Wk Z D 5 0 0 (wS cy c a S T O E X) 44 [(0, .ref (c 0)), (1, .int p1), (3, .int x3)] [.int s0] := by
      intro x3 s0 S hf
      unfold f_X6_familyCoach_b44 at hf
      refine k_istore_2 C 26 rfl (by decide) rfl ?_
      refine k_sub (lv2 := [(0, .ref (c 0)), (1, .int p1), (2, .int s0), (3, .int x3)]) [1, 2, 0, 3] rfl ?_
      refine k_aload_0 C 27 rfl 0 rfl ?_
      refine k_iload_3 C 28 rfl 3 rfl ?_
      refine k_aload_0 C 29 rfl 0 rfl ?_
      refine kg6_0 C 30 rfl qX6_33 0 S_c0 S_f0_0 ?_
      refine k_iload_3 C 31 rfl 3 rfl ?_
      obtain ⟨r52, h5, hf⟩ := ob1_some hf
      refine k_callV (X := (wS cy c a S T O E X).take 8) (Y := (wS cy c a S T O E X).drop 31) (w2 := (wS cy c a S T O E X)) C 32 (c_X10_placeOf Z.2.1 D cy a T O E X x3 r52 h5) rfl qX6_117 mvX10_placeOf 0 10 W_c0 rfl rfl rfl rfl rfl (Nat.le_of_ble_eq_true rfl) ⟨Nat.le_of_ble_eq_true rfl, Nat.le_of_ble_eq_true rfl, Nat.le_refl 0, Nat.le_refl 0⟩ ?_
      refine k_aload_0 C 33 rfl 0 rfl ?_
      refine k_iload_3 C 34 rfl 3 rfl ?_
      refine k_aload_0 C 35 rfl 0 rfl ?_
      refine kg6_0 C 36 rfl qX6_33 0 S_c0 S_f0_0 ?_
      refine kg10_0 C 37 rfl qX6_65 8 S_c8 S_f8_0 ?_
      refine kg9_14 C 38 rfl qX6_134 9 S_c9 S_f9_14 ?_
      refine k_iload_3 C 39 rfl 3 rfl ?_
      obtain ⟨i68, hi, hin, hf⟩ := ixd_some hf
      refine k_iald C 40 rfl 18 S_c18 hin hi ?_
      obtain ⟨r69, h5, hf⟩ := ob1_some hf
      refine k_callW C 41 (c_X6_startOf Z.2.1 D cy c a S T O E X x3 (T.2.1 14 i68) r69 h5) rfl qX6_120 mvX6_startOf 0 6 S_c0 rfl rfl rfl (Nat.le_of_ble_eq_true rfl) ⟨Nat.le_of_ble_eq_true rfl, Nat.le_of_ble_eq_true rfl, Nat.le_refl 0, Nat.le_refl 0⟩ ?_
      obtain ⟨S_72, h5, hf⟩ := ob1_some hf
      refine k_callW C 42 (c_X6_spread Z.2.1 D cy c a S T O E X x3 r52 r69 S_72 h5) rfl qX6_123 mvX6_spread 0 6 S_c0 rfl rfl rfl (Nat.le_of_ble_eq_true rfl) ⟨Nat.le_of_ble_eq_true rfl, Nat.le_of_ble_eq_true rfl, Nat.le_refl 0, Nat.le_refl 0⟩ ?_
      refine k_iconst C 43 rfl ci_0 ?_
      refine k_istore C 44 rfl (by decide) rfl ?_
      refine k_sub (lv2 := [(0, .ref (c 0)), (1, .int p1), (2, .int s0), (3, .int x3), (4, .int 0)]) [1, 2, 3, 4, 0] rfl ?_
      exact k_sub [0, 1, 2, 3, 4] rfl (hb78 FU s0 x3 0 S_72 hf)
    refine k_iload_3 C 8 rfl 3 rfl ?_
    refine k_aload_0 C 9 rfl 0 rfl ?_
    refine kg6_0 C 10 rfl qX6_33 0 S_c0 S_f0_0 ?_
    refine kg10_0 C 11 rfl qX6_65 8 S_c8 S_f8_0 ?_
    refine kg9_2 C 12 rfl qX6_169 9 S_c9 S_f9_2 ?_
    refine k_icmp_ge C 13 rfl 129 (by decide) (fun hc => ?_) (fun hc => ?_)
    · replace hf := if_t hf hc
      refine k_iload_2 C 68 rfl 2 rfl ?_
      refine k_iconst C 69 rfl ci_m1 ?_
      refine k_icmp_ne C 70 rfl 138 (by decide) (fun hc => ?_) (fun hc => ?_)
      · replace hf := if_f hf hc
        refine k_aload_0 C 73 rfl 0 rfl ?_
        refine k_iload_2 C 74 rfl 2 rfl ?_
        obtain ⟨r140, h5, hf⟩ := ob1_some hf
        refine k_callW C 75 (c_X6_bestFor Z.2.1 D cy c a S T O E X x2 r140 h5) rfl qX6_201 mvX6_bestFor 0 6 S_c0 rfl rfl rfl (Nat.le_of_ble_eq_true rfl) ⟨Nat.le_of_ble_eq_true rfl, Nat.le_of_ble_eq_true rfl, Nat.le_refl 0, Nat.le_refl 0⟩ ?_
        exact k_iret (wf := (fun u => (wS cy c a u T O E X))) hR 76 rfl hf
      · replace hf := if_t hf hc
        refine k_iconst C 71 rfl ci_m1 ?_
        refine k_goto C 72 rfl 143 (by decide) ?_
        exact k_iret (wf := (fun u => (wS cy c a u T O E X))) hR 76 rfl hf
    · replace hf := if_f hf hc
      refine k_iload_1 C 14 rfl 1 rfl ?_
      refine k_iconst C 15 rfl ci_1 ?_
      refine k_iload_3 C 16 rfl 3 rfl ?_
      refine k_ishl C 17 rfl ?_
      refine k_iand C 18 rfl ?_
      refine k_if_eq C 19 rfl 123 (by decide) (fun hc => ?_) (fun hc => ?_)
      · replace hf := if_t hf hc
        exact k_sub [0, 1, 2, 3] rfl (hb123 x2 x3 S hf)
      · replace hf := if_f hf hc
        refine k_iload_2 C 20 rfl 2 rfl ?_
        refine k_iconst C 21 rfl ci_m1 ?_
        refine k_icmp_ne C 22 rfl 43 (by decide) (fun hc => ?_) (fun hc => ?_)
        · replace hf := if_f hf hc
          refine k_iload_2 C 25 rfl 2 rfl ?_
          exact k_sub [0, 1, 3] rfl (hb44 x3 x2 S hf)
        · replace hf := if_t hf hc
          refine k_iload_3 C 23 rfl 3 rfl ?_
          refine k_goto C 24 rfl 44 (by decide) ?_
          exact k_sub [0, 1, 3] rfl (hb44 x3 x3 S hf)
  have hb12 := flW3 hq12
  refine k_aload_0 C 0 rfl 0 rfl ?_
  refine kg6_3 C 1 rfl qX6_18 0 S_c0 S_f0_3 ?_
  refine k_iconst C 2 rfl ci_0 ?_
  obtain ⟨S_5, hM, hf⟩ := bnd_some hf
  refine k_fill (w2 := (wS cy c a S_5 T O E X)) C 3 rfl qX6_59 3 S_c3 (by decide) (Nat.le_of_ble_eq_true rfl) (Nat.le_of_ble_eq_true rfl) (Nat.le_of_ble_eq_true rfl) ⟨Nat.le_refl 0, Nat.le_refl 0⟩ (S_r3.trans (congrArg (fun z => (wS cy c a z T O E X)) hM)) ?_
  refine k_iconst C 4 rfl ci_m1 ?_
  refine k_istore_2 C 5 rfl (by decide) rfl ?_
  refine k_sub (lv2 := [(0, .ref (c 0)), (1, .int p1), (2, .int (-1))]) [1, 2, 0] rfl ?_
  refine k_iconst C 6 rfl ci_0 ?_
  refine k_istore_3 C 7 rfl (by decide) rfl ?_
  refine k_sub (lv2 := [(0, .ref (c 0)), (1, .int p1), (2, .int (-1)), (3, .int 0)]) [1, 2, 3, 0] rfl ?_
  exact k_sub [0, 1, 2, 3] rfl (hb12 FU (-1) 0 S_5 hf)
set_option maxHeartbeats 1000000 in
set_option maxRecDepth 20000 in
theorem c_X6_walk_v1 (l : Launch) (D : va_G) (cy : Nat → ClassId) (c : Nat → Nat) (a : Nat → Nat) (S : Sg) (T : Sg) (O : Sg) (E : Sg) (X : Sg) (p1 : Int32) (p2 : Int32) (S1 : Sg) (hf : f_X6_walk_v1 S T O p1 p2 = some S1) : Ct l D cy yX6_walk cX6_walk 9 none 2 227 0 0 [.ref (c 0), .int p1, .int p2, .ref (c 4)] (wS cy c a S T O E X) none (wS cy c a S1 T O E X) := by
  refine Ct_v tX6_walk hX6_walk (by decide) (Nat.le_of_ble_eq_true rfl) ?_
  intro Z hZ C hR
  subst hZ
  replace C : Cx Z D cy RX6 tX6_walk 9 2 227 0 0 := C
  show Wk Z D 9 0 0 (wS cy c a S T O E X) 0 [(0, .ref (c 0)), (1, .int p1), (2, .int p2), (3, .ref (c 4))] []
  unfold f_X6_walk_v1 at hf
  have hq51 : ∀ (k51 : Int32 → Int32 → Int32 → Int32 → Sg → Option (Sg)), (∀ (x4 : Int32) (x5 : Int32) (x6 : Int32) (x7 : Int32) (S : Sg), k51 x4 x5 x6 x7 S = some S1 → Wk Z D 9 0 0 (wS cy c a S T O E X) 51 [(0, .ref (c 0)), (1, .int p1), (2, .int p2), (3, .ref (c 4)), (4, .int x4), (5, .int x5), (6, .int x6), (7, .int x7)] []) → ∀ (x4 : Int32) (x5 : Int32) (x6 : Int32) (x7 : Int32) (S : Sg), f_X6_walk_v1_b51 T O p1 p2 k51 x4 x5 x6 x7 S = some S1 → Wk Z D 9 0 0 (wS cy c a S T O E X) 51 [(0, .ref (c 0)), (1, .int p1), (2, .int p2), (3, .ref (c 4)), (4, .int x4), (5, .int x5), (6, .int x6), (7, .int x7)] [] := by
    intro k51 hk51 x4 x5 x6 x7 S hf
    unfold f_X6_walk_v1_b51 at hf
    refine k_iload C 27 rfl 7 rfl ?_
    refine k_bipush C 28 rfl cb_8 ?_
    refine k_icmp_ge C 29 rfl 136 (by decide) (fun hc => ?_) (fun hc => ?_)
    · replace hf := if_t hf hc
      exact k_vret (wf := (fun u => (wS cy c a u T O E X))) hR 70 rfl hf
    · replace hf := if_f hf hc
      refine k_iload C 30 rfl 4 rfl ?_
      refine k_iload_2 C 31 rfl 2 rfl ?_
      refine k_icmp_eq C 32 rfl 136 (by decide) (fun hc => ?_) (fun hc => ?_)
      · replace hf := if_t hf hc
        exact k_vret (wf := (fun u => (wS cy c a u T O E X))) hR 70 rfl hf
      · replace hf := if_f hf hc
        refine k_aload_0 C 33 rfl 0 rfl ?_
        refine kg6_0 C 34 rfl qX6_33 0 S_c0 S_f0_0 ?_
        refine k_iload_1 C 35 rfl 1 rfl ?_
        refine k_iload C 36 rfl 4 rfl ?_
        refine k_iload C 37 rfl 4 rfl ?_
        refine k_iload C 38 rfl 6 rfl ?_
        refine k_iadd C 39 rfl ?_
        refine k_iload C 40 rfl 5 rfl ?_
        obtain ⟨r78, h5, hf⟩ := ob1_some hf
        refine k_callV (X := (wS cy c a S T O E X).take 8) (Y := (wS cy c a S T O E X).drop 31) (w2 := (wS cy c a S T O E X)) C 41 (c_X10_insideBegin Z.2.1 D cy a T O E X p1 x4 (x4 + x6) x5 r78 h5) rfl qX6_93 mvX10_insideBegin 0 10 W_c0 rfl rfl rfl rfl rfl (Nat.le_of_ble_eq_true rfl) ⟨Nat.le_of_ble_eq_true rfl, Nat.le_of_ble_eq_true rfl, Nat.le_refl 0, Nat.le_refl 0⟩ ?_
        refine k_istore C 42 rfl (by decide) rfl ?_
        refine k_sub (lv2 := [(0, .ref (c 0)), (1, .int p1), (2, .int p2), (3, .ref (c 4)), (4, .int x4), (5, .int x5), (6, .int x6), (7, .int x7), (8, .int r78)]) [1, 2, 3, 4, 5, 6, 7, 8, 0] rfl ?_
        refine k_iload C 43 rfl 8 rfl ?_
        refine k_aload_0 C 44 rfl 0 rfl ?_
        refine kg6_0 C 45 rfl qX6_33 0 S_c0 S_f0_0 ?_
        refine kg10_0 C 46 rfl qX6_65 8 S_c8 S_f8_0 ?_
        refine kg9_15 C 47 rfl qX6_96 9 S_c9 S_f9_15 ?_
        refine k_iload_1 C 48 rfl 1 rfl ?_
        obtain ⟨i96, hi, hin, hf⟩ := ixd_some hf
        refine k_iald C 49 rfl 19 S_c19 hin hi ?_
        refine k_iadd C 50 rfl ?_
        obtain ⟨x5_98, hx, hf⟩ := bnd_some hf
        refine k_topi hx ?_
        refine k_istore C 51 rfl (by decide) rfl ?_
        refine k_sub (lv2 := [(0, .ref (c 0)), (1, .int p1), (2, .int p2), (3, .ref (c 4)), (4, .int x4), (5, .int x5_98), (6, .int x6), (7, .int x7), (8, .int r78)]) [1, 2, 3, 4, 5, 0, 6, 7, 8] rfl ?_
        refine k_iload C 52 rfl 5 rfl ?_
        refine k_sipush C 53 rfl cs_999 ?_
        refine k_icmp_le C 54 rfl 109 (by decide) (fun hc => ?_) (fun hc => ?_)
        · replace hf := if_t hf hc
          refine k_aload_3 C 56 rfl 3 rfl ?_
          refine k_iload C 57 rfl 4 rfl ?_
          refine k_iload C 58 rfl 4 rfl ?_
          refine k_iload C 59 rfl 6 rfl ?_
          refine k_iadd C 60 rfl ?_
          refine k_mmin C 61 rfl qX6_99 jw_min (Nat.le_of_ble_eq_true rfl) (Nat.le_of_ble_eq_true rfl) (Nat.le_of_ble_eq_true rfl) ⟨Nat.le_refl 0, Nat.le_refl 0⟩ ?_
          refine k_iload C 62 rfl 8 rfl ?_
          obtain ⟨i122, hi, hin, hf⟩ := ixd_some hf
          obtain ⟨S_122, hM, hf⟩ := bnd_some hf
          refine k_iast (w2 := (wS cy c a S_122 T O E X)) C 63 rfl 4 S_c4 hin hi (S_s4.trans (congrArg (fun z => (wS cy c a z T O E X)) hM)) ?_
          refine k_iload C 64 rfl 4 rfl ?_
          refine k_iload C 65 rfl 6 rfl ?_
          refine k_iadd C 66 rfl ?_
          obtain ⟨x4_128, hx, hf⟩ := bnd_some hf
          refine k_topi hx ?_
          refine k_istore C 67 rfl (by decide) rfl ?_
          refine k_sub (lv2 := [(0, .ref (c 0)), (1, .int p1), (2, .int p2), (3, .ref (c 4)), (4, .int x4_128), (5, .int x5_98), (6, .int x6), (7, .int x7), (8, .int r78)]) [1, 2, 3, 4, 0, 5, 6, 7, 8] rfl ?_
          obtain ⟨x7_130, hx, hf⟩ := bnd_some hf
          refine k_iinc C 68 rfl 7 rfl ((cn_1 _).trans hx) (by decide) rfl ?_
          refine k_sub (lv2 := [(0, .ref (c 0)), (1, .int p1), (2, .int p2), (3, .ref (c 4)), (4, .int x4_128), (5, .int x5_98), (6, .int x6), (7, .int x7_130), (8, .int r78)]) [1, 2, 3, 4, 5, 6, 7, 0, 8] rfl ?_
          refine k_goto C 69 rfl 51 (by decide) ?_
          exact k_sub [0, 1, 2, 3, 4, 5, 6, 7] rfl (hk51 x4_128 x5_98 x6 x7_130 S_122 hf)
        · replace hf := if_f hf hc
          exact k_vret (wf := (fun u => (wS cy c a u T O E X))) hR 55 rfl hf
  have hb51 := flW5 hq51
  have hb46 : ∀ (x4 : Int32) (x5 : Int32) (s0 : Int32) (S : Sg), f_X6_walk_v1_b46 T O p1 p2 x4 x5 s0 S = some S1 → Wk Z D 9 0 0 (wS cy c a S T O E X) 46 [(0, .ref (c 0)), (1, .int p1), (2, .int p2), (3, .ref (c 4)), (4, .int x4), (5, .int x5)] [.int s0] := by
    intro x4 x5 s0 S hf
    unfold f_X6_walk_v1_b46 at hf
    refine k_istore C 24 rfl (by decide) rfl ?_
    refine k_sub (lv2 := [(0, .ref (c 0)), (1, .int p1), (2, .int p2), (3, .ref (c 4)), (4, .int x4), (5, .int x5), (6, .int s0)]) [1, 2, 3, 4, 5, 6, 0] rfl ?_
    refine k_iconst C 25 rfl ci_0 ?_
    refine k_istore C 26 rfl (by decide) rfl ?_
    refine k_sub (lv2 := [(0, .ref (c 0)), (1, .int p1), (2, .int p2), (3, .ref (c 4)), (4, .int x4), (5, .int x5), (6, .int s0), (7, .int 0)]) [1, 2, 3, 4, 5, 6, 7, 0] rfl ?_
    exact k_sub [0, 1, 2, 3, 4, 5, 6, 7] rfl (hb51 FU x4 x5 s0 0 S hf)
  refine k_aload_3 C 0 rfl 3 rfl ?_
  refine k_ldc C 1 rfl qX6_58 ?_
  obtain ⟨S_3, hM, hf⟩ := bnd_some hf
  refine k_fill (w2 := (wS cy c a S_3 T O E X)) C 2 rfl qX6_59 4 S_c4 (by decide) (Nat.le_of_ble_eq_true rfl) (Nat.le_of_ble_eq_true rfl) (Nat.le_of_ble_eq_true rfl) ⟨Nat.le_refl 0, Nat.le_refl 0⟩ (S_r4.trans (congrArg (fun z => (wS cy c a z T O E X)) hM)) ?_
  refine k_aload_0 C 3 rfl 0 rfl ?_
  refine kg6_0 C 4 rfl qX6_33 0 S_c0 S_f0_0 ?_
  refine k_iload_1 C 5 rfl 1 rfl ?_
  obtain ⟨r11, h5, hf⟩ := ob1_some hf
  refine k_callV (X := (wS cy c a S_3 T O E X).take 8) (Y := (wS cy c a S_3 T O E X).drop 31) (w2 := (wS cy c a S_3 T O E X)) C 6 (c_X10_placeOf Z.2.1 D cy a T O E X p1 r11 h5) rfl qX6_117 mvX10_placeOf 0 10 W_c0 rfl rfl rfl rfl rfl (Nat.le_of_ble_eq_true rfl) ⟨Nat.le_of_ble_eq_true rfl, Nat.le_of_ble_eq_true rfl, Nat.le_refl 0, Nat.le_refl 0⟩ ?_
  refine k_istore C 7 rfl (by decide) rfl ?_
  refine k_sub (lv2 := [(0, .ref (c 0)), (1, .int p1), (2, .int p2), (3, .ref (c 4)), (4, .int r11)]) [1, 2, 3, 4, 0] rfl ?_
  refine k_aload_0 C 8 rfl 0 rfl ?_
  refine k_iload_1 C 9 rfl 1 rfl ?_
  refine k_aload_0 C 10 rfl 0 rfl ?_
  refine kg6_0 C 11 rfl qX6_33 0 S_c0 S_f0_0 ?_
  refine kg10_0 C 12 rfl qX6_65 8 S_c8 S_f8_0 ?_
  refine kg9_14 C 13 rfl qX6_134 9 S_c9 S_f9_14 ?_
  refine k_iload_1 C 14 rfl 1 rfl ?_
  obtain ⟨i29, hi, hin, hf⟩ := ixd_some hf
  refine k_iald C 15 rfl 18 S_c18 hin hi ?_
  obtain ⟨r30, h5, hf⟩ := ob1_some hf
  refine k_callW C 16 (c_X6_startOf Z.2.1 D cy c a S_3 T O E X p1 (T.2.1 14 i29) r30 h5) rfl qX6_120 mvX6_startOf 0 6 S_c0 rfl rfl rfl (Nat.le_of_ble_eq_true rfl) ⟨Nat.le_of_ble_eq_true rfl, Nat.le_of_ble_eq_true rfl, Nat.le_refl 0, Nat.le_refl 0⟩ ?_
  refine k_istore C 17 rfl (by decide) rfl ?_
  refine k_sub (lv2 := [(0, .ref (c 0)), (1, .int p1), (2, .int p2), (3, .ref (c 4)), (4, .int r11), (5, .int r30)]) [1, 2, 3, 4, 5, 0] rfl ?_
  refine k_iload_2 C 18 rfl 2 rfl ?_
  refine k_iload C 19 rfl 4 rfl ?_
  refine k_icmp_ge C 20 rfl 45 (by decide) (fun hc => ?_) (fun hc => ?_)
  · replace hf := if_t hf hc
    refine k_iconst C 23 rfl ci_1 ?_
    exact k_sub [0, 1, 2, 3, 4, 5] rfl (hb46 r11 r30 1 S_3 hf)
  · replace hf := if_f hf hc
    refine k_iconst C 21 rfl ci_m1 ?_
    refine k_goto C 22 rfl 46 (by decide) ?_
    exact k_sub [0, 1, 2, 3, 4, 5] rfl (hb46 r11 r30 (-1) S_3 hf)
set_option maxHeartbeats 1000000 in
set_option maxRecDepth 20000 in
theorem c_X6_walk_v2 (l : Launch) (D : va_G) (cy : Nat → ClassId) (c : Nat → Nat) (a : Nat → Nat) (S : Sg) (T : Sg) (O : Sg) (E : Sg) (X : Sg) (p1 : Int32) (p2 : Int32) (S1 : Sg) (hf : f_X6_walk_v2 S T O p1 p2 = some S1) : Ct l D cy yX6_walk cX6_walk 9 none 2 227 0 0 [.ref (c 0), .int p1, .int p2, .ref (c 5)] (wS cy c a S T O E X) none (wS cy c a S1 T O E X) := by
  refine Ct_v tX6_walk hX6_walk (by decide) (Nat.le_of_ble_eq_true rfl) ?_
  intro Z hZ C hR
  subst hZ
  replace C : Cx Z D cy RX6 tX6_walk 9 2 227 0 0 := C
  show Wk Z D 9 0 0 (wS cy c a S T O E X) 0 [(0, .ref (c 0)), (1, .int p1), (2, .int p2), (3, .ref (c 5))] []
  unfold f_X6_walk_v2 at hf
  have hq51 : ∀ (k51 : Int32 → Int32 → Int32 → Int32 → Sg → Option (Sg)), (∀ (x4 : Int32) (x5 : Int32) (x6 : Int32) (x7 : Int32) (S : Sg), k51 x4 x5 x6 x7 S = some S1 → Wk Z D 9 0 0 (wS cy c a S T O E X) 51 [(0, .ref (c 0)), (1, .int p1), (2, .int p2), (3, .ref (c 5)), (4, .int x4), (5, .int x5), (6, .int x6), (7, .int x7)] []) → ∀ (x4 : Int32) (x5 : Int32) (x6 : Int32) (x7 : Int32) (S : Sg), f_X6_walk_v2_b51 T O p1 p2 k51 x4 x5 x6 x7 S = some S1 → Wk Z D 9 0 0 (wS cy c a S T O E X) 51 [(0, .ref (c 0)), (1, .int p1), (2, .int p2), (3, .ref (c 5)), (4, .int x4), (5, .int x5), (6, .int x6), (7, .int x7)] [] := by
    intro k51 hk51 x4 x5 x6 x7 S hf
    unfold f_X6_walk_v2_b51 at hf
    refine k_iload C 27 rfl 7 rfl ?_
    refine k_bipush C 28 rfl cb_8 ?_
    refine k_icmp_ge C 29 rfl 136 (by decide) (fun hc => ?_) (fun hc => ?_)
    · replace hf := if_t hf hc
      exact k_vret (wf := (fun u => (wS cy c a u T O E X))) hR 70 rfl hf
    · replace hf := if_f hf hc
      refine k_iload C 30 rfl 4 rfl ?_
      refine k_iload_2 C 31 rfl 2 rfl ?_
      refine k_icmp_eq C 32 rfl 136 (by decide) (fun hc => ?_) (fun hc => ?_)
      · replace hf := if_t hf hc
        exact k_vret (wf := (fun u => (wS cy c a u T O E X))) hR 70 rfl hf
      · replace hf := if_f hf hc
        refine k_aload_0 C 33 rfl 0 rfl ?_
        refine kg6_0 C 34 rfl qX6_33 0 S_c0 S_f0_0 ?_
        refine k_iload_1 C 35 rfl 1 rfl ?_
        refine k_iload C 36 rfl 4 rfl ?_
        refine k_iload C 37 rfl 4 rfl ?_
        refine k_iload C 38 rfl 6 rfl ?_
        refine k_iadd C 39 rfl ?_
        refine k_iload C 40 rfl 5 rfl ?_
        obtain ⟨r78, h5, hf⟩ := ob1_some hf
        refine k_callV (X := (wS cy c a S T O E X).take 8) (Y := (wS cy c a S T O E X).drop 31) (w2 := (wS cy c a S T O E X)) C 41 (c_X10_insideBegin Z.2.1 D cy a T O E X p1 x4 (x4 + x6) x5 r78 h5) rfl qX6_93 mvX10_insideBegin 0 10 W_c0 rfl rfl rfl rfl rfl (Nat.le_of_ble_eq_true rfl) ⟨Nat.le_of_ble_eq_true rfl, Nat.le_of_ble_eq_true rfl, Nat.le_refl 0, Nat.le_refl 0⟩ ?_
        refine k_istore C 42 rfl (by decide) rfl ?_
        refine k_sub (lv2 := [(0, .ref (c 0)), (1, .int p1), (2, .int p2), (3, .ref (c 5)), (4, .int x4), (5, .int x5), (6, .int x6), (7, .int x7), (8, .int r78)]) [1, 2, 3, 4, 5, 6, 7, 8, 0] rfl ?_
        refine k_iload C 43 rfl 8 rfl ?_
        refine k_aload_0 C 44 rfl 0 rfl ?_
        refine kg6_0 C 45 rfl qX6_33 0 S_c0 S_f0_0 ?_
        refine kg10_0 C 46 rfl qX6_65 8 S_c8 S_f8_0 ?_
        refine kg9_15 C 47 rfl qX6_96 9 S_c9 S_f9_15 ?_
        refine k_iload_1 C 48 rfl 1 rfl ?_
        obtain ⟨i96, hi, hin, hf⟩ := ixd_some hf
        refine k_iald C 49 rfl 19 S_c19 hin hi ?_
        refine k_iadd C 50 rfl ?_
        obtain ⟨x5_98, hx, hf⟩ := bnd_some hf
        refine k_topi hx ?_
        refine k_istore C 51 rfl (by decide) rfl ?_
        refine k_sub (lv2 := [(0, .ref (c 0)), (1, .int p1), (2, .int p2), (3, .ref (c 5)), (4, .int x4), (5, .int x5_98), (6, .int x6), (7, .int x7), (8, .int r78)]) [1, 2, 3, 4, 5, 0, 6, 7, 8] rfl ?_
        refine k_iload C 52 rfl 5 rfl ?_
        refine k_sipush C 53 rfl cs_999 ?_
        refine k_icmp_le C 54 rfl 109 (by decide) (fun hc => ?_) (fun hc => ?_)
        · replace hf := if_t hf hc
          refine k_aload_3 C 56 rfl 3 rfl ?_
          refine k_iload C 57 rfl 4 rfl ?_
          refine k_iload C 58 rfl 4 rfl ?_
          refine k_iload C 59 rfl 6 rfl ?_
          refine k_iadd C 60 rfl ?_
          refine k_mmin C 61 rfl qX6_99 jw_min (Nat.le_of_ble_eq_true rfl) (Nat.le_of_ble_eq_true rfl) (Nat.le_of_ble_eq_true rfl) ⟨Nat.le_refl 0, Nat.le_refl 0⟩ ?_
          refine k_iload C 62 rfl 8 rfl ?_
          obtain ⟨i122, hi, hin, hf⟩ := ixd_some hf
          obtain ⟨S_122, hM, hf⟩ := bnd_some hf
          refine k_iast (w2 := (wS cy c a S_122 T O E X)) C 63 rfl 5 S_c5 hin hi (S_s5.trans (congrArg (fun z => (wS cy c a z T O E X)) hM)) ?_
          refine k_iload C 64 rfl 4 rfl ?_
          refine k_iload C 65 rfl 6 rfl ?_
          refine k_iadd C 66 rfl ?_
          obtain ⟨x4_128, hx, hf⟩ := bnd_some hf
          refine k_topi hx ?_
          refine k_istore C 67 rfl (by decide) rfl ?_
          refine k_sub (lv2 := [(0, .ref (c 0)), (1, .int p1), (2, .int p2), (3, .ref (c 5)), (4, .int x4_128), (5, .int x5_98), (6, .int x6), (7, .int x7), (8, .int r78)]) [1, 2, 3, 4, 0, 5, 6, 7, 8] rfl ?_
          obtain ⟨x7_130, hx, hf⟩ := bnd_some hf
          refine k_iinc C 68 rfl 7 rfl ((cn_1 _).trans hx) (by decide) rfl ?_
          refine k_sub (lv2 := [(0, .ref (c 0)), (1, .int p1), (2, .int p2), (3, .ref (c 5)), (4, .int x4_128), (5, .int x5_98), (6, .int x6), (7, .int x7_130), (8, .int r78)]) [1, 2, 3, 4, 5, 6, 7, 0, 8] rfl ?_
          refine k_goto C 69 rfl 51 (by decide) ?_
          exact k_sub [0, 1, 2, 3, 4, 5, 6, 7] rfl (hk51 x4_128 x5_98 x6 x7_130 S_122 hf)
        · replace hf := if_f hf hc
          exact k_vret (wf := (fun u => (wS cy c a u T O E X))) hR 55 rfl hf
  have hb51 := flW5 hq51
  have hb46 : ∀ (x4 : Int32) (x5 : Int32) (s0 : Int32) (S : Sg), f_X6_walk_v2_b46 T O p1 p2 x4 x5 s0 S = some S1 → Wk Z D 9 0 0 (wS cy c a S T O E X) 46 [(0, .ref (c 0)), (1, .int p1), (2, .int p2), (3, .ref (c 5)), (4, .int x4), (5, .int x5)] [.int s0] := by
    intro x4 x5 s0 S hf
    unfold f_X6_walk_v2_b46 at hf
    refine k_istore C 24 rfl (by decide) rfl ?_
    refine k_sub (lv2 := [(0, .ref (c 0)), (1, .int p1), (2, .int p2), (3, .ref (c 5)), (4, .int x4), (5, .int x5), (6, .int s0)]) [1, 2, 3, 4, 5, 6, 0] rfl ?_
    refine k_iconst C 25 rfl ci_0 ?_
    refine k_istore C 26 rfl (by decide) rfl ?_
    refine k_sub (lv2 := [(0, .ref (c 0)), (1, .int p1), (2, .int p2), (3, .ref (c 5)), (4, .int x4), (5, .int x5), (6, .int s0), (7, .int 0)]) [1, 2, 3, 4, 5, 6, 7, 0] rfl ?_
    exact k_sub [0, 1, 2, 3, 4, 5, 6, 7] rfl (hb51 FU x4 x5 s0 0 S hf)
  refine k_aload_3 C 0 rfl 3 rfl ?_
  refine k_ldc C 1 rfl qX6_58 ?_
  obtain ⟨S_3, hM, hf⟩ := bnd_some hf
  refine k_fill (w2 := (wS cy c a S_3 T O E X)) C 2 rfl qX6_59 5 S_c5 (by decide) (Nat.le_of_ble_eq_true rfl) (Nat.le_of_ble_eq_true rfl) (Nat.le_of_ble_eq_true rfl) ⟨Nat.le_refl 0, Nat.le_refl 0⟩ (S_r5.trans (congrArg (fun z => (wS cy c a z T O E X)) hM)) ?_
  refine k_aload_0 C 3 rfl 0 rfl ?_
  refine kg6_0 C 4 rfl qX6_33 0 S_c0 S_f0_0 ?_
  refine k_iload_1 C 5 rfl 1 rfl ?_
  obtain ⟨r11, h5, hf⟩ := ob1_some hf
  refine k_callV (X := (wS cy c a S_3 T O E X).take 8) (Y := (wS cy c a S_3 T O E X).drop 31) (w2 := (wS cy c a S_3 T O E X)) C 6 (c_X10_placeOf Z.2.1 D cy a T O E X p1 r11 h5) rfl qX6_117 mvX10_placeOf 0 10 W_c0 rfl rfl rfl rfl rfl (Nat.le_of_ble_eq_true rfl) ⟨Nat.le_of_ble_eq_true rfl, Nat.le_of_ble_eq_true rfl, Nat.le_refl 0, Nat.le_refl 0⟩ ?_
  refine k_istore C 7 rfl (by decide) rfl ?_
  refine k_sub (lv2 := [(0, .ref (c 0)), (1, .int p1), (2, .int p2), (3, .ref (c 5)), (4, .int r11)]) [1, 2, 3, 4, 0] rfl ?_
  refine k_aload_0 C 8 rfl 0 rfl ?_
  refine k_iload_1 C 9 rfl 1 rfl ?_
  refine k_aload_0 C 10 rfl 0 rfl ?_
  refine kg6_0 C 11 rfl qX6_33 0 S_c0 S_f0_0 ?_
  refine kg10_0 C 12 rfl qX6_65 8 S_c8 S_f8_0 ?_
  refine kg9_14 C 13 rfl qX6_134 9 S_c9 S_f9_14 ?_
  refine k_iload_1 C 14 rfl 1 rfl ?_
  obtain ⟨i29, hi, hin, hf⟩ := ixd_some hf
  refine k_iald C 15 rfl 18 S_c18 hin hi ?_
  obtain ⟨r30, h5, hf⟩ := ob1_some hf
  refine k_callW C 16 (c_X6_startOf Z.2.1 D cy c a S_3 T O E X p1 (T.2.1 14 i29) r30 h5) rfl qX6_120 mvX6_startOf 0 6 S_c0 rfl rfl rfl (Nat.le_of_ble_eq_true rfl) ⟨Nat.le_of_ble_eq_true rfl, Nat.le_of_ble_eq_true rfl, Nat.le_refl 0, Nat.le_refl 0⟩ ?_
  refine k_istore C 17 rfl (by decide) rfl ?_
  refine k_sub (lv2 := [(0, .ref (c 0)), (1, .int p1), (2, .int p2), (3, .ref (c 5)), (4, .int r11), (5, .int r30)]) [1, 2, 3, 4, 5, 0] rfl ?_
  refine k_iload_2 C 18 rfl 2 rfl ?_
  refine k_iload C 19 rfl 4 rfl ?_
  refine k_icmp_ge C 20 rfl 45 (by decide) (fun hc => ?_) (fun hc => ?_)
  · replace hf := if_t hf hc
    refine k_iconst C 23 rfl ci_1 ?_
    exact k_sub [0, 1, 2, 3, 4, 5] rfl (hb46 r11 r30 1 S_3 hf)
  · replace hf := if_f hf hc
    refine k_iconst C 21 rfl ci_m1 ?_
    refine k_goto C 22 rfl 46 (by decide) ?_
    exact k_sub [0, 1, 2, 3, 4, 5] rfl (hb46 r11 r30 (-1) S_3 hf)
