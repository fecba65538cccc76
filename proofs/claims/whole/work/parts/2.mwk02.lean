set_option maxHeartbeats 1000000 in
set_option maxRecDepth 20000 in
theorem c_X12_isLineWord (l : Launch) (D : va_G) (cy : Nat → ClassId) (a : Nat → Nat) (M : Sg) (r : Bool) (M1 : Sg) (hf : f_X12_isLineWord M = some (r, M1)) : Ct l D cy yX12_isLineWord cX12_isLineWord 2 (some .boolean) 2 46 0 0 [.ref (a 0)] (mw cy a M) (some (.int (bI r))) (mw cy a M1) := by
  refine Ct_z tX12_isLineWord hX12_isLineWord (by decide) (Nat.le_of_ble_eq_true rfl) ?_
  intro Z hZ C hR
  subst hZ
  replace C : Cx Z D cy RX12 tX12_isLineWord 2 2 46 0 0 := C
  show Wk Z D 2 0 0 (mw cy a M) 0 [(0, .ref (a 0))] []
  unfold f_X12_isLineWord at hf
  have hb110 : ∀ (M : Sg), f_X12_isLineWord_b110 M = some (r, M1) → Wk Z D 2 0 0 (mw cy a M) 110 [] [] := by
    intro M hf
    unfold f_X12_isLineWord_b110 at hf
    refine k_iconst C 46 rfl ci_1 ?_
    refine k_goto C 47 rfl 115 (by decide) ?_
    exact k_zret (wf := (fun u => (mw cy a u))) hR 49 rfl hf
  have hb55 : ∀ (s0 : Int32) (M : Sg), f_X12_isLineWord_b55 s0 M = some (r, M1) → Wk Z D 2 0 0 (mw cy a M) 55 [(0, .ref (a 0))] [.int s0] := by
    intro s0 M hf
    unfold f_X12_isLineWord_b55 at hf
    refine k_istore_1 C 23 rfl (by decide) rfl ?_
    refine k_sub (lv2 := [(0, .ref (a 0)), (1, .int s0)]) [1, 0] rfl ?_
    refine k_iload_1 C 24 rfl 1 rfl ?_
    refine k_if_ne C 25 rfl 110 (by decide) (fun hc => ?_) (fun hc => ?_)
    · replace hf := if_f hf hc
      exact k_sub [] rfl (hb110 M hf)
    · replace hf := if_t hf hc
      refine k_aload_0 C 26 rfl 0 rfl ?_
      refine k_ldc2 C 27 rfl qX12_254 ?_
      obtain ⟨r64, M_64, h5, hf⟩ := ob2_some hf
      refine k_callW C 28 (c_X12_isWord Z.2.1 D cy a M (32776920184415609 : Int64) r64 M_64 h5) rfl qX12_107 mvX12_isWord 0 12 M_c0 rfl rfl rfl (Nat.le_of_ble_eq_true rfl) ⟨Nat.le_of_ble_eq_true rfl, Nat.le_of_ble_eq_true rfl, Nat.le_refl 0, Nat.le_refl 0⟩ ?_
      refine k_if_ne C 29 rfl 110 (by decide) (fun hc => ?_) (fun hc => ?_)
      · replace hf := if_f hf hc
        exact k_sub [] rfl (hb110 M_64 hf)
      · replace hf := if_t hf hc
        refine k_aload_0 C 30 rfl 0 rfl ?_
        refine k_ldc2 C 31 rfl qX12_150 ?_
        obtain ⟨r74, M_74, h5, hf⟩ := ob2_some hf
        refine k_callW C 32 (c_X12_isWord Z.2.1 D cy a M_64 (495622124659 : Int64) r74 M_74 h5) rfl qX12_107 mvX12_isWord 0 12 M_c0 rfl rfl rfl (Nat.le_of_ble_eq_true rfl) ⟨Nat.le_of_ble_eq_true rfl, Nat.le_of_ble_eq_true rfl, Nat.le_refl 0, Nat.le_refl 0⟩ ?_
        refine k_if_ne C 33 rfl 110 (by decide) (fun hc => ?_) (fun hc => ?_)
        · replace hf := if_f hf hc
          exact k_sub [] rfl (hb110 M_74 hf)
        · replace hf := if_t hf hc
          refine k_aload_0 C 34 rfl 0 rfl ?_
          refine k_ldc2 C 35 rfl qX12_128 ?_
          obtain ⟨r84, M_84, h5, hf⟩ := ob2_some hf
          refine k_callW C 36 (c_X12_isWord Z.2.1 D cy a M_74 (491394458994 : Int64) r84 M_84 h5) rfl qX12_107 mvX12_isWord 0 12 M_c0 rfl rfl rfl (Nat.le_of_ble_eq_true rfl) ⟨Nat.le_of_ble_eq_true rfl, Nat.le_of_ble_eq_true rfl, Nat.le_refl 0, Nat.le_refl 0⟩ ?_
          refine k_if_ne C 37 rfl 110 (by decide) (fun hc => ?_) (fun hc => ?_)
          · replace hf := if_f hf hc
            exact k_sub [] rfl (hb110 M_84 hf)
          · replace hf := if_t hf hc
            refine k_aload_0 C 38 rfl 0 rfl ?_
            refine k_ldc2 C 39 rfl qX12_263 ?_
            obtain ⟨r94, M_94, h5, hf⟩ := ob2_some hf
            refine k_callW C 40 (c_X12_isWord Z.2.1 D cy a M_84 (1953459300 : Int64) r94 M_94 h5) rfl qX12_107 mvX12_isWord 0 12 M_c0 rfl rfl rfl (Nat.le_of_ble_eq_true rfl) ⟨Nat.le_of_ble_eq_true rfl, Nat.le_of_ble_eq_true rfl, Nat.le_refl 0, Nat.le_refl 0⟩ ?_
            refine k_if_ne C 41 rfl 110 (by decide) (fun hc => ?_) (fun hc => ?_)
            · replace hf := if_f hf hc
              exact k_sub [] rfl (hb110 M_94 hf)
            · replace hf := if_t hf hc
              refine k_aload_0 C 42 rfl 0 rfl ?_
              refine k_ldc2 C 43 rfl qX12_265 ?_
              obtain ⟨r104, M_104, h5, hf⟩ := ob2_some hf
              refine k_callW C 44 (c_X12_isWord Z.2.1 D cy a M_94 (8100956982295360109 : Int64) r104 M_104 h5) rfl qX12_107 mvX12_isWord 0 12 M_c0 rfl rfl rfl (Nat.le_of_ble_eq_true rfl) ⟨Nat.le_of_ble_eq_true rfl, Nat.le_of_ble_eq_true rfl, Nat.le_refl 0, Nat.le_refl 0⟩ ?_
              refine k_if_eq C 45 rfl 114 (by decide) (fun hc => ?_) (fun hc => ?_)
              · replace hf := if_t hf hc
                refine k_iconst C 48 rfl ci_0 ?_
                exact k_zret (wf := (fun u => (mw cy a u))) hR 49 rfl hf
              · replace hf := if_f hf hc
                exact k_sub [] rfl (hb110 M_104 hf)
  have hb50 : ∀ (M : Sg), f_X12_isLineWord_b50 M = some (r, M1) → Wk Z D 2 0 0 (mw cy a M) 50 [(0, .ref (a 0))] [] := by
    intro M hf
    unfold f_X12_isLineWord_b50 at hf
    refine k_iconst C 20 rfl ci_1 ?_
    refine k_goto C 21 rfl 55 (by decide) ?_
    exact k_sub [0] rfl (hb55 1 M hf)
  refine k_aload_0 C 0 rfl 0 rfl ?_
  refine k_ldc2 C 1 rfl qX12_230 ?_
  obtain ⟨r4, M_4, h5, hf⟩ := ob2_some hf
  refine k_callW C 2 (c_X12_isWord Z.2.1 D cy a M (500135192942 : Int64) r4 M_4 h5) rfl qX12_107 mvX12_isWord 0 12 M_c0 rfl rfl rfl (Nat.le_of_ble_eq_true rfl) ⟨Nat.le_of_ble_eq_true rfl, Nat.le_of_ble_eq_true rfl, Nat.le_refl 0, Nat.le_refl 0⟩ ?_
  refine k_if_ne C 3 rfl 50 (by decide) (fun hc => ?_) (fun hc => ?_)
  · replace hf := if_f hf hc
    exact k_sub [0] rfl (hb50 M_4 hf)
  · replace hf := if_t hf hc
    refine k_aload_0 C 4 rfl 0 rfl ?_
    refine k_ldc2 C 5 rfl qX12_130 ?_
    obtain ⟨r14, M_14, h5, hf⟩ := ob2_some hf
    refine k_callW C 6 (c_X12_isWord Z.2.1 D cy a M_4 (1684370292 : Int64) r14 M_14 h5) rfl qX12_107 mvX12_isWord 0 12 M_c0 rfl rfl rfl (Nat.le_of_ble_eq_true rfl) ⟨Nat.le_of_ble_eq_true rfl, Nat.le_of_ble_eq_true rfl, Nat.le_refl 0, Nat.le_refl 0⟩ ?_
    refine k_if_ne C 7 rfl 50 (by decide) (fun hc => ?_) (fun hc => ?_)
    · replace hf := if_f hf hc
      exact k_sub [0] rfl (hb50 M_14 hf)
    · replace hf := if_t hf hc
      refine k_aload_0 C 8 rfl 0 rfl ?_
      refine k_ldc2 C 9 rfl qX12_238 ?_
      obtain ⟨r24, M_24, h5, hf⟩ := ob2_some hf
      refine k_callW C 10 (c_X12_isWord Z.2.1 D cy a M_14 (1937010544 : Int64) r24 M_24 h5) rfl qX12_107 mvX12_isWord 0 12 M_c0 rfl rfl rfl (Nat.le_of_ble_eq_true rfl) ⟨Nat.le_of_ble_eq_true rfl, Nat.le_of_ble_eq_true rfl, Nat.le_refl 0, Nat.le_refl 0⟩ ?_
      refine k_if_ne C 11 rfl 50 (by decide) (fun hc => ?_) (fun hc => ?_)
      · replace hf := if_f hf hc
        exact k_sub [0] rfl (hb50 M_24 hf)
      · replace hf := if_t hf hc
        refine k_aload_0 C 12 rfl 0 rfl ?_
        refine k_ldc2 C 13 rfl qX12_243 ?_
        obtain ⟨r34, M_34, h5, hf⟩ := ob2_some hf
        refine k_callW C 14 (c_X12_isWord Z.2.1 D cy a M_24 (31632341598826087 : Int64) r34 M_34 h5) rfl qX12_107 mvX12_isWord 0 12 M_c0 rfl rfl rfl (Nat.le_of_ble_eq_true rfl) ⟨Nat.le_of_ble_eq_true rfl, Nat.le_of_ble_eq_true rfl, Nat.le_refl 0, Nat.le_refl 0⟩ ?_
        refine k_if_ne C 15 rfl 50 (by decide) (fun hc => ?_) (fun hc => ?_)
        · replace hf := if_f hf hc
          exact k_sub [0] rfl (hb50 M_34 hf)
        · replace hf := if_t hf hc
          refine k_aload_0 C 16 rfl 0 rfl ?_
          refine k_ldc2 C 17 rfl qX12_249 ?_
          obtain ⟨r44, M_44, h5, hf⟩ := ob2_some hf
          refine k_callW C 18 (c_X12_isWord Z.2.1 D cy a M_34 (1936225652 : Int64) r44 M_44 h5) rfl qX12_107 mvX12_isWord 0 12 M_c0 rfl rfl rfl (Nat.le_of_ble_eq_true rfl) ⟨Nat.le_of_ble_eq_true rfl, Nat.le_of_ble_eq_true rfl, Nat.le_refl 0, Nat.le_refl 0⟩ ?_
          refine k_if_eq C 19 rfl 54 (by decide) (fun hc => ?_) (fun hc => ?_)
          · replace hf := if_t hf hc
            refine k_iconst C 22 rfl ci_0 ?_
            exact k_sub [0] rfl (hb55 0 M_44 hf)
          · replace hf := if_f hf hc
            exact k_sub [0] rfl (hb50 M_44 hf)
set_option maxHeartbeats 1000000 in
set_option maxRecDepth 20000 in
theorem c_X12_clauseHere (l : Launch) (D : va_G) (cy : Nat → ClassId) (a : Nat → Nat) (M : Sg) (r : Bool) (M1 : Sg) (hf : f_X12_clauseHere M = some (r, M1)) : Ct l D cy yX12_clauseHere cX12_clauseHere 3 (some .boolean) 10 220 0 0 [.ref (a 0)] (mw cy a M) (some (.int (bI r))) (mw cy a M1) := by
  refine Ct_z tX12_clauseHere hX12_clauseHere (by decide) (Nat.le_of_ble_eq_true rfl) ?_
  intro Z hZ C hR
  subst hZ
  replace C : Cx Z D cy RX12 tX12_clauseHere 3 10 220 0 0 := C
  show Wk Z D 3 0 0 (mw cy a M) 0 [(0, .ref (a 0))] []
  unfold f_X12_clauseHere at hf
  have hb153 : ∀ (s1 : Int32) (M : Sg), f_X12_clauseHere_b153 s1 M = some (r, M1) → Wk Z D 3 0 0 (mw cy a M) 153 [] [.int s1, .ref (a 0)] := by
    intro s1 M hf
    unfold f_X12_clauseHere_b153 at hf
    obtain ⟨r153, M_153, h5, hf⟩ := ob2_some hf
    refine k_callW C 76 (c_X12_isDoingHere Z.2.1 D cy a M s1 r153 M_153 h5) rfl qX12_282 mvX12_isDoingHere 0 12 M_c0 rfl rfl rfl (Nat.le_of_ble_eq_true rfl) ⟨Nat.le_of_ble_eq_true rfl, Nat.le_of_ble_eq_true rfl, Nat.le_refl 0, Nat.le_refl 0⟩ ?_
    exact k_zret (wf := (fun u => (mw cy a u))) hR 77 rfl hf
  have hb91 : ∀ (x1 : Int32) (x2 : Int32) (s0 : Int32) (s1 : Int32) (M : Sg), f_X12_clauseHere_b91 x1 x2 s0 s1 M = some (r, M1) → Wk Z D 3 0 0 (mw cy a M) 91 [(0, .ref (a 0)), (1, .int x1), (2, .int x2)] [.int s1, .int s0] := by
    intro x1 x2 s0 s1 M hf
    unfold f_X12_clauseHere_b91 at hf
    refine k_icmp_ne C 44 rfl 101 (by decide) (fun hc => ?_) (fun hc => ?_)
    · replace hf := if_f hf hc
      refine k_aload_0 C 50 rfl 0 rfl ?_
      refine k_dup C 51 rfl rfl ?_
      refine kg12_14 C 52 rfl qX12_276 0 M_c0 M_f0_14 ?_
      refine k_iconst C 53 rfl ci_1 ?_
      refine k_iadd C 54 rfl ?_
      obtain ⟨M_108, hM, hf⟩ := bnd_some hf
      refine kp12_14 (w2 := (mw cy a M_108)) C 55 rfl qX12_276 0 M_c0 (v := ((M.1 14) + 1)) M_n0 (M_p0_14.trans (congrArg (fun z => (mw cy a z)) hM)) ?_
      refine k_iload_2 C 56 rfl 2 rfl ?_
      refine k_if_eq C 57 rfl 123 (by decide) (fun hc => ?_) (fun hc => ?_)
      · replace hf := if_t hf hc
        refine k_aload_0 C 62 rfl 0 rfl ?_
        refine k_aload_0 C 63 rfl 0 rfl ?_
        refine k_ldc2 C 64 rfl qX12_270 ?_
        obtain ⟨r128, M_128, h5, hf⟩ := ob2_some hf
        refine k_callW C 65 (c_X12_isWord Z.2.1 D cy a M_108 (115923103605861 : Int64) r128 M_128 h5) rfl qX12_107 mvX12_isWord 0 12 M_c0 rfl rfl rfl (Nat.le_of_ble_eq_true rfl) ⟨Nat.le_of_ble_eq_true rfl, Nat.le_of_ble_eq_true rfl, Nat.le_refl 0, Nat.le_refl 0⟩ ?_
        refine k_if_eq C 66 rfl 138 (by decide) (fun hc => ?_) (fun hc => ?_)
        · replace hf := if_t hf hc
          refine k_aload_0 C 69 rfl 0 rfl ?_
          refine k_ldc2 C 70 rfl qX12_272 ?_
          obtain ⟨r142, M_142, h5, hf⟩ := ob2_some hf
          refine k_callW C 71 (c_X12_isWord Z.2.1 D cy a M_128 (31372865427825765 : Int64) r142 M_142 h5) rfl qX12_107 mvX12_isWord 0 12 M_c0 rfl rfl rfl (Nat.le_of_ble_eq_true rfl) ⟨Nat.le_of_ble_eq_true rfl, Nat.le_of_ble_eq_true rfl, Nat.le_refl 0, Nat.le_refl 0⟩ ?_
          refine k_if_eq C 72 rfl 152 (by decide) (fun hc => ?_) (fun hc => ?_)
          · replace hf := if_t hf hc
            refine k_iconst C 75 rfl ci_2 ?_
            exact k_sub [] rfl (hb153 2 M_142 hf)
          · replace hf := if_f hf hc
            refine k_iconst C 73 rfl ci_1 ?_
            refine k_goto C 74 rfl 153 (by decide) ?_
            exact k_sub [] rfl (hb153 1 M_142 hf)
        · replace hf := if_f hf hc
          refine k_iconst C 67 rfl ci_0 ?_
          refine k_goto C 68 rfl 153 (by decide) ?_
          exact k_sub [] rfl (hb153 0 M_128 hf)
      · replace hf := if_f hf hc
        refine k_aload_0 C 58 rfl 0 rfl ?_
        refine k_iload_1 C 59 rfl 1 rfl ?_
        obtain ⟨r117, M_117, h5, hf⟩ := ob2_some hf
        refine k_callW C 60 (c_X12_lineLineHere Z.2.1 D cy a M_108 x1 r117 M_117 h5) rfl qX12_279 mvX12_lineLineHere 0 12 M_c0 rfl rfl rfl (Nat.le_of_ble_eq_true rfl) ⟨Nat.le_of_ble_eq_true rfl, Nat.le_of_ble_eq_true rfl, Nat.le_refl 0, Nat.le_refl 0⟩ ?_
        refine k_goto C 61 rfl 156 (by decide) ?_
        exact k_zret (wf := (fun u => (mw cy a u))) hR 77 rfl hf
    · replace hf := if_t hf hc
      refine k_aload_0 C 45 rfl 0 rfl ?_
      refine k_iconst C 46 rfl ci_4 ?_
      refine k_iload_1 C 47 rfl 1 rfl ?_
      obtain ⟨r97, M_97, h5, hf⟩ := ob2_some hf
      refine k_callW C 48 (c_X12_fails Z.2.1 D cy a M 4 x1 r97 M_97 h5) rfl qX12_117 mvX12_fails 0 12 M_c0 rfl rfl rfl (Nat.le_of_ble_eq_true rfl) ⟨Nat.le_of_ble_eq_true rfl, Nat.le_of_ble_eq_true rfl, Nat.le_refl 0, Nat.le_refl 0⟩ ?_
      exact k_zret (wf := (fun u => (mw cy a u))) hR 49 rfl hf
  have hb76 : ∀ (x1 : Int32) (x2 : Int32) (M : Sg), f_X12_clauseHere_b76 x1 x2 M = some (r, M1) → Wk Z D 3 0 0 (mw cy a M) 76 [(0, .ref (a 0)), (1, .int x1), (2, .int x2)] [] := by
    intro x1 x2 M hf
    unfold f_X12_clauseHere_b76 at hf
    refine k_aload_0 C 37 rfl 0 rfl ?_
    refine kg12_14 C 38 rfl qX12_276 0 M_c0 M_f0_14 ?_
    refine k_iload_2 C 39 rfl 2 rfl ?_
    refine k_if_eq C 40 rfl 89 (by decide) (fun hc => ?_) (fun hc => ?_)
    · replace hf := if_t hf hc
      refine k_bipush C 43 rfl cb_12 ?_
      exact k_sub [0, 1, 2] rfl (hb91 x1 x2 (M.1 14) 12 M hf)
    · replace hf := if_f hf hc
      refine k_bipush C 41 rfl cb_40 ?_
      refine k_goto C 42 rfl 91 (by decide) ?_
      exact k_sub [0, 1, 2] rfl (hb91 x1 x2 (M.1 14) 40 M hf)
  have hb69 : ∀ (x1 : Int32) (M : Sg), f_X12_clauseHere_b69 x1 M = some (r, M1) → Wk Z D 3 0 0 (mw cy a M) 69 [(0, .ref (a 0)), (1, .int x1)] [] := by
    intro x1 M hf
    unfold f_X12_clauseHere_b69 at hf
    refine k_aload_0 C 32 rfl 0 rfl ?_
    refine k_iconst C 33 rfl ci_0 ?_
    refine k_iload_1 C 34 rfl 1 rfl ?_
    obtain ⟨r72, M_72, h5, hf⟩ := ob2_some hf
    refine k_callW C 35 (c_X12_fails Z.2.1 D cy a M 0 x1 r72 M_72 h5) rfl qX12_117 mvX12_fails 0 12 M_c0 rfl rfl rfl (Nat.le_of_ble_eq_true rfl) ⟨Nat.le_of_ble_eq_true rfl, Nat.le_of_ble_eq_true rfl, Nat.le_refl 0, Nat.le_refl 0⟩ ?_
    exact k_zret (wf := (fun u => (mw cy a u))) hR 36 rfl hf
  have hb24 : ∀ (x1 : Int32) (s0 : Int32) (M : Sg), f_X12_clauseHere_b24 x1 s0 M = some (r, M1) → Wk Z D 3 0 0 (mw cy a M) 24 [(0, .ref (a 0)), (1, .int x1)] [.int s0] := by
    intro x1 s0 M hf
    unfold f_X12_clauseHere_b24 at hf
    refine k_istore_2 C 13 rfl (by decide) rfl ?_
    refine k_sub (lv2 := [(0, .ref (a 0)), (1, .int x1), (2, .int s0)]) [1, 2, 0] rfl ?_
    refine k_iload_2 C 14 rfl 2 rfl ?_
    refine k_if_eq C 15 rfl 39 (by decide) (fun hc => ?_) (fun hc => ?_)
    · replace hf := if_t hf hc
      refine k_aload_0 C 20 rfl 0 rfl ?_
      refine k_ldc2 C 21 rfl qX12_270 ?_
      obtain ⟨r43, M_43, h5, hf⟩ := ob2_some hf
      refine k_callW C 22 (c_X12_isWord Z.2.1 D cy a M (115923103605861 : Int64) r43 M_43 h5) rfl qX12_107 mvX12_isWord 0 12 M_c0 rfl rfl rfl (Nat.le_of_ble_eq_true rfl) ⟨Nat.le_of_ble_eq_true rfl, Nat.le_of_ble_eq_true rfl, Nat.le_refl 0, Nat.le_refl 0⟩ ?_
      refine k_if_ne C 23 rfl 76 (by decide) (fun hc => ?_) (fun hc => ?_)
      · replace hf := if_f hf hc
        exact k_sub [0, 1, 2] rfl (hb76 x1 s0 M_43 hf)
      · replace hf := if_t hf hc
        refine k_aload_0 C 24 rfl 0 rfl ?_
        refine k_ldc2 C 25 rfl qX12_272 ?_
        obtain ⟨r53, M_53, h5, hf⟩ := ob2_some hf
        refine k_callW C 26 (c_X12_isWord Z.2.1 D cy a M_43 (31372865427825765 : Int64) r53 M_53 h5) rfl qX12_107 mvX12_isWord 0 12 M_c0 rfl rfl rfl (Nat.le_of_ble_eq_true rfl) ⟨Nat.le_of_ble_eq_true rfl, Nat.le_of_ble_eq_true rfl, Nat.le_refl 0, Nat.le_refl 0⟩ ?_
        refine k_if_ne C 27 rfl 76 (by decide) (fun hc => ?_) (fun hc => ?_)
        · replace hf := if_f hf hc
          exact k_sub [0, 1, 2] rfl (hb76 x1 s0 M_53 hf)
        · replace hf := if_t hf hc
          refine k_aload_0 C 28 rfl 0 rfl ?_
          refine k_ldc2 C 29 rfl qX12_274 ?_
          obtain ⟨r63, M_63, h5, hf⟩ := ob2_some hf
          refine k_callW C 30 (c_X12_isWord Z.2.1 D cy a M_53 (1937006969 : Int64) r63 M_63 h5) rfl qX12_107 mvX12_isWord 0 12 M_c0 rfl rfl rfl (Nat.le_of_ble_eq_true rfl) ⟨Nat.le_of_ble_eq_true rfl, Nat.le_of_ble_eq_true rfl, Nat.le_refl 0, Nat.le_refl 0⟩ ?_
          refine k_if_ne C 31 rfl 76 (by decide) (fun hc => ?_) (fun hc => ?_)
          · replace hf := if_f hf hc
            exact k_sub [0, 1, 2] rfl (hb76 x1 s0 M_63 hf)
          · replace hf := if_t hf hc
            exact k_sub [0, 1] rfl (hb69 x1 M_63 hf)
    · replace hf := if_f hf hc
      refine k_aload_0 C 16 rfl 0 rfl ?_
      obtain ⟨r30, M_30, h5, hf⟩ := ob2_some hf
      refine k_callW C 17 (c_X12_isLineWord Z.2.1 D cy a M r30 M_30 h5) rfl qX12_267 mvX12_isLineWord 0 12 M_c0 rfl rfl rfl (Nat.le_of_ble_eq_true rfl) ⟨Nat.le_of_ble_eq_true rfl, Nat.le_of_ble_eq_true rfl, Nat.le_refl 0, Nat.le_refl 0⟩ ?_
      refine k_if_ne C 18 rfl 76 (by decide) (fun hc => ?_) (fun hc => ?_)
      · replace hf := if_f hf hc
        exact k_sub [0, 1, 2] rfl (hb76 x1 s0 M_30 hf)
      · replace hf := if_t hf hc
        refine k_goto C 19 rfl 69 (by decide) ?_
        exact k_sub [0, 1] rfl (hb69 x1 M_30 hf)
  refine k_aload_0 C 0 rfl 0 rfl ?_
  obtain ⟨r1, M_1, h5, hf⟩ := ob2_some hf
  refine k_callW C 1 (c_X12_see Z.2.1 D cy a M r1 M_1 h5) rfl qX12_99 mvX12_see 0 12 M_c0 rfl rfl rfl (Nat.le_of_ble_eq_true rfl) ⟨Nat.le_of_ble_eq_true rfl, Nat.le_of_ble_eq_true rfl, Nat.le_refl 0, Nat.le_refl 0⟩ ?_
  refine k_pop C 2 rfl rfl ?_
  refine k_aload_0 C 3 rfl 0 rfl ?_
  refine kg12_8 C 4 rfl qX12_96 0 M_c0 M_f0_8 ?_
  obtain ⟨x1_9, hx, hf⟩ := bnd_some hf
  refine k_topi hx ?_
  refine k_istore_1 C 5 rfl (by decide) rfl ?_
  refine k_sub (lv2 := [(0, .ref (a 0)), (1, .int x1_9)]) [1, 0] rfl ?_
  refine k_aload_0 C 6 rfl 0 rfl ?_
  refine kg12_11 C 7 rfl qX12_154 0 M_c0 M_f0_11 ?_
  refine k_bipush C 8 rfl cb_6 ?_
  refine k_icmp_ne C 9 rfl 23 (by decide) (fun hc => ?_) (fun hc => ?_)
  · replace hf := if_f hf hc
    refine k_iconst C 12 rfl ci_0 ?_
    exact k_sub [0, 1] rfl (hb24 x1_9 0 M_1 hf)
  · replace hf := if_t hf hc
    refine k_iconst C 10 rfl ci_1 ?_
    refine k_goto C 11 rfl 24 (by decide) ?_
    exact k_sub [0, 1] rfl (hb24 x1_9 1 M_1 hf)
set_option maxHeartbeats 1000000 in
set_option maxRecDepth 20000 in
theorem c_X12_readsAll (l : Launch) (D : va_G) (cy : Nat → ClassId) (a : Nat → Nat) (M : Sg) (r : Bool) (M1 : Sg) (hf : f_X12_readsAll M = some (r, M1)) : Ct l D cy yX12_readsAll cX12_readsAll 2 (some .boolean) 11 242 0 0 [.ref (a 0)] (mw cy a M) (some (.int (bI r))) (mw cy a M1) := by
  refine Ct_z tX12_readsAll hX12_readsAll (by decide) (Nat.le_of_ble_eq_true rfl) ?_
  intro Z hZ C hR
  subst hZ
  replace C : Cx Z D cy RX12 tX12_readsAll 2 11 242 0 0 := C
  show Wk Z D 2 0 0 (mw cy a M) 0 [(0, .ref (a 0))] []
  unfold f_X12_readsAll at hf
  have hb120 : ∀ (M : Sg), f_X12_readsAll_b120 M = some (r, M1) → Wk Z D 2 0 0 (mw cy a M) 120 [(0, .ref (a 0))] [] := by
    intro M hf
    unfold f_X12_readsAll_b120 at hf
    refine k_aload_0 C 66 rfl 0 rfl ?_
    refine k_iconst C 67 rfl ci_0 ?_
    obtain ⟨M_122, hM, hf⟩ := bnd_some hf
    refine kp12_1 (w2 := (mw cy a M_122)) C 68 rfl qX12_85 0 M_c0 (v := 0) M_n0 (M_p0_1.trans (congrArg (fun z => (mw cy a z)) hM)) ?_
    refine k_aload_0 C 69 rfl 0 rfl ?_
    refine kg12_9 C 70 rfl qX12_93 0 M_c0 M_f0_9 ?_
    refine k_if_ne C 71 rfl 136 (by decide) (fun hc => ?_) (fun hc => ?_)
    · replace hf := if_f hf hc
      refine k_iconst C 74 rfl ci_0 ?_
      exact k_zret (wf := (fun u => (mw cy a u))) hR 75 rfl hf
    · replace hf := if_t hf hc
      refine k_iconst C 72 rfl ci_1 ?_
      refine k_goto C 73 rfl 137 (by decide) ?_
      exact k_zret (wf := (fun u => (mw cy a u))) hR 75 rfl hf
  have hb88 : ∀ (x1 : Int32) (M : Sg), f_X12_readsAll_b88 x1 M = some (r, M1) → Wk Z D 2 0 0 (mw cy a M) 88 [(0, .ref (a 0)), (1, .int x1)] [] := by
    intro x1 M hf
    unfold f_X12_readsAll_b88 at hf
    refine k_iload_1 C 49 rfl 1 rfl ?_
    refine k_if_eq C 50 rfl 120 (by decide) (fun hc => ?_) (fun hc => ?_)
    · replace hf := if_t hf hc
      exact k_sub [0] rfl (hb120 M hf)
    · replace hf := if_f hf hc
      refine k_aload_0 C 51 rfl 0 rfl ?_
      refine kg12_11 C 52 rfl qX12_154 0 M_c0 M_f0_11 ?_
      refine k_bipush C 53 rfl cb_6 ?_
      refine k_icmp_ne C 54 rfl 120 (by decide) (fun hc => ?_) (fun hc => ?_)
      · replace hf := if_f hf hc
        exact k_sub [0] rfl (hb120 M hf)
      · replace hf := if_t hf hc
        refine k_aload_0 C 55 rfl 0 rfl ?_
        refine kg12_7 C 56 rfl qX12_26 0 M_c0 M_f0_7 ?_
        refine k_iconst C 57 rfl ci_1 ?_
        refine k_iald C 58 rfl 6 M_c6 vi_1_100 tc_1 ?_
        refine k_if_ne C 59 rfl 120 (by decide) (fun hc => ?_) (fun hc => ?_)
        · replace hf := if_f hf hc
          exact k_sub [0] rfl (hb120 M hf)
        · replace hf := if_t hf hc
          refine k_aload_0 C 60 rfl 0 rfl ?_
          refine k_iconst C 61 rfl ci_0 ?_
          refine k_aload_0 C 62 rfl 0 rfl ?_
          refine kg12_8 C 63 rfl qX12_96 0 M_c0 M_f0_8 ?_
          obtain ⟨r116, M_116, h5, hf⟩ := ob2_some hf
          refine k_callW C 64 (c_X12_fails Z.2.1 D cy a M 0 (M.1 8) r116 M_116 h5) rfl qX12_117 mvX12_fails 0 12 M_c0 rfl rfl rfl (Nat.le_of_ble_eq_true rfl) ⟨Nat.le_of_ble_eq_true rfl, Nat.le_of_ble_eq_true rfl, Nat.le_refl 0, Nat.le_refl 0⟩ ?_
          refine k_pop C 65 rfl rfl ?_
          exact k_sub [0] rfl (hb120 M_116 hf)
  have hb66 : ∀ (x1 : Int32) (M : Sg), f_X12_readsAll_b66 x1 M = some (r, M1) → Wk Z D 2 0 0 (mw cy a M) 66 [(0, .ref (a 0)), (1, .int x1)] [] := by
    intro x1 M hf
    unfold f_X12_readsAll_b66 at hf
    refine k_iload_1 C 37 rfl 1 rfl ?_
    refine k_if_eq C 38 rfl 88 (by decide) (fun hc => ?_) (fun hc => ?_)
    · replace hf := if_t hf hc
      exact k_sub [0, 1] rfl (hb88 x1 M hf)
    · replace hf := if_f hf hc
      refine k_aload_0 C 39 rfl 0 rfl ?_
      obtain ⟨r71, M_71, h5, hf⟩ := ob2_some hf
      refine k_callW C 40 (c_X12_see Z.2.1 D cy a M r71 M_71 h5) rfl qX12_99 mvX12_see 0 12 M_c0 rfl rfl rfl (Nat.le_of_ble_eq_true rfl) ⟨Nat.le_of_ble_eq_true rfl, Nat.le_of_ble_eq_true rfl, Nat.le_refl 0, Nat.le_refl 0⟩ ?_
      refine k_iconst C 41 rfl ci_m1 ?_
      refine k_icmp_eq C 42 rfl 88 (by decide) (fun hc => ?_) (fun hc => ?_)
      · replace hf := if_t hf hc
        exact k_sub [0, 1] rfl (hb88 x1 M_71 hf)
      · replace hf := if_f hf hc
        refine k_aload_0 C 43 rfl 0 rfl ?_
        refine k_iconst C 44 rfl ci_0 ?_
        refine k_aload_0 C 45 rfl 0 rfl ?_
        refine kg12_8 C 46 rfl qX12_96 0 M_c0 M_f0_8 ?_
        obtain ⟨r84, M_84, h5, hf⟩ := ob2_some hf
        refine k_callW C 47 (c_X12_fails Z.2.1 D cy a M_71 0 (M_71.1 8) r84 M_84 h5) rfl qX12_117 mvX12_fails 0 12 M_c0 rfl rfl rfl (Nat.le_of_ble_eq_true rfl) ⟨Nat.le_of_ble_eq_true rfl, Nat.le_of_ble_eq_true rfl, Nat.le_refl 0, Nat.le_refl 0⟩ ?_
        refine k_istore_1 C 48 rfl (by decide) rfl ?_
        refine k_sub (lv2 := [(0, .ref (a 0)), (1, .int (bI r84))]) [1, 0] rfl ?_
        exact k_sub [0, 1] rfl (hb88 (bI r84) M_84 hf)
  have hq35 : ∀ (k35 : Int32 → Sg → Option (Bool × Sg)), (∀ (x1 : Int32) (M : Sg), k35 x1 M = some (r, M1) → Wk Z D 2 0 0 (mw cy a M) 35 [(0, .ref (a 0)), (1, .int x1)] []) → ∀ (x1 : Int32) (M : Sg), f_X12_readsAll_b35 k35 x1 M = some (r, M1) → Wk Z D 2 0 0 (mw cy a M) 35 [(0, .ref (a 0)), (1, .int x1)] [] := by
    intro k35 hk35 x1 M hf
    unfold f_X12_readsAll_b35 at hf
    refine k_iload_1 C 21 rfl 1 rfl ?_
    refine k_if_eq C 22 rfl 66 (by decide) (fun hc => ?_) (fun hc => ?_)
    · replace hf := if_t hf hc
      exact k_sub [0, 1] rfl (hb66 x1 M hf)
    · replace hf := if_f hf hc
      refine k_aload_0 C 23 rfl 0 rfl ?_
      obtain ⟨r40, M_40, h5, hf⟩ := ob2_some hf
      refine k_callW C 24 (c_X12_see Z.2.1 D cy a M r40 M_40 h5) rfl qX12_99 mvX12_see 0 12 M_c0 rfl rfl rfl (Nat.le_of_ble_eq_true rfl) ⟨Nat.le_of_ble_eq_true rfl, Nat.le_of_ble_eq_true rfl, Nat.le_refl 0, Nat.le_refl 0⟩ ?_
      refine k_bipush C 25 rfl cb_59 ?_
      refine k_icmp_ne C 26 rfl 66 (by decide) (fun hc => ?_) (fun hc => ?_)
      · replace hf := if_f hf hc
        exact k_sub [0, 1] rfl (hb66 x1 M_40 hf)
      · replace hf := if_t hf hc
        refine k_aload_0 C 27 rfl 0 rfl ?_
        refine k_dup C 28 rfl rfl ?_
        refine kg12_8 C 29 rfl qX12_96 0 M_c0 M_f0_8 ?_
        refine k_iconst C 30 rfl ci_1 ?_
        refine k_iadd C 31 rfl ?_
        obtain ⟨M_55, hM, hf⟩ := bnd_some hf
        refine kp12_8 (w2 := (mw cy a M_55)) C 32 rfl qX12_96 0 M_c0 (v := ((M_40.1 8) + 1)) M_n0 (M_p0_8.trans (congrArg (fun z => (mw cy a z)) hM)) ?_
        refine k_aload_0 C 33 rfl 0 rfl ?_
        obtain ⟨r59, M_59, h5, hf⟩ := ob2_some hf
        refine k_callW C 34 (c_X12_clauseHere Z.2.1 D cy a M_55 r59 M_59 h5) rfl qX12_285 mvX12_clauseHere 0 12 M_c0 rfl rfl rfl (Nat.le_of_ble_eq_true rfl) ⟨Nat.le_of_ble_eq_true rfl, Nat.le_of_ble_eq_true rfl, Nat.le_refl 0, Nat.le_refl 0⟩ ?_
        refine k_istore_1 C 35 rfl (by decide) rfl ?_
        refine k_sub (lv2 := [(0, .ref (a 0)), (1, .int (bI r59))]) [1, 0] rfl ?_
        refine k_goto C 36 rfl 35 (by decide) ?_
        exact k_sub [0, 1] rfl (hk35 (bI r59) M_59 hf)
  have hb35 := flW2 hq35
  refine k_aload_0 C 0 rfl 0 rfl ?_
  refine kg12_4 C 1 rfl qX12_17 0 M_c0 M_f0_4 ?_
  refine k_aload_0 C 2 rfl 0 rfl ?_
  refine kg12_11 C 3 rfl qX12_154 0 M_c0 M_f0_11 ?_
  refine k_iconst C 4 rfl ci_0 ?_
  obtain ⟨i9, hi, hin, hf⟩ := ixd_some hf
  obtain ⟨M_9, hM, hf⟩ := bnd_some hf
  refine k_iast (w2 := (mw cy a M_9)) C 5 rfl 3 M_c3 hin hi (M_s3.trans (congrArg (fun z => (mw cy a z)) hM)) ?_
  refine k_aload_0 C 6 rfl 0 rfl ?_
  refine k_iconst C 7 rfl ci_0 ?_
  obtain ⟨M_12, hM, hf⟩ := bnd_some hf
  refine kp12_14 (w2 := (mw cy a M_12)) C 8 rfl qX12_276 0 M_c0 (v := 0) M_n0 (M_p0_14.trans (congrArg (fun z => (mw cy a z)) hM)) ?_
  refine k_aload_0 C 9 rfl 0 rfl ?_
  refine k_iconst C 10 rfl ci_0 ?_
  obtain ⟨M_17, hM, hf⟩ := bnd_some hf
  refine kp12_8 (w2 := (mw cy a M_17)) C 11 rfl qX12_96 0 M_c0 (v := 0) M_n0 (M_p0_8.trans (congrArg (fun z => (mw cy a z)) hM)) ?_
  refine k_aload_0 C 12 rfl 0 rfl ?_
  refine k_iconst C 13 rfl ci_0 ?_
  obtain ⟨M_22, hM, hf⟩ := bnd_some hf
  refine kp12_9 (w2 := (mw cy a M_22)) C 14 rfl qX12_93 0 M_c0 (v := 0) M_n0 (M_p0_9.trans (congrArg (fun z => (mw cy a z)) hM)) ?_
  refine k_aload_0 C 15 rfl 0 rfl ?_
  refine k_iconst C 16 rfl ci_0 ?_
  obtain ⟨M_27, hM, hf⟩ := bnd_some hf
  refine kp12_12 (w2 := (mw cy a M_27)) C 17 rfl qX12_157 0 M_c0 (v := 0) M_n0 (M_p0_12.trans (congrArg (fun z => (mw cy a z)) hM)) ?_
  refine k_aload_0 C 18 rfl 0 rfl ?_
  obtain ⟨r31, M_31, h5, hf⟩ := ob2_some hf
  refine k_callW C 19 (c_X12_clauseHere Z.2.1 D cy a M_27 r31 M_31 h5) rfl qX12_285 mvX12_clauseHere 0 12 M_c0 rfl rfl rfl (Nat.le_of_ble_eq_true rfl) ⟨Nat.le_of_ble_eq_true rfl, Nat.le_of_ble_eq_true rfl, Nat.le_refl 0, Nat.le_refl 0⟩ ?_
  refine k_istore_1 C 20 rfl (by decide) rfl ?_
  refine k_sub (lv2 := [(0, .ref (a 0)), (1, .int (bI r31))]) [1, 0] rfl ?_
  exact k_sub [0, 1] rfl (hb35 FU (bI r31) M_31 hf)
set_option maxHeartbeats 1000000 in
set_option maxRecDepth 20000 in
theorem c_X12_rule (l : Launch) (D : va_G) (cy : Nat → ClassId) (a : Nat → Nat) (M : Sg) (r : Int32) (M1 : Sg) (hf : f_X12_rule M = some (r, M1)) : Ct l D cy yX12_rule cX12_rule 1 (some .int) 12 263 0 0 [.ref (a 0)] (mw cy a M) (some (.int r)) (mw cy a M1) := by
  refine Ct_i tX12_rule hX12_rule (by decide) (Nat.le_of_ble_eq_true rfl) ?_
  intro Z hZ C hR
  subst hZ
  replace C : Cx Z D cy RX12 tX12_rule 1 12 263 0 0 := C
  show Wk Z D 1 0 0 (mw cy a M) 0 [(0, .ref (a 0))] []
  unfold f_X12_rule at hf
  refine k_aload_0 C 0 rfl 0 rfl ?_
  refine kg12_2 C 1 rfl qX12_288 0 M_c0 M_f0_2 ?_
  refine k_bipush C 2 rfl cb_6 ?_
  refine k_icmp_ne C 3 rfl 11 (by decide) (fun hc => ?_) (fun hc => ?_)
  · replace hf := if_f hf hc
    refine k_aload_0 C 6 rfl 0 rfl ?_
    refine k_aload_0 C 7 rfl 0 rfl ?_
    refine kg12_2 C 8 rfl qX12_288 0 M_c0 M_f0_2 ?_
    obtain ⟨M_16, hM, hf⟩ := bnd_some hf
    refine kp12_11 (w2 := (mw cy a M_16)) C 9 rfl qX12_154 0 M_c0 (v := (M.1 2)) M_n0 (M_p0_11.trans (congrArg (fun z => (mw cy a z)) hM)) ?_
    refine k_aload_0 C 10 rfl 0 rfl ?_
    refine kg12_6 C 11 rfl qX12_23 0 M_c0 M_f0_6 ?_
    refine k_aload_0 C 12 rfl 0 rfl ?_
    refine kg12_11 C 13 rfl qX12_154 0 M_c0 M_f0_11 ?_
    refine k_iconst C 14 rfl ci_0 ?_
    obtain ⟨i28, hi, hin, hf⟩ := ixd_some hf
    obtain ⟨M_28, hM, hf⟩ := bnd_some hf
    refine k_iast (w2 := (mw cy a M_28)) C 15 rfl 5 M_c5 hin hi (M_s5.trans (congrArg (fun z => (mw cy a z)) hM)) ?_
    refine k_aload_0 C 16 rfl 0 rfl ?_
    obtain ⟨r30, M_30, h5, hf⟩ := ob2_some hf
    refine k_callW C 17 (c_X12_readsAll Z.2.1 D cy a M_28 r30 M_30 h5) rfl qX12_291 mvX12_readsAll 0 12 M_c0 rfl rfl rfl (Nat.le_of_ble_eq_true rfl) ⟨Nat.le_of_ble_eq_true rfl, Nat.le_of_ble_eq_true rfl, Nat.le_refl 0, Nat.le_refl 0⟩ ?_
    refine k_if_ne C 18 rfl 44 (by decide) (fun hc => ?_) (fun hc => ?_)
    · replace hf := if_f hf hc
      refine k_aload_0 C 24 rfl 0 rfl ?_
      refine k_dup C 25 rfl rfl ?_
      refine kg12_2 C 26 rfl qX12_288 0 M_c0 M_f0_2 ?_
      refine k_iconst C 27 rfl ci_1 ?_
      refine k_iadd C 28 rfl ?_
      obtain ⟨M_51, hM, hf⟩ := bnd_some hf
      refine kp12_2 (w2 := (mw cy a M_51)) C 29 rfl qX12_288 0 M_c0 (v := ((M_30.1 2) + 1)) M_n0 (M_p0_2.trans (congrArg (fun z => (mw cy a z)) hM)) ?_
      refine k_aload_0 C 30 rfl 0 rfl ?_
      refine kg12_2 C 31 rfl qX12_288 0 M_c0 M_f0_2 ?_
      refine k_iconst C 32 rfl ci_1 ?_
      refine k_isub C 33 rfl ?_
      exact k_iret (wf := (fun u => (mw cy a u))) hR 34 rfl hf
    · replace hf := if_t hf hc
      refine k_bipush C 19 rfl cb_m2 ?_
      refine k_aload_0 C 20 rfl 0 rfl ?_
      refine kg12_9 C 21 rfl qX12_93 0 M_c0 M_f0_9 ?_
      refine k_isub C 22 rfl ?_
      exact k_iret (wf := (fun u => (mw cy a u))) hR 23 rfl hf
  · replace hf := if_t hf hc
    refine k_iconst C 4 rfl ci_m1 ?_
    exact k_iret (wf := (fun u => (mw cy a u))) hR 5 rfl hf
set_option maxHeartbeats 1000000 in
set_option maxRecDepth 20000 in
theorem c_X12_line (l : Launch) (D : va_G) (cy : Nat → ClassId) (a : Nat → Nat) (M : Sg) (r : Int32) (M1 : Sg) (hf : f_X12_line M = some (r, M1)) : Ct l D cy yX12_line cX12_line 2 (some .int) 12 263 0 0 [.ref (a 0)] (mw cy a M) (some (.int r)) (mw cy a M1) := by
  refine Ct_i tX12_line hX12_line (by decide) (Nat.le_of_ble_eq_true rfl) ?_
  intro Z hZ C hR
  subst hZ
  replace C : Cx Z D cy RX12 tX12_line 2 12 263 0 0 := C
  show Wk Z D 2 0 0 (mw cy a M) 0 [(0, .ref (a 0))] []
  unfold f_X12_line at hf
  have hb132 : ∀ (M : Sg), f_X12_line_b132 M = some (r, M1) → Wk Z D 2 0 0 (mw cy a M) 132 [(0, .ref (a 0))] [] := by
    intro M hf
    unfold f_X12_line_b132 at hf
    refine k_aload_0 C 78 rfl 0 rfl ?_
    refine k_iconst C 79 rfl ci_0 ?_
    obtain ⟨M_134, hM, hf⟩ := bnd_some hf
    refine kp12_23 (w2 := (mw cy a M_134)) C 80 rfl qX12_294 0 M_c0 (v := 0) M_n0 (M_p0_23.trans (congrArg (fun z => (mw cy a z)) hM)) ?_
    refine k_aload_0 C 81 rfl 0 rfl ?_
    refine kg12_20 C 82 rfl qX12_39 0 M_c0 M_f0_20 ?_
    refine k_iconst C 83 rfl ci_2 ?_
    refine k_iald C 84 rfl 10 M_c10 vi_2_137 tc_2 ?_
    exact k_iret (wf := (fun u => (mw cy a u))) hR 85 rfl hf
  have hb116 : ∀ (M : Sg), f_X12_line_b116 M = some (r, M1) → Wk Z D 2 0 0 (mw cy a M) 116 [(0, .ref (a 0))] [] := by
    intro M hf
    unfold f_X12_line_b116 at hf
    refine k_aload_0 C 68 rfl 0 rfl ?_
    refine kg12_20 C 69 rfl qX12_39 0 M_c0 M_f0_20 ?_
    refine k_iconst C 70 rfl ci_5 ?_
    refine k_iald C 71 rfl 10 M_c10 vi_5_137 tc_5 ?_
    refine k_if_ge C 72 rfl 132 (by decide) (fun hc => ?_) (fun hc => ?_)
    · replace hf := if_t hf hc
      exact k_sub [0] rfl (hb132 M hf)
    · replace hf := if_f hf hc
      refine k_aload_0 C 73 rfl 0 rfl ?_
      refine kg12_20 C 74 rfl qX12_39 0 M_c0 M_f0_20 ?_
      refine k_iconst C 75 rfl ci_5 ?_
      refine k_iconst C 76 rfl ci_4 ?_
      obtain ⟨M_131, hM, hf⟩ := bnd_some hf
      refine k_iast (w2 := (mw cy a M_131)) C 77 rfl 10 M_c10 vi_5_137 tc_5 (M_s10.trans (congrArg (fun z => (mw cy a z)) hM)) ?_
      exact k_sub [0] rfl (hb132 M_131 hf)
  have hq58 : ∀ (k58 : Int32 → Sg → Option (Int32 × Sg)), (∀ (x1 : Int32) (M : Sg), k58 x1 M = some (r, M1) → Wk Z D 2 0 0 (mw cy a M) 58 [(0, .ref (a 0)), (1, .int x1)] []) → ∀ (x1 : Int32) (M : Sg), f_X12_line_b58 k58 x1 M = some (r, M1) → Wk Z D 2 0 0 (mw cy a M) 58 [(0, .ref (a 0)), (1, .int x1)] [] := by
    intro k58 hk58 x1 M hf
    unfold f_X12_line_b58 at hf
    have hb86 : ∀ (x1 : Int32) (s1 : Int32) (s2 : Int32) (M : Sg), f_X12_line_b86 k58 x1 s1 s2 M = some (r, M1) → Wk Z D 2 0 0 (mw cy a M) 86 [(0, .ref (a 0)), (1, .int x1)] [.int s2, .int s1, .ref (a 21)] := by
      intro x1 s1 s2 M hf
      unfold f_X12_line_b86 at hf
      obtain ⟨i86, hi, hin, hf⟩ := ixd_some hf
      obtain ⟨M_86, hM, hf⟩ := bnd_some hf
      refine k_iast (w2 := (mw cy a M_86)) C 50 rfl 10 M_c10 hin hi (M_s10.trans (congrArg (fun z => (mw cy a z)) hM)) ?_
      obtain ⟨x1_87, hx, hf⟩ := bnd_some hf
      refine k_iinc C 51 rfl 1 rfl ((cn_1 _).trans hx) (by decide) rfl ?_
      refine k_sub (lv2 := [(0, .ref (a 0)), (1, .int x1_87)]) [1, 0] rfl ?_
      refine k_goto C 52 rfl 58 (by decide) ?_
      exact k_sub [0, 1] rfl (hk58 x1_87 M_86 hf)
    refine k_iload_1 C 35 rfl 1 rfl ?_
    refine k_sipush C 36 rfl cs_137 ?_
    refine k_icmp_ge C 37 rfl 93 (by decide) (fun hc => ?_) (fun hc => ?_)
    · replace hf := if_t hf hc
      refine k_aload_0 C 53 rfl 0 rfl ?_
      refine kg12_20 C 54 rfl qX12_39 0 M_c0 M_f0_20 ?_
      refine k_iconst C 55 rfl ci_4 ?_
      refine k_iald C 56 rfl 10 M_c10 vi_4_137 tc_4 ?_
      refine k_if_ge C 57 rfl 116 (by decide) (fun hc => ?_) (fun hc => ?_)
      · replace hf := if_t hf hc
        exact k_sub [0] rfl (hb116 M hf)
      · replace hf := if_f hf hc
        refine k_aload_0 C 58 rfl 0 rfl ?_
        refine kg12_20 C 59 rfl qX12_39 0 M_c0 M_f0_20 ?_
        refine k_iconst C 60 rfl ci_4 ?_
        refine k_aload_0 C 61 rfl 0 rfl ?_
        refine kg12_20 C 62 rfl qX12_39 0 M_c0 M_f0_20 ?_
        refine k_iconst C 63 rfl ci_1 ?_
        refine k_iald C 64 rfl 10 M_c10 vi_1_137 tc_1 ?_
        refine k_iconst C 65 rfl ci_1 ?_
        refine k_isub C 66 rfl ?_
        obtain ⟨M_115, hM, hf⟩ := bnd_some hf
        refine k_iast (w2 := (mw cy a M_115)) C 67 rfl 10 M_c10 vi_4_137 tc_4 (M_s10.trans (congrArg (fun z => (mw cy a z)) hM)) ?_
        exact k_sub [0] rfl (hb116 M_115 hf)
    · replace hf := if_f hf hc
      refine k_aload_0 C 38 rfl 0 rfl ?_
      refine kg12_20 C 39 rfl qX12_39 0 M_c0 M_f0_20 ?_
      refine k_iload_1 C 40 rfl 1 rfl ?_
      refine k_iload_1 C 41 rfl 1 rfl ?_
      refine k_bipush C 42 rfl cb_100 ?_
      refine k_icmp_ge C 43 rfl 85 (by decide) (fun hc => ?_) (fun hc => ?_)
      · replace hf := if_t hf hc
        refine k_iconst C 49 rfl ci_0 ?_
        exact k_sub [0, 1] rfl (hb86 x1 x1 0 M hf)
      · replace hf := if_f hf hc
        refine k_aload_0 C 44 rfl 0 rfl ?_
        refine kg12_7 C 45 rfl qX12_26 0 M_c0 M_f0_7 ?_
        refine k_iload_1 C 46 rfl 1 rfl ?_
        obtain ⟨i81, hi, hin, hf⟩ := ixd_some hf
        refine k_iald C 47 rfl 6 M_c6 hin hi ?_
        refine k_goto C 48 rfl 86 (by decide) ?_
        exact k_sub [0, 1] rfl (hb86 x1 x1 (M.2.1 7 i81) M hf)
  have hb58 := flW2 hq58
  have hq8 : ∀ (k8 : Int32 → Sg → Option (Int32 × Sg)), (∀ (x1 : Int32) (M : Sg), k8 x1 M = some (r, M1) → Wk Z D 2 0 0 (mw cy a M) 8 [(0, .ref (a 0)), (1, .int x1)] []) → ∀ (x1 : Int32) (M : Sg), f_X12_line_b8 k8 x1 M = some (r, M1) → Wk Z D 2 0 0 (mw cy a M) 8 [(0, .ref (a 0)), (1, .int x1)] [] := by
    intro k8 hk8 x1 M hf
    unfold f_X12_line_b8 at hf
    refine k_iload_1 C 5 rfl 1 rfl ?_
    refine k_bipush C 6 rfl cb_10 ?_
    refine k_icmp_ge C 7 rfl 27 (by decide) (fun hc => ?_) (fun hc => ?_)
    · replace hf := if_t hf hc
      refine k_aload_0 C 15 rfl 0 rfl ?_
      refine kg12_7 C 16 rfl qX12_26 0 M_c0 M_f0_7 ?_
      refine k_iconst C 17 rfl ci_4 ?_
      refine k_iconst C 18 rfl ci_m1 ?_
      obtain ⟨M_33, hM, hf⟩ := bnd_some hf
      refine k_iast (w2 := (mw cy a M_33)) C 19 rfl 6 M_c6 vi_4_100 tc_4 (M_s6.trans (congrArg (fun z => (mw cy a z)) hM)) ?_
      refine k_aload_0 C 20 rfl 0 rfl ?_
      refine kg12_7 C 21 rfl qX12_26 0 M_c0 M_f0_7 ?_
      refine k_iconst C 22 rfl ci_5 ?_
      refine k_iconst C 23 rfl ci_m1 ?_
      obtain ⟨M_40, hM, hf⟩ := bnd_some hf
      refine k_iast (w2 := (mw cy a M_40)) C 24 rfl 6 M_c6 vi_5_100 tc_5 (M_s6.trans (congrArg (fun z => (mw cy a z)) hM)) ?_
      refine k_aload_0 C 25 rfl 0 rfl ?_
      obtain ⟨r42, M_42, h5, hf⟩ := ob2_some hf
      refine k_callW C 26 (c_X12_readsAll Z.2.1 D cy a M_40 r42 M_42 h5) rfl qX12_291 mvX12_readsAll 0 12 M_c0 rfl rfl rfl (Nat.le_of_ble_eq_true rfl) ⟨Nat.le_of_ble_eq_true rfl, Nat.le_of_ble_eq_true rfl, Nat.le_refl 0, Nat.le_refl 0⟩ ?_
      refine k_if_ne C 27 rfl 56 (by decide) (fun hc => ?_) (fun hc => ?_)
      · replace hf := if_f hf hc
        refine k_iconst C 33 rfl ci_0 ?_
        refine k_istore_1 C 34 rfl (by decide) rfl ?_
        refine k_sub (lv2 := [(0, .ref (a 0)), (1, .int 0)]) [1, 0] rfl ?_
        exact k_sub [0, 1] rfl (hb58 FU 0 M_42 hf)
      · replace hf := if_t hf hc
        refine k_bipush C 28 rfl cb_m2 ?_
        refine k_aload_0 C 29 rfl 0 rfl ?_
        refine kg12_9 C 30 rfl qX12_93 0 M_c0 M_f0_9 ?_
        refine k_isub C 31 rfl ?_
        exact k_iret (wf := (fun u => (mw cy a u))) hR 32 rfl hf
    · replace hf := if_f hf hc
      refine k_aload_0 C 8 rfl 0 rfl ?_
      refine kg12_7 C 9 rfl qX12_26 0 M_c0 M_f0_7 ?_
      refine k_iload_1 C 10 rfl 1 rfl ?_
      refine k_iconst C 11 rfl ci_0 ?_
      obtain ⟨i20, hi, hin, hf⟩ := ixd_some hf
      obtain ⟨M_20, hM, hf⟩ := bnd_some hf
      refine k_iast (w2 := (mw cy a M_20)) C 12 rfl 6 M_c6 hin hi (M_s6.trans (congrArg (fun z => (mw cy a z)) hM)) ?_
      obtain ⟨x1_21, hx, hf⟩ := bnd_some hf
      refine k_iinc C 13 rfl 1 rfl ((cn_1 _).trans hx) (by decide) rfl ?_
      refine k_sub (lv2 := [(0, .ref (a 0)), (1, .int x1_21)]) [1, 0] rfl ?_
      refine k_goto C 14 rfl 8 (by decide) ?_
      exact k_sub [0, 1] rfl (hk8 x1_21 M_20 hf)
  have hb8 := flW2 hq8
  refine k_aload_0 C 0 rfl 0 rfl ?_
  refine k_bipush C 1 rfl cb_6 ?_
  obtain ⟨M_3, hM, hf⟩ := bnd_some hf
  refine kp12_11 (w2 := (mw cy a M_3)) C 2 rfl qX12_154 0 M_c0 (v := 6) M_n0 (M_p0_11.trans (congrArg (fun z => (mw cy a z)) hM)) ?_
  refine k_iconst C 3 rfl ci_0 ?_
  refine k_istore_1 C 4 rfl (by decide) rfl ?_
  refine k_sub (lv2 := [(0, .ref (a 0)), (1, .int 0)]) [1, 0] rfl ?_
  exact k_sub [0, 1] rfl (hb8 FU 0 M_3 hf)
set_option maxHeartbeats 1000000 in
set_option maxRecDepth 20000 in
theorem c_X12_isRule (l : Launch) (D : va_G) (cy : Nat → ClassId) (a : Nat → Nat) (M : Sg) (p1 : Int32) (r : Bool) (hf : f_X12_isRule M p1 = some r) : Ct l D cy yX12_isRule cX12_isRule 2 (some .boolean) 0 0 0 0 [.ref (a 0), .int p1] (mw cy a M) (some (.int (bI r))) (mw cy a M) := by
  refine Ct_z tX12_isRule hX12_isRule (by decide) (Nat.le_of_ble_eq_true rfl) ?_
  intro Z hZ C hR
  subst hZ
  replace C : Cx Z D cy RX12 tX12_isRule 2 0 0 0 0 := C
  show Wk Z D 2 0 0 (mw cy a M) 0 [(0, .ref (a 0)), (1, .int p1)] []
  unfold f_X12_isRule at hf
  have hb16 : f_X12_isRule_b16 M p1 = some r → Wk Z D 2 0 0 (mw cy a M) 16 [] [] := by
    intro  hf
    unfold f_X12_isRule_b16 at hf
    refine k_iconst C 8 rfl ci_0 ?_
    exact k_zretP hR 9 rfl hf
  refine k_iload_1 C 0 rfl 1 rfl ?_
  refine k_if_lt C 1 rfl 16 (by decide) (fun hc => ?_) (fun hc => ?_)
  · replace hf := if_t hf hc
    exact k_sub [] rfl (hb16  hf)
  · replace hf := if_f hf hc
    refine k_iload_1 C 2 rfl 1 rfl ?_
    refine k_aload_0 C 3 rfl 0 rfl ?_
    refine kg12_2 C 4 rfl qX12_288 0 M_c0 M_f0_2 ?_
    refine k_icmp_ge C 5 rfl 16 (by decide) (fun hc => ?_) (fun hc => ?_)
    · replace hf := if_t hf hc
      exact k_sub [] rfl (hb16  hf)
    · replace hf := if_f hf hc
      refine k_iconst C 6 rfl ci_1 ?_
      refine k_goto C 7 rfl 17 (by decide) ?_
      exact k_zretP hR 9 rfl hf
set_option maxHeartbeats 1000000 in
set_option maxRecDepth 20000 in
theorem c_X12_push (l : Launch) (D : va_G) (cy : Nat → ClassId) (a : Nat → Nat) (M : Sg) (p1 : Int64) (M1 : Sg) (hf : f_X12_push M p1 = some M1) : Ct l D cy yX12_push cX12_push 3 none 0 0 0 0 [.ref (a 0), .long p1] (mw cy a M) none (mw cy a M1) := by
  refine Ct_v tX12_push hX12_push (by decide) (Nat.le_of_ble_eq_true rfl) ?_
  intro Z hZ C hR
  subst hZ
  replace C : Cx Z D cy RX12 tX12_push 3 0 0 0 0 := C
  show Wk Z D 3 0 0 (mw cy a M) 0 [(0, .ref (a 0)), (1, .long p1)] []
  unfold f_X12_push at hf
  refine k_aload_0 C 0 rfl 0 rfl ?_
  refine kg12_17 C 1 rfl qX12_32 0 M_c0 M_f0_17 ?_
  refine k_aload_0 C 2 rfl 0 rfl ?_
  refine kg12_18 C 3 rfl qX12_297 0 M_c0 M_f0_18 ?_
  refine k_lload_1 C 4 rfl 1 rfl ?_
  obtain ⟨i9, hi, hin, hf⟩ := ixd_some hf
  obtain ⟨M_9, hM, hf⟩ := bnd_some hf
  refine k_last (w2 := (mw cy a M_9)) C 5 rfl 8 M_c8 hin hi (M_s8.trans (congrArg (fun z => (mw cy a z)) hM)) ?_
  refine k_aload_0 C 6 rfl 0 rfl ?_
  refine k_dup C 7 rfl rfl ?_
  refine kg12_18 C 8 rfl qX12_297 0 M_c0 M_f0_18 ?_
  refine k_iconst C 9 rfl ci_1 ?_
  refine k_iadd C 10 rfl ?_
  obtain ⟨M_17, hM, hf⟩ := bnd_some hf
  refine kp12_18 (w2 := (mw cy a M_17)) C 11 rfl qX12_297 0 M_c0 (v := ((M_9.1 18) + 1)) M_n0 (M_p0_18.trans (congrArg (fun z => (mw cy a z)) hM)) ?_
  exact k_vret (wf := (fun u => (mw cy a u))) hR 12 rfl hf
set_option maxHeartbeats 1000000 in
set_option maxRecDepth 20000 in
theorem c_X12_pop (l : Launch) (D : va_G) (cy : Nat → ClassId) (a : Nat → Nat) (M : Sg) (r : Int64) (M1 : Sg) (hf : f_X12_pop M = some (r, M1)) : Ct l D cy yX12_pop cX12_pop 1 (some .long) 0 0 0 0 [.ref (a 0)] (mw cy a M) (some (.long r)) (mw cy a M1) := by
  refine Ct_l tX12_pop hX12_pop (by decide) (Nat.le_of_ble_eq_true rfl) ?_
  intro Z hZ C hR
  subst hZ
  replace C : Cx Z D cy RX12 tX12_pop 1 0 0 0 0 := C
  show Wk Z D 1 0 0 (mw cy a M) 0 [(0, .ref (a 0))] []
  unfold f_X12_pop at hf
  refine k_aload_0 C 0 rfl 0 rfl ?_
  refine k_dup C 1 rfl rfl ?_
  refine kg12_18 C 2 rfl qX12_297 0 M_c0 M_f0_18 ?_
  refine k_iconst C 3 rfl ci_1 ?_
  refine k_isub C 4 rfl ?_
  obtain ⟨M_7, hM, hf⟩ := bnd_some hf
  refine kp12_18 (w2 := (mw cy a M_7)) C 5 rfl qX12_297 0 M_c0 (v := ((M.1 18) - 1)) M_n0 (M_p0_18.trans (congrArg (fun z => (mw cy a z)) hM)) ?_
  refine k_aload_0 C 6 rfl 0 rfl ?_
  refine kg12_17 C 7 rfl qX12_32 0 M_c0 M_f0_17 ?_
  refine k_aload_0 C 8 rfl 0 rfl ?_
  refine kg12_18 C 9 rfl qX12_297 0 M_c0 M_f0_18 ?_
  obtain ⟨i18, hi, hin, hf⟩ := ixd_some hf
  refine k_lald C 10 rfl 8 M_c8 hin hi ?_
  exact k_lret (wf := (fun u => (mw cy a u))) hR 11 rfl hf
set_option maxHeartbeats 1000000 in
set_option maxRecDepth 20000 in
theorem c_X12_one (l : Launch) (D : va_G) (cy : Nat → ClassId) (p0 : Int32) (p1 : Int64) (p3 : Int64) (r : Int64) (hf : f_X12_one p0 p1 p3 = some r) : Ct l D cy yX12_one cX12_one 5 (some .long) 0 0 0 0 [.int p0, .long p1, .long p3] [] (some (.long r)) [] := by
  refine Ct_l tX12_one hX12_one (by decide) (Nat.le_of_ble_eq_true rfl) ?_
  intro Z hZ C hR
  subst hZ
  replace C : Cx Z D cy RX12 tX12_one 5 0 0 0 0 := C
  show Wk Z D 5 0 0 [] 0 [(0, .int p0), (1, .long p1), (3, .long p3)] []
  unfold f_X12_one at hf
  refine k_iload_0 C 0 rfl 0 rfl ?_
  obtain ⟨sw1, hx, hf⟩ := bnd_some hf
  refine k_topi hx ?_
  clear hx
  by_cases hs2 : sw1 = 2
  · subst hs2
    replace hf := if_t hf rfl
    refine k_tabIn C 1 rfl 68 (by decide) (by decide) rfl (by decide) ?_
    refine k_lload_1 C 2 rfl 1 rfl ?_
    refine k_lload_3 C 3 rfl 2 rfl ?_
    refine k_ladd C 4 rfl ?_
    exact k_lretP hR 5 rfl hf
  by_cases hs3 : sw1 = 3
  · subst hs3
    replace hf := if_f hf (by decide)
    replace hf := if_t hf rfl
    refine k_tabIn C 1 rfl 72 (by decide) (by decide) rfl (by decide) ?_
    refine k_lload_1 C 6 rfl 1 rfl ?_
    refine k_lload_3 C 7 rfl 2 rfl ?_
    refine k_lsub C 8 rfl ?_
    exact k_lretP hR 9 rfl hf
  by_cases hs4 : sw1 = 4
  · subst hs4
    replace hf := if_f hf (by decide)
    replace hf := if_f hf (by decide)
    replace hf := if_t hf rfl
    refine k_tabIn C 1 rfl 76 (by decide) (by decide) rfl (by decide) ?_
    refine k_lload_1 C 10 rfl 1 rfl ?_
    refine k_lload_3 C 11 rfl 2 rfl ?_
    refine k_lmul C 12 rfl ?_
    exact k_lretP hR 13 rfl hf
  by_cases hs5 : sw1 = 5
  · subst hs5
    replace hf := if_f hf (by decide)
    replace hf := if_f hf (by decide)
    replace hf := if_f hf (by decide)
    replace hf := if_t hf rfl
    refine k_tabIn C 1 rfl 80 (by decide) (by decide) rfl (by decide) ?_
    refine k_lload_3 C 14 rfl 2 rfl ?_
    refine k_lconst0 C 15 rfl ?_
    refine k_lcmp C 16 rfl ?_
    refine k_if_ne C 17 rfl 90 (by decide) (fun hc => ?_) (fun hc => ?_)
    · replace hf := if_f hf hc
      refine k_lload_1 C 20 rfl 1 rfl ?_
      refine k_lload_3 C 21 rfl 2 rfl ?_
      obtain ⟨hn, hf⟩ := nzJ_some hf
      refine k_ldiv C 22 rfl hn ?_
      exact k_lretP hR 23 rfl hf
    · replace hf := if_t hf hc
      refine k_lconst0 C 18 rfl ?_
      refine k_goto C 19 rfl 93 (by decide) ?_
      exact k_lretP hR 23 rfl hf
  by_cases hs6 : sw1 = 6
  · subst hs6
    replace hf := if_f hf (by decide)
    replace hf := if_f hf (by decide)
    replace hf := if_f hf (by decide)
    replace hf := if_f hf (by decide)
    replace hf := if_t hf rfl
    refine k_tabIn C 1 rfl 108 (by decide) (by decide) rfl (by decide) ?_
    refine k_lload_1 C 34 rfl 1 rfl ?_
    refine k_lload_3 C 35 rfl 2 rfl ?_
    refine k_lcmp C 36 rfl ?_
    refine k_if_ge C 37 rfl 118 (by decide) (fun hc => ?_) (fun hc => ?_)
    · replace hf := if_t hf hc
      refine k_lconst0 C 40 rfl ?_
      exact k_lretP hR 41 rfl hf
    · replace hf := if_f hf hc
      refine k_lconst1 C 38 rfl ?_
      refine k_goto C 39 rfl 119 (by decide) ?_
      exact k_lretP hR 41 rfl hf
  by_cases hs7 : sw1 = 7
  · subst hs7
    replace hf := if_f hf (by decide)
    replace hf := if_f hf (by decide)
    replace hf := if_f hf (by decide)
    replace hf := if_f hf (by decide)
    replace hf := if_f hf (by decide)
    replace hf := if_t hf rfl
    refine k_tabIn C 1 rfl 120 (by decide) (by decide) rfl (by decide) ?_
    refine k_lload_1 C 42 rfl 1 rfl ?_
    refine k_lload_3 C 43 rfl 2 rfl ?_
    refine k_lcmp C 44 rfl ?_
    refine k_if_gt C 45 rfl 130 (by decide) (fun hc => ?_) (fun hc => ?_)
    · replace hf := if_t hf hc
      refine k_lconst0 C 48 rfl ?_
      exact k_lretP hR 49 rfl hf
    · replace hf := if_f hf hc
      refine k_lconst1 C 46 rfl ?_
      refine k_goto C 47 rfl 131 (by decide) ?_
      exact k_lretP hR 49 rfl hf
  by_cases hs8 : sw1 = 8
  · subst hs8
    replace hf := if_f hf (by decide)
    replace hf := if_f hf (by decide)
    replace hf := if_f hf (by decide)
    replace hf := if_f hf (by decide)
    replace hf := if_f hf (by decide)
    replace hf := if_f hf (by decide)
    replace hf := if_t hf rfl
    refine k_tabIn C 1 rfl 132 (by decide) (by decide) rfl (by decide) ?_
    refine k_lload_1 C 50 rfl 1 rfl ?_
    refine k_lload_3 C 51 rfl 2 rfl ?_
    refine k_lcmp C 52 rfl ?_
    refine k_if_ne C 53 rfl 142 (by decide) (fun hc => ?_) (fun hc => ?_)
    · replace hf := if_f hf hc
      refine k_lconst0 C 56 rfl ?_
      exact k_lretP hR 57 rfl hf
    · replace hf := if_t hf hc
      refine k_lconst1 C 54 rfl ?_
      refine k_goto C 55 rfl 143 (by decide) ?_
      exact k_lretP hR 57 rfl hf
  by_cases hs9 : sw1 = 9
  · subst hs9
    replace hf := if_f hf (by decide)
    replace hf := if_f hf (by decide)
    replace hf := if_f hf (by decide)
    replace hf := if_f hf (by decide)
    replace hf := if_f hf (by decide)
    replace hf := if_f hf (by decide)
    replace hf := if_f hf (by decide)
    replace hf := if_t hf rfl
    refine k_tabIn C 1 rfl 144 (by decide) (by decide) rfl (by decide) ?_
    refine k_lload_1 C 58 rfl 1 rfl ?_
    refine k_lload_3 C 59 rfl 2 rfl ?_
    refine k_lcmp C 60 rfl ?_
    refine k_if_lt C 61 rfl 154 (by decide) (fun hc => ?_) (fun hc => ?_)
    · replace hf := if_t hf hc
      refine k_lconst0 C 64 rfl ?_
      exact k_lretP hR 65 rfl hf
    · replace hf := if_f hf hc
      refine k_lconst1 C 62 rfl ?_
      refine k_goto C 63 rfl 155 (by decide) ?_
      exact k_lretP hR 65 rfl hf
  by_cases hs10 : sw1 = 10
  · subst hs10
    replace hf := if_f hf (by decide)
    replace hf := if_f hf (by decide)
    replace hf := if_f hf (by decide)
    replace hf := if_f hf (by decide)
    replace hf := if_f hf (by decide)
    replace hf := if_f hf (by decide)
    replace hf := if_f hf (by decide)
    replace hf := if_f hf (by decide)
    replace hf := if_t hf rfl
    refine k_tabIn C 1 rfl 156 (by decide) (by decide) rfl (by decide) ?_
    refine k_lload_1 C 66 rfl 1 rfl ?_
    refine k_lload_3 C 67 rfl 2 rfl ?_
    refine k_lcmp C 68 rfl ?_
    refine k_if_le C 69 rfl 166 (by decide) (fun hc => ?_) (fun hc => ?_)
    · replace hf := if_t hf hc
      refine k_lconst0 C 72 rfl ?_
      exact k_lretP hR 73 rfl hf
    · replace hf := if_f hf hc
      refine k_lconst1 C 70 rfl ?_
      refine k_goto C 71 rfl 167 (by decide) ?_
      exact k_lretP hR 73 rfl hf
  by_cases hs11 : sw1 = 11
  · subst hs11
    replace hf := if_f hf (by decide)
    replace hf := if_f hf (by decide)
    replace hf := if_f hf (by decide)
    replace hf := if_f hf (by decide)
    replace hf := if_f hf (by decide)
    replace hf := if_f hf (by decide)
    replace hf := if_f hf (by decide)
    replace hf := if_f hf (by decide)
    replace hf := if_f hf (by decide)
    replace hf := if_f hf (by decide)
    replace hf := if_f hf (by decide)
    refine k_tabIn C 1 rfl 172 (by decide) (by decide) rfl (by decide) ?_
    refine k_lload_1 C 78 rfl 1 rfl ?_
    refine k_lload_3 C 79 rfl 2 rfl ?_
    refine k_lor C 80 rfl ?_
    exact k_lretP hR 81 rfl hf
  by_cases hs12 : sw1 = 12
  · subst hs12
    replace hf := if_f hf (by decide)
    replace hf := if_f hf (by decide)
    replace hf := if_f hf (by decide)
    replace hf := if_f hf (by decide)
    replace hf := if_f hf (by decide)
    replace hf := if_f hf (by decide)
    replace hf := if_f hf (by decide)
    replace hf := if_f hf (by decide)
    replace hf := if_f hf (by decide)
    replace hf := if_t hf rfl
    refine k_tabIn C 1 rfl 168 (by decide) (by decide) rfl (by decide) ?_
    refine k_lload_1 C 74 rfl 1 rfl ?_
    refine k_lload_3 C 75 rfl 2 rfl ?_
    refine k_land C 76 rfl ?_
    exact k_lretP hR 77 rfl hf
  by_cases hs13 : sw1 = 13
  · subst hs13
    replace hf := if_f hf (by decide)
    replace hf := if_f hf (by decide)
    replace hf := if_f hf (by decide)
    replace hf := if_f hf (by decide)
    replace hf := if_f hf (by decide)
    replace hf := if_f hf (by decide)
    replace hf := if_f hf (by decide)
    replace hf := if_f hf (by decide)
    replace hf := if_f hf (by decide)
    replace hf := if_f hf (by decide)
    replace hf := if_f hf (by decide)
    refine k_tabIn C 1 rfl 172 (by decide) (by decide) rfl (by decide) ?_
    refine k_lload_1 C 78 rfl 1 rfl ?_
    refine k_lload_3 C 79 rfl 2 rfl ?_
    refine k_lor C 80 rfl ?_
    exact k_lretP hR 81 rfl hf
  by_cases hs14 : sw1 = 14
  · subst hs14
    replace hf := if_f hf (by decide)
    replace hf := if_f hf (by decide)
    replace hf := if_f hf (by decide)
    replace hf := if_f hf (by decide)
    replace hf := if_f hf (by decide)
    replace hf := if_f hf (by decide)
    replace hf := if_f hf (by decide)
    replace hf := if_f hf (by decide)
    replace hf := if_f hf (by decide)
    replace hf := if_f hf (by decide)
    replace hf := if_t hf rfl
    refine k_tabIn C 1 rfl 94 (by decide) (by decide) rfl (by decide) ?_
    refine k_lload_3 C 24 rfl 2 rfl ?_
    refine k_lconst0 C 25 rfl ?_
    refine k_lcmp C 26 rfl ?_
    refine k_if_ne C 27 rfl 104 (by decide) (fun hc => ?_) (fun hc => ?_)
    · replace hf := if_f hf hc
      refine k_lload_1 C 30 rfl 1 rfl ?_
      refine k_lload_3 C 31 rfl 2 rfl ?_
      obtain ⟨hn, hf⟩ := nzJ_some hf
      refine k_lrem C 32 rfl hn ?_
      exact k_lretP hR 33 rfl hf
    · replace hf := if_t hf hc
      refine k_lconst0 C 28 rfl ?_
      refine k_goto C 29 rfl 107 (by decide) ?_
      exact k_lretP hR 33 rfl hf
  replace hf := if_f hf hs2
  replace hf := if_f hf hs3
  replace hf := if_f hf hs4
  replace hf := if_f hf hs5
  replace hf := if_f hf hs6
  replace hf := if_f hf hs7
  replace hf := if_f hf hs8
  replace hf := if_f hf hs9
  replace hf := if_f hf hs10
  replace hf := if_f hf hs12
  replace hf := if_f hf hs14
  refine k_tabOut C 1 rfl 172 (sw_out [2, 3, 4, 5, 6, 7, 8, 9, 10, 11, 12, 13, 14] (by intro v hv; simp only [List.mem_cons, List.not_mem_nil, or_false] at hv; rcases hv with rfl | rfl | rfl | rfl | rfl | rfl | rfl | rfl | rfl | rfl | rfl | rfl | rfl <;> assumption) (by decide)) (by decide) ?_
  refine k_lload_1 C 78 rfl 1 rfl ?_
  refine k_lload_3 C 79 rfl 2 rfl ?_
  refine k_lor C 80 rfl ?_
  exact k_lretP hR 81 rfl hf
set_option maxHeartbeats 1000000 in
set_option maxRecDepth 20000 in
theorem c_X12_reckons (l : Launch) (D : va_G) (cy : Nat → ClassId) (a : Nat → Nat) (M : Sg) (p1 : Int32) (p2 : Int32) (p3 : Int32) (r : Int64) (M1 : Sg) (hf : f_X12_reckons M p1 p2 p3 = some (r, M1)) : Ct l D cy yX12_reckons cX12_reckons 11 (some .long) 1 24 0 0 [.ref (a 0), .int p1, .int p2, .int p3] (mw cy a M) (some (.long r)) (mw cy a M1) := by
  refine Ct_l tX12_reckons hX12_reckons (by decide) (Nat.le_of_ble_eq_true rfl) ?_
  intro Z hZ C hR
  subst hZ
  replace C : Cx Z D cy RX12 tX12_reckons 11 1 24 0 0 := C
  show Wk Z D 11 0 0 (mw cy a M) 0 [(0, .ref (a 0)), (1, .int p1), (2, .int p2), (3, .int p3)] []
  unfold f_X12_reckons at hf
  have hq8 : ∀ (k8 : Int32 → Sg → Option (Int64 × Sg)), (∀ (x4 : Int32) (M : Sg), k8 x4 M = some (r, M1) → Wk Z D 11 0 0 (mw cy a M) 8 [(0, .ref (a 0)), (1, .int p1), (3, .int p3), (4, .int x4)] []) → ∀ (x4 : Int32) (M : Sg), f_X12_reckons_b8 p1 p2 p3 k8 x4 M = some (r, M1) → Wk Z D 11 0 0 (mw cy a M) 8 [(0, .ref (a 0)), (1, .int p1), (3, .int p3), (4, .int x4)] [] := by
    intro k8 hk8 x4 M hf
    unfold f_X12_reckons_b8 at hf
    have hb129 : ∀ (x4 : Int32) (M : Sg), f_X12_reckons_b129 p1 p2 p3 k8 x4 M = some (r, M1) → Wk Z D 11 0 0 (mw cy a M) 129 [(0, .ref (a 0)), (1, .int p1), (3, .int p3), (4, .int x4)] [] := by
      intro x4 M hf
      unfold f_X12_reckons_b129 at hf
      obtain ⟨x4_129, hx, hf⟩ := bnd_some hf
      refine k_iinc C 69 rfl 3 rfl ((cn_1 _).trans hx) (by decide) rfl ?_
      refine k_sub (lv2 := [(0, .ref (a 0)), (1, .int p1), (3, .int p3), (4, .int x4_129)]) [1, 2, 3, 0] rfl ?_
      refine k_goto C 70 rfl 8 (by decide) ?_
      exact k_sub [0, 1, 2, 3] rfl (hk8 x4_129 M hf)
    refine k_iload C 5 rfl 3 rfl ?_
    refine k_iload_3 C 6 rfl 2 rfl ?_
    refine k_icmp_ge C 7 rfl 135 (by decide) (fun hc => ?_) (fun hc => ?_)
    · replace hf := if_t hf hc
      refine k_aload_0 C 71 rfl 0 rfl ?_
      obtain ⟨r136, M_136, h5, hf⟩ := ob2_some hf
      refine k_callW C 72 (c_X12_pop Z.2.1 D cy a M r136 M_136 h5) rfl qX12_304 mvX12_pop 0 12 M_c0 rfl rfl rfl (Nat.le_of_ble_eq_true rfl) ⟨Nat.le_of_ble_eq_true rfl, Nat.le_of_ble_eq_true rfl, Nat.le_refl 0, Nat.le_refl 0⟩ ?_
      exact k_lret (wf := (fun u => (mw cy a u))) hR 73 rfl hf
    · replace hf := if_f hf hc
      refine k_aload_0 C 8 rfl 0 rfl ?_
      refine kg12_3 C 9 rfl qX12_13 0 M_c0 M_f0_3 ?_
      refine k_sipush C 10 rfl cs_400 ?_
      refine k_iload_1 C 11 rfl 1 rfl ?_
      refine k_imul C 12 rfl ?_
      refine k_iload C 13 rfl 3 rfl ?_
      refine k_iadd C 14 rfl ?_
      obtain ⟨i26, hi, hin, hf⟩ := ixd_some hf
      refine k_iald C 15 rfl 2 M_c2 hin hi ?_
      refine k_bipush C 16 rfl cb_15 ?_
      refine k_iand C 17 rfl ?_
      obtain ⟨x5_30, hx, hf⟩ := bnd_some hf
      refine k_topi hx ?_
      refine k_istore C 18 rfl (by decide) rfl ?_
      refine k_sub (lv2 := [(0, .ref (a 0)), (1, .int p1), (3, .int p3), (4, .int x4), (5, .int x5_30)]) [1, 2, 3, 4, 0] rfl ?_
      refine k_aload_0 C 19 rfl 0 rfl ?_
      refine kg12_3 C 20 rfl qX12_13 0 M_c0 M_f0_3 ?_
      refine k_sipush C 21 rfl cs_400 ?_
      refine k_iload_1 C 22 rfl 1 rfl ?_
      refine k_imul C 23 rfl ?_
      refine k_iload C 24 rfl 3 rfl ?_
      refine k_iadd C 25 rfl ?_
      obtain ⟨i44, hi, hin, hf⟩ := ixd_some hf
      refine k_iald C 26 rfl 2 M_c2 hin hi ?_
      refine k_iconst C 27 rfl ci_4 ?_
      refine k_ishr C 28 rfl ?_
      obtain ⟨x6_47, hx, hf⟩ := bnd_some hf
      refine k_topi hx ?_
      refine k_istore C 29 rfl (by decide) rfl ?_
      refine k_sub (lv2 := [(0, .ref (a 0)), (1, .int p1), (3, .int p3), (4, .int x4), (5, .int x5_30), (6, .int x6_47)]) [1, 2, 3, 4, 5, 0] rfl ?_
      refine k_iload C 30 rfl 4 rfl ?_
      refine k_if_ne C 31 rfl 64 (by decide) (fun hc => ?_) (fun hc => ?_)
      · replace hf := if_f hf hc
        refine k_iload C 37 rfl 4 rfl ?_
        refine k_iconst C 38 rfl ci_1 ?_
        refine k_icmp_ne C 39 rfl 84 (by decide) (fun hc => ?_) (fun hc => ?_)
        · replace hf := if_f hf hc
          refine k_iload C 47 rfl 4 rfl ?_
          refine k_bipush C 48 rfl cb_11 ?_
          refine k_icmp_ne C 49 rfl 104 (by decide) (fun hc => ?_) (fun hc => ?_)
          · replace hf := if_f hf hc
            refine k_aload_0 C 57 rfl 0 rfl ?_
            obtain ⟨r105, M_105, h5, hf⟩ := ob2_some hf
            refine k_callW C 58 (c_X12_pop Z.2.1 D cy a M r105 M_105 h5) rfl qX12_304 mvX12_pop 0 12 M_c0 rfl rfl rfl (Nat.le_of_ble_eq_true rfl) ⟨Nat.le_of_ble_eq_true rfl, Nat.le_of_ble_eq_true rfl, Nat.le_refl 0, Nat.le_refl 0⟩ ?_
            refine k_lstore C 59 rfl (by decide) rfl ?_
            refine k_sub (lv2 := [(0, .ref (a 0)), (1, .int p1), (3, .int p3), (4, .int x4), (5, .int x5_30), (6, .int x6_47), (7, .long r105)]) [1, 2, 3, 4, 5, 6, 0] rfl ?_
            refine k_aload_0 C 60 rfl 0 rfl ?_
            obtain ⟨r111, M_111, h5, hf⟩ := ob2_some hf
            refine k_callW C 61 (c_X12_pop Z.2.1 D cy a M_105 r111 M_111 h5) rfl qX12_304 mvX12_pop 0 12 M_c0 rfl rfl rfl (Nat.le_of_ble_eq_true rfl) ⟨Nat.le_of_ble_eq_true rfl, Nat.le_of_ble_eq_true rfl, Nat.le_refl 0, Nat.le_refl 0⟩ ?_
            refine k_lstore C 62 rfl (by decide) rfl ?_
            refine k_sub (lv2 := [(0, .ref (a 0)), (1, .int p1), (3, .int p3), (4, .int x4), (5, .int x5_30), (6, .int x6_47), (7, .long r105), (9, .long r111)]) [1, 2, 3, 4, 5, 6, 7, 0] rfl ?_
            refine k_aload_0 C 63 rfl 0 rfl ?_
            refine k_iload C 64 rfl 4 rfl ?_
            refine k_lload C 65 rfl 7 rfl ?_
            refine k_lload C 66 rfl 6 rfl ?_
            obtain ⟨r123, h5, hf⟩ := ob1_some hf
            refine k_callE C 67 (c_X12_one Z.2.1 D cy x5_30 r111 r105 r123 h5) rfl qX12_308 msX12_one rfl rfl (Nat.le_of_ble_eq_true rfl) ⟨Nat.le_of_ble_eq_true rfl, Nat.le_of_ble_eq_true rfl, Nat.le_refl 0, Nat.le_refl 0⟩ ?_
            obtain ⟨M_126, h5, hf⟩ := ob1_some hf
            refine k_callW C 68 (c_X12_push Z.2.1 D cy a M_111 r123 M_126 h5) rfl qX12_300 mvX12_push 0 12 M_c0 rfl rfl rfl (Nat.le_of_ble_eq_true rfl) ⟨Nat.le_of_ble_eq_true rfl, Nat.le_of_ble_eq_true rfl, Nat.le_refl 0, Nat.le_refl 0⟩ ?_
            exact k_sub [0, 1, 2, 3] rfl (hb129 x4 M_126 hf)
          · replace hf := if_t hf hc
            refine k_aload_0 C 50 rfl 0 rfl ?_
            refine k_lconst1 C 51 rfl ?_
            refine k_aload_0 C 52 rfl 0 rfl ?_
            obtain ⟨r94, M_94, h5, hf⟩ := ob2_some hf
            refine k_callW C 53 (c_X12_pop Z.2.1 D cy a M r94 M_94 h5) rfl qX12_304 mvX12_pop 0 12 M_c0 rfl rfl rfl (Nat.le_of_ble_eq_true rfl) ⟨Nat.le_of_ble_eq_true rfl, Nat.le_of_ble_eq_true rfl, Nat.le_refl 0, Nat.le_refl 0⟩ ?_
            refine k_lsub C 54 rfl ?_
            obtain ⟨M_98, h5, hf⟩ := ob1_some hf
            refine k_callW C 55 (c_X12_push Z.2.1 D cy a M_94 ((1 : Int64) - r94) M_98 h5) rfl qX12_300 mvX12_push 0 12 M_c0 rfl rfl rfl (Nat.le_of_ble_eq_true rfl) ⟨Nat.le_of_ble_eq_true rfl, Nat.le_of_ble_eq_true rfl, Nat.le_refl 0, Nat.le_refl 0⟩ ?_
            refine k_goto C 56 rfl 129 (by decide) ?_
            exact k_sub [0, 1, 2, 3] rfl (hb129 x4 M_98 hf)
        · replace hf := if_t hf hc
          refine k_aload_0 C 40 rfl 0 rfl ?_
          refine k_aload_0 C 41 rfl 0 rfl ?_
          refine kg12_19 C 42 rfl qX12_36 0 M_c0 M_f0_19 ?_
          refine k_iload C 43 rfl 5 rfl ?_
          obtain ⟨i77, hi, hin, hf⟩ := ixd_some hf
          refine k_lald C 44 rfl 9 M_c9 hin hi ?_
          obtain ⟨M_78, h5, hf⟩ := ob1_some hf
          refine k_callW C 45 (c_X12_push Z.2.1 D cy a M (M.2.2 19 i77) M_78 h5) rfl qX12_300 mvX12_push 0 12 M_c0 rfl rfl rfl (Nat.le_of_ble_eq_true rfl) ⟨Nat.le_of_ble_eq_true rfl, Nat.le_of_ble_eq_true rfl, Nat.le_refl 0, Nat.le_refl 0⟩ ?_
          refine k_goto C 46 rfl 129 (by decide) ?_
          exact k_sub [0, 1, 2, 3] rfl (hb129 x4 M_78 hf)
      · replace hf := if_t hf hc
        refine k_aload_0 C 32 rfl 0 rfl ?_
        refine k_iload C 33 rfl 5 rfl ?_
        refine k_i2l C 34 rfl ?_
        obtain ⟨M_58, h5, hf⟩ := ob1_some hf
        refine k_callW C 35 (c_X12_push Z.2.1 D cy a M x6_47.toInt64 M_58 h5) rfl qX12_300 mvX12_push 0 12 M_c0 rfl rfl rfl (Nat.le_of_ble_eq_true rfl) ⟨Nat.le_of_ble_eq_true rfl, Nat.le_of_ble_eq_true rfl, Nat.le_refl 0, Nat.le_refl 0⟩ ?_
        refine k_goto C 36 rfl 129 (by decide) ?_
        exact k_sub [0, 1, 2, 3] rfl (hb129 x4 M_58 hf)
  have hb8 := flW2 hq8
  refine k_aload_0 C 0 rfl 0 rfl ?_
  refine k_iconst C 1 rfl ci_0 ?_
  obtain ⟨M_2, hM, hf⟩ := bnd_some hf
  refine kp12_18 (w2 := (mw cy a M_2)) C 2 rfl qX12_297 0 M_c0 (v := 0) M_n0 (M_p0_18.trans (congrArg (fun z => (mw cy a z)) hM)) ?_
  refine k_iload_2 C 3 rfl 2 rfl ?_
  refine k_istore C 4 rfl (by decide) rfl ?_
  refine k_sub (lv2 := [(0, .ref (a 0)), (1, .int p1), (2, .int p2), (3, .int p3), (4, .int p2)]) [1, 2, 3, 4, 0] rfl ?_
  exact k_sub [0, 1, 3, 4] rfl (hb8 FU p2 M_2 hf)
set_option maxHeartbeats 1000000 in
set_option maxRecDepth 20000 in
theorem c_X12_isLine (l : Launch) (D : va_G) (cy : Nat → ClassId) (a : Nat → Nat) (M : Sg) (r : Bool) (hf : f_X12_isLine M = some r) : Ct l D cy yX12_isLine cX12_isLine 1 (some .boolean) 0 0 0 0 [.ref (a 0)] (mw cy a M) (some (.int (bI r))) (mw cy a M) := by
  refine Ct_z tX12_isLine hX12_isLine (by decide) (Nat.le_of_ble_eq_true rfl) ?_
  intro Z hZ C hR
  subst hZ
  replace C : Cx Z D cy RX12 tX12_isLine 1 0 0 0 0 := C
  show Wk Z D 1 0 0 (mw cy a M) 0 [(0, .ref (a 0))] []
  unfold f_X12_isLine at hf
  refine k_aload_0 C 0 rfl 0 rfl ?_
  refine kg12_20 C 1 rfl qX12_39 0 M_c0 M_f0_20 ?_
  refine k_iconst C 2 rfl ci_0 ?_
  refine k_iald C 3 rfl 10 M_c10 vi_0_137 tc_0 ?_
  refine k_if_le C 4 rfl 13 (by decide) (fun hc => ?_) (fun hc => ?_)
  · replace hf := if_t hf hc
    refine k_iconst C 7 rfl ci_0 ?_
    exact k_zretP hR 8 rfl hf
  · replace hf := if_f hf hc
    refine k_iconst C 5 rfl ci_1 ?_
    refine k_goto C 6 rfl 14 (by decide) ?_
    exact k_zretP hR 8 rfl hf
set_option maxHeartbeats 1000000 in
set_option maxRecDepth 20000 in
theorem c_X12_isCoach (l : Launch) (D : va_G) (cy : Nat → ClassId) (a : Nat → Nat) (M : Sg) (p1 : Int32) (r : Bool) (hf : f_X12_isCoach M p1 = some r) : Ct l D cy yX12_isCoach cX12_isCoach 2 (some .boolean) 0 0 0 0 [.ref (a 0), .int p1] (mw cy a M) (some (.int (bI r))) (mw cy a M) := by
  refine Ct_z tX12_isCoach hX12_isCoach (by decide) (Nat.le_of_ble_eq_true rfl) ?_
  intro Z hZ C hR
  subst hZ
  replace C : Cx Z D cy RX12 tX12_isCoach 2 0 0 0 0 := C
  show Wk Z D 2 0 0 (mw cy a M) 0 [(0, .ref (a 0)), (1, .int p1)] []
  unfold f_X12_isCoach at hf
  have hb18 : f_X12_isCoach_b18 M p1 = some r → Wk Z D 2 0 0 (mw cy a M) 18 [] [] := by
    intro  hf
    unfold f_X12_isCoach_b18 at hf
    refine k_iconst C 10 rfl ci_0 ?_
    exact k_zretP hR 11 rfl hf
  refine k_iload_1 C 0 rfl 1 rfl ?_
  refine k_if_lt C 1 rfl 18 (by decide) (fun hc => ?_) (fun hc => ?_)
  · replace hf := if_t hf hc
    exact k_sub [] rfl (hb18  hf)
  · replace hf := if_f hf hc
    refine k_iload_1 C 2 rfl 1 rfl ?_
    refine k_aload_0 C 3 rfl 0 rfl ?_
    refine kg12_20 C 4 rfl qX12_39 0 M_c0 M_f0_20 ?_
    refine k_iconst C 5 rfl ci_0 ?_
    refine k_iald C 6 rfl 10 M_c10 vi_0_137 tc_0 ?_
    refine k_icmp_ge C 7 rfl 18 (by decide) (fun hc => ?_) (fun hc => ?_)
    · replace hf := if_t hf hc
      exact k_sub [] rfl (hb18  hf)
    · replace hf := if_f hf hc
      refine k_iconst C 8 rfl ci_1 ?_
      refine k_goto C 9 rfl 19 (by decide) ?_
      exact k_zretP hR 11 rfl hf
set_option maxHeartbeats 1000000 in
set_option maxRecDepth 20000 in
theorem c_X12_isWay (l : Launch) (D : va_G) (cy : Nat → ClassId) (a : Nat → Nat) (M : Sg) (p1 : Int32) (r : Bool) (hf : f_X12_isWay M p1 = some r) : Ct l D cy yX12_isWay cX12_isWay 2 (some .boolean) 0 0 0 0 [.ref (a 0), .int p1] (mw cy a M) (some (.int (bI r))) (mw cy a M) := by
  refine Ct_z tX12_isWay hX12_isWay (by decide) (Nat.le_of_ble_eq_true rfl) ?_
  intro Z hZ C hR
  subst hZ
  replace C : Cx Z D cy RX12 tX12_isWay 2 0 0 0 0 := C
  show Wk Z D 2 0 0 (mw cy a M) 0 [(0, .ref (a 0)), (1, .int p1)] []
  unfold f_X12_isWay at hf
  have hb20 : f_X12_isWay_b20 M p1 = some r → Wk Z D 2 0 0 (mw cy a M) 20 [] [] := by
    intro  hf
    unfold f_X12_isWay_b20 at hf
    refine k_iconst C 12 rfl ci_0 ?_
    exact k_zretP hR 13 rfl hf
  refine k_iload_1 C 0 rfl 1 rfl ?_
  refine k_if_lt C 1 rfl 20 (by decide) (fun hc => ?_) (fun hc => ?_)
  · replace hf := if_t hf hc
    exact k_sub [] rfl (hb20  hf)
  · replace hf := if_f hf hc
    refine k_iload_1 C 2 rfl 1 rfl ?_
    refine k_aload_0 C 3 rfl 0 rfl ?_
    refine kg12_20 C 4 rfl qX12_39 0 M_c0 M_f0_20 ?_
    refine k_iconst C 5 rfl ci_0 ?_
    refine k_iald C 6 rfl 10 M_c10 vi_0_137 tc_0 ?_
    refine k_iconst C 7 rfl ci_1 ?_
    refine k_isub C 8 rfl ?_
    refine k_icmp_ge C 9 rfl 20 (by decide) (fun hc => ?_) (fun hc => ?_)
    · replace hf := if_t hf hc
      exact k_sub [] rfl (hb20  hf)
    · replace hf := if_f hf hc
      refine k_iconst C 10 rfl ci_1 ?_
      refine k_goto C 11 rfl 21 (by decide) ?_
      exact k_zretP hR 13 rfl hf
set_option maxHeartbeats 1000000 in
set_option maxRecDepth 20000 in
theorem c_X12_isRider (l : Launch) (D : va_G) (cy : Nat → ClassId) (a : Nat → Nat) (M : Sg) (p1 : Int32) (r : Bool) (hf : f_X12_isRider M p1 = some r) : Ct l D cy yX12_isRider cX12_isRider 2 (some .boolean) 0 0 0 0 [.ref (a 0), .int p1] (mw cy a M) (some (.int (bI r))) (mw cy a M) := by
  refine Ct_z tX12_isRider hX12_isRider (by decide) (Nat.le_of_ble_eq_true rfl) ?_
  intro Z hZ C hR
  subst hZ
  replace C : Cx Z D cy RX12 tX12_isRider 2 0 0 0 0 := C
  show Wk Z D 2 0 0 (mw cy a M) 0 [(0, .ref (a 0)), (1, .int p1)] []
  unfold f_X12_isRider at hf
  have hb18 : f_X12_isRider_b18 M p1 = some r → Wk Z D 2 0 0 (mw cy a M) 18 [] [] := by
    intro  hf
    unfold f_X12_isRider_b18 at hf
    refine k_iconst C 10 rfl ci_0 ?_
    exact k_zretP hR 11 rfl hf
  refine k_iload_1 C 0 rfl 1 rfl ?_
  refine k_if_lt C 1 rfl 18 (by decide) (fun hc => ?_) (fun hc => ?_)
  · replace hf := if_t hf hc
    exact k_sub [] rfl (hb18  hf)
  · replace hf := if_f hf hc
    refine k_iload_1 C 2 rfl 1 rfl ?_
    refine k_aload_0 C 3 rfl 0 rfl ?_
    refine kg12_20 C 4 rfl qX12_39 0 M_c0 M_f0_20 ?_
    refine k_iconst C 5 rfl ci_2 ?_
    refine k_iald C 6 rfl 10 M_c10 vi_2_137 tc_2 ?_
    refine k_icmp_ge C 7 rfl 18 (by decide) (fun hc => ?_) (fun hc => ?_)
    · replace hf := if_t hf hc
      exact k_sub [] rfl (hb18  hf)
    · replace hf := if_f hf hc
      refine k_iconst C 8 rfl ci_1 ?_
      refine k_goto C 9 rfl 19 (by decide) ?_
      exact k_zretP hR 11 rfl hf
set_option maxHeartbeats 1000000 in
set_option maxRecDepth 20000 in
theorem c_X12_riderOf (l : Launch) (D : va_G) (cy : Nat → ClassId) (a : Nat → Nat) (M : Sg) (p1 : Int32) (p2 : Int32) (r : Int32) (hf : f_X12_riderOf M p1 p2 = some r) : Ct l D cy yX12_riderOf cX12_riderOf 3 (some .int) 0 0 0 0 [.ref (a 0), .int p1, .int p2] (mw cy a M) (some (.int r)) (mw cy a M) := by
  refine Ct_i tX12_riderOf hX12_riderOf (by decide) (Nat.le_of_ble_eq_true rfl) ?_
  intro Z hZ C hR
  subst hZ
  replace C : Cx Z D cy RX12 tX12_riderOf 3 0 0 0 0 := C
  show Wk Z D 3 0 0 (mw cy a M) 0 [(0, .ref (a 0)), (1, .int p1), (2, .int p2)] []
  unfold f_X12_riderOf at hf
  refine k_aload_0 C 0 rfl 0 rfl ?_
  refine kg12_20 C 1 rfl qX12_39 0 M_c0 M_f0_20 ?_
  refine k_bipush C 2 rfl cb_52 ?_
  refine k_bipush C 3 rfl cb_8 ?_
  refine k_iload_1 C 4 rfl 1 rfl ?_
  refine k_imul C 5 rfl ?_
  refine k_iadd C 6 rfl ?_
  refine k_iload_2 C 7 rfl 2 rfl ?_
  refine k_iadd C 8 rfl ?_
  obtain ⟨i13, hi, hin, hf⟩ := ixd_some hf
  refine k_iald C 9 rfl 10 M_c10 hin hi ?_
  exact k_iretP hR 10 rfl hf
set_option maxHeartbeats 1000000 in
set_option maxRecDepth 20000 in
theorem c_X12_isGoing (l : Launch) (D : va_G) (cy : Nat → ClassId) (a : Nat → Nat) (M : Sg) (p1 : Int32) (r : Bool) (hf : f_X12_isGoing M p1 = some r) : Ct l D cy yX12_isGoing cX12_isGoing 2 (some .boolean) 1 22 0 0 [.ref (a 0), .int p1] (mw cy a M) (some (.int (bI r))) (mw cy a M) := by
  refine Ct_z tX12_isGoing hX12_isGoing (by decide) (Nat.le_of_ble_eq_true rfl) ?_
  intro Z hZ C hR
  subst hZ
  replace C : Cx Z D cy RX12 tX12_isGoing 2 1 22 0 0 := C
  show Wk Z D 2 0 0 (mw cy a M) 0 [(0, .ref (a 0)), (1, .int p1)] []
  unfold f_X12_isGoing at hf
  refine k_aload_0 C 0 rfl 0 rfl ?_
  refine k_iload_1 C 1 rfl 1 rfl ?_
  refine k_iconst C 2 rfl ci_5 ?_
  obtain ⟨r3, h5, hf⟩ := ob1_some hf
  refine k_callW C 3 (c_X12_riderOf Z.2.1 D cy a M p1 5 r3 h5) rfl qX12_312 mvX12_riderOf 0 12 M_c0 rfl rfl rfl (Nat.le_of_ble_eq_true rfl) ⟨Nat.le_of_ble_eq_true rfl, Nat.le_of_ble_eq_true rfl, Nat.le_refl 0, Nat.le_refl 0⟩ ?_
  refine k_if_lt C 4 rfl 13 (by decide) (fun hc => ?_) (fun hc => ?_)
  · replace hf := if_t hf hc
    refine k_iconst C 7 rfl ci_0 ?_
    exact k_zretP hR 8 rfl hf
  · replace hf := if_f hf hc
    refine k_iconst C 5 rfl ci_1 ?_
    refine k_goto C 6 rfl 14 (by decide) ?_
    exact k_zretP hR 8 rfl hf
set_option maxHeartbeats 1000000 in
set_option maxRecDepth 20000 in
theorem c_X12_parting (l : Launch) (D : va_G) (cy : Nat → ClassId) (a : Nat → Nat) (M : Sg) (r : Int32) (hf : f_X12_parting M = some r) : Ct l D cy yX12_parting cX12_parting 1 (some .int) 0 0 0 0 [.ref (a 0)] (mw cy a M) (some (.int r)) (mw cy a M) := by
  refine Ct_i tX12_parting hX12_parting (by decide) (Nat.le_of_ble_eq_true rfl) ?_
  intro Z hZ C hR
  subst hZ
  replace C : Cx Z D cy RX12 tX12_parting 1 0 0 0 0 := C
  show Wk Z D 1 0 0 (mw cy a M) 0 [(0, .ref (a 0))] []
  unfold f_X12_parting at hf
  refine k_aload_0 C 0 rfl 0 rfl ?_
  refine kg12_20 C 1 rfl qX12_39 0 M_c0 M_f0_20 ?_
  refine k_bipush C 2 rfl cb_18 ?_
  refine k_iconst C 3 rfl ci_2 ?_
  refine k_aload_0 C 4 rfl 0 rfl ?_
  refine kg12_20 C 5 rfl qX12_39 0 M_c0 M_f0_20 ?_
  refine k_iconst C 6 rfl ci_4 ?_
  refine k_iald C 7 rfl 10 M_c10 vi_4_137 tc_4 ?_
  refine k_imul C 8 rfl ?_
  refine k_iadd C 9 rfl ?_
  refine k_iconst C 10 rfl ci_1 ?_
  refine k_iadd C 11 rfl ?_
  obtain ⟨i17, hi, hin, hf⟩ := ixd_some hf
  refine k_iald C 12 rfl 10 M_c10 hin hi ?_
  exact k_iretP hR 13 rfl hf
set_option maxHeartbeats 1000000 in
set_option maxRecDepth 20000 in
theorem c_X12_isRight (l : Launch) (D : va_G) (cy : Nat → ClassId) (a : Nat → Nat) (M : Sg) (p1 : Int32) (p2 : Int32) (r : Bool) (hf : f_X12_isRight M p1 p2 = some r) : Ct l D cy yX12_isRight cX12_isRight 3 (some .boolean) 1 22 0 0 [.ref (a 0), .int p1, .int p2] (mw cy a M) (some (.int (bI r))) (mw cy a M) := by
  refine Ct_z tX12_isRight hX12_isRight (by decide) (Nat.le_of_ble_eq_true rfl) ?_
  intro Z hZ C hR
  subst hZ
  replace C : Cx Z D cy RX12 tX12_isRight 3 1 22 0 0 := C
  show Wk Z D 3 0 0 (mw cy a M) 0 [(0, .ref (a 0)), (1, .int p1), (2, .int p2)] []
  unfold f_X12_isRight at hf
  refine k_aload_0 C 0 rfl 0 rfl ?_
  refine kg12_20 C 1 rfl qX12_39 0 M_c0 M_f0_20 ?_
  refine k_bipush C 2 rfl cb_10 ?_
  refine k_iload_2 C 3 rfl 2 rfl ?_
  refine k_iadd C 4 rfl ?_
  obtain ⟨i8, hi, hin, hf⟩ := ixd_some hf
  refine k_iald C 5 rfl 10 M_c10 hin hi ?_
  refine k_aload_0 C 6 rfl 0 rfl ?_
  refine k_iload_1 C 7 rfl 1 rfl ?_
  refine k_iconst C 8 rfl ci_1 ?_
  obtain ⟨r12, h5, hf⟩ := ob1_some hf
  refine k_callW C 9 (c_X12_riderOf Z.2.1 D cy a M p1 1 r12 h5) rfl qX12_312 mvX12_riderOf 0 12 M_c0 rfl rfl rfl (Nat.le_of_ble_eq_true rfl) ⟨Nat.le_of_ble_eq_true rfl, Nat.le_of_ble_eq_true rfl, Nat.le_refl 0, Nat.le_refl 0⟩ ?_
  refine k_icmp_ne C 10 rfl 22 (by decide) (fun hc => ?_) (fun hc => ?_)
  · replace hf := if_f hf hc
    refine k_iconst C 13 rfl ci_0 ?_
    exact k_zretP hR 14 rfl hf
  · replace hf := if_t hf hc
    refine k_iconst C 11 rfl ci_1 ?_
    refine k_goto C 12 rfl 23 (by decide) ?_
    exact k_zretP hR 14 rfl hf
set_option maxHeartbeats 1000000 in
set_option maxRecDepth 20000 in
theorem c_X12_ridersIn (l : Launch) (D : va_G) (cy : Nat → ClassId) (a : Nat → Nat) (M : Sg) (p1 : Int32) (r : Int32) (hf : f_X12_ridersIn M p1 = some r) : Ct l D cy yX12_ridersIn cX12_ridersIn 4 (some .int) 1 22 0 0 [.ref (a 0), .int p1] (mw cy a M) (some (.int r)) (mw cy a M) := by
  refine Ct_i tX12_ridersIn hX12_ridersIn (by decide) (Nat.le_of_ble_eq_true rfl) ?_
  intro Z hZ C hR
  subst hZ
  replace C : Cx Z D cy RX12 tX12_ridersIn 4 1 22 0 0 := C
  show Wk Z D 4 0 0 (mw cy a M) 0 [(0, .ref (a 0)), (1, .int p1)] []
  unfold f_X12_ridersIn at hf
  have hq4 : ∀ (k4 : Int32 → Int32 → Option (Int32)), (∀ (x2 : Int32) (x3 : Int32), k4 x2 x3 = some r → Wk Z D 4 0 0 (mw cy a M) 4 [(0, .ref (a 0)), (1, .int p1), (2, .int x2), (3, .int x3)] []) → ∀ (x2 : Int32) (x3 : Int32), f_X12_ridersIn_b4 M p1 k4 x2 x3 = some r → Wk Z D 4 0 0 (mw cy a M) 4 [(0, .ref (a 0)), (1, .int p1), (2, .int x2), (3, .int x3)] [] := by
    intro k4 hk4 x2 x3 hf
    unfold f_X12_ridersIn_b4 at hf
    have hb32 : ∀ (x3 : Int32) (s0 : Int32) (s1 : Int32), f_X12_ridersIn_b32 M p1 k4 x3 s0 s1 = some r → Wk Z D 4 0 0 (mw cy a M) 32 [(0, .ref (a 0)), (1, .int p1), (3, .int x3)] [.int s1, .int s0] := by
      intro x3 s0 s1 hf
      unfold f_X12_ridersIn_b32 at hf
      refine k_ior C 22 rfl ?_
      obtain ⟨x2_33, hx, hf⟩ := bnd_some hf
      refine k_topi hx ?_
      refine k_istore_2 C 23 rfl (by decide) rfl ?_
      refine k_sub (lv2 := [(0, .ref (a 0)), (1, .int p1), (2, .int x2_33), (3, .int x3)]) [1, 2, 0, 3] rfl ?_
      obtain ⟨x3_34, hx, hf⟩ := bnd_some hf
      refine k_iinc C 24 rfl 3 rfl ((cn_1 _).trans hx) (by decide) rfl ?_
      refine k_sub (lv2 := [(0, .ref (a 0)), (1, .int p1), (2, .int x2_33), (3, .int x3_34)]) [1, 2, 3, 0] rfl ?_
      refine k_goto C 25 rfl 4 (by decide) ?_
      exact k_sub [0, 1, 2, 3] rfl (hk4 x2_33 x3_34 hf)
    refine k_iload_3 C 4 rfl 3 rfl ?_
    refine k_aload_0 C 5 rfl 0 rfl ?_
    refine kg12_20 C 6 rfl qX12_39 0 M_c0 M_f0_20 ?_
    refine k_iconst C 7 rfl ci_2 ?_
    refine k_iald C 8 rfl 10 M_c10 vi_2_137 tc_2 ?_
    refine k_icmp_ge C 9 rfl 40 (by decide) (fun hc => ?_) (fun hc => ?_)
    · replace hf := if_t hf hc
      refine k_iload_2 C 26 rfl 2 rfl ?_
      exact k_iretP hR 27 rfl hf
    · replace hf := if_f hf hc
      refine k_iload_2 C 10 rfl 2 rfl ?_
      refine k_aload_0 C 11 rfl 0 rfl ?_
      refine k_iload_3 C 12 rfl 3 rfl ?_
      refine k_iconst C 13 rfl ci_0 ?_
      obtain ⟨r18, h5, hf⟩ := ob1_some hf
      refine k_callW C 14 (c_X12_riderOf Z.2.1 D cy a M x3 0 r18 h5) rfl qX12_312 mvX12_riderOf 0 12 M_c0 rfl rfl rfl (Nat.le_of_ble_eq_true rfl) ⟨Nat.le_of_ble_eq_true rfl, Nat.le_of_ble_eq_true rfl, Nat.le_refl 0, Nat.le_refl 0⟩ ?_
      refine k_iload_1 C 15 rfl 1 rfl ?_
      refine k_icmp_ne C 16 rfl 31 (by decide) (fun hc => ?_) (fun hc => ?_)
      · replace hf := if_f hf hc
        refine k_iconst C 21 rfl ci_0 ?_
        exact k_sub [0, 1, 3] rfl (hb32 x3 x2 0 hf)
      · replace hf := if_t hf hc
        refine k_iconst C 17 rfl ci_1 ?_
        refine k_iload_3 C 18 rfl 3 rfl ?_
        refine k_ishl C 19 rfl ?_
        refine k_goto C 20 rfl 32 (by decide) ?_
        exact k_sub [0, 1, 3] rfl (hb32 x3 x2 ((1 : Int32) <<< (x3 &&& 31)) hf)
  have hb4 := flW2 hq4
  refine k_iconst C 0 rfl ci_0 ?_
  refine k_istore_2 C 1 rfl (by decide) rfl ?_
  refine k_sub (lv2 := [(0, .ref (a 0)), (1, .int p1), (2, .int 0)]) [1, 2, 0] rfl ?_
  refine k_iconst C 2 rfl ci_0 ?_
  refine k_istore_3 C 3 rfl (by decide) rfl ?_
  refine k_sub (lv2 := [(0, .ref (a 0)), (1, .int p1), (2, .int 0), (3, .int 0)]) [1, 2, 3, 0] rfl ?_
  exact k_sub [0, 1, 2, 3] rfl (hb4 FU 0 0 hf)
set_option maxHeartbeats 1000000 in
set_option maxRecDepth 20000 in
theorem c_X12_bits (l : Launch) (D : va_G) (cy : Nat → ClassId) (p0 : Int32) (r : Int32) (hf : f_X12_bits p0 = some r) : Ct l D cy yX12_bits cX12_bits 3 (some .int) 0 0 0 0 [.int p0] [] (some (.int r)) [] := by
  refine Ct_i tX12_bits hX12_bits (by decide) (Nat.le_of_ble_eq_true rfl) ?_
  intro Z hZ C hR
  subst hZ
  replace C : Cx Z D cy RX12 tX12_bits 3 0 0 0 0 := C
  show Wk Z D 3 0 0 [] 0 [(0, .int p0)] []
  unfold f_X12_bits at hf
  have hq4 : ∀ (k4 : Int32 → Int32 → Option (Int32)), (∀ (x1 : Int32) (x2 : Int32), k4 x1 x2 = some r → Wk Z D 3 0 0 [] 4 [(1, .int x1), (2, .int x2)] []) → ∀ (x1 : Int32) (x2 : Int32), f_X12_bits_b4 p0 k4 x1 x2 = some r → Wk Z D 3 0 0 [] 4 [(1, .int x1), (2, .int x2)] [] := by
    intro k4 hk4 x1 x2 hf
    unfold f_X12_bits_b4 at hf
    refine k_iload_2 C 4 rfl 1 rfl ?_
    refine k_if_eq C 5 rfl 20 (by decide) (fun hc => ?_) (fun hc => ?_)
    · replace hf := if_t hf hc
      refine k_iload_1 C 14 rfl 0 rfl ?_
      exact k_iretP hR 15 rfl hf
    · replace hf := if_f hf hc
      obtain ⟨x1_8, hx, hf⟩ := bnd_some hf
      refine k_iinc C 6 rfl 0 rfl ((cn_1 _).trans hx) (by decide) rfl ?_
      refine k_iload_2 C 7 rfl 1 rfl ?_
      refine k_iload_2 C 8 rfl 1 rfl ?_
      refine k_iconst C 9 rfl ci_1 ?_
      refine k_isub C 10 rfl ?_
      refine k_iand C 11 rfl ?_
      obtain ⟨x2_16, hx, hf⟩ := bnd_some hf
      refine k_topi hx ?_
      refine k_istore_2 C 12 rfl (by decide) rfl ?_
      refine k_sub (lv2 := [(1, .int x1_8), (2, .int x2_16)]) [1, 0] rfl ?_
      refine k_goto C 13 rfl 4 (by decide) ?_
      exact k_sub [0, 1] rfl (hk4 x1_8 x2_16 hf)
  have hb4 := flW2 hq4
  refine k_iconst C 0 rfl ci_0 ?_
  refine k_istore_1 C 1 rfl (by decide) rfl ?_
  refine k_sub (lv2 := [(0, .int p0), (1, .int 0)]) [1, 0] rfl ?_
  refine k_iload_0 C 2 rfl 0 rfl ?_
  refine k_istore_2 C 3 rfl (by decide) rfl ?_
  refine k_sub (lv2 := [(0, .int p0), (1, .int 0), (2, .int p0)]) [1, 2, 0] rfl ?_
  exact k_sub [1, 2] rfl (hb4 FU 0 p0 hf)
set_option maxHeartbeats 1000000 in
set_option maxRecDepth 20000 in
theorem c_X12_wayOf (l : Launch) (D : va_G) (cy : Nat → ClassId) (p0 : Int32) (p1 : Int32) (r : Int32) (hf : f_X12_wayOf p0 p1 = some r) : Ct l D cy yX12_wayOf cX12_wayOf 2 (some .int) 0 0 0 0 [.int p0, .int p1] [] (some (.int r)) [] := by
  refine Ct_i tX12_wayOf hX12_wayOf (by decide) (Nat.le_of_ble_eq_true rfl) ?_
  intro Z hZ C hR
  subst hZ
  replace C : Cx Z D cy RX12 tX12_wayOf 2 0 0 0 0 := C
  show Wk Z D 2 0 0 [] 0 [(0, .int p0), (1, .int p1)] []
  unfold f_X12_wayOf at hf
  refine k_iload_0 C 0 rfl 0 rfl ?_
  refine k_iload_1 C 1 rfl 1 rfl ?_
  refine k_icmp_ge C 2 rfl 9 (by decide) (fun hc => ?_) (fun hc => ?_)
  · replace hf := if_t hf hc
    refine k_iload_1 C 5 rfl 1 rfl ?_
    exact k_iretP hR 6 rfl hf
  · replace hf := if_f hf hc
    refine k_iload_0 C 3 rfl 0 rfl ?_
    refine k_goto C 4 rfl 10 (by decide) ?_
    exact k_iretP hR 6 rfl hf
set_option maxHeartbeats 1000000 in
set_option maxRecDepth 20000 in
theorem c_X12_isInside_ (l : Launch) (D : va_G) (cy : Nat → ClassId) (a : Nat → Nat) (M : Sg) (p1 : Int32) (r : Bool) (hf : f_X12_isInside_ M p1 = some r) : Ct l D cy yX12_isInside_ cX12_isInside_ 2 (some .boolean) 1 21 0 0 [.ref (a 0), .int p1] (mw cy a M) (some (.int (bI r))) (mw cy a M) := by
  refine Ct_z tX12_isInside_ hX12_isInside_ (by decide) (Nat.le_of_ble_eq_true rfl) ?_
  intro Z hZ C hR
  subst hZ
  replace C : Cx Z D cy RX12 tX12_isInside_ 2 1 21 0 0 := C
  show Wk Z D 2 0 0 (mw cy a M) 0 [(0, .ref (a 0)), (1, .int p1)] []
  unfold f_X12_isInside_ at hf
  refine k_aload_0 C 0 rfl 0 rfl ?_
  refine kg12_20 C 1 rfl qX12_39 0 M_c0 M_f0_20 ?_
  refine k_bipush C 2 rfl cb_8 ?_
  refine k_iald C 3 rfl 10 M_c10 vi_8_137 tc_8 ?_
  refine k_iload_1 C 4 rfl 1 rfl ?_
  obtain ⟨r8, h5, hf⟩ := ob1_some hf
  refine k_callE C 5 (c_X12_isOf Z.2.1 D cy (M.2.1 20 8) p1 r8 h5) rfl qX12_324 msX12_isOf rfl rfl (Nat.le_of_ble_eq_true rfl) ⟨Nat.le_of_ble_eq_true rfl, Nat.le_of_ble_eq_true rfl, Nat.le_refl 0, Nat.le_refl 0⟩ ?_
  exact k_zretP hR 6 rfl hf
set_option maxHeartbeats 1000000 in
set_option maxRecDepth 20000 in
theorem c_X12_goerIn (l : Launch) (D : va_G) (cy : Nat → ClassId) (a : Nat → Nat) (M : Sg) (p1 : Int32) (r : Int32) (hf : f_X12_goerIn M p1 = some r) : Ct l D cy yX12_goerIn cX12_goerIn 3 (some .int) 2 43 0 0 [.ref (a 0), .int p1] (mw cy a M) (some (.int r)) (mw cy a M) := by
  refine Ct_i tX12_goerIn hX12_goerIn (by decide) (Nat.le_of_ble_eq_true rfl) ?_
  intro Z hZ C hR
  subst hZ
  replace C : Cx Z D cy RX12 tX12_goerIn 3 2 43 0 0 := C
  show Wk Z D 3 0 0 (mw cy a M) 0 [(0, .ref (a 0)), (1, .int p1)] []
  unfold f_X12_goerIn at hf
  have hq2 : ∀ (k2 : Int32 → Option (Int32)), (∀ (x2 : Int32), k2 x2 = some r → Wk Z D 3 0 0 (mw cy a M) 2 [(0, .ref (a 0)), (1, .int p1), (2, .int x2)] []) → ∀ (x2 : Int32), f_X12_goerIn_b2 M p1 k2 x2 = some r → Wk Z D 3 0 0 (mw cy a M) 2 [(0, .ref (a 0)), (1, .int p1), (2, .int x2)] [] := by
    intro k2 hk2 x2 hf
    unfold f_X12_goerIn_b2 at hf
    have hb49 : ∀ (x2 : Int32), f_X12_goerIn_b49 M p1 k2 x2 = some r → Wk Z D 3 0 0 (mw cy a M) 49 [(0, .ref (a 0)), (1, .int p1), (2, .int x2)] [] := by
      intro x2 hf
      unfold f_X12_goerIn_b49 at hf
      obtain ⟨x2_49, hx, hf⟩ := bnd_some hf
      refine k_iinc C 29 rfl 2 rfl ((cn_1 _).trans hx) (by decide) rfl ?_
      refine k_sub (lv2 := [(0, .ref (a 0)), (1, .int p1), (2, .int x2_49)]) [1, 2, 0] rfl ?_
      refine k_goto C 30 rfl 2 (by decide) ?_
      exact k_sub [0, 1, 2] rfl (hk2 x2_49 hf)
    refine k_iload_2 C 2 rfl 2 rfl ?_
    refine k_aload_0 C 3 rfl 0 rfl ?_
    refine kg12_20 C 4 rfl qX12_39 0 M_c0 M_f0_20 ?_
    refine k_iconst C 5 rfl ci_2 ?_
    refine k_iald C 6 rfl 10 M_c10 vi_2_137 tc_2 ?_
    refine k_icmp_ge C 7 rfl 55 (by decide) (fun hc => ?_) (fun hc => ?_)
    · replace hf := if_t hf hc
      refine k_iconst C 31 rfl ci_m1 ?_
      exact k_iretP hR 32 rfl hf
    · replace hf := if_f hf hc
      refine k_aload_0 C 8 rfl 0 rfl ?_
      refine k_iload_2 C 9 rfl 2 rfl ?_
      obtain ⟨r14, h5, hf⟩ := ob1_some hf
      refine k_callW C 10 (c_X12_isGoing Z.2.1 D cy a M x2 r14 h5) rfl qX12_316 mvX12_isGoing 0 12 M_c0 rfl rfl rfl (Nat.le_of_ble_eq_true rfl) ⟨Nat.le_of_ble_eq_true rfl, Nat.le_of_ble_eq_true rfl, Nat.le_refl 0, Nat.le_refl 0⟩ ?_
      refine k_if_eq C 11 rfl 49 (by decide) (fun hc => ?_) (fun hc => ?_)
      · replace hf := if_t hf hc
        exact k_sub [0, 1, 2] rfl (hb49 x2 hf)
      · replace hf := if_f hf hc
        refine k_aload_0 C 12 rfl 0 rfl ?_
        refine k_iload_2 C 13 rfl 2 rfl ?_
        obtain ⟨r22, h5, hf⟩ := ob1_some hf
        refine k_callW C 14 (c_X12_isInside_ Z.2.1 D cy a M x2 r22 h5) rfl qX12_319 mvX12_isInside_ 0 12 M_c0 rfl rfl rfl (Nat.le_of_ble_eq_true rfl) ⟨Nat.le_of_ble_eq_true rfl, Nat.le_of_ble_eq_true rfl, Nat.le_refl 0, Nat.le_refl 0⟩ ?_
        refine k_if_eq C 15 rfl 49 (by decide) (fun hc => ?_) (fun hc => ?_)
        · replace hf := if_t hf hc
          exact k_sub [0, 1, 2] rfl (hb49 x2 hf)
        · replace hf := if_f hf hc
          refine k_aload_0 C 16 rfl 0 rfl ?_
          refine k_iload_2 C 17 rfl 2 rfl ?_
          refine k_iconst C 18 rfl ci_0 ?_
          obtain ⟨r31, h5, hf⟩ := ob1_some hf
          refine k_callW C 19 (c_X12_riderOf Z.2.1 D cy a M x2 0 r31 h5) rfl qX12_312 mvX12_riderOf 0 12 M_c0 rfl rfl rfl (Nat.le_of_ble_eq_true rfl) ⟨Nat.le_of_ble_eq_true rfl, Nat.le_of_ble_eq_true rfl, Nat.le_refl 0, Nat.le_refl 0⟩ ?_
          refine k_aload_0 C 20 rfl 0 rfl ?_
          refine k_iload_2 C 21 rfl 2 rfl ?_
          refine k_iconst C 22 rfl ci_5 ?_
          obtain ⟨r37, h5, hf⟩ := ob1_some hf
          refine k_callW C 23 (c_X12_riderOf Z.2.1 D cy a M x2 5 r37 h5) rfl qX12_312 mvX12_riderOf 0 12 M_c0 rfl rfl rfl (Nat.le_of_ble_eq_true rfl) ⟨Nat.le_of_ble_eq_true rfl, Nat.le_of_ble_eq_true rfl, Nat.le_refl 0, Nat.le_refl 0⟩ ?_
          obtain ⟨r40, h5, hf⟩ := ob1_some hf
          refine k_callE C 24 (c_X12_wayOf Z.2.1 D cy r31 r37 r40 h5) rfl qX12_321 msX12_wayOf rfl rfl (Nat.le_of_ble_eq_true rfl) ⟨Nat.le_of_ble_eq_true rfl, Nat.le_of_ble_eq_true rfl, Nat.le_refl 0, Nat.le_refl 0⟩ ?_
          refine k_iload_1 C 25 rfl 1 rfl ?_
          refine k_icmp_ne C 26 rfl 49 (by decide) (fun hc => ?_) (fun hc => ?_)
          · replace hf := if_f hf hc
            exact k_sub [0, 1, 2] rfl (hb49 x2 hf)
          · replace hf := if_t hf hc
            refine k_iload_2 C 27 rfl 2 rfl ?_
            exact k_iretP hR 28 rfl hf
  have hb2 := flW1 hq2
  refine k_iconst C 0 rfl ci_0 ?_
  refine k_istore_2 C 1 rfl (by decide) rfl ?_
  refine k_sub (lv2 := [(0, .ref (a 0)), (1, .int p1), (2, .int 0)]) [1, 2, 0] rfl ?_
  exact k_sub [0, 1, 2] rfl (hb2 FU 0 hf)
