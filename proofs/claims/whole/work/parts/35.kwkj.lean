set_option maxHeartbeats 1000000 in
set_option maxRecDepth 20000 in
theorem c_J6_bitCount_0f7a4 (l : Launch) (D : va_G) (cy : Nat → ClassId) (p0 : Int32) (r : Int32) (hf : f_J6_bitCount_0f7a4 p0 = some r) : Ct l D cy yJ6_bitCount_0f7a4 cJ6_bitCount_0f7a4 1 (some .int) 0 0 0 0 [.int p0] [] (some (.int r)) [] := by
  refine Ct_i tJ6_bitCount_0f7a4 hJ6_bitCount_0f7a4 (by decide) (Nat.le_of_ble_eq_true rfl) ?_
  intro Z hZ C hR
  subst hZ
  replace C : Cx Z D cy RJ6 tJ6_bitCount_0f7a4 1 0 0 0 0 := C
  show Wk Z D 1 0 0 [] 0 [(0, .int p0)] []
  unfold f_J6_bitCount_0f7a4 at hf
  refine k_iload_0 C 0 rfl 0 rfl ?_
  refine k_iload_0 C 1 rfl 0 rfl ?_
  refine k_iconst C 2 rfl ci_1 ?_
  refine k_iushr C 3 rfl ?_
  refine k_ldcw C 4 rfl qJ6_265 ?_
  refine k_iand C 5 rfl ?_
  refine k_isub C 6 rfl ?_
  obtain ⟨x0_9, hx, hf⟩ := bnd_some hf
  refine k_topi hx ?_
  refine k_istore_0 C 7 rfl (by decide) rfl ?_
  refine k_iload_0 C 8 rfl 0 rfl ?_
  refine k_ldcw C 9 rfl qJ6_266 ?_
  refine k_iand C 10 rfl ?_
  refine k_iload_0 C 11 rfl 0 rfl ?_
  refine k_iconst C 12 rfl ci_2 ?_
  refine k_iushr C 13 rfl ?_
  refine k_ldcw C 14 rfl qJ6_266 ?_
  refine k_iand C 15 rfl ?_
  refine k_iadd C 16 rfl ?_
  obtain ⟨x0_23, hx, hf⟩ := bnd_some hf
  refine k_topi hx ?_
  refine k_istore_0 C 17 rfl (by decide) rfl ?_
  refine k_iload_0 C 18 rfl 0 rfl ?_
  refine k_iload_0 C 19 rfl 0 rfl ?_
  refine k_iconst C 20 rfl ci_4 ?_
  refine k_iushr C 21 rfl ?_
  refine k_iadd C 22 rfl ?_
  refine k_ldcw C 23 rfl qJ6_267 ?_
  refine k_iand C 24 rfl ?_
  obtain ⟨x0_33, hx, hf⟩ := bnd_some hf
  refine k_topi hx ?_
  refine k_istore_0 C 25 rfl (by decide) rfl ?_
  refine k_iload_0 C 26 rfl 0 rfl ?_
  refine k_iload_0 C 27 rfl 0 rfl ?_
  refine k_bipush C 28 rfl cb_8 ?_
  refine k_iushr C 29 rfl ?_
  refine k_iadd C 30 rfl ?_
  obtain ⟨x0_40, hx, hf⟩ := bnd_some hf
  refine k_topi hx ?_
  refine k_istore_0 C 31 rfl (by decide) rfl ?_
  refine k_iload_0 C 32 rfl 0 rfl ?_
  refine k_iload_0 C 33 rfl 0 rfl ?_
  refine k_bipush C 34 rfl cb_16 ?_
  refine k_iushr C 35 rfl ?_
  refine k_iadd C 36 rfl ?_
  obtain ⟨x0_47, hx, hf⟩ := bnd_some hf
  refine k_topi hx ?_
  refine k_istore_0 C 37 rfl (by decide) rfl ?_
  refine k_iload_0 C 38 rfl 0 rfl ?_
  refine k_bipush C 39 rfl cb_63 ?_
  refine k_iand C 40 rfl ?_
  exact k_iretP hR 41 rfl hf
set_option maxHeartbeats 1000000 in
set_option maxRecDepth 20000 in
theorem c_J7_fill_53178 (l : Launch) (D : va_G) (cy : Nat → ClassId) (a : Nat → Nat) (n : Nat) (A : Sg) (p1 : Int32) (A1 : Sg) (hf : f_J7_fill_53178 n A p1 = some A1) : Ct l D cy yJ7_fill_53178 cJ7_fill_53178 4 none 0 0 0 0 [.ref (a 0), .int p1] (wA1 cy a n A) none (wA1 cy a n A1) := by
  refine Ct_v tJ7_fill_53178 hJ7_fill_53178 (by decide) (Nat.le_of_ble_eq_true rfl) ?_
  intro Z hZ C hR
  subst hZ
  replace C : Cx Z D cy RJ7 tJ7_fill_53178 4 0 0 0 0 := C
  show Wk Z D 4 0 0 (wA1 cy a n A) 0 [(0, .ref (a 0)), (1, .int p1)] []
  unfold f_J7_fill_53178 at hf
  have hq5 : ∀ (k5 : Int32 → Int32 → Sg → Option (Sg)), (∀ (x2 : Int32) (x3 : Int32) (A : Sg), k5 x2 x3 A = some A1 → Wk Z D 4 0 0 (wA1 cy a n A) 5 [(0, .ref (a 0)), (1, .int p1), (2, .int x2), (3, .int x3)] []) → ∀ (x2 : Int32) (x3 : Int32) (A : Sg), f_J7_fill_53178_b5 n p1 k5 x2 x3 A = some A1 → Wk Z D 4 0 0 (wA1 cy a n A) 5 [(0, .ref (a 0)), (1, .int p1), (2, .int x2), (3, .int x3)] [] := by
    intro k5 hk5 x2 x3 A hf
    unfold f_J7_fill_53178_b5 at hf
    refine k_iload_2 C 5 rfl 2 rfl ?_
    refine k_iload_3 C 6 rfl 3 rfl ?_
    refine k_icmp_ge C 7 rfl 20 (by decide) (fun hc => ?_) (fun hc => ?_)
    · replace hf := if_t hf hc
      exact k_vret (wf := (fun u => (wA1 cy a n u))) hR 14 rfl hf
    · replace hf := if_f hf hc
      refine k_aload_0 C 8 rfl 0 rfl ?_
      refine k_iload_2 C 9 rfl 2 rfl ?_
      refine k_iload_1 C 10 rfl 1 rfl ?_
      obtain ⟨i13, hi, hin, hf⟩ := ixd_some hf
      obtain ⟨A_13, hM, hf⟩ := bnd_some hf
      refine k_iast (w2 := (wA1 cy a n A_13)) C 11 rfl 0 A1_c0 hin hi (A1_s0.trans (congrArg (fun z => (wA1 cy a n z)) hM)) ?_
      obtain ⟨x2_14, hx, hf⟩ := bnd_some hf
      refine k_iinc C 12 rfl 2 rfl ((cn_1 _).trans hx) (by decide) rfl ?_
      refine k_sub (lv2 := [(0, .ref (a 0)), (1, .int p1), (2, .int x2_14), (3, .int x3)]) [1, 2, 0, 3] rfl ?_
      refine k_goto C 13 rfl 5 (by decide) ?_
      exact k_sub [0, 1, 2, 3] rfl (hk5 x2_14 x3 A_13 hf)
  have hb5 := flW3 hq5
  refine k_iconst C 0 rfl ci_0 ?_
  refine k_istore_2 C 1 rfl (by decide) rfl ?_
  refine k_sub (lv2 := [(0, .ref (a 0)), (1, .int p1), (2, .int 0)]) [1, 2, 0] rfl ?_
  refine k_aload_0 C 2 rfl 0 rfl ?_
  refine k_alen C 3 rfl 0 1 A1_c0 rfl (v := nI n) rfl ?_
  obtain ⟨x3_4, hx, hf⟩ := bnd_some hf
  refine k_topi hx ?_
  refine k_istore_3 C 4 rfl (by decide) rfl ?_
  refine k_sub (lv2 := [(0, .ref (a 0)), (1, .int p1), (2, .int 0), (3, .int x3_4)]) [1, 2, 3, 0] rfl ?_
  exact k_sub [0, 1, 2, 3] rfl (hb5 FU 0 x3_4 A hf)
