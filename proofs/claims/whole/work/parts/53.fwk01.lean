set_option maxHeartbeats 1000000 in
set_option maxRecDepth 20000 in
theorem c_X11_meet (l : Launch) (D : va_G) (cy : Nat → ClassId) (fa : Nat → Nat) (ha : Nat → Nat) (kr : Nat → Nat) (rk : Nat → Nat) (lr : Nat → Nat) (tx : Nat → Nat) (da : Nat → Nat) (sr : Nat → Nat) (a : Nat → Nat) (F : Sg) (Q : Sg) (T : Sg) (O : Sg) (E : Sg) (X : Sg) (Td : Sg) (Od : Sg) (Ed : Sg) (Xd : Sg) (L : Sg) (K : Sg) (N : Sg) (S : Sg) (H : Sg) (p1 : Int32) (p2 : Int32) (p3 : Int32) (r : Int32) (S1 : Sg) (hf : f_X11_meet T O S p1 p2 p3 = some (r, S1)) : Ct l D cy yX11_meet cX11_meet 5 (some .int) 4 282 0 0 [.ref (fa 0), .int p1, .int p2, .int p3] (wF cy fa ha kr rk lr tx da sr a F Q T O E X Td Od Ed Xd L K N S H) (some (.int r)) (wF cy fa ha kr rk lr tx da sr a F Q T O E X Td Od Ed Xd L K N S1 H) := by
  refine Ct_i tX11_meet hX11_meet (by decide) (Nat.le_of_ble_eq_true rfl) ?_
  intro Z hZ C hR
  subst hZ
  replace C : Cx Z D cy RX11 tX11_meet 5 4 282 0 0 := C
  show Wk Z D 5 0 0 (wF cy fa ha kr rk lr tx da sr a F Q T O E X Td Od Ed Xd L K N S H) 0 [(0, .ref (fa 0)), (1, .int p1), (2, .int p2), (3, .int p3)] []
  unfold f_X11_meet at hf
  have hb36 : ∀ (S : Sg), f_X11_meet_b36 T O p1 p2 p3 S = some (r, S1) → Wk Z D 5 0 0 (wF cy fa ha kr rk lr tx da sr a F Q T O E X Td Od Ed Xd L K N S H) 36 [] [] := by
    intro S hf
    unfold f_X11_meet_b36 at hf
    refine k_iconst C 18 rfl ci_m1 ?_
    exact k_iret (wf := (fun u => (wF cy fa ha kr rk lr tx da sr a F Q T O E X Td Od Ed Xd L K N u H))) hR 19 rfl hf
  refine k_aload_0 C 0 rfl 0 rfl ?_
  refine kg11_1 C 1 rfl qX11_19 0 F_c0 F_f0_1 ?_
  refine k_iload_1 C 2 rfl 1 rfl ?_
  obtain ⟨r5, h5, hf⟩ := ob1_some hf
  refine k_callV (X := (wF cy fa ha kr rk lr tx da sr a F Q T O E X Td Od Ed Xd L K N S H).take 47) (Y := (wF cy fa ha kr rk lr tx da sr a F Q T O E X Td Od Ed Xd L K N S H).drop 70) (w2 := (wF cy fa ha kr rk lr tx da sr a F Q T O E X Td Od Ed Xd L K N S H)) C 3 (c_X10_hasRider Z.2.1 D cy a T O E X p1 r5 h5) rfl qX11_171 mvX10_hasRider 0 10 W_c0 rfl rfl rfl rfl rfl (Nat.le_of_ble_eq_true rfl) ⟨Nat.le_of_ble_eq_true rfl, Nat.le_of_ble_eq_true rfl, Nat.le_refl 0, Nat.le_refl 0⟩ ?_
  refine k_if_eq C 4 rfl 36 (by decide) (fun hc => ?_) (fun hc => ?_)
  · replace hf := if_t hf hc
    exact k_sub [] rfl (hb36 S hf)
  · replace hf := if_f hf hc
    refine k_aload_0 C 5 rfl 0 rfl ?_
    refine kg11_1 C 6 rfl qX11_19 0 F_c0 F_f0_1 ?_
    refine k_iload_2 C 7 rfl 2 rfl ?_
    obtain ⟨r16, h5, hf⟩ := ob1_some hf
    refine k_callV (X := (wF cy fa ha kr rk lr tx da sr a F Q T O E X Td Od Ed Xd L K N S H).take 47) (Y := (wF cy fa ha kr rk lr tx da sr a F Q T O E X Td Od Ed Xd L K N S H).drop 70) (w2 := (wF cy fa ha kr rk lr tx da sr a F Q T O E X Td Od Ed Xd L K N S H)) C 8 (c_X10_hasRider Z.2.1 D cy a T O E X p2 r16 h5) rfl qX11_171 mvX10_hasRider 0 10 W_c0 rfl rfl rfl rfl rfl (Nat.le_of_ble_eq_true rfl) ⟨Nat.le_of_ble_eq_true rfl, Nat.le_of_ble_eq_true rfl, Nat.le_refl 0, Nat.le_refl 0⟩ ?_
    refine k_if_eq C 9 rfl 36 (by decide) (fun hc => ?_) (fun hc => ?_)
    · replace hf := if_t hf hc
      exact k_sub [] rfl (hb36 S hf)
    · replace hf := if_f hf hc
      refine k_iload_1 C 10 rfl 1 rfl ?_
      refine k_iload_2 C 11 rfl 2 rfl ?_
      refine k_icmp_eq C 12 rfl 36 (by decide) (fun hc => ?_) (fun hc => ?_)
      · replace hf := if_t hf hc
        exact k_sub [] rfl (hb36 S hf)
      · replace hf := if_f hf hc
        refine k_iload_3 C 13 rfl 3 rfl ?_
        refine k_if_lt C 14 rfl 36 (by decide) (fun hc => ?_) (fun hc => ?_)
        · replace hf := if_t hf hc
          exact k_sub [] rfl (hb36 S hf)
        · replace hf := if_f hf hc
          refine k_iload_3 C 15 rfl 3 rfl ?_
          refine k_iconst C 16 rfl ci_1 ?_
          refine k_icmp_le C 17 rfl 38 (by decide) (fun hc => ?_) (fun hc => ?_)
          · replace hf := if_t hf hc
            refine k_aload_0 C 20 rfl 0 rfl ?_
            refine kg11_11 C 21 rfl qX11_81 0 F_c0 F_f0_11 ?_
            refine k_iload_1 C 22 rfl 1 rfl ?_
            refine k_iload_2 C 23 rfl 2 rfl ?_
            obtain ⟨r44, S_44, h5, hf⟩ := ob2_some hf
            refine k_callV (X := (wF cy fa ha kr rk lr tx da sr a F Q T O E X Td Od Ed Xd L K N S H).take 39) (Y := (wF cy fa ha kr rk lr tx da sr a F Q T O E X Td Od Ed Xd L K N S H).drop 70) (w2 := (wF cy fa ha kr rk lr tx da sr a F Q T O E X Td Od Ed Xd L K N S_44 H)) C 24 (c_X6_meetingWay Z.2.1 D cy sr a S T O E X p1 p2 r44 S_44 h5) rfl qX11_282 mvX6_meetingWay 0 6 S_c0 rfl rfl rfl rfl rfl (Nat.le_of_ble_eq_true rfl) ⟨Nat.le_of_ble_eq_true rfl, Nat.le_of_ble_eq_true rfl, Nat.le_refl 0, Nat.le_refl 0⟩ ?_
            refine k_istore C 25 rfl (by decide) rfl ?_
            refine k_sub (lv2 := [(0, .ref (fa 0)), (1, .int p1), (2, .int p2), (3, .int p3), (4, .int r44)]) [1, 2, 3, 4, 0] rfl ?_
            refine k_iload C 26 rfl 4 rfl ?_
            refine k_iconst C 27 rfl ci_m1 ?_
            refine k_icmp_ne C 28 rfl 58 (by decide) (fun hc => ?_) (fun hc => ?_)
            · replace hf := if_f hf hc
              refine k_iload_3 C 31 rfl 3 rfl ?_
              refine k_if_ne C 32 rfl 67 (by decide) (fun hc => ?_) (fun hc => ?_)
              · replace hf := if_f hf hc
                refine k_aload_0 C 35 rfl 0 rfl ?_
                refine kg11_11 C 36 rfl qX11_81 0 F_c0 F_f0_11 ?_
                refine k_iload C 37 rfl 4 rfl ?_
                obtain ⟨r73, h5, hf⟩ := ob1_some hf
                refine k_callV (X := (wF cy fa ha kr rk lr tx da sr a F Q T O E X Td Od Ed Xd L K N S_44 H).take 39) (Y := (wF cy fa ha kr rk lr tx da sr a F Q T O E X Td Od Ed Xd L K N S_44 H).drop 47) (w2 := (wF cy fa ha kr rk lr tx da sr a F Q T O E X Td Od Ed Xd L K N S_44 H)) C 38 (c_X6_meetingSecond Z.2.1 D cy sr a S_44 r44 r73 h5) rfl qX11_285 mvX6_meetingSecond 0 6 S1_c0 rfl rfl rfl rfl rfl (Nat.le_of_ble_eq_true rfl) ⟨Nat.le_of_ble_eq_true rfl, Nat.le_of_ble_eq_true rfl, Nat.le_refl 0, Nat.le_refl 0⟩ ?_
                exact k_iret (wf := (fun u => (wF cy fa ha kr rk lr tx da sr a F Q T O E X Td Od Ed Xd L K N u H))) hR 39 rfl hf
              · replace hf := if_t hf hc
                refine k_iload C 33 rfl 4 rfl ?_
                refine k_goto C 34 rfl 76 (by decide) ?_
                exact k_iret (wf := (fun u => (wF cy fa ha kr rk lr tx da sr a F Q T O E X Td Od Ed Xd L K N u H))) hR 39 rfl hf
            · replace hf := if_t hf hc
              refine k_bipush C 29 rfl cb_m2 ?_
              exact k_iret (wf := (fun u => (wF cy fa ha kr rk lr tx da sr a F Q T O E X Td Od Ed Xd L K N u H))) hR 30 rfl hf
          · replace hf := if_f hf hc
            exact k_sub [] rfl (hb36 S hf)
set_option maxHeartbeats 1000000 in
set_option maxRecDepth 20000 in
theorem c_X11_seen (l : Launch) (D : va_G) (cy : Nat → ClassId) (fa : Nat → Nat) (ha : Nat → Nat) (kr : Nat → Nat) (rk : Nat → Nat) (lr : Nat → Nat) (tx : Nat → Nat) (da : Nat → Nat) (sr : Nat → Nat) (a : Nat → Nat) (F : Sg) (Q : Sg) (T : Sg) (O : Sg) (E : Sg) (X : Sg) (Td : Sg) (Od : Sg) (Ed : Sg) (Xd : Sg) (L : Sg) (K : Sg) (N : Sg) (S : Sg) (H : Sg) (p1 : Int32) (p2 : Int32) (p3 : Int32) (r : Int32) (E1 : Sg) (hf : f_X11_seen T E p1 p2 p3 = some (r, E1)) : Ct l D cy yX11_seen cX11_seen 5 (some .int) 1 24 0 0 [.ref (fa 0), .int p1, .int p2, .int p3] (wF cy fa ha kr rk lr tx da sr a F Q T O E X Td Od Ed Xd L K N S H) (some (.int r)) (wF cy fa ha kr rk lr tx da sr a F Q T O E1 X Td Od Ed Xd L K N S H) := by
  refine Ct_i tX11_seen hX11_seen (by decide) (Nat.le_of_ble_eq_true rfl) ?_
  intro Z hZ C hR
  subst hZ
  replace C : Cx Z D cy RX11 tX11_seen 5 1 24 0 0 := C
  show Wk Z D 5 0 0 (wF cy fa ha kr rk lr tx da sr a F Q T O E X Td Od Ed Xd L K N S H) 0 [(0, .ref (fa 0)), (1, .int p1), (2, .int p2), (3, .int p3)] []
  unfold f_X11_seen at hf
  have hb63 : ∀ (E : Sg), f_X11_seen_b63 T p1 p2 p3 E = some (r, E1) → Wk Z D 5 0 0 (wF cy fa ha kr rk lr tx da sr a F Q T O E X Td Od Ed Xd L K N S H) 63 [] [] := by
    intro E hf
    unfold f_X11_seen_b63 at hf
    refine k_bipush C 31 rfl cb_m2 ?_
    exact k_iret (wf := (fun u => (wF cy fa ha kr rk lr tx da sr a F Q T O u X Td Od Ed Xd L K N S H))) hR 32 rfl hf
  have hb34 : ∀ (s0 : Int32) (E : Sg), f_X11_seen_b34 T p1 p2 p3 s0 E = some (r, E1) → Wk Z D 5 0 0 (wF cy fa ha kr rk lr tx da sr a F Q T O E X Td Od Ed Xd L K N S H) 34 [(0, .ref (fa 0)), (1, .int p1), (2, .int p2), (3, .int p3)] [.int s0] := by
    intro s0 E hf
    unfold f_X11_seen_b34 at hf
    refine k_istore C 18 rfl (by decide) rfl ?_
    refine k_sub (lv2 := [(0, .ref (fa 0)), (1, .int p1), (2, .int p2), (3, .int p3), (4, .int s0)]) [1, 2, 3, 4, 0] rfl ?_
    refine k_aload_0 C 19 rfl 0 rfl ?_
    refine kg11_1 C 20 rfl qX11_19 0 F_c0 F_f0_1 ?_
    refine k_iload_1 C 21 rfl 1 rfl ?_
    obtain ⟨r41, h5, hf⟩ := ob1_some hf
    refine k_callV (X := (wF cy fa ha kr rk lr tx da sr a F Q T O E X Td Od Ed Xd L K N S H).take 47) (Y := (wF cy fa ha kr rk lr tx da sr a F Q T O E X Td Od Ed Xd L K N S H).drop 70) (w2 := (wF cy fa ha kr rk lr tx da sr a F Q T O E X Td Od Ed Xd L K N S H)) C 22 (c_X10_hasRider Z.2.1 D cy a T O E X p1 r41 h5) rfl qX11_171 mvX10_hasRider 0 10 W_c0 rfl rfl rfl rfl rfl (Nat.le_of_ble_eq_true rfl) ⟨Nat.le_of_ble_eq_true rfl, Nat.le_of_ble_eq_true rfl, Nat.le_refl 0, Nat.le_refl 0⟩ ?_
    refine k_if_eq C 23 rfl 63 (by decide) (fun hc => ?_) (fun hc => ?_)
    · replace hf := if_t hf hc
      exact k_sub [] rfl (hb63 E hf)
    · replace hf := if_f hf hc
      refine k_aload_0 C 24 rfl 0 rfl ?_
      refine kg11_1 C 25 rfl qX11_19 0 F_c0 F_f0_1 ?_
      refine k_iload_2 C 26 rfl 2 rfl ?_
      obtain ⟨r52, h5, hf⟩ := ob1_some hf
      refine k_callV (X := (wF cy fa ha kr rk lr tx da sr a F Q T O E X Td Od Ed Xd L K N S H).take 47) (Y := (wF cy fa ha kr rk lr tx da sr a F Q T O E X Td Od Ed Xd L K N S H).drop 70) (w2 := (wF cy fa ha kr rk lr tx da sr a F Q T O E X Td Od Ed Xd L K N S H)) C 27 (c_X10_hasCoach Z.2.1 D cy a T O E X p2 r52 h5) rfl qX11_135 mvX10_hasCoach 0 10 W_c0 rfl rfl rfl rfl rfl (Nat.le_of_ble_eq_true rfl) ⟨Nat.le_of_ble_eq_true rfl, Nat.le_of_ble_eq_true rfl, Nat.le_refl 0, Nat.le_refl 0⟩ ?_
      refine k_if_eq C 28 rfl 63 (by decide) (fun hc => ?_) (fun hc => ?_)
      · replace hf := if_t hf hc
        exact k_sub [] rfl (hb63 E hf)
      · replace hf := if_f hf hc
        refine k_iload C 29 rfl 4 rfl ?_
        refine k_if_ne C 30 rfl 66 (by decide) (fun hc => ?_) (fun hc => ?_)
        · replace hf := if_f hf hc
          refine k_aload_0 C 33 rfl 0 rfl ?_
          refine kg11_1 C 34 rfl qX11_19 0 F_c0 F_f0_1 ?_
          refine kg10_2 C 35 rfl qX11_118 47 F_c47 F_f47_2 ?_
          refine k_iload_1 C 36 rfl 1 rfl ?_
          refine k_iload_2 C 37 rfl 2 rfl ?_
          refine k_iload_3 C 38 rfl 3 rfl ?_
          obtain ⟨r76, E_76, h5, hf⟩ := ob2_some hf
          refine k_callV (X := (wF cy fa ha kr rk lr tx da sr a F Q T O E X Td Od Ed Xd L K N S H).take 66) (Y := (wF cy fa ha kr rk lr tx da sr a F Q T O E X Td Od Ed Xd L K N S H).drop 70) (w2 := (wF cy fa ha kr rk lr tx da sr a F Q T O E_76 X Td Od Ed Xd L K N S H)) C 39 (c_X7_add Z.2.1 D cy (fun i => a (19 + i)) E p1 p2 p3 r76 E_76 h5) rfl qX11_288 mvX7_add 0 7 E_c0 rfl rfl rfl rfl rfl (Nat.le_of_ble_eq_true rfl) ⟨Nat.le_of_ble_eq_true rfl, Nat.le_of_ble_eq_true rfl, Nat.le_refl 0, Nat.le_refl 0⟩ ?_
          refine k_if_eq C 40 rfl 95 (by decide) (fun hc => ?_) (fun hc => ?_)
          · replace hf := if_t hf hc
            refine k_bipush C 46 rfl cb_m2 ?_
            exact k_iret (wf := (fun u => (wF cy fa ha kr rk lr tx da sr a F Q T O u X Td Od Ed Xd L K N S H))) hR 47 rfl hf
          · replace hf := if_f hf hc
            refine k_aload_0 C 41 rfl 0 rfl ?_
            refine kg11_1 C 42 rfl qX11_19 0 F_c0 F_f0_1 ?_
            refine kg10_2 C 43 rfl qX11_118 47 F_c47 F_f47_2 ?_
            refine kg7_0 C 44 rfl qX11_122 66 F_c66 F_f66_0 ?_
            refine k_goto C 45 rfl 97 (by decide) ?_
            exact k_iret (wf := (fun u => (wF cy fa ha kr rk lr tx da sr a F Q T O u X Td Od Ed Xd L K N S H))) hR 47 rfl hf
        · replace hf := if_t hf hc
          exact k_sub [] rfl (hb63 E hf)
  have hb33 : ∀ (E : Sg), f_X11_seen_b33 T p1 p2 p3 E = some (r, E1) → Wk Z D 5 0 0 (wF cy fa ha kr rk lr tx da sr a F Q T O E X Td Od Ed Xd L K N S H) 33 [(0, .ref (fa 0)), (1, .int p1), (2, .int p2), (3, .int p3)] [] := by
    intro E hf
    unfold f_X11_seen_b33 at hf
    refine k_iconst C 17 rfl ci_0 ?_
    exact k_sub [0, 1, 2, 3] rfl (hb34 0 E hf)
  refine k_iload_1 C 0 rfl 1 rfl ?_
  refine k_iconst C 1 rfl ci_m1 ?_
  refine k_icmp_ne C 2 rfl 18 (by decide) (fun hc => ?_) (fun hc => ?_)
  · replace hf := if_f hf hc
    refine k_iload_3 C 10 rfl 3 rfl ?_
    refine k_if_lt C 11 rfl 33 (by decide) (fun hc => ?_) (fun hc => ?_)
    · replace hf := if_t hf hc
      exact k_sub [0, 1, 2, 3] rfl (hb33 E hf)
    · replace hf := if_f hf hc
      refine k_iload_3 C 12 rfl 3 rfl ?_
      refine k_sipush C 13 rfl cs_999 ?_
      refine k_icmp_gt C 14 rfl 33 (by decide) (fun hc => ?_) (fun hc => ?_)
      · replace hf := if_t hf hc
        exact k_sub [0, 1, 2, 3] rfl (hb33 E hf)
      · replace hf := if_f hf hc
        refine k_iconst C 15 rfl ci_1 ?_
        refine k_goto C 16 rfl 34 (by decide) ?_
        exact k_sub [0, 1, 2, 3] rfl (hb34 1 E hf)
  · replace hf := if_t hf hc
    refine k_aload_0 C 3 rfl 0 rfl ?_
    refine kg11_1 C 4 rfl qX11_19 0 F_c0 F_f0_1 ?_
    refine kg10_2 C 5 rfl qX11_118 47 F_c47 F_f47_2 ?_
    refine k_iconst C 6 rfl ci_0 ?_
    obtain ⟨E_13, hM, hf⟩ := bnd_some hf
    refine kp7_0 (w2 := (wF cy fa ha kr rk lr tx da sr a F Q T O E_13 X Td Od Ed Xd L K N S H)) C 7 rfl qX11_122 66 F_c66 (v := 0) F_n66 (F_p66_0.trans (congrArg (fun z => (wF cy fa ha kr rk lr tx da sr a F Q T O z X Td Od Ed Xd L K N S H)) hM)) ?_
    refine k_iconst C 8 rfl ci_0 ?_
    exact k_iret (wf := (fun u => (wF cy fa ha kr rk lr tx da sr a F Q T O u X Td Od Ed Xd L K N S H))) hR 9 rfl hf
set_option maxHeartbeats 1000000 in
set_option maxRecDepth 20000 in
theorem c_X11_gotIn (l : Launch) (D : va_G) (cy : Nat → ClassId) (fa : Nat → Nat) (ha : Nat → Nat) (kr : Nat → Nat) (rk : Nat → Nat) (lr : Nat → Nat) (tx : Nat → Nat) (da : Nat → Nat) (sr : Nat → Nat) (a : Nat → Nat) (F : Sg) (Q : Sg) (T : Sg) (O : Sg) (E : Sg) (X : Sg) (Td : Sg) (Od : Sg) (Ed : Sg) (Xd : Sg) (L : Sg) (K : Sg) (N : Sg) (S : Sg) (H : Sg) (p1 : Int32) (r : Int32) (S1 : Sg) (hf : f_X11_gotIn T O E S p1 = some (r, S1)) : Ct l D cy yX11_gotIn cX11_gotIn 4 (some .int) 6 331 0 0 [.ref (fa 0), .int p1] (wF cy fa ha kr rk lr tx da sr a F Q T O E X Td Od Ed Xd L K N S H) (some (.int r)) (wF cy fa ha kr rk lr tx da sr a F Q T O E X Td Od Ed Xd L K N S1 H) := by
  refine Ct_i tX11_gotIn hX11_gotIn (by decide) (Nat.le_of_ble_eq_true rfl) ?_
  intro Z hZ C hR
  subst hZ
  replace C : Cx Z D cy RX11 tX11_gotIn 4 6 331 0 0 := C
  show Wk Z D 4 0 0 (wF cy fa ha kr rk lr tx da sr a F Q T O E X Td Od Ed Xd L K N S H) 0 [(0, .ref (fa 0)), (1, .int p1)] []
  unfold f_X11_gotIn at hf
  have hq17 : ∀ (k17 : Int32 → Int32 → Sg → Option (Int32 × Sg)), (∀ (x2 : Int32) (x3 : Int32) (S : Sg), k17 x2 x3 S = some (r, S1) → Wk Z D 4 0 0 (wF cy fa ha kr rk lr tx da sr a F Q T O E X Td Od Ed Xd L K N S H) 17 [(0, .ref (fa 0)), (1, .int p1), (2, .int x2), (3, .int x3)] []) → ∀ (x2 : Int32) (x3 : Int32) (S : Sg), f_X11_gotIn_b17 T O E p1 k17 x2 x3 S = some (r, S1) → Wk Z D 4 0 0 (wF cy fa ha kr rk lr tx da sr a F Q T O E X Td Od Ed Xd L K N S H) 17 [(0, .ref (fa 0)), (1, .int p1), (2, .int x2), (3, .int x3)] [] := by
    intro k17 hk17 x2 x3 S hf
    unfold f_X11_gotIn_b17 at hf
    have hb49 : ∀ (x2 : Int32) (x3 : Int32) (S : Sg), f_X11_gotIn_b49 T O E p1 k17 x2 x3 S = some (r, S1) → Wk Z D 4 0 0 (wF cy fa ha kr rk lr tx da sr a F Q T O E X Td Od Ed Xd L K N S H) 49 [(0, .ref (fa 0)), (1, .int p1), (2, .int x2), (3, .int x3)] [] := by
      intro x2 x3 S hf
      unfold f_X11_gotIn_b49 at hf
      obtain ⟨x3_49, hx, hf⟩ := bnd_some hf
      refine k_iinc C 29 rfl 3 rfl ((cn_1 _).trans hx) (by decide) rfl ?_
      refine k_sub (lv2 := [(0, .ref (fa 0)), (1, .int p1), (2, .int x2), (3, .int x3_49)]) [1, 2, 3, 0] rfl ?_
      refine k_goto C 30 rfl 17 (by decide) ?_
      exact k_sub [0, 1, 2, 3] rfl (hk17 x2 x3_49 S hf)
    refine k_iload_3 C 11 rfl 3 rfl ?_
    refine k_aload_0 C 12 rfl 0 rfl ?_
    refine kg11_1 C 13 rfl qX11_19 0 F_c0 F_f0_1 ?_
    refine kg10_0 C 14 rfl qX11_99 47 F_c47 F_f47_0 ?_
    refine kg9_0 C 15 rfl qX11_266 48 F_c48 F_f48_0 ?_
    refine k_icmp_ge C 16 rfl 55 (by decide) (fun hc => ?_) (fun hc => ?_)
    · replace hf := if_t hf hc
      refine k_iload_2 C 31 rfl 2 rfl ?_
      exact k_iret (wf := (fun u => (wF cy fa ha kr rk lr tx da sr a F Q T O E X Td Od Ed Xd L K N u H))) hR 32 rfl hf
    · replace hf := if_f hf hc
      refine k_aload_0 C 17 rfl 0 rfl ?_
      refine kg11_11 C 18 rfl qX11_81 0 F_c0 F_f0_11 ?_
      refine k_iload_1 C 19 rfl 1 rfl ?_
      refine k_iload_3 C 20 rfl 3 rfl ?_
      obtain ⟨r37, S_37, h5, hf⟩ := ob2_some hf
      refine k_callV (X := (wF cy fa ha kr rk lr tx da sr a F Q T O E X Td Od Ed Xd L K N S H).take 39) (Y := (wF cy fa ha kr rk lr tx da sr a F Q T O E X Td Od Ed Xd L K N S H).drop 70) (w2 := (wF cy fa ha kr rk lr tx da sr a F Q T O E X Td Od Ed Xd L K N S_37 H)) C 21 (c_X6_canHaveGotIn Z.2.1 D cy sr a S T O E X p1 x3 r37 S_37 h5) rfl qX11_292 mvX6_canHaveGotIn 0 6 S_c0 rfl rfl rfl rfl rfl (Nat.le_of_ble_eq_true rfl) ⟨Nat.le_of_ble_eq_true rfl, Nat.le_of_ble_eq_true rfl, Nat.le_refl 0, Nat.le_refl 0⟩ ?_
      refine k_if_eq C 22 rfl 49 (by decide) (fun hc => ?_) (fun hc => ?_)
      · replace hf := if_t hf hc
        exact k_sub [0, 1, 2, 3] rfl (hb49 x2 x3 S_37 hf)
      · replace hf := if_f hf hc
        refine k_iload_2 C 23 rfl 2 rfl ?_
        refine k_iconst C 24 rfl ci_1 ?_
        refine k_iload_3 C 25 rfl 3 rfl ?_
        refine k_ishl C 26 rfl ?_
        refine k_ior C 27 rfl ?_
        obtain ⟨x2_48, hx, hf⟩ := bnd_some hf
        refine k_topi hx ?_
        refine k_istore_2 C 28 rfl (by decide) rfl ?_
        refine k_sub (lv2 := [(0, .ref (fa 0)), (1, .int p1), (2, .int x2_48), (3, .int x3)]) [1, 2, 0, 3] rfl ?_
        exact k_sub [0, 1, 2, 3] rfl (hb49 x2_48 x3 S_37 hf)
  have hb17 := flW3 hq17
  refine k_aload_0 C 0 rfl 0 rfl ?_
  refine kg11_1 C 1 rfl qX11_19 0 F_c0 F_f0_1 ?_
  refine k_iload_1 C 2 rfl 1 rfl ?_
  obtain ⟨r5, h5, hf⟩ := ob1_some hf
  refine k_callV (X := (wF cy fa ha kr rk lr tx da sr a F Q T O E X Td Od Ed Xd L K N S H).take 47) (Y := (wF cy fa ha kr rk lr tx da sr a F Q T O E X Td Od Ed Xd L K N S H).drop 70) (w2 := (wF cy fa ha kr rk lr tx da sr a F Q T O E X Td Od Ed Xd L K N S H)) C 3 (c_X10_hasRider Z.2.1 D cy a T O E X p1 r5 h5) rfl qX11_171 mvX10_hasRider 0 10 W_c0 rfl rfl rfl rfl rfl (Nat.le_of_ble_eq_true rfl) ⟨Nat.le_of_ble_eq_true rfl, Nat.le_of_ble_eq_true rfl, Nat.le_refl 0, Nat.le_refl 0⟩ ?_
  refine k_if_ne C 4 rfl 13 (by decide) (fun hc => ?_) (fun hc => ?_)
  · replace hf := if_f hf hc
    refine k_iconst C 7 rfl ci_0 ?_
    refine k_istore_2 C 8 rfl (by decide) rfl ?_
    refine k_sub (lv2 := [(0, .ref (fa 0)), (1, .int p1), (2, .int 0)]) [1, 2, 0] rfl ?_
    refine k_iconst C 9 rfl ci_0 ?_
    refine k_istore_3 C 10 rfl (by decide) rfl ?_
    refine k_sub (lv2 := [(0, .ref (fa 0)), (1, .int p1), (2, .int 0), (3, .int 0)]) [1, 2, 3, 0] rfl ?_
    exact k_sub [0, 1, 2, 3] rfl (hb17 FU 0 0 S hf)
  · replace hf := if_t hf hc
    refine k_iconst C 5 rfl ci_m1 ?_
    exact k_iret (wf := (fun u => (wF cy fa ha kr rk lr tx da sr a F Q T O E X Td Od Ed Xd L K N u H))) hR 6 rfl hf
set_option maxHeartbeats 1000000 in
set_option maxRecDepth 20000 in
theorem c_X11_sit (l : Launch) (D : va_G) (cy : Nat → ClassId) (fa : Nat → Nat) (ha : Nat → Nat) (kr : Nat → Nat) (rk : Nat → Nat) (lr : Nat → Nat) (tx : Nat → Nat) (da : Nat → Nat) (sr : Nat → Nat) (a : Nat → Nat) (F : Sg) (Q : Sg) (T : Sg) (O : Sg) (E : Sg) (X : Sg) (Td : Sg) (Od : Sg) (Ed : Sg) (Xd : Sg) (L : Sg) (K : Sg) (N : Sg) (S : Sg) (H : Sg) (p1 : Int32) (r : Int32) (hf : f_X11_sit T O p1 = some r) : Ct l D cy yX11_sit cX11_sit 6 (some .int) 1 23 0 0 [.ref (fa 0), .int p1] (wF cy fa ha kr rk lr tx da sr a F Q T O E X Td Od Ed Xd L K N S H) (some (.int r)) (wF cy fa ha kr rk lr tx da sr a F Q T O E X Td Od Ed Xd L K N S H) := by
  refine Ct_i tX11_sit hX11_sit (by decide) (Nat.le_of_ble_eq_true rfl) ?_
  intro Z hZ C hR
  subst hZ
  replace C : Cx Z D cy RX11 tX11_sit 6 1 23 0 0 := C
  show Wk Z D 6 0 0 (wF cy fa ha kr rk lr tx da sr a F Q T O E X Td Od Ed Xd L K N S H) 0 [(0, .ref (fa 0)), (1, .int p1)] []
  unfold f_X11_sit at hf
  have hq29 : ∀ (k29 : Int32 → Int32 → Int32 → Option (Int32)), (∀ (x2 : Int32) (x3 : Int32) (x4 : Int32), k29 x2 x3 x4 = some r → Wk Z D 6 0 0 (wF cy fa ha kr rk lr tx da sr a F Q T O E X Td Od Ed Xd L K N S H) 29 [(0, .ref (fa 0)), (1, .int p1), (2, .int x2), (3, .int x3), (4, .int x4)] []) → ∀ (x2 : Int32) (x3 : Int32) (x4 : Int32), f_X11_sit_b29 T O p1 k29 x2 x3 x4 = some r → Wk Z D 6 0 0 (wF cy fa ha kr rk lr tx da sr a F Q T O E X Td Od Ed Xd L K N S H) 29 [(0, .ref (fa 0)), (1, .int p1), (2, .int x2), (3, .int x3), (4, .int x4)] [] := by
    intro k29 hk29 x2 x3 x4 hf
    unfold f_X11_sit_b29 at hf
    have hb101 : ∀ (x2 : Int32) (x3 : Int32) (x4 : Int32), f_X11_sit_b101 T O p1 k29 x2 x3 x4 = some r → Wk Z D 6 0 0 (wF cy fa ha kr rk lr tx da sr a F Q T O E X Td Od Ed Xd L K N S H) 101 [(0, .ref (fa 0)), (1, .int p1), (2, .int x2), (3, .int x3), (4, .int x4)] [] := by
      intro x2 x3 x4 hf
      unfold f_X11_sit_b101 at hf
      obtain ⟨x4_101, hx, hf⟩ := bnd_some hf
      refine k_iinc C 51 rfl 4 rfl ((cn_1 _).trans hx) (by decide) rfl ?_
      refine k_sub (lv2 := [(0, .ref (fa 0)), (1, .int p1), (2, .int x2), (3, .int x3), (4, .int x4_101)]) [1, 2, 3, 4, 0] rfl ?_
      refine k_goto C 52 rfl 29 (by decide) ?_
      exact k_sub [0, 1, 2, 3, 4] rfl (hk29 x2 x3 x4_101 hf)
    refine k_iload C 17 rfl 4 rfl ?_
    refine k_aload_0 C 18 rfl 0 rfl ?_
    refine kg11_1 C 19 rfl qX11_19 0 F_c0 F_f0_1 ?_
    refine kg10_0 C 20 rfl qX11_99 47 F_c47 F_f47_0 ?_
    refine kg9_0 C 21 rfl qX11_266 48 F_c48 F_f48_0 ?_
    refine k_icmp_ge C 22 rfl 107 (by decide) (fun hc => ?_) (fun hc => ?_)
    · replace hf := if_t hf hc
      refine k_iload_2 C 53 rfl 2 rfl ?_
      exact k_iretP hR 54 rfl hf
    · replace hf := if_f hf hc
      refine k_aload_0 C 23 rfl 0 rfl ?_
      refine kg11_1 C 24 rfl qX11_19 0 F_c0 F_f0_1 ?_
      refine kg10_0 C 25 rfl qX11_99 47 F_c47 F_f47_0 ?_
      refine kg9_7 C 26 rfl qX11_143 48 F_c48 F_f48_7 ?_
      refine k_iload C 27 rfl 4 rfl ?_
      obtain ⟨i56, hi, hin, hf⟩ := ixd_some hf
      refine k_iald C 28 rfl 50 F_c50 hin hi ?_
      refine k_aload_0 C 29 rfl 0 rfl ?_
      refine kg11_1 C 30 rfl qX11_19 0 F_c0 F_f0_1 ?_
      refine k_iload C 31 rfl 4 rfl ?_
      obtain ⟨r63, h5, hf⟩ := ob1_some hf
      refine k_callV (X := (wF cy fa ha kr rk lr tx da sr a F Q T O E X Td Od Ed Xd L K N S H).take 47) (Y := (wF cy fa ha kr rk lr tx da sr a F Q T O E X Td Od Ed Xd L K N S H).drop 70) (w2 := (wF cy fa ha kr rk lr tx da sr a F Q T O E X Td Od Ed Xd L K N S H)) C 32 (c_X10_ridersIn Z.2.1 D cy a T O E X x4 r63 h5) rfl qX11_146 mvX10_ridersIn 0 10 W_c0 rfl rfl rfl rfl rfl (Nat.le_of_ble_eq_true rfl) ⟨Nat.le_of_ble_eq_true rfl, Nat.le_of_ble_eq_true rfl, Nat.le_refl 0, Nat.le_refl 0⟩ ?_
      obtain ⟨r66, h5, hf⟩ := ob1_some hf
      refine k_callE C 33 (c_J6_bitCount_0f7a4 Z.2.1 D cy r63 r66 h5) rfl qX11_295 msJ6_bitCount_0f7a4 rfl rfl (Nat.le_of_ble_eq_true rfl) ⟨Nat.le_of_ble_eq_true rfl, Nat.le_of_ble_eq_true rfl, Nat.le_refl 0, Nat.le_refl 0⟩ ?_
      refine k_isub C 34 rfl ?_
      obtain ⟨x5_70, hx, hf⟩ := bnd_some hf
      refine k_topi hx ?_
      refine k_istore C 35 rfl (by decide) rfl ?_
      refine k_sub (lv2 := [(0, .ref (fa 0)), (1, .int p1), (2, .int x2), (3, .int x3), (4, .int x4), (5, .int x5_70)]) [1, 2, 3, 4, 5, 0] rfl ?_
      refine k_aload_0 C 36 rfl 0 rfl ?_
      refine kg11_1 C 37 rfl qX11_19 0 F_c0 F_f0_1 ?_
      refine kg10_0 C 38 rfl qX11_99 47 F_c47 F_f47_0 ?_
      refine kg9_6 C 39 rfl qX11_139 48 F_c48 F_f48_6 ?_
      refine k_iload C 40 rfl 4 rfl ?_
      obtain ⟨i84, hi, hin, hf⟩ := ixd_some hf
      refine k_iald C 41 rfl 49 F_c49 hin hi ?_
      refine k_iload_1 C 42 rfl 1 rfl ?_
      refine k_icmp_ne C 43 rfl 101 (by decide) (fun hc => ?_) (fun hc => ?_)
      · replace hf := if_f hf hc
        exact k_sub [0, 1, 2, 3, 4] rfl (hb101 x2 x3 x4 hf)
      · replace hf := if_t hf hc
        refine k_iload C 44 rfl 5 rfl ?_
        refine k_iload_3 C 45 rfl 3 rfl ?_
        refine k_icmp_le C 46 rfl 101 (by decide) (fun hc => ?_) (fun hc => ?_)
        · replace hf := if_t hf hc
          exact k_sub [0, 1, 2, 3, 4] rfl (hb101 x2 x3 x4 hf)
        · replace hf := if_f hf hc
          refine k_iload C 47 rfl 4 rfl ?_
          refine k_istore_2 C 48 rfl (by decide) rfl ?_
          refine k_sub (lv2 := [(0, .ref (fa 0)), (1, .int p1), (2, .int x4), (3, .int x3), (4, .int x4), (5, .int x5_70)]) [1, 2, 0, 3, 4, 5] rfl ?_
          refine k_iload C 49 rfl 5 rfl ?_
          refine k_istore_3 C 50 rfl (by decide) rfl ?_
          refine k_sub (lv2 := [(0, .ref (fa 0)), (1, .int p1), (2, .int x4), (3, .int x5_70), (4, .int x4), (5, .int x5_70)]) [1, 2, 3, 0, 4, 5] rfl ?_
          exact k_sub [0, 1, 2, 3, 4] rfl (hb101 x4 x5_70 x4 hf)
  have hb29 := flW3 hq29
  have hb19 : f_X11_sit_b19 T O p1 = some r → Wk Z D 6 0 0 (wF cy fa ha kr rk lr tx da sr a F Q T O E X Td Od Ed Xd L K N S H) 19 [] [] := by
    intro  hf
    unfold f_X11_sit_b19 at hf
    refine k_iconst C 9 rfl ci_m1 ?_
    exact k_iretP hR 10 rfl hf
  refine k_aload_0 C 0 rfl 0 rfl ?_
  refine kg11_1 C 1 rfl qX11_19 0 F_c0 F_f0_1 ?_
  obtain ⟨r4, h5, hf⟩ := ob1_some hf
  refine k_callV (X := (wF cy fa ha kr rk lr tx da sr a F Q T O E X Td Od Ed Xd L K N S H).take 47) (Y := (wF cy fa ha kr rk lr tx da sr a F Q T O E X Td Od Ed Xd L K N S H).drop 70) (w2 := (wF cy fa ha kr rk lr tx da sr a F Q T O E X Td Od Ed Xd L K N S H)) C 2 (c_X10_hasLine Z.2.1 D cy a T O E X r4 h5) rfl qX11_257 mvX10_hasLine 0 10 W_c0 rfl rfl rfl rfl rfl (Nat.le_of_ble_eq_true rfl) ⟨Nat.le_of_ble_eq_true rfl, Nat.le_of_ble_eq_true rfl, Nat.le_refl 0, Nat.le_refl 0⟩ ?_
  refine k_if_eq C 3 rfl 19 (by decide) (fun hc => ?_) (fun hc => ?_)
  · replace hf := if_t hf hc
    exact k_sub [] rfl (hb19  hf)
  · replace hf := if_f hf hc
    refine k_iload_1 C 4 rfl 1 rfl ?_
    refine k_if_lt C 5 rfl 19 (by decide) (fun hc => ?_) (fun hc => ?_)
    · replace hf := if_t hf hc
      exact k_sub [] rfl (hb19  hf)
    · replace hf := if_f hf hc
      refine k_iload_1 C 6 rfl 1 rfl ?_
      refine k_iconst C 7 rfl ci_4 ?_
      refine k_icmp_lt C 8 rfl 21 (by decide) (fun hc => ?_) (fun hc => ?_)
      · replace hf := if_t hf hc
        refine k_bipush C 11 rfl cb_m2 ?_
        refine k_istore_2 C 12 rfl (by decide) rfl ?_
        refine k_sub (lv2 := [(0, .ref (fa 0)), (1, .int p1), (2, .int (-2))]) [1, 2, 0] rfl ?_
        refine k_iconst C 13 rfl ci_0 ?_
        refine k_istore_3 C 14 rfl (by decide) rfl ?_
        refine k_sub (lv2 := [(0, .ref (fa 0)), (1, .int p1), (2, .int (-2)), (3, .int 0)]) [1, 2, 3, 0] rfl ?_
        refine k_iconst C 15 rfl ci_0 ?_
        refine k_istore C 16 rfl (by decide) rfl ?_
        refine k_sub (lv2 := [(0, .ref (fa 0)), (1, .int p1), (2, .int (-2)), (3, .int 0), (4, .int 0)]) [1, 2, 3, 4, 0] rfl ?_
        exact k_sub [0, 1, 2, 3, 4] rfl (hb29 FU (-2) 0 0 hf)
      · replace hf := if_f hf hc
        exact k_sub [] rfl (hb19  hf)
set_option maxHeartbeats 1000000 in
set_option maxRecDepth 20000 in
theorem c_X11_seed (l : Launch) (D : va_G) (cy : Nat → ClassId) (fa : Nat → Nat) (ha : Nat → Nat) (kr : Nat → Nat) (rk : Nat → Nat) (lr : Nat → Nat) (tx : Nat → Nat) (da : Nat → Nat) (sr : Nat → Nat) (a : Nat → Nat) (F : Sg) (Q : Sg) (T : Sg) (O : Sg) (E : Sg) (X : Sg) (Td : Sg) (Od : Sg) (Ed : Sg) (Xd : Sg) (L : Sg) (K : Sg) (N : Sg) (S : Sg) (H : Sg) (p1 : Int32) (r : Int32) (X1 : Sg) (hf : f_X11_seed X p1 = some (r, X1)) : Ct l D cy yX11_seed cX11_seed 3 (some .int) 0 0 0 0 [.ref (fa 0), .int p1] (wF cy fa ha kr rk lr tx da sr a F Q T O E X Td Od Ed Xd L K N S H) (some (.int r)) (wF cy fa ha kr rk lr tx da sr a F Q T O E X1 Td Od Ed Xd L K N S H) := by
  refine Ct_i tX11_seed hX11_seed (by decide) (Nat.le_of_ble_eq_true rfl) ?_
  intro Z hZ C hR
  subst hZ
  replace C : Cx Z D cy RX11 tX11_seed 3 0 0 0 0 := C
  show Wk Z D 3 0 0 (wF cy fa ha kr rk lr tx da sr a F Q T O E X Td Od Ed Xd L K N S H) 0 [(0, .ref (fa 0)), (1, .int p1)] []
  unfold f_X11_seed at hf
  refine k_iload_1 C 0 rfl 1 rfl ?_
  refine k_if_ge C 1 rfl 6 (by decide) (fun hc => ?_) (fun hc => ?_)
  · replace hf := if_t hf hc
    refine k_aload_0 C 4 rfl 0 rfl ?_
    refine kg11_1 C 5 rfl qX11_19 0 F_c0 F_f0_1 ?_
    refine kg10_3 C 6 rfl qX11_300 47 F_c47 F_f47_3 ?_
    obtain ⟨x2_13, hx, hf⟩ := bnd_some hf
    refine k_topi hx ?_
    refine k_istore_2 C 7 rfl (by decide) rfl ?_
    refine k_sub (lv2 := [(0, .ref (fa 0)), (1, .int p1), (2, .int x2_13)]) [1, 2, 0] rfl ?_
    refine k_aload_0 C 8 rfl 0 rfl ?_
    refine kg11_1 C 9 rfl qX11_19 0 F_c0 F_f0_1 ?_
    refine k_iload_1 C 10 rfl 1 rfl ?_
    obtain ⟨X_19, hM, hf⟩ := bnd_some hf
    refine kp10_3 (w2 := (wF cy fa ha kr rk lr tx da sr a F Q T O E X_19 Td Od Ed Xd L K N S H)) C 11 rfl qX11_300 47 F_c47 (v := p1) F_n47 (F_p47_3.trans (congrArg (fun z => (wF cy fa ha kr rk lr tx da sr a F Q T O E z Td Od Ed Xd L K N S H)) hM)) ?_
    refine k_iload_2 C 12 rfl 2 rfl ?_
    exact k_iret (wf := (fun u => (wF cy fa ha kr rk lr tx da sr a F Q T O E u Td Od Ed Xd L K N S H))) hR 13 rfl hf
  · replace hf := if_f hf hc
    refine k_iconst C 2 rfl ci_m1 ?_
    exact k_iret (wf := (fun u => (wF cy fa ha kr rk lr tx da sr a F Q T O E u Td Od Ed Xd L K N S H))) hR 3 rfl hf
set_option maxHeartbeats 1000000 in
set_option maxRecDepth 20000 in
theorem c_X11_journeys (l : Launch) (D : va_G) (cy : Nat → ClassId) (fa : Nat → Nat) (ha : Nat → Nat) (kr : Nat → Nat) (rk : Nat → Nat) (lr : Nat → Nat) (tx : Nat → Nat) (da : Nat → Nat) (sr : Nat → Nat) (a : Nat → Nat) (F : Sg) (Q : Sg) (T : Sg) (O : Sg) (E : Sg) (X : Sg) (Td : Sg) (Od : Sg) (Ed : Sg) (Xd : Sg) (L : Sg) (K : Sg) (N : Sg) (S : Sg) (H : Sg) (p1 : Int32) (p2 : Int32) (r : Int32) (S1 : Sg) (hf : f_X11_journeys T O X S p1 p2 = some (r, S1)) : Ct l D cy yX11_journeys cX11_journeys 3 (some .int) 7 355 0 0 [.ref (fa 0), .int p1, .int p2] (wF cy fa ha kr rk lr tx da sr a F Q T O E X Td Od Ed Xd L K N S H) (some (.int r)) (wF cy fa ha kr rk lr tx da sr a F Q T O E X Td Od Ed Xd L K N S1 H) := by
  refine Ct_i tX11_journeys hX11_journeys (by decide) (Nat.le_of_ble_eq_true rfl) ?_
  intro Z hZ C hR
  subst hZ
  replace C : Cx Z D cy RX11 tX11_journeys 3 7 355 0 0 := C
  show Wk Z D 3 0 0 (wF cy fa ha kr rk lr tx da sr a F Q T O E X Td Od Ed Xd L K N S H) 0 [(0, .ref (fa 0)), (1, .int p1), (2, .int p2)] []
  unfold f_X11_journeys at hf
  have hb30 : ∀ (S : Sg), f_X11_journeys_b30 T O X p1 p2 S = some (r, S1) → Wk Z D 3 0 0 (wF cy fa ha kr rk lr tx da sr a F Q T O E X Td Od Ed Xd L K N S H) 30 [] [] := by
    intro S hf
    unfold f_X11_journeys_b30 at hf
    refine k_iconst C 15 rfl ci_m1 ?_
    exact k_iret (wf := (fun u => (wF cy fa ha kr rk lr tx da sr a F Q T O E X Td Od Ed Xd L K N u H))) hR 16 rfl hf
  refine k_aload_0 C 0 rfl 0 rfl ?_
  refine kg11_1 C 1 rfl qX11_19 0 F_c0 F_f0_1 ?_
  obtain ⟨r4, h5, hf⟩ := ob1_some hf
  refine k_callV (X := (wF cy fa ha kr rk lr tx da sr a F Q T O E X Td Od Ed Xd L K N S H).take 47) (Y := (wF cy fa ha kr rk lr tx da sr a F Q T O E X Td Od Ed Xd L K N S H).drop 70) (w2 := (wF cy fa ha kr rk lr tx da sr a F Q T O E X Td Od Ed Xd L K N S H)) C 2 (c_X10_hasLine Z.2.1 D cy a T O E X r4 h5) rfl qX11_257 mvX10_hasLine 0 10 W_c0 rfl rfl rfl rfl rfl (Nat.le_of_ble_eq_true rfl) ⟨Nat.le_of_ble_eq_true rfl, Nat.le_of_ble_eq_true rfl, Nat.le_refl 0, Nat.le_refl 0⟩ ?_
  refine k_if_eq C 3 rfl 30 (by decide) (fun hc => ?_) (fun hc => ?_)
  · replace hf := if_t hf hc
    exact k_sub [] rfl (hb30 S hf)
  · replace hf := if_f hf hc
    refine k_iload_1 C 4 rfl 1 rfl ?_
    refine k_iconst C 5 rfl ci_1 ?_
    refine k_icmp_lt C 6 rfl 30 (by decide) (fun hc => ?_) (fun hc => ?_)
    · replace hf := if_t hf hc
      exact k_sub [] rfl (hb30 S hf)
    · replace hf := if_f hf hc
      refine k_iload_1 C 7 rfl 1 rfl ?_
      refine k_bipush C 8 rfl cb_20 ?_
      refine k_icmp_gt C 9 rfl 30 (by decide) (fun hc => ?_) (fun hc => ?_)
      · replace hf := if_t hf hc
        exact k_sub [] rfl (hb30 S hf)
      · replace hf := if_f hf hc
        refine k_iload_2 C 10 rfl 2 rfl ?_
        refine k_if_lt C 11 rfl 30 (by decide) (fun hc => ?_) (fun hc => ?_)
        · replace hf := if_t hf hc
          exact k_sub [] rfl (hb30 S hf)
        · replace hf := if_f hf hc
          refine k_iload_2 C 12 rfl 2 rfl ?_
          refine k_iconst C 13 rfl ci_1 ?_
          refine k_icmp_le C 14 rfl 32 (by decide) (fun hc => ?_) (fun hc => ?_)
          · replace hf := if_t hf hc
            refine k_aload_0 C 17 rfl 0 rfl ?_
            refine kg11_11 C 18 rfl qX11_81 0 F_c0 F_f0_11 ?_
            refine k_iload_1 C 19 rfl 1 rfl ?_
            obtain ⟨S_37, h5, hf⟩ := ob1_some hf
            refine k_callV (X := (wF cy fa ha kr rk lr tx da sr a F Q T O E X Td Od Ed Xd L K N S H).take 39) (Y := (wF cy fa ha kr rk lr tx da sr a F Q T O E X Td Od Ed Xd L K N S H).drop 70) (w2 := (wF cy fa ha kr rk lr tx da sr a F Q T O E X Td Od Ed Xd L K N S_37 H)) C 20 (c_X6_travel Z.2.1 D cy sr a S T O E X p1 S_37 h5) rfl qX11_303 mvX6_travel 0 6 S_c0 rfl rfl rfl rfl rfl (Nat.le_of_ble_eq_true rfl) ⟨Nat.le_of_ble_eq_true rfl, Nat.le_of_ble_eq_true rfl, Nat.le_refl 0, Nat.le_refl 0⟩ ?_
            refine k_iload_2 C 21 rfl 2 rfl ?_
            refine k_if_ne C 22 rfl 54 (by decide) (fun hc => ?_) (fun hc => ?_)
            · replace hf := if_f hf hc
              refine k_aload_0 C 27 rfl 0 rfl ?_
              refine kg11_11 C 28 rfl qX11_81 0 F_c0 F_f0_11 ?_
              refine kg6_13 C 29 rfl qX11_309 39 F_c39 F_f39_13 ?_
              exact k_iret (wf := (fun u => (wF cy fa ha kr rk lr tx da sr a F Q T O E X Td Od Ed Xd L K N u H))) hR 30 rfl hf
            · replace hf := if_t hf hc
              refine k_aload_0 C 23 rfl 0 rfl ?_
              refine kg11_11 C 24 rfl qX11_81 0 F_c0 F_f0_11 ?_
              refine kg6_12 C 25 rfl qX11_306 39 F_c39 F_f39_12 ?_
              refine k_goto C 26 rfl 61 (by decide) ?_
              exact k_iret (wf := (fun u => (wF cy fa ha kr rk lr tx da sr a F Q T O E X Td Od Ed Xd L K N u H))) hR 30 rfl hf
          · replace hf := if_f hf hc
            exact k_sub [] rfl (hb30 S hf)
set_option maxHeartbeats 1000000 in
set_option maxRecDepth 20000 in
theorem c_X11_count (l : Launch) (D : va_G) (cy : Nat → ClassId) (fa : Nat → Nat) (ha : Nat → Nat) (kr : Nat → Nat) (rk : Nat → Nat) (lr : Nat → Nat) (tx : Nat → Nat) (da : Nat → Nat) (sr : Nat → Nat) (a : Nat → Nat) (F : Sg) (Q : Sg) (T : Sg) (O : Sg) (E : Sg) (X : Sg) (Td : Sg) (Od : Sg) (Ed : Sg) (Xd : Sg) (L : Sg) (K : Sg) (N : Sg) (S : Sg) (H : Sg) (p1 : Int32) (r : Int32) (hf : f_X11_count F Q T O E X H p1 = some r) : Ct l D cy yX11_count cX11_count 2 (some .int) 2 44 0 0 [.ref (fa 0), .int p1] (wF cy fa ha kr rk lr tx da sr a F Q T O E X Td Od Ed Xd L K N S H) (some (.int r)) (wF cy fa ha kr rk lr tx da sr a F Q T O E X Td Od Ed Xd L K N S H) := by
  refine Ct_i tX11_count hX11_count (by decide) (Nat.le_of_ble_eq_true rfl) ?_
  intro Z hZ C hR
  subst hZ
  replace C : Cx Z D cy RX11 tX11_count 2 2 44 0 0 := C
  show Wk Z D 2 0 0 (wF cy fa ha kr rk lr tx da sr a F Q T O E X Td Od Ed Xd L K N S H) 0 [(0, .ref (fa 0)), (1, .int p1)] []
  unfold f_X11_count at hf
  refine k_iload_1 C 0 rfl 1 rfl ?_
  obtain ⟨sw1, hx, hf⟩ := bnd_some hf
  refine k_topi hx ?_
  clear hx
  by_cases hs0 : sw1 = 0
  · subst hs0
    replace hf := if_t hf rfl
    refine k_tabIn C 1 rfl 68 (by decide) (by decide) rfl (by decide) ?_
    refine k_aload_0 C 2 rfl 0 rfl ?_
    refine kg11_1 C 3 rfl qX11_19 0 F_c0 F_f0_1 ?_
    refine kg10_0 C 4 rfl qX11_99 47 F_c47 F_f47_0 ?_
    refine kg9_0 C 5 rfl qX11_266 48 F_c48 F_f48_0 ?_
    exact k_iretP hR 6 rfl hf
  by_cases hs1 : sw1 = 1
  · subst hs1
    replace hf := if_f hf (by decide)
    replace hf := if_t hf rfl
    refine k_tabIn C 1 rfl 79 (by decide) (by decide) rfl (by decide) ?_
    refine k_aload_0 C 7 rfl 0 rfl ?_
    refine kg11_1 C 8 rfl qX11_19 0 F_c0 F_f0_1 ?_
    refine kg10_0 C 9 rfl qX11_99 47 F_c47 F_f47_0 ?_
    refine kg9_1 C 10 rfl qX11_162 48 F_c48 F_f48_1 ?_
    exact k_iretP hR 11 rfl hf
  by_cases hs2 : sw1 = 2
  · subst hs2
    replace hf := if_f hf (by decide)
    replace hf := if_f hf (by decide)
    replace hf := if_t hf rfl
    refine k_tabIn C 1 rfl 90 (by decide) (by decide) rfl (by decide) ?_
    refine k_aload_0 C 12 rfl 0 rfl ?_
    refine kg11_1 C 13 rfl qX11_19 0 F_c0 F_f0_1 ?_
    refine kg10_0 C 14 rfl qX11_99 47 F_c47 F_f47_0 ?_
    refine kg9_2 C 15 rfl qX11_128 48 F_c48 F_f48_2 ?_
    exact k_iretP hR 16 rfl hf
  by_cases hs3 : sw1 = 3
  · subst hs3
    replace hf := if_f hf (by decide)
    replace hf := if_f hf (by decide)
    replace hf := if_f hf (by decide)
    replace hf := if_t hf rfl
    refine k_tabIn C 1 rfl 101 (by decide) (by decide) rfl (by decide) ?_
    refine k_aload_0 C 17 rfl 0 rfl ?_
    refine kg11_7 C 18 rfl qX11_47 0 F_c0 F_f0_7 ?_
    exact k_iretP hR 19 rfl hf
  by_cases hs4 : sw1 = 4
  · subst hs4
    replace hf := if_f hf (by decide)
    replace hf := if_f hf (by decide)
    replace hf := if_f hf (by decide)
    replace hf := if_f hf (by decide)
    replace hf := if_t hf rfl
    refine k_tabIn C 1 rfl 106 (by decide) (by decide) rfl (by decide) ?_
    refine k_aload_0 C 20 rfl 0 rfl ?_
    refine kg11_1 C 21 rfl qX11_19 0 F_c0 F_f0_1 ?_
    refine kg10_1 C 22 rfl qX11_109 47 F_c47 F_f47_1 ?_
    refine kg2_0 C 23 rfl qX11_224 60 F_c60 F_f60_0 ?_
    exact k_iretP hR 24 rfl hf
  by_cases hs5 : sw1 = 5
  · subst hs5
    replace hf := if_f hf (by decide)
    replace hf := if_f hf (by decide)
    replace hf := if_f hf (by decide)
    replace hf := if_f hf (by decide)
    replace hf := if_f hf (by decide)
    replace hf := if_t hf rfl
    refine k_tabIn C 1 rfl 117 (by decide) (by decide) rfl (by decide) ?_
    refine k_aload_0 C 25 rfl 0 rfl ?_
    refine kg11_1 C 26 rfl qX11_19 0 F_c0 F_f0_1 ?_
    refine kg10_0 C 27 rfl qX11_99 47 F_c47 F_f47_0 ?_
    refine kg9_4 C 28 rfl qX11_312 48 F_c48 F_f48_4 ?_
    exact k_iretP hR 29 rfl hf
  by_cases hs6 : sw1 = 6
  · subst hs6
    replace hf := if_f hf (by decide)
    replace hf := if_f hf (by decide)
    replace hf := if_f hf (by decide)
    replace hf := if_f hf (by decide)
    replace hf := if_f hf (by decide)
    replace hf := if_f hf (by decide)
    replace hf := if_t hf rfl
    refine k_tabIn C 1 rfl 128 (by decide) (by decide) rfl (by decide) ?_
    refine k_aload_0 C 30 rfl 0 rfl ?_
    refine kg11_1 C 31 rfl qX11_19 0 F_c0 F_f0_1 ?_
    obtain ⟨r132, h5, hf⟩ := ob1_some hf
    refine k_callV (X := (wF cy fa ha kr rk lr tx da sr a F Q T O E X Td Od Ed Xd L K N S H).take 47) (Y := (wF cy fa ha kr rk lr tx da sr a F Q T O E X Td Od Ed Xd L K N S H).drop 70) (w2 := (wF cy fa ha kr rk lr tx da sr a F Q T O E X Td Od Ed Xd L K N S H)) C 32 (c_X10_haltingStop Z.2.1 D cy a T O E X r132 h5) rfl qX11_315 mvX10_haltingStop 0 10 W_c0 rfl rfl rfl rfl rfl (Nat.le_of_ble_eq_true rfl) ⟨Nat.le_of_ble_eq_true rfl, Nat.le_of_ble_eq_true rfl, Nat.le_refl 0, Nat.le_refl 0⟩ ?_
    exact k_iretP hR 33 rfl hf
  by_cases hs7 : sw1 = 7
  · subst hs7
    replace hf := if_f hf (by decide)
    replace hf := if_f hf (by decide)
    replace hf := if_f hf (by decide)
    replace hf := if_f hf (by decide)
    replace hf := if_f hf (by decide)
    replace hf := if_f hf (by decide)
    replace hf := if_f hf (by decide)
    replace hf := if_t hf rfl
    refine k_tabIn C 1 rfl 136 (by decide) (by decide) rfl (by decide) ?_
    refine k_aload_0 C 34 rfl 0 rfl ?_
    refine kg11_1 C 35 rfl qX11_19 0 F_c0 F_f0_1 ?_
    obtain ⟨r140, h5, hf⟩ := ob1_some hf
    refine k_callV (X := (wF cy fa ha kr rk lr tx da sr a F Q T O E X Td Od Ed Xd L K N S H).take 47) (Y := (wF cy fa ha kr rk lr tx da sr a F Q T O E X Td Od Ed Xd L K N S H).drop 70) (w2 := (wF cy fa ha kr rk lr tx da sr a F Q T O E X Td Od Ed Xd L K N S H)) C 36 (c_X10_goers Z.2.1 D cy a T O E X r140 h5) rfl qX11_318 mvX10_goers 0 10 W_c0 rfl rfl rfl rfl rfl (Nat.le_of_ble_eq_true rfl) ⟨Nat.le_of_ble_eq_true rfl, Nat.le_of_ble_eq_true rfl, Nat.le_refl 0, Nat.le_refl 0⟩ ?_
    exact k_iretP hR 37 rfl hf
  by_cases hs8 : sw1 = 8
  · subst hs8
    replace hf := if_f hf (by decide)
    replace hf := if_f hf (by decide)
    replace hf := if_f hf (by decide)
    replace hf := if_f hf (by decide)
    replace hf := if_f hf (by decide)
    replace hf := if_f hf (by decide)
    replace hf := if_f hf (by decide)
    replace hf := if_f hf (by decide)
    replace hf := if_t hf rfl
    refine k_tabIn C 1 rfl 144 (by decide) (by decide) rfl (by decide) ?_
    refine k_aload_0 C 38 rfl 0 rfl ?_
    refine kg11_1 C 39 rfl qX11_19 0 F_c0 F_f0_1 ?_
    obtain ⟨r148, h5, hf⟩ := ob1_some hf
    refine k_callV (X := (wF cy fa ha kr rk lr tx da sr a F Q T O E X Td Od Ed Xd L K N S H).take 47) (Y := (wF cy fa ha kr rk lr tx da sr a F Q T O E X Td Od Ed Xd L K N S H).drop 70) (w2 := (wF cy fa ha kr rk lr tx da sr a F Q T O E X Td Od Ed Xd L K N S H)) C 40 (c_X10_ridersWhoAreRight Z.2.1 D cy a T O E X r148 h5) rfl qX11_321 mvX10_ridersWhoAreRight 0 10 W_c0 rfl rfl rfl rfl rfl (Nat.le_of_ble_eq_true rfl) ⟨Nat.le_of_ble_eq_true rfl, Nat.le_of_ble_eq_true rfl, Nat.le_refl 0, Nat.le_refl 0⟩ ?_
    exact k_iretP hR 41 rfl hf
  by_cases hs9 : sw1 = 9
  · subst hs9
    replace hf := if_f hf (by decide)
    replace hf := if_f hf (by decide)
    replace hf := if_f hf (by decide)
    replace hf := if_f hf (by decide)
    replace hf := if_f hf (by decide)
    replace hf := if_f hf (by decide)
    replace hf := if_f hf (by decide)
    replace hf := if_f hf (by decide)
    replace hf := if_f hf (by decide)
    replace hf := if_t hf rfl
    refine k_tabIn C 1 rfl 152 (by decide) (by decide) rfl (by decide) ?_
    refine k_aload_0 C 42 rfl 0 rfl ?_
    refine kg11_1 C 43 rfl qX11_19 0 F_c0 F_f0_1 ?_
    refine kg10_2 C 44 rfl qX11_118 47 F_c47 F_f47_2 ?_
    refine kg7_0 C 45 rfl qX11_122 66 F_c66 F_f66_0 ?_
    exact k_iretP hR 46 rfl hf
  by_cases hs10 : sw1 = 10
  · subst hs10
    replace hf := if_f hf (by decide)
    replace hf := if_f hf (by decide)
    replace hf := if_f hf (by decide)
    replace hf := if_f hf (by decide)
    replace hf := if_f hf (by decide)
    replace hf := if_f hf (by decide)
    replace hf := if_f hf (by decide)
    replace hf := if_f hf (by decide)
    replace hf := if_f hf (by decide)
    replace hf := if_f hf (by decide)
    replace hf := if_t hf rfl
    refine k_tabIn C 1 rfl 163 (by decide) (by decide) rfl (by decide) ?_
    refine k_aload_0 C 47 rfl 0 rfl ?_
    refine kg11_5 C 48 rfl qX11_37 0 F_c0 F_f0_5 ?_
    refine kg0_2 C 49 rfl qX11_127 2 F_c2 F_f2_2 ?_
    exact k_iretP hR 50 rfl hf
  by_cases hs11 : sw1 = 11
  · subst hs11
    replace hf := if_f hf (by decide)
    replace hf := if_f hf (by decide)
    replace hf := if_f hf (by decide)
    replace hf := if_f hf (by decide)
    replace hf := if_f hf (by decide)
    replace hf := if_f hf (by decide)
    replace hf := if_f hf (by decide)
    replace hf := if_f hf (by decide)
    replace hf := if_f hf (by decide)
    replace hf := if_f hf (by decide)
    replace hf := if_f hf (by decide)
    replace hf := if_t hf rfl
    refine k_tabIn C 1 rfl 171 (by decide) (by decide) rfl (by decide) ?_
    refine k_aload_0 C 51 rfl 0 rfl ?_
    refine kg11_1 C 52 rfl qX11_19 0 F_c0 F_f0_1 ?_
    refine kg10_3 C 53 rfl qX11_300 47 F_c47 F_f47_3 ?_
    exact k_iretP hR 54 rfl hf
  by_cases hs12 : sw1 = 12
  · subst hs12
    replace hf := if_f hf (by decide)
    replace hf := if_f hf (by decide)
    replace hf := if_f hf (by decide)
    replace hf := if_f hf (by decide)
    replace hf := if_f hf (by decide)
    replace hf := if_f hf (by decide)
    replace hf := if_f hf (by decide)
    replace hf := if_f hf (by decide)
    replace hf := if_f hf (by decide)
    replace hf := if_f hf (by decide)
    replace hf := if_f hf (by decide)
    replace hf := if_f hf (by decide)
    replace hf := if_t hf rfl
    refine k_tabIn C 1 rfl 179 (by decide) (by decide) rfl (by decide) ?_
    refine k_aload_0 C 55 rfl 0 rfl ?_
    refine kg11_0 C 56 rfl qX11_12 0 F_c0 F_f0_0 ?_
    refine kg8_1 C 57 rfl qX11_85 11 F_c11 F_f11_1 ?_
    exact k_iretP hR 58 rfl hf
  replace hf := if_f hf hs0
  replace hf := if_f hf hs1
  replace hf := if_f hf hs2
  replace hf := if_f hf hs3
  replace hf := if_f hf hs4
  replace hf := if_f hf hs5
  replace hf := if_f hf hs6
  replace hf := if_f hf hs7
  replace hf := if_f hf hs8
  replace hf := if_f hf hs9
  replace hf := if_f hf hs10
  replace hf := if_f hf hs11
  replace hf := if_f hf hs12
  refine k_tabOut C 1 rfl 187 (sw_out [0, 1, 2, 3, 4, 5, 6, 7, 8, 9, 10, 11, 12] (by intro v hv; simp only [List.mem_cons, List.not_mem_nil, or_false] at hv; rcases hv with rfl | rfl | rfl | rfl | rfl | rfl | rfl | rfl | rfl | rfl | rfl | rfl | rfl <;> assumption) (by decide)) (by decide) ?_
  refine k_iconst C 59 rfl ci_m1 ?_
  exact k_iretP hR 60 rfl hf
set_option maxHeartbeats 1000000 in
set_option maxRecDepth 20000 in
theorem c_X11_canGoBy (l : Launch) (D : va_G) (cy : Nat → ClassId) (fa : Nat → Nat) (ha : Nat → Nat) (kr : Nat → Nat) (rk : Nat → Nat) (lr : Nat → Nat) (tx : Nat → Nat) (da : Nat → Nat) (sr : Nat → Nat) (a : Nat → Nat) (F : Sg) (Q : Sg) (T : Sg) (O : Sg) (E : Sg) (X : Sg) (Td : Sg) (Od : Sg) (Ed : Sg) (Xd : Sg) (L : Sg) (K : Sg) (N : Sg) (S : Sg) (H : Sg) (p1 : Int32) (r : Bool) (hf : f_X11_canGoBy T O p1 = some r) : Ct l D cy yX11_canGoBy cX11_canGoBy 3 (some .boolean) 1 20 0 0 [.ref (fa 0), .int p1] (wF cy fa ha kr rk lr tx da sr a F Q T O E X Td Od Ed Xd L K N S H) (some (.int (bI r))) (wF cy fa ha kr rk lr tx da sr a F Q T O E X Td Od Ed Xd L K N S H) := by
  refine Ct_z tX11_canGoBy hX11_canGoBy (by decide) (Nat.le_of_ble_eq_true rfl) ?_
  intro Z hZ C hR
  subst hZ
  replace C : Cx Z D cy RX11 tX11_canGoBy 3 1 20 0 0 := C
  show Wk Z D 3 0 0 (wF cy fa ha kr rk lr tx da sr a F Q T O E X Td Od Ed Xd L K N S H) 0 [(0, .ref (fa 0)), (1, .int p1)] []
  unfold f_X11_canGoBy at hf
  have hb53 : f_X11_canGoBy_b53 T O p1 = some r → Wk Z D 3 0 0 (wF cy fa ha kr rk lr tx da sr a F Q T O E X Td Od Ed Xd L K N S H) 53 [] [] := by
    intro  hf
    unfold f_X11_canGoBy_b53 at hf
    refine k_iconst C 26 rfl ci_0 ?_
    exact k_zretP hR 27 rfl hf
  have hb16 : ∀ (s0 : Int32), f_X11_canGoBy_b16 T O p1 s0 = some r → Wk Z D 3 0 0 (wF cy fa ha kr rk lr tx da sr a F Q T O E X Td Od Ed Xd L K N S H) 16 [(0, .ref (fa 0)), (1, .int p1)] [.int s0] := by
    intro s0 hf
    unfold f_X11_canGoBy_b16 at hf
    refine k_istore_2 C 9 rfl (by decide) rfl ?_
    refine k_sub (lv2 := [(0, .ref (fa 0)), (1, .int p1), (2, .int s0)]) [1, 2, 0] rfl ?_
    refine k_aload_0 C 10 rfl 0 rfl ?_
    refine kg11_1 C 11 rfl qX11_19 0 F_c0 F_f0_1 ?_
    obtain ⟨r21, h5, hf⟩ := ob1_some hf
    refine k_callV (X := (wF cy fa ha kr rk lr tx da sr a F Q T O E X Td Od Ed Xd L K N S H).take 47) (Y := (wF cy fa ha kr rk lr tx da sr a F Q T O E X Td Od Ed Xd L K N S H).drop 70) (w2 := (wF cy fa ha kr rk lr tx da sr a F Q T O E X Td Od Ed Xd L K N S H)) C 12 (c_X10_hasLine Z.2.1 D cy a T O E X r21 h5) rfl qX11_257 mvX10_hasLine 0 10 W_c0 rfl rfl rfl rfl rfl (Nat.le_of_ble_eq_true rfl) ⟨Nat.le_of_ble_eq_true rfl, Nat.le_of_ble_eq_true rfl, Nat.le_refl 0, Nat.le_refl 0⟩ ?_
    refine k_if_eq C 13 rfl 53 (by decide) (fun hc => ?_) (fun hc => ?_)
    · replace hf := if_t hf hc
      exact k_sub [] rfl (hb53  hf)
    · replace hf := if_f hf hc
      refine k_iload_2 C 14 rfl 2 rfl ?_
      refine k_if_eq C 15 rfl 53 (by decide) (fun hc => ?_) (fun hc => ?_)
      · replace hf := if_t hf hc
        exact k_sub [] rfl (hb53  hf)
      · replace hf := if_f hf hc
        refine k_aload_0 C 16 rfl 0 rfl ?_
        refine kg11_1 C 17 rfl qX11_19 0 F_c0 F_f0_1 ?_
        refine kg10_1 C 18 rfl qX11_109 47 F_c47 F_f47_1 ?_
        refine kg2_0 C 19 rfl qX11_224 60 F_c60 F_f60_0 ?_
        refine k_iload_1 C 20 rfl 1 rfl ?_
        refine k_iadd C 21 rfl ?_
        refine k_sipush C 22 rfl cs_999 ?_
        refine k_icmp_gt C 23 rfl 53 (by decide) (fun hc => ?_) (fun hc => ?_)
        · replace hf := if_t hf hc
          exact k_sub [] rfl (hb53  hf)
        · replace hf := if_f hf hc
          refine k_iconst C 24 rfl ci_1 ?_
          refine k_goto C 25 rfl 54 (by decide) ?_
          exact k_zretP hR 27 rfl hf
  have hb15 : f_X11_canGoBy_b15 T O p1 = some r → Wk Z D 3 0 0 (wF cy fa ha kr rk lr tx da sr a F Q T O E X Td Od Ed Xd L K N S H) 15 [(0, .ref (fa 0)), (1, .int p1)] [] := by
    intro  hf
    unfold f_X11_canGoBy_b15 at hf
    refine k_iconst C 8 rfl ci_0 ?_
    exact k_sub [0, 1] rfl (hb16 0 hf)
  refine k_iload_1 C 0 rfl 1 rfl ?_
  refine k_iconst C 1 rfl ci_1 ?_
  refine k_icmp_lt C 2 rfl 15 (by decide) (fun hc => ?_) (fun hc => ?_)
  · replace hf := if_t hf hc
    exact k_sub [0, 1] rfl (hb15  hf)
  · replace hf := if_f hf hc
    refine k_iload_1 C 3 rfl 1 rfl ?_
    refine k_bipush C 4 rfl cb_99 ?_
    refine k_icmp_gt C 5 rfl 15 (by decide) (fun hc => ?_) (fun hc => ?_)
    · replace hf := if_t hf hc
      exact k_sub [0, 1] rfl (hb15  hf)
    · replace hf := if_f hf hc
      refine k_iconst C 6 rfl ci_1 ?_
      refine k_goto C 7 rfl 16 (by decide) ?_
      exact k_sub [0, 1] rfl (hb16 1 hf)
set_option maxHeartbeats 1000000 in
set_option maxRecDepth 20000 in
theorem c_X0_keep (l : Launch) (D : va_G) (cy : Nat → ClassId) (ha : Nat → Nat) (za : Nat → Nat) (b : Nat → Nat) (rf : Nat → Option Nat) (j : Nat) (hsel : rf j = some (za 0)) (H : Sg) (Om : Sg) (P : Sg) (H1 : Sg) (Om1 : Sg) (hf : f_X0_keep j H Om P = some (H1, Om1)) : Ct l D cy yX0_keep cX0_keep 2 none 2 221 0 0 [.ref (ha 0), .ref (b 0)] (wHK cy ha za b rf j H Om P) none (wHK cy ha za b rf j H1 Om1 P) := by
  refine Ct_v tX0_keep hX0_keep (by decide) (Nat.le_of_ble_eq_true rfl) ?_
  intro Z hZ C hR
  subst hZ
  replace C : Cx Z D cy RX0 tX0_keep 2 2 221 0 0 := C
  show Wk Z D 2 0 0 (wHK cy ha za b rf j H Om P) 0 [(0, .ref (ha 0)), (1, .ref (b 0))] []
  unfold f_X0_keep at hf
  refine k_aload_0 C 0 rfl 0 rfl ?_
  refine kg0_0 C 1 rfl qX0_11 0 HK_c0 HK_f0_0 ?_
  refine k_aload_0 C 2 rfl 0 rfl ?_
  refine kg0_1 C 3 rfl qX0_18 0 HK_c0 HK_f0_1 ?_
  obtain ⟨i8, hi, hin, hf⟩ := ixd_some hf
  obtain ⟨he, hf⟩ := gE_some hf
  refine k_aald C 4 rfl 1 4 HK_c1 rfl hin (hi.trans he) hsel ?_
  refine k_aload_1 C 5 rfl 1 rfl ?_
  obtain ⟨Om_10, h5, hf⟩ := ob1_some hf
  refine k_callV (X := (wHK cy ha za b rf j H Om P).take 2) (Y := (wHK cy ha za b rf j H Om P).drop 14) (w2 := (wHK cy ha za b rf j H Om_10 P)) C 6 (c_X2_copyFrom Z.2.1 D cy za b Om P Om_10 h5) rfl qX0_22 mvX2_copyFrom 0 2 O2_c0 rfl rfl rfl rfl rfl (Nat.le_of_ble_eq_true rfl) ⟨Nat.le_of_ble_eq_true rfl, Nat.le_of_ble_eq_true rfl, Nat.le_refl 0, Nat.le_refl 0⟩ ?_
  refine k_aload_0 C 7 rfl 0 rfl ?_
  refine k_aload_0 C 8 rfl 0 rfl ?_
  refine kg0_1 C 9 rfl qX0_18 0 HK_c0 HK_f0_1 ?_
  refine k_iconst C 10 rfl ci_1 ?_
  refine k_iadd C 11 rfl ?_
  refine k_bipush C 12 rfl cb_20 ?_
  obtain ⟨hn, hf⟩ := nzI_some hf
  refine k_irem C 13 rfl hn ?_
  obtain ⟨H_23, hM, hf⟩ := bnd_some hf
  refine kp0_1 (w2 := (wHK cy ha za b rf j H_23 Om_10 P)) C 14 rfl qX0_18 0 HK_c0 (v := (((H.1 1) + 1) - ((H.1 1) + 1) / 20 * 20)) HK_n0 (HK_p0_1.trans (congrArg (fun z => (wHK cy ha za b rf j z Om_10 P)) hM)) ?_
  refine k_aload_0 C 15 rfl 0 rfl ?_
  refine k_aload_0 C 16 rfl 0 rfl ?_
  refine kg0_2 C 17 rfl qX0_26 0 HK_c0 HK_f0_2 ?_
  refine k_iconst C 18 rfl ci_1 ?_
  refine k_iadd C 19 rfl ?_
  refine k_bipush C 20 rfl cb_20 ?_
  refine k_mmin C 21 rfl qX0_29 jw_min (Nat.le_of_ble_eq_true rfl) (Nat.le_of_ble_eq_true rfl) (Nat.le_of_ble_eq_true rfl) ⟨Nat.le_refl 0, Nat.le_refl 0⟩ ?_
  obtain ⟨H_38, hM, hf⟩ := bnd_some hf
  refine kp0_2 (w2 := (wHK cy ha za b rf j H_38 Om_10 P)) C 22 rfl qX0_26 0 HK_c0 (v := (jmin ((H_23.1 2) + 1) 20)) HK_n0 (HK_p0_2.trans (congrArg (fun z => (wHK cy ha za b rf j z Om_10 P)) hM)) ?_
  exact k_vret (wf := (fun u => (wHK cy ha za b rf j u.1 u.2 P))) hR 23 rfl hf
set_option maxHeartbeats 1000000 in
set_option maxRecDepth 20000 in
theorem c_X0_restore (l : Launch) (D : va_G) (cy : Nat → ClassId) (ha : Nat → Nat) (za : Nat → Nat) (b : Nat → Nat) (rf : Nat → Option Nat) (j : Nat) (hsel : rf j = some (za 0)) (H : Sg) (Om : Sg) (P : Sg) (H1 : Sg) (P1 : Sg) (hf : f_X0_restore j H Om P = some (H1, P1)) : Ct l D cy yX0_restore cX0_restore 2 none 2 221 0 0 [.ref (ha 0), .ref (b 0)] (wHK cy ha za b rf j H Om P) none (wHK cy ha za b rf j H1 Om P1) := by
  refine Ct_v tX0_restore hX0_restore (by decide) (Nat.le_of_ble_eq_true rfl) ?_
  intro Z hZ C hR
  subst hZ
  replace C : Cx Z D cy RX0 tX0_restore 2 2 221 0 0 := C
  show Wk Z D 2 0 0 (wHK cy ha za b rf j H Om P) 0 [(0, .ref (ha 0)), (1, .ref (b 0))] []
  unfold f_X0_restore at hf
  refine k_aload_0 C 0 rfl 0 rfl ?_
  refine k_aload_0 C 1 rfl 0 rfl ?_
  refine kg0_1 C 2 rfl qX0_18 0 HK_c0 HK_f0_1 ?_
  refine k_bipush C 3 rfl cb_20 ?_
  refine k_iadd C 4 rfl ?_
  refine k_iconst C 5 rfl ci_1 ?_
  refine k_isub C 6 rfl ?_
  refine k_bipush C 7 rfl cb_20 ?_
  obtain ⟨hn, hf⟩ := nzI_some hf
  refine k_irem C 8 rfl hn ?_
  obtain ⟨H_13, hM, hf⟩ := bnd_some hf
  refine kp0_1 (w2 := (wHK cy ha za b rf j H_13 Om P)) C 9 rfl qX0_18 0 HK_c0 (v := ((((H.1 1) + 20) - 1) - (((H.1 1) + 20) - 1) / 20 * 20)) HK_n0 (HK_p0_1.trans (congrArg (fun z => (wHK cy ha za b rf j z Om P)) hM)) ?_
  refine k_aload_0 C 10 rfl 0 rfl ?_
  refine k_dup C 11 rfl rfl ?_
  refine kg0_2 C 12 rfl qX0_26 0 HK_c0 HK_f0_2 ?_
  refine k_iconst C 13 rfl ci_1 ?_
  refine k_isub C 14 rfl ?_
  obtain ⟨H_23, hM, hf⟩ := bnd_some hf
  refine kp0_2 (w2 := (wHK cy ha za b rf j H_23 Om P)) C 15 rfl qX0_26 0 HK_c0 (v := ((H_13.1 2) - 1)) HK_n0 (HK_p0_2.trans (congrArg (fun z => (wHK cy ha za b rf j z Om P)) hM)) ?_
  refine k_aload_1 C 16 rfl 1 rfl ?_
  refine k_aload_0 C 17 rfl 0 rfl ?_
  refine kg0_0 C 18 rfl qX0_11 0 HK_c0 HK_f0_0 ?_
  refine k_aload_0 C 19 rfl 0 rfl ?_
  refine kg0_1 C 20 rfl qX0_18 0 HK_c0 HK_f0_1 ?_
  obtain ⟨i35, hi, hin, hf⟩ := ixd_some hf
  obtain ⟨he, hf⟩ := gE_some hf
  refine k_aald C 21 rfl 1 4 HK_c1 rfl hin (hi.trans he) hsel ?_
  obtain ⟨P_36, h5, hf⟩ := ob1_some hf
  refine k_re (w2 := (wOO cy b za P Om) ++ (List.filterMap (fun i => (wHK cy ha za b rf j H_23 Om P)[i]?) [0, 1])) [8, 9, 10, 11, 12, 13, 2, 3, 4, 5, 6, 7, 0, 1] (by decide) rfl rfl ?_
  refine k_callV (X := []) (Y := (List.filterMap (fun i => (wHK cy ha za b rf j H_23 Om P)[i]?) [0, 1])) (w2 := (wOO cy b za P_36 Om) ++ (List.filterMap (fun i => (wHK cy ha za b rf j H_23 Om P)[i]?) [0, 1])) C 22 (c_X2_copyFrom Z.2.1 D cy b za P Om P_36 h5) rfl qX0_22 mvX2_copyFrom 0 2 O2_c0 rfl rfl rfl rfl rfl (Nat.le_of_ble_eq_true rfl) ⟨Nat.le_of_ble_eq_true rfl, Nat.le_of_ble_eq_true rfl, Nat.le_refl 0, Nat.le_refl 0⟩ ?_
  refine k_re (w2 := (wHK cy ha za b rf j H_23 Om P_36)) [12, 13, 6, 7, 8, 9, 10, 11, 0, 1, 2, 3, 4, 5] (by decide) rfl rfl ?_
  exact k_vret (wf := (fun u => (wHK cy ha za b rf j u.1 Om u.2))) hR 23 rfl hf
set_option maxHeartbeats 1000000 in
set_option maxRecDepth 20000 in
theorem c_X11_inside (l : Launch) (D : va_G) (cy : Nat → ClassId) (fa : Nat → Nat) (ha : Nat → Nat) (kr : Nat → Nat) (rk : Nat → Nat) (lr : Nat → Nat) (tx : Nat → Nat) (da : Nat → Nat) (sr : Nat → Nat) (a : Nat → Nat) (za : Nat → Nat) (rf : Nat → Option Nat) (j : Nat) (hsel : rf j = some (za 0)) (F : Sg) (Q : Sg) (T : Sg) (O : Sg) (E : Sg) (X : Sg) (Td : Sg) (Od : Sg) (Ed : Sg) (Xd : Sg) (L : Sg) (K : Sg) (N : Sg) (S : Sg) (H : Sg) (Om : Sg) (p1 : Int32) (p2 : Int32) (r : Int32) (O1 : Sg) (H1 : Sg) (Om1 : Sg) (hf : f_X11_inside j T O H Om p1 p2 = some (r, O1, H1, Om1)) : Ct l D cy yX11_inside cX11_inside 4 (some .int) 3 251 0 0 [.ref (fa 0), .int p1, .int p2] (wFH cy fa ha kr rk lr tx da sr a za rf j F Q T O E X Td Od Ed Xd L K N S H Om) (some (.int r)) (wFH cy fa ha kr rk lr tx da sr a za rf j F Q T O1 E X Td Od Ed Xd L K N S H1 Om1) := by
  refine Ct_i tX11_inside hX11_inside (by decide) (Nat.le_of_ble_eq_true rfl) ?_
  intro Z hZ C hR
  subst hZ
  replace C : Cx Z D cy RX11 tX11_inside 4 3 251 0 0 := C
  show Wk Z D 4 0 0 (wFH cy fa ha kr rk lr tx da sr a za rf j F Q T O E X Td Od Ed Xd L K N S H Om) 0 [(0, .ref (fa 0)), (1, .int p1), (2, .int p2)] []
  unfold f_X11_inside at hf
  have hb23 : ∀ (O : Sg) (H : Sg) (Om : Sg), f_X11_inside_b23 j T p1 p2 O H Om = some (r, O1, H1, Om1) → Wk Z D 4 0 0 (wFH cy fa ha kr rk lr tx da sr a za rf j F Q T O E X Td Od Ed Xd L K N S H Om) 23 [(0, .ref (fa 0)), (1, .int p1), (2, .int p2)] [] := by
    intro O H Om hf
    unfold f_X11_inside_b23 at hf
    refine k_aload_0 C 13 rfl 0 rfl ?_
    refine kg11_1 C 14 rfl qX11_19 0 FH_c0 FH_f0_1 ?_
    refine kg10_1 C 15 rfl qX11_109 47 FH_c47 FH_f47_1 ?_
    refine kg2_2 C 16 rfl qX11_174 60 FH_c60 FH_f60_2 ?_
    refine k_iload_1 C 17 rfl 1 rfl ?_
    obtain ⟨i34, hi, hin, hf⟩ := ixd_some hf
    refine k_iald C 18 rfl 61 FH_c61 hin hi ?_
    refine k_iload_2 C 19 rfl 2 rfl ?_
    refine k_iadd C 20 rfl ?_
    obtain ⟨x3_37, hx, hf⟩ := bnd_some hf
    refine k_topi hx ?_
    refine k_istore_3 C 21 rfl (by decide) rfl ?_
    refine k_sub (lv2 := [(0, .ref (fa 0)), (1, .int p1), (2, .int p2), (3, .int x3_37)]) [1, 2, 3, 0] rfl ?_
    refine k_aload_0 C 22 rfl 0 rfl ?_
    refine kg11_1 C 23 rfl qX11_19 0 FH_c0 FH_f0_1 ?_
    refine k_iload_1 C 24 rfl 1 rfl ?_
    refine k_iload_3 C 25 rfl 3 rfl ?_
    obtain ⟨r44, h5, hf⟩ := ob1_some hf
    refine k_callV (X := (wFH cy fa ha kr rk lr tx da sr a za rf j F Q T O E X Td Od Ed Xd L K N S H Om).take 47) (Y := (wFH cy fa ha kr rk lr tx da sr a za rf j F Q T O E X Td Od Ed Xd L K N S H Om).drop 70) (w2 := (wFH cy fa ha kr rk lr tx da sr a za rf j F Q T O E X Td Od Ed Xd L K N S H Om)) C 26 (c_X10_mayGoInside Z.2.1 D cy a T O E X p1 x3_37 r44 h5) rfl qX11_202 mvX10_mayGoInside 0 10 W_c0 rfl rfl rfl rfl rfl (Nat.le_of_ble_eq_true rfl) ⟨Nat.le_of_ble_eq_true rfl, Nat.le_of_ble_eq_true rfl, Nat.le_refl 0, Nat.le_refl 0⟩ ?_
    refine k_if_ne C 27 rfl 52 (by decide) (fun hc => ?_) (fun hc => ?_)
    · replace hf := if_f hf hc
      refine k_aload_0 C 30 rfl 0 rfl ?_
      refine kg11_5 C 31 rfl qX11_37 0 FH_c0 FH_f0_5 ?_
      refine k_aload_0 C 32 rfl 0 rfl ?_
      refine kg11_1 C 33 rfl qX11_19 0 FH_c0 FH_f0_1 ?_
      refine kg10_1 C 34 rfl qX11_109 47 FH_c47 FH_f47_1 ?_
      obtain ⟨H_63, Om_63, h5, hf⟩ := ob2_some hf
      refine k_re (w2 := (wHK cy ha za (fun i => a (13 + i)) rf j H Om O) ++ (List.filterMap (fun i => (wFH cy fa ha kr rk lr tx da sr a za rf j F Q T O E X Td Od Ed Xd L K N S H Om)[i]?) [0, 1, 3, 4, 5, 6, 7, 8, 9, 10, 11, 12, 13, 14, 15, 16, 17, 18, 19, 20, 21, 22, 23, 24, 25, 26, 27, 28, 29, 30, 31, 32, 33, 34, 35, 36, 37, 38, 39, 40, 41, 42, 43, 44, 45, 46, 47, 48, 49, 50, 51, 52, 53, 54, 55, 56, 57, 58, 59, 66, 67, 68, 69])) [2, 70, 71, 72, 73, 74, 75, 76, 60, 61, 62, 63, 64, 65, 0, 1, 3, 4, 5, 6, 7, 8, 9, 10, 11, 12, 13, 14, 15, 16, 17, 18, 19, 20, 21, 22, 23, 24, 25, 26, 27, 28, 29, 30, 31, 32, 33, 34, 35, 36, 37, 38, 39, 40, 41, 42, 43, 44, 45, 46, 47, 48, 49, 50, 51, 52, 53, 54, 55, 56, 57, 58, 59, 66, 67, 68, 69] (by decide) rfl rfl ?_
      refine k_callV (X := []) (Y := (List.filterMap (fun i => (wFH cy fa ha kr rk lr tx da sr a za rf j F Q T O E X Td Od Ed Xd L K N S H Om)[i]?) [0, 1, 3, 4, 5, 6, 7, 8, 9, 10, 11, 12, 13, 14, 15, 16, 17, 18, 19, 20, 21, 22, 23, 24, 25, 26, 27, 28, 29, 30, 31, 32, 33, 34, 35, 36, 37, 38, 39, 40, 41, 42, 43, 44, 45, 46, 47, 48, 49, 50, 51, 52, 53, 54, 55, 56, 57, 58, 59, 66, 67, 68, 69])) (w2 := (wHK cy ha za (fun i => a (13 + i)) rf j H_63 Om_63 O) ++ (List.filterMap (fun i => (wFH cy fa ha kr rk lr tx da sr a za rf j F Q T O E X Td Od Ed Xd L K N S H Om)[i]?) [0, 1, 3, 4, 5, 6, 7, 8, 9, 10, 11, 12, 13, 14, 15, 16, 17, 18, 19, 20, 21, 22, 23, 24, 25, 26, 27, 28, 29, 30, 31, 32, 33, 34, 35, 36, 37, 38, 39, 40, 41, 42, 43, 44, 45, 46, 47, 48, 49, 50, 51, 52, 53, 54, 55, 56, 57, 58, 59, 66, 67, 68, 69])) C 35 (c_X0_keep Z.2.1 D cy ha za (fun i => a (13 + i)) rf j hsel H Om O H_63 Om_63 h5) rfl qX11_205 mvX0_keep 0 0 HK_c0 rfl rfl rfl rfl rfl (Nat.le_of_ble_eq_true rfl) ⟨Nat.le_of_ble_eq_true rfl, Nat.le_of_ble_eq_true rfl, Nat.le_refl 0, Nat.le_refl 0⟩ ?_
      refine k_re (w2 := (wFH cy fa ha kr rk lr tx da sr a za rf j F Q T O E X Td Od Ed Xd L K N S H_63 Om_63)) [14, 15, 0, 16, 17, 18, 19, 20, 21, 22, 23, 24, 25, 26, 27, 28, 29, 30, 31, 32, 33, 34, 35, 36, 37, 38, 39, 40, 41, 42, 43, 44, 45, 46, 47, 48, 49, 50, 51, 52, 53, 54, 55, 56, 57, 58, 59, 60, 61, 62, 63, 64, 65, 66, 67, 68, 69, 70, 71, 72, 8, 9, 10, 11, 12, 13, 73, 74, 75, 76, 1, 2, 3, 4, 5, 6, 7] (by decide) rfl rfl ?_
      refine k_aload_0 C 36 rfl 0 rfl ?_
      refine kg11_1 C 37 rfl qX11_19 0 FH_c0 FH_f0_1 ?_
      refine k_iload_1 C 38 rfl 1 rfl ?_
      refine k_iload_3 C 39 rfl 3 rfl ?_
      obtain ⟨r72, O_72, h5, hf⟩ := ob2_some hf
      refine k_callV (X := (wFH cy fa ha kr rk lr tx da sr a za rf j F Q T O E X Td Od Ed Xd L K N S H_63 Om_63).take 47) (Y := (wFH cy fa ha kr rk lr tx da sr a za rf j F Q T O E X Td Od Ed Xd L K N S H_63 Om_63).drop 70) (w2 := (wFH cy fa ha kr rk lr tx da sr a za rf j F Q T O_72 E X Td Od Ed Xd L K N S H_63 Om_63)) C 40 (c_X10_goInside Z.2.1 D cy a T O E X p1 x3_37 r72 O_72 h5) rfl qX11_208 mvX10_goInside 0 10 W_c0 rfl rfl rfl rfl rfl (Nat.le_of_ble_eq_true rfl) ⟨Nat.le_of_ble_eq_true rfl, Nat.le_of_ble_eq_true rfl, Nat.le_refl 0, Nat.le_refl 0⟩ ?_
      exact k_iret (wf := (fun u => (wFH cy fa ha kr rk lr tx da sr a za rf j F Q T u.1 E X Td Od Ed Xd L K N S u.2.1 u.2.2))) hR 41 rfl hf
    · replace hf := if_t hf hc
      refine k_iconst C 28 rfl ci_m1 ?_
      exact k_iret (wf := (fun u => (wFH cy fa ha kr rk lr tx da sr a za rf j F Q T u.1 E X Td Od Ed Xd L K N S u.2.1 u.2.2))) hR 29 rfl hf
  have hb21 : ∀ (O : Sg) (H : Sg) (Om : Sg), f_X11_inside_b21 j T p1 p2 O H Om = some (r, O1, H1, Om1) → Wk Z D 4 0 0 (wFH cy fa ha kr rk lr tx da sr a za rf j F Q T O E X Td Od Ed Xd L K N S H Om) 21 [] [] := by
    intro O H Om hf
    unfold f_X11_inside_b21 at hf
    refine k_iconst C 11 rfl ci_m1 ?_
    exact k_iret (wf := (fun u => (wFH cy fa ha kr rk lr tx da sr a za rf j F Q T u.1 E X Td Od Ed Xd L K N S u.2.1 u.2.2))) hR 12 rfl hf
  refine k_aload_0 C 0 rfl 0 rfl ?_
  refine kg11_1 C 1 rfl qX11_19 0 FH_c0 FH_f0_1 ?_
  refine k_iload_1 C 2 rfl 1 rfl ?_
  obtain ⟨r5, h5, hf⟩ := ob1_some hf
  refine k_callV (X := (wFH cy fa ha kr rk lr tx da sr a za rf j F Q T O E X Td Od Ed Xd L K N S H Om).take 47) (Y := (wFH cy fa ha kr rk lr tx da sr a za rf j F Q T O E X Td Od Ed Xd L K N S H Om).drop 70) (w2 := (wFH cy fa ha kr rk lr tx da sr a za rf j F Q T O E X Td Od Ed Xd L K N S H Om)) C 3 (c_X10_hasRider Z.2.1 D cy a T O E X p1 r5 h5) rfl qX11_171 mvX10_hasRider 0 10 W_c0 rfl rfl rfl rfl rfl (Nat.le_of_ble_eq_true rfl) ⟨Nat.le_of_ble_eq_true rfl, Nat.le_of_ble_eq_true rfl, Nat.le_refl 0, Nat.le_refl 0⟩ ?_
  refine k_if_eq C 4 rfl 21 (by decide) (fun hc => ?_) (fun hc => ?_)
  · replace hf := if_t hf hc
    exact k_sub [] rfl (hb21 O H Om hf)
  · replace hf := if_f hf hc
    refine k_iload_2 C 5 rfl 2 rfl ?_
    refine k_iconst C 6 rfl ci_m1 ?_
    refine k_icmp_eq C 7 rfl 23 (by decide) (fun hc => ?_) (fun hc => ?_)
    · replace hf := if_t hf hc
      exact k_sub [0, 1, 2] rfl (hb23 O H Om hf)
    · replace hf := if_f hf hc
      refine k_iload_2 C 8 rfl 2 rfl ?_
      refine k_iconst C 9 rfl ci_1 ?_
      refine k_icmp_eq C 10 rfl 23 (by decide) (fun hc => ?_) (fun hc => ?_)
      · replace hf := if_t hf hc
        exact k_sub [0, 1, 2] rfl (hb23 O H Om hf)
      · replace hf := if_f hf hc
        exact k_sub [] rfl (hb21 O H Om hf)
set_option maxHeartbeats 1000000 in
set_option maxRecDepth 20000 in
theorem c_X11_outside (l : Launch) (D : va_G) (cy : Nat → ClassId) (fa : Nat → Nat) (ha : Nat → Nat) (kr : Nat → Nat) (rk : Nat → Nat) (lr : Nat → Nat) (tx : Nat → Nat) (da : Nat → Nat) (sr : Nat → Nat) (a : Nat → Nat) (za : Nat → Nat) (rf : Nat → Option Nat) (j : Nat) (hsel : rf j = some (za 0)) (F : Sg) (Q : Sg) (T : Sg) (O : Sg) (E : Sg) (X : Sg) (Td : Sg) (Od : Sg) (Ed : Sg) (Xd : Sg) (L : Sg) (K : Sg) (N : Sg) (S : Sg) (H : Sg) (Om : Sg) (p1 : Int32) (p2 : Int32) (r : Int32) (O1 : Sg) (H1 : Sg) (Om1 : Sg) (hf : f_X11_outside j T O H Om p1 p2 = some (r, O1, H1, Om1)) : Ct l D cy yX11_outside cX11_outside 3 (some .int) 3 247 0 0 [.ref (fa 0), .int p1, .int p2] (wFH cy fa ha kr rk lr tx da sr a za rf j F Q T O E X Td Od Ed Xd L K N S H Om) (some (.int r)) (wFH cy fa ha kr rk lr tx da sr a za rf j F Q T O1 E X Td Od Ed Xd L K N S H1 Om1) := by
  refine Ct_i tX11_outside hX11_outside (by decide) (Nat.le_of_ble_eq_true rfl) ?_
  intro Z hZ C hR
  subst hZ
  replace C : Cx Z D cy RX11 tX11_outside 3 3 247 0 0 := C
  show Wk Z D 3 0 0 (wFH cy fa ha kr rk lr tx da sr a za rf j F Q T O E X Td Od Ed Xd L K N S H Om) 0 [(0, .ref (fa 0)), (1, .int p1), (2, .int p2)] []
  unfold f_X11_outside at hf
  have hb23 : ∀ (O : Sg) (H : Sg) (Om : Sg), f_X11_outside_b23 j T p1 p2 O H Om = some (r, O1, H1, Om1) → Wk Z D 3 0 0 (wFH cy fa ha kr rk lr tx da sr a za rf j F Q T O E X Td Od Ed Xd L K N S H Om) 23 [] [] := by
    intro O H Om hf
    unfold f_X11_outside_b23 at hf
    refine k_iconst C 11 rfl ci_m1 ?_
    exact k_iret (wf := (fun u => (wFH cy fa ha kr rk lr tx da sr a za rf j F Q T u.1 E X Td Od Ed Xd L K N S u.2.1 u.2.2))) hR 12 rfl hf
  refine k_aload_0 C 0 rfl 0 rfl ?_
  refine kg11_1 C 1 rfl qX11_19 0 FH_c0 FH_f0_1 ?_
  refine k_iload_1 C 2 rfl 1 rfl ?_
  obtain ⟨r5, h5, hf⟩ := ob1_some hf
  refine k_callV (X := (wFH cy fa ha kr rk lr tx da sr a za rf j F Q T O E X Td Od Ed Xd L K N S H Om).take 47) (Y := (wFH cy fa ha kr rk lr tx da sr a za rf j F Q T O E X Td Od Ed Xd L K N S H Om).drop 70) (w2 := (wFH cy fa ha kr rk lr tx da sr a za rf j F Q T O E X Td Od Ed Xd L K N S H Om)) C 3 (c_X10_hasRider Z.2.1 D cy a T O E X p1 r5 h5) rfl qX11_171 mvX10_hasRider 0 10 W_c0 rfl rfl rfl rfl rfl (Nat.le_of_ble_eq_true rfl) ⟨Nat.le_of_ble_eq_true rfl, Nat.le_of_ble_eq_true rfl, Nat.le_refl 0, Nat.le_refl 0⟩ ?_
  refine k_if_eq C 4 rfl 23 (by decide) (fun hc => ?_) (fun hc => ?_)
  · replace hf := if_t hf hc
    exact k_sub [] rfl (hb23 O H Om hf)
  · replace hf := if_f hf hc
    refine k_aload_0 C 5 rfl 0 rfl ?_
    refine kg11_1 C 6 rfl qX11_19 0 FH_c0 FH_f0_1 ?_
    refine k_iload_1 C 7 rfl 1 rfl ?_
    refine k_iload_2 C 8 rfl 2 rfl ?_
    obtain ⟨r17, h5, hf⟩ := ob1_some hf
    refine k_callV (X := (wFH cy fa ha kr rk lr tx da sr a za rf j F Q T O E X Td Od Ed Xd L K N S H Om).take 47) (Y := (wFH cy fa ha kr rk lr tx da sr a za rf j F Q T O E X Td Od Ed Xd L K N S H Om).drop 70) (w2 := (wFH cy fa ha kr rk lr tx da sr a za rf j F Q T O E X Td Od Ed Xd L K N S H Om)) C 9 (c_X10_mayGoOutside Z.2.1 D cy a T O E X p1 p2 r17 h5) rfl qX11_212 mvX10_mayGoOutside 0 10 W_c0 rfl rfl rfl rfl rfl (Nat.le_of_ble_eq_true rfl) ⟨Nat.le_of_ble_eq_true rfl, Nat.le_of_ble_eq_true rfl, Nat.le_refl 0, Nat.le_refl 0⟩ ?_
    refine k_if_ne C 10 rfl 25 (by decide) (fun hc => ?_) (fun hc => ?_)
    · replace hf := if_f hf hc
      refine k_aload_0 C 13 rfl 0 rfl ?_
      refine kg11_5 C 14 rfl qX11_37 0 FH_c0 FH_f0_5 ?_
      refine k_aload_0 C 15 rfl 0 rfl ?_
      refine kg11_1 C 16 rfl qX11_19 0 FH_c0 FH_f0_1 ?_
      refine kg10_1 C 17 rfl qX11_109 47 FH_c47 FH_f47_1 ?_
      obtain ⟨H_36, Om_36, h5, hf⟩ := ob2_some hf
      refine k_re (w2 := (wHK cy ha za (fun i => a (13 + i)) rf j H Om O) ++ (List.filterMap (fun i => (wFH cy fa ha kr rk lr tx da sr a za rf j F Q T O E X Td Od Ed Xd L K N S H Om)[i]?) [0, 1, 3, 4, 5, 6, 7, 8, 9, 10, 11, 12, 13, 14, 15, 16, 17, 18, 19, 20, 21, 22, 23, 24, 25, 26, 27, 28, 29, 30, 31, 32, 33, 34, 35, 36, 37, 38, 39, 40, 41, 42, 43, 44, 45, 46, 47, 48, 49, 50, 51, 52, 53, 54, 55, 56, 57, 58, 59, 66, 67, 68, 69])) [2, 70, 71, 72, 73, 74, 75, 76, 60, 61, 62, 63, 64, 65, 0, 1, 3, 4, 5, 6, 7, 8, 9, 10, 11, 12, 13, 14, 15, 16, 17, 18, 19, 20, 21, 22, 23, 24, 25, 26, 27, 28, 29, 30, 31, 32, 33, 34, 35, 36, 37, 38, 39, 40, 41, 42, 43, 44, 45, 46, 47, 48, 49, 50, 51, 52, 53, 54, 55, 56, 57, 58, 59, 66, 67, 68, 69] (by decide) rfl rfl ?_
      refine k_callV (X := []) (Y := (List.filterMap (fun i => (wFH cy fa ha kr rk lr tx da sr a za rf j F Q T O E X Td Od Ed Xd L K N S H Om)[i]?) [0, 1, 3, 4, 5, 6, 7, 8, 9, 10, 11, 12, 13, 14, 15, 16, 17, 18, 19, 20, 21, 22, 23, 24, 25, 26, 27, 28, 29, 30, 31, 32, 33, 34, 35, 36, 37, 38, 39, 40, 41, 42, 43, 44, 45, 46, 47, 48, 49, 50, 51, 52, 53, 54, 55, 56, 57, 58, 59, 66, 67, 68, 69])) (w2 := (wHK cy ha za (fun i => a (13 + i)) rf j H_36 Om_36 O) ++ (List.filterMap (fun i => (wFH cy fa ha kr rk lr tx da sr a za rf j F Q T O E X Td Od Ed Xd L K N S H Om)[i]?) [0, 1, 3, 4, 5, 6, 7, 8, 9, 10, 11, 12, 13, 14, 15, 16, 17, 18, 19, 20, 21, 22, 23, 24, 25, 26, 27, 28, 29, 30, 31, 32, 33, 34, 35, 36, 37, 38, 39, 40, 41, 42, 43, 44, 45, 46, 47, 48, 49, 50, 51, 52, 53, 54, 55, 56, 57, 58, 59, 66, 67, 68, 69])) C 18 (c_X0_keep Z.2.1 D cy ha za (fun i => a (13 + i)) rf j hsel H Om O H_36 Om_36 h5) rfl qX11_205 mvX0_keep 0 0 HK_c0 rfl rfl rfl rfl rfl (Nat.le_of_ble_eq_true rfl) ⟨Nat.le_of_ble_eq_true rfl, Nat.le_of_ble_eq_true rfl, Nat.le_refl 0, Nat.le_refl 0⟩ ?_
      refine k_re (w2 := (wFH cy fa ha kr rk lr tx da sr a za rf j F Q T O E X Td Od Ed Xd L K N S H_36 Om_36)) [14, 15, 0, 16, 17, 18, 19, 20, 21, 22, 23, 24, 25, 26, 27, 28, 29, 30, 31, 32, 33, 34, 35, 36, 37, 38, 39, 40, 41, 42, 43, 44, 45, 46, 47, 48, 49, 50, 51, 52, 53, 54, 55, 56, 57, 58, 59, 60, 61, 62, 63, 64, 65, 66, 67, 68, 69, 70, 71, 72, 8, 9, 10, 11, 12, 13, 73, 74, 75, 76, 1, 2, 3, 4, 5, 6, 7] (by decide) rfl rfl ?_
      refine k_aload_0 C 19 rfl 0 rfl ?_
      refine kg11_1 C 20 rfl qX11_19 0 FH_c0 FH_f0_1 ?_
      refine k_iload_1 C 21 rfl 1 rfl ?_
      refine k_iload_2 C 22 rfl 2 rfl ?_
      obtain ⟨r45, O_45, h5, hf⟩ := ob2_some hf
      refine k_callV (X := (wFH cy fa ha kr rk lr tx da sr a za rf j F Q T O E X Td Od Ed Xd L K N S H_36 Om_36).take 47) (Y := (wFH cy fa ha kr rk lr tx da sr a za rf j F Q T O E X Td Od Ed Xd L K N S H_36 Om_36).drop 70) (w2 := (wFH cy fa ha kr rk lr tx da sr a za rf j F Q T O_45 E X Td Od Ed Xd L K N S H_36 Om_36)) C 23 (c_X10_goOutside Z.2.1 D cy a T O E X p1 p2 r45 O_45 h5) rfl qX11_215 mvX10_goOutside 0 10 W_c0 rfl rfl rfl rfl rfl (Nat.le_of_ble_eq_true rfl) ⟨Nat.le_of_ble_eq_true rfl, Nat.le_of_ble_eq_true rfl, Nat.le_refl 0, Nat.le_refl 0⟩ ?_
      exact k_iret (wf := (fun u => (wFH cy fa ha kr rk lr tx da sr a za rf j F Q T u.1 E X Td Od Ed Xd L K N S u.2.1 u.2.2))) hR 24 rfl hf
    · replace hf := if_t hf hc
      exact k_sub [] rfl (hb23 O H Om hf)
set_option maxHeartbeats 1000000 in
set_option maxRecDepth 20000 in
theorem c_X11_pass (l : Launch) (D : va_G) (cy : Nat → ClassId) (fa : Nat → Nat) (ha : Nat → Nat) (kr : Nat → Nat) (rk : Nat → Nat) (lr : Nat → Nat) (tx : Nat → Nat) (da : Nat → Nat) (sr : Nat → Nat) (a : Nat → Nat) (za : Nat → Nat) (rf : Nat → Option Nat) (j : Nat) (hsel : rf j = some (za 0)) (F : Sg) (Q : Sg) (T : Sg) (O : Sg) (E : Sg) (X : Sg) (Td : Sg) (Od : Sg) (Ed : Sg) (Xd : Sg) (L : Sg) (K : Sg) (N : Sg) (S : Sg) (H : Sg) (Om : Sg) (p1 : Int32) (r : Int32) (O1 : Sg) (H1 : Sg) (Om1 : Sg) (hf : f_X11_pass j T O H Om p1 = some (r, O1, H1, Om1)) : Ct l D cy yX11_pass cX11_pass 2 (some .int) 3 242 0 0 [.ref (fa 0), .int p1] (wFH cy fa ha kr rk lr tx da sr a za rf j F Q T O E X Td Od Ed Xd L K N S H Om) (some (.int r)) (wFH cy fa ha kr rk lr tx da sr a za rf j F Q T O1 E X Td Od Ed Xd L K N S H1 Om1) := by
  refine Ct_i tX11_pass hX11_pass (by decide) (Nat.le_of_ble_eq_true rfl) ?_
  intro Z hZ C hR
  subst hZ
  replace C : Cx Z D cy RX11 tX11_pass 2 3 242 0 0 := C
  show Wk Z D 2 0 0 (wFH cy fa ha kr rk lr tx da sr a za rf j F Q T O E X Td Od Ed Xd L K N S H Om) 0 [(0, .ref (fa 0)), (1, .int p1)] []
  unfold f_X11_pass at hf
  refine k_aload_0 C 0 rfl 0 rfl ?_
  refine k_iload_1 C 1 rfl 1 rfl ?_
  obtain ⟨r2, h5, hf⟩ := ob1_some hf
  refine k_callV (X := (wFH cy fa ha kr rk lr tx da sr a za rf j F Q T O E X Td Od Ed Xd L K N S H Om).take 0) (Y := (wFH cy fa ha kr rk lr tx da sr a za rf j F Q T O E X Td Od Ed Xd L K N S H Om).drop 70) (w2 := (wFH cy fa ha kr rk lr tx da sr a za rf j F Q T O E X Td Od Ed Xd L K N S H Om)) C 2 (c_X11_canGoBy Z.2.1 D cy fa ha kr rk lr tx da sr a F Q T O E X Td Od Ed Xd L K N S H p1 r2 h5) rfl qX11_218 mvX11_canGoBy 0 11 F_c0 rfl rfl rfl rfl rfl (Nat.le_of_ble_eq_true rfl) ⟨Nat.le_of_ble_eq_true rfl, Nat.le_of_ble_eq_true rfl, Nat.le_refl 0, Nat.le_refl 0⟩ ?_
  refine k_if_ne C 3 rfl 10 (by decide) (fun hc => ?_) (fun hc => ?_)
  · replace hf := if_f hf hc
    refine k_aload_0 C 6 rfl 0 rfl ?_
    refine kg11_5 C 7 rfl qX11_37 0 FH_c0 FH_f0_5 ?_
    refine k_aload_0 C 8 rfl 0 rfl ?_
    refine kg11_1 C 9 rfl qX11_19 0 FH_c0 FH_f0_1 ?_
    refine kg10_1 C 10 rfl qX11_109 47 FH_c47 FH_f47_1 ?_
    obtain ⟨H_21, Om_21, h5, hf⟩ := ob2_some hf
    refine k_re (w2 := (wHK cy ha za (fun i => a (13 + i)) rf j H Om O) ++ (List.filterMap (fun i => (wFH cy fa ha kr rk lr tx da sr a za rf j F Q T O E X Td Od Ed Xd L K N S H Om)[i]?) [0, 1, 3, 4, 5, 6, 7, 8, 9, 10, 11, 12, 13, 14, 15, 16, 17, 18, 19, 20, 21, 22, 23, 24, 25, 26, 27, 28, 29, 30, 31, 32, 33, 34, 35, 36, 37, 38, 39, 40, 41, 42, 43, 44, 45, 46, 47, 48, 49, 50, 51, 52, 53, 54, 55, 56, 57, 58, 59, 66, 67, 68, 69])) [2, 70, 71, 72, 73, 74, 75, 76, 60, 61, 62, 63, 64, 65, 0, 1, 3, 4, 5, 6, 7, 8, 9, 10, 11, 12, 13, 14, 15, 16, 17, 18, 19, 20, 21, 22, 23, 24, 25, 26, 27, 28, 29, 30, 31, 32, 33, 34, 35, 36, 37, 38, 39, 40, 41, 42, 43, 44, 45, 46, 47, 48, 49, 50, 51, 52, 53, 54, 55, 56, 57, 58, 59, 66, 67, 68, 69] (by decide) rfl rfl ?_
    refine k_callV (X := []) (Y := (List.filterMap (fun i => (wFH cy fa ha kr rk lr tx da sr a za rf j F Q T O E X Td Od Ed Xd L K N S H Om)[i]?) [0, 1, 3, 4, 5, 6, 7, 8, 9, 10, 11, 12, 13, 14, 15, 16, 17, 18, 19, 20, 21, 22, 23, 24, 25, 26, 27, 28, 29, 30, 31, 32, 33, 34, 35, 36, 37, 38, 39, 40, 41, 42, 43, 44, 45, 46, 47, 48, 49, 50, 51, 52, 53, 54, 55, 56, 57, 58, 59, 66, 67, 68, 69])) (w2 := (wHK cy ha za (fun i => a (13 + i)) rf j H_21 Om_21 O) ++ (List.filterMap (fun i => (wFH cy fa ha kr rk lr tx da sr a za rf j F Q T O E X Td Od Ed Xd L K N S H Om)[i]?) [0, 1, 3, 4, 5, 6, 7, 8, 9, 10, 11, 12, 13, 14, 15, 16, 17, 18, 19, 20, 21, 22, 23, 24, 25, 26, 27, 28, 29, 30, 31, 32, 33, 34, 35, 36, 37, 38, 39, 40, 41, 42, 43, 44, 45, 46, 47, 48, 49, 50, 51, 52, 53, 54, 55, 56, 57, 58, 59, 66, 67, 68, 69])) C 11 (c_X0_keep Z.2.1 D cy ha za (fun i => a (13 + i)) rf j hsel H Om O H_21 Om_21 h5) rfl qX11_205 mvX0_keep 0 0 HK_c0 rfl rfl rfl rfl rfl (Nat.le_of_ble_eq_true rfl) ⟨Nat.le_of_ble_eq_true rfl, Nat.le_of_ble_eq_true rfl, Nat.le_refl 0, Nat.le_refl 0⟩ ?_
    refine k_re (w2 := (wFH cy fa ha kr rk lr tx da sr a za rf j F Q T O E X Td Od Ed Xd L K N S H_21 Om_21)) [14, 15, 0, 16, 17, 18, 19, 20, 21, 22, 23, 24, 25, 26, 27, 28, 29, 30, 31, 32, 33, 34, 35, 36, 37, 38, 39, 40, 41, 42, 43, 44, 45, 46, 47, 48, 49, 50, 51, 52, 53, 54, 55, 56, 57, 58, 59, 60, 61, 62, 63, 64, 65, 66, 67, 68, 69, 70, 71, 72, 8, 9, 10, 11, 12, 13, 73, 74, 75, 76, 1, 2, 3, 4, 5, 6, 7] (by decide) rfl rfl ?_
    refine k_aload_0 C 12 rfl 0 rfl ?_
    refine kg11_1 C 13 rfl qX11_19 0 FH_c0 FH_f0_1 ?_
    refine k_iload_1 C 14 rfl 1 rfl ?_
    obtain ⟨O_29, h5, hf⟩ := ob1_some hf
    refine k_callV (X := (wFH cy fa ha kr rk lr tx da sr a za rf j F Q T O E X Td Od Ed Xd L K N S H_21 Om_21).take 47) (Y := (wFH cy fa ha kr rk lr tx da sr a za rf j F Q T O E X Td Od Ed Xd L K N S H_21 Om_21).drop 70) (w2 := (wFH cy fa ha kr rk lr tx da sr a za rf j F Q T O_29 E X Td Od Ed Xd L K N S H_21 Om_21)) C 15 (c_X10_goBy Z.2.1 D cy a T O E X p1 O_29 h5) rfl qX11_221 mvX10_goBy 0 10 W_c0 rfl rfl rfl rfl rfl (Nat.le_of_ble_eq_true rfl) ⟨Nat.le_of_ble_eq_true rfl, Nat.le_of_ble_eq_true rfl, Nat.le_refl 0, Nat.le_refl 0⟩ ?_
    refine k_aload_0 C 16 rfl 0 rfl ?_
    refine kg11_1 C 17 rfl qX11_19 0 FH_c0 FH_f0_1 ?_
    refine kg10_1 C 18 rfl qX11_109 47 FH_c47 FH_f47_1 ?_
    refine kg2_0 C 19 rfl qX11_224 60 FH_c60 FH_f60_0 ?_
    exact k_iret (wf := (fun u => (wFH cy fa ha kr rk lr tx da sr a za rf j F Q T u.1 E X Td Od Ed Xd L K N S u.2.1 u.2.2))) hR 20 rfl hf
  · replace hf := if_t hf hc
    refine k_iconst C 4 rfl ci_m1 ?_
    exact k_iret (wf := (fun u => (wFH cy fa ha kr rk lr tx da sr a za rf j F Q T u.1 E X Td Od Ed Xd L K N S u.2.1 u.2.2))) hR 5 rfl hf
set_option maxHeartbeats 1000000 in
set_option maxRecDepth 20000 in
theorem c_X11_shut (l : Launch) (D : va_G) (cy : Nat → ClassId) (fa : Nat → Nat) (ha : Nat → Nat) (kr : Nat → Nat) (rk : Nat → Nat) (lr : Nat → Nat) (tx : Nat → Nat) (da : Nat → Nat) (sr : Nat → Nat) (a : Nat → Nat) (za : Nat → Nat) (rf : Nat → Option Nat) (j : Nat) (hsel : rf j = some (za 0)) (F : Sg) (Q : Sg) (T : Sg) (O : Sg) (E : Sg) (X : Sg) (Td : Sg) (Od : Sg) (Ed : Sg) (Xd : Sg) (L : Sg) (K : Sg) (N : Sg) (S : Sg) (H : Sg) (Om : Sg) (p1 : Int32) (p2 : Bool) (r : Bool) (O1 : Sg) (H1 : Sg) (Om1 : Sg) (hf : f_X11_shut j T O H Om p1 p2 = some (r, O1, H1, Om1)) : Ct l D cy yX11_shut cX11_shut 3 (some .boolean) 3 242 0 0 [.ref (fa 0), .int p1, .int (bI p2)] (wFH cy fa ha kr rk lr tx da sr a za rf j F Q T O E X Td Od Ed Xd L K N S H Om) (some (.int (bI r))) (wFH cy fa ha kr rk lr tx da sr a za rf j F Q T O1 E X Td Od Ed Xd L K N S H1 Om1) := by
  refine Ct_z tX11_shut hX11_shut (by decide) (Nat.le_of_ble_eq_true rfl) ?_
  intro Z hZ C hR
  subst hZ
  replace C : Cx Z D cy RX11 tX11_shut 3 3 242 0 0 := C
  show Wk Z D 3 0 0 (wFH cy fa ha kr rk lr tx da sr a za rf j F Q T O E X Td Od Ed Xd L K N S H Om) 0 [(0, .ref (fa 0)), (1, .int p1), (2, .int (bI p2))] []
  unfold f_X11_shut at hf
  have hb23 : ∀ (O : Sg) (H : Sg) (Om : Sg), f_X11_shut_b23 j T p1 p2 O H Om = some (r, O1, H1, Om1) → Wk Z D 3 0 0 (wFH cy fa ha kr rk lr tx da sr a za rf j F Q T O E X Td Od Ed Xd L K N S H Om) 23 [] [] := by
    intro O H Om hf
    unfold f_X11_shut_b23 at hf
    refine k_iconst C 11 rfl ci_0 ?_
    exact k_zret (wf := (fun u => (wFH cy fa ha kr rk lr tx da sr a za rf j F Q T u.1 E X Td Od Ed Xd L K N S u.2.1 u.2.2))) hR 12 rfl hf
  refine k_aload_0 C 0 rfl 0 rfl ?_
  refine kg11_1 C 1 rfl qX11_19 0 FH_c0 FH_f0_1 ?_
  refine k_iload_1 C 2 rfl 1 rfl ?_
  obtain ⟨r5, h5, hf⟩ := ob1_some hf
  refine k_callV (X := (wFH cy fa ha kr rk lr tx da sr a za rf j F Q T O E X Td Od Ed Xd L K N S H Om).take 47) (Y := (wFH cy fa ha kr rk lr tx da sr a za rf j F Q T O E X Td Od Ed Xd L K N S H Om).drop 70) (w2 := (wFH cy fa ha kr rk lr tx da sr a za rf j F Q T O E X Td Od Ed Xd L K N S H Om)) C 3 (c_X10_hasWay Z.2.1 D cy a T O E X p1 r5 h5) rfl qX11_150 mvX10_hasWay 0 10 W_c0 rfl rfl rfl rfl rfl (Nat.le_of_ble_eq_true rfl) ⟨Nat.le_of_ble_eq_true rfl, Nat.le_of_ble_eq_true rfl, Nat.le_refl 0, Nat.le_refl 0⟩ ?_
  refine k_if_eq C 4 rfl 23 (by decide) (fun hc => ?_) (fun hc => ?_)
  · replace hf := if_t hf hc
    exact k_sub [] rfl (hb23 O H Om hf)
  · replace hf := if_f hf hc
    refine k_aload_0 C 5 rfl 0 rfl ?_
    refine kg11_1 C 6 rfl qX11_19 0 FH_c0 FH_f0_1 ?_
    refine k_iload_1 C 7 rfl 1 rfl ?_
    obtain ⟨r16, h5, hf⟩ := ob1_some hf
    refine k_callV (X := (wFH cy fa ha kr rk lr tx da sr a za rf j F Q T O E X Td Od Ed Xd L K N S H Om).take 47) (Y := (wFH cy fa ha kr rk lr tx da sr a za rf j F Q T O E X Td Od Ed Xd L K N S H Om).drop 70) (w2 := (wFH cy fa ha kr rk lr tx da sr a za rf j F Q T O E X Td Od Ed Xd L K N S H Om)) C 8 (c_X10_isShut Z.2.1 D cy a T O E X p1 r16 h5) rfl qX11_153 mvX10_isShut 0 10 W_c0 rfl rfl rfl rfl rfl (Nat.le_of_ble_eq_true rfl) ⟨Nat.le_of_ble_eq_true rfl, Nat.le_of_ble_eq_true rfl, Nat.le_refl 0, Nat.le_refl 0⟩ ?_
    refine k_iload_2 C 9 rfl 2 rfl ?_
    refine k_icmp_ne C 10 rfl 25 (by decide) (fun hc => ?_) (fun hc => ?_)
    · replace hf := if_f hf hc
      refine k_aload_0 C 13 rfl 0 rfl ?_
      refine kg11_5 C 14 rfl qX11_37 0 FH_c0 FH_f0_5 ?_
      refine k_aload_0 C 15 rfl 0 rfl ?_
      refine kg11_1 C 16 rfl qX11_19 0 FH_c0 FH_f0_1 ?_
      refine kg10_1 C 17 rfl qX11_109 47 FH_c47 FH_f47_1 ?_
      obtain ⟨H_36, Om_36, h5, hf⟩ := ob2_some hf
      refine k_re (w2 := (wHK cy ha za (fun i => a (13 + i)) rf j H Om O) ++ (List.filterMap (fun i => (wFH cy fa ha kr rk lr tx da sr a za rf j F Q T O E X Td Od Ed Xd L K N S H Om)[i]?) [0, 1, 3, 4, 5, 6, 7, 8, 9, 10, 11, 12, 13, 14, 15, 16, 17, 18, 19, 20, 21, 22, 23, 24, 25, 26, 27, 28, 29, 30, 31, 32, 33, 34, 35, 36, 37, 38, 39, 40, 41, 42, 43, 44, 45, 46, 47, 48, 49, 50, 51, 52, 53, 54, 55, 56, 57, 58, 59, 66, 67, 68, 69])) [2, 70, 71, 72, 73, 74, 75, 76, 60, 61, 62, 63, 64, 65, 0, 1, 3, 4, 5, 6, 7, 8, 9, 10, 11, 12, 13, 14, 15, 16, 17, 18, 19, 20, 21, 22, 23, 24, 25, 26, 27, 28, 29, 30, 31, 32, 33, 34, 35, 36, 37, 38, 39, 40, 41, 42, 43, 44, 45, 46, 47, 48, 49, 50, 51, 52, 53, 54, 55, 56, 57, 58, 59, 66, 67, 68, 69] (by decide) rfl rfl ?_
      refine k_callV (X := []) (Y := (List.filterMap (fun i => (wFH cy fa ha kr rk lr tx da sr a za rf j F Q T O E X Td Od Ed Xd L K N S H Om)[i]?) [0, 1, 3, 4, 5, 6, 7, 8, 9, 10, 11, 12, 13, 14, 15, 16, 17, 18, 19, 20, 21, 22, 23, 24, 25, 26, 27, 28, 29, 30, 31, 32, 33, 34, 35, 36, 37, 38, 39, 40, 41, 42, 43, 44, 45, 46, 47, 48, 49, 50, 51, 52, 53, 54, 55, 56, 57, 58, 59, 66, 67, 68, 69])) (w2 := (wHK cy ha za (fun i => a (13 + i)) rf j H_36 Om_36 O) ++ (List.filterMap (fun i => (wFH cy fa ha kr rk lr tx da sr a za rf j F Q T O E X Td Od Ed Xd L K N S H Om)[i]?) [0, 1, 3, 4, 5, 6, 7, 8, 9, 10, 11, 12, 13, 14, 15, 16, 17, 18, 19, 20, 21, 22, 23, 24, 25, 26, 27, 28, 29, 30, 31, 32, 33, 34, 35, 36, 37, 38, 39, 40, 41, 42, 43, 44, 45, 46, 47, 48, 49, 50, 51, 52, 53, 54, 55, 56, 57, 58, 59, 66, 67, 68, 69])) C 18 (c_X0_keep Z.2.1 D cy ha za (fun i => a (13 + i)) rf j hsel H Om O H_36 Om_36 h5) rfl qX11_205 mvX0_keep 0 0 HK_c0 rfl rfl rfl rfl rfl (Nat.le_of_ble_eq_true rfl) ⟨Nat.le_of_ble_eq_true rfl, Nat.le_of_ble_eq_true rfl, Nat.le_refl 0, Nat.le_refl 0⟩ ?_
      refine k_re (w2 := (wFH cy fa ha kr rk lr tx da sr a za rf j F Q T O E X Td Od Ed Xd L K N S H_36 Om_36)) [14, 15, 0, 16, 17, 18, 19, 20, 21, 22, 23, 24, 25, 26, 27, 28, 29, 30, 31, 32, 33, 34, 35, 36, 37, 38, 39, 40, 41, 42, 43, 44, 45, 46, 47, 48, 49, 50, 51, 52, 53, 54, 55, 56, 57, 58, 59, 60, 61, 62, 63, 64, 65, 66, 67, 68, 69, 70, 71, 72, 8, 9, 10, 11, 12, 13, 73, 74, 75, 76, 1, 2, 3, 4, 5, 6, 7] (by decide) rfl rfl ?_
      refine k_aload_0 C 19 rfl 0 rfl ?_
      refine kg11_1 C 20 rfl qX11_19 0 FH_c0 FH_f0_1 ?_
      refine kg10_1 C 21 rfl qX11_109 47 FH_c47 FH_f47_1 ?_
      refine k_dup C 22 rfl rfl ?_
      refine kg2_1 C 23 rfl qX11_227 60 FH_c60 FH_f60_1 ?_
      refine k_iconst C 24 rfl ci_1 ?_
      refine k_iload_1 C 25 rfl 1 rfl ?_
      refine k_ishl C 26 rfl ?_
      refine k_ixor C 27 rfl ?_
      obtain ⟨O_54, hM, hf⟩ := bnd_some hf
      refine kp2_1 (w2 := (wFH cy fa ha kr rk lr tx da sr a za rf j F Q T O_54 E X Td Od Ed Xd L K N S H_36 Om_36)) C 28 rfl qX11_227 60 FH_c60 (v := ((O.1 1) ^^^ ((1 : Int32) <<< (p1 &&& 31)))) FH_n60 (FH_p60_1.trans (congrArg (fun z => (wFH cy fa ha kr rk lr tx da sr a za rf j F Q T z E X Td Od Ed Xd L K N S H_36 Om_36)) hM)) ?_
      refine k_iconst C 29 rfl ci_1 ?_
      exact k_zret (wf := (fun u => (wFH cy fa ha kr rk lr tx da sr a za rf j F Q T u.1 E X Td Od Ed Xd L K N S u.2.1 u.2.2))) hR 30 rfl hf
    · replace hf := if_t hf hc
      exact k_sub [] rfl (hb23 O H Om hf)
set_option maxHeartbeats 1000000 in
set_option maxRecDepth 20000 in
theorem c_X11_undo (l : Launch) (D : va_G) (cy : Nat → ClassId) (fa : Nat → Nat) (ha : Nat → Nat) (kr : Nat → Nat) (rk : Nat → Nat) (lr : Nat → Nat) (tx : Nat → Nat) (da : Nat → Nat) (sr : Nat → Nat) (a : Nat → Nat) (za : Nat → Nat) (rf : Nat → Option Nat) (j : Nat) (hsel : rf j = some (za 0)) (F : Sg) (Q : Sg) (T : Sg) (O : Sg) (E : Sg) (X : Sg) (Td : Sg) (Od : Sg) (Ed : Sg) (Xd : Sg) (L : Sg) (K : Sg) (N : Sg) (S : Sg) (H : Sg) (Om : Sg) (r : Int32) (O1 : Sg) (H1 : Sg) (hf : f_X11_undo j O H Om = some (r, O1, H1)) : Ct l D cy yX11_undo cX11_undo 1 (some .int) 3 242 0 0 [.ref (fa 0)] (wFH cy fa ha kr rk lr tx da sr a za rf j F Q T O E X Td Od Ed Xd L K N S H Om) (some (.int r)) (wFH cy fa ha kr rk lr tx da sr a za rf j F Q T O1 E X Td Od Ed Xd L K N S H1 Om) := by
  refine Ct_i tX11_undo hX11_undo (by decide) (Nat.le_of_ble_eq_true rfl) ?_
  intro Z hZ C hR
  subst hZ
  replace C : Cx Z D cy RX11 tX11_undo 1 3 242 0 0 := C
  show Wk Z D 1 0 0 (wFH cy fa ha kr rk lr tx da sr a za rf j F Q T O E X Td Od Ed Xd L K N S H Om) 0 [(0, .ref (fa 0))] []
  unfold f_X11_undo at hf
  refine k_aload_0 C 0 rfl 0 rfl ?_
  refine kg11_5 C 1 rfl qX11_37 0 FH_c0 FH_f0_5 ?_
  refine kg0_2 C 2 rfl qX11_127 2 FH_c2 FH_f2_2 ?_
  refine k_if_gt C 3 rfl 12 (by decide) (fun hc => ?_) (fun hc => ?_)
  · replace hf := if_t hf hc
    refine k_aload_0 C 6 rfl 0 rfl ?_
    refine kg11_5 C 7 rfl qX11_37 0 FH_c0 FH_f0_5 ?_
    refine k_aload_0 C 8 rfl 0 rfl ?_
    refine kg11_1 C 9 rfl qX11_19 0 FH_c0 FH_f0_1 ?_
    refine kg10_1 C 10 rfl qX11_109 47 FH_c47 FH_f47_1 ?_
    obtain ⟨H_23, O_23, h5, hf⟩ := ob2_some hf
    refine k_re (w2 := (wHK cy ha za (fun i => a (13 + i)) rf j H Om O) ++ (List.filterMap (fun i => (wFH cy fa ha kr rk lr tx da sr a za rf j F Q T O E X Td Od Ed Xd L K N S H Om)[i]?) [0, 1, 3, 4, 5, 6, 7, 8, 9, 10, 11, 12, 13, 14, 15, 16, 17, 18, 19, 20, 21, 22, 23, 24, 25, 26, 27, 28, 29, 30, 31, 32, 33, 34, 35, 36, 37, 38, 39, 40, 41, 42, 43, 44, 45, 46, 47, 48, 49, 50, 51, 52, 53, 54, 55, 56, 57, 58, 59, 66, 67, 68, 69])) [2, 70, 71, 72, 73, 74, 75, 76, 60, 61, 62, 63, 64, 65, 0, 1, 3, 4, 5, 6, 7, 8, 9, 10, 11, 12, 13, 14, 15, 16, 17, 18, 19, 20, 21, 22, 23, 24, 25, 26, 27, 28, 29, 30, 31, 32, 33, 34, 35, 36, 37, 38, 39, 40, 41, 42, 43, 44, 45, 46, 47, 48, 49, 50, 51, 52, 53, 54, 55, 56, 57, 58, 59, 66, 67, 68, 69] (by decide) rfl rfl ?_
    refine k_callV (X := []) (Y := (List.filterMap (fun i => (wFH cy fa ha kr rk lr tx da sr a za rf j F Q T O E X Td Od Ed Xd L K N S H Om)[i]?) [0, 1, 3, 4, 5, 6, 7, 8, 9, 10, 11, 12, 13, 14, 15, 16, 17, 18, 19, 20, 21, 22, 23, 24, 25, 26, 27, 28, 29, 30, 31, 32, 33, 34, 35, 36, 37, 38, 39, 40, 41, 42, 43, 44, 45, 46, 47, 48, 49, 50, 51, 52, 53, 54, 55, 56, 57, 58, 59, 66, 67, 68, 69])) (w2 := (wHK cy ha za (fun i => a (13 + i)) rf j H_23 Om O_23) ++ (List.filterMap (fun i => (wFH cy fa ha kr rk lr tx da sr a za rf j F Q T O E X Td Od Ed Xd L K N S H Om)[i]?) [0, 1, 3, 4, 5, 6, 7, 8, 9, 10, 11, 12, 13, 14, 15, 16, 17, 18, 19, 20, 21, 22, 23, 24, 25, 26, 27, 28, 29, 30, 31, 32, 33, 34, 35, 36, 37, 38, 39, 40, 41, 42, 43, 44, 45, 46, 47, 48, 49, 50, 51, 52, 53, 54, 55, 56, 57, 58, 59, 66, 67, 68, 69])) C 11 (c_X0_restore Z.2.1 D cy ha za (fun i => a (13 + i)) rf j hsel H Om O H_23 O_23 h5) rfl qX11_230 mvX0_restore 0 0 HK_c0 rfl rfl rfl rfl rfl (Nat.le_of_ble_eq_true rfl) ⟨Nat.le_of_ble_eq_true rfl, Nat.le_of_ble_eq_true rfl, Nat.le_refl 0, Nat.le_refl 0⟩ ?_
    refine k_re (w2 := (wFH cy fa ha kr rk lr tx da sr a za rf j F Q T O_23 E X Td Od Ed Xd L K N S H_23 Om)) [14, 15, 0, 16, 17, 18, 19, 20, 21, 22, 23, 24, 25, 26, 27, 28, 29, 30, 31, 32, 33, 34, 35, 36, 37, 38, 39, 40, 41, 42, 43, 44, 45, 46, 47, 48, 49, 50, 51, 52, 53, 54, 55, 56, 57, 58, 59, 60, 61, 62, 63, 64, 65, 66, 67, 68, 69, 70, 71, 72, 8, 9, 10, 11, 12, 13, 73, 74, 75, 76, 1, 2, 3, 4, 5, 6, 7] (by decide) rfl rfl ?_
    refine k_aload_0 C 12 rfl 0 rfl ?_
    refine kg11_5 C 13 rfl qX11_37 0 FH_c0 FH_f0_5 ?_
    refine kg0_2 C 14 rfl qX11_127 2 FH_c2 FH_f2_2 ?_
    exact k_iret (wf := (fun u => (wFH cy fa ha kr rk lr tx da sr a za rf j F Q T u.1 E X Td Od Ed Xd L K N S u.2 Om))) hR 15 rfl hf
  · replace hf := if_f hf hc
    refine k_iconst C 4 rfl ci_m1 ?_
    exact k_iret (wf := (fun u => (wFH cy fa ha kr rk lr tx da sr a za rf j F Q T u.1 E X Td Od Ed Xd L K N S u.2 Om))) hR 5 rfl hf
set_option maxHeartbeats 1000000 in
set_option maxRecDepth 20000 in
theorem c_X11_holds (l : Launch) (D : va_G) (cy : Nat → ClassId) (fa : Nat → Nat) (ha : Nat → Nat) (kr : Nat → Nat) (rk : Nat → Nat) (lr : Nat → Nat) (tx : Nat → Nat) (da : Nat → Nat) (sr : Nat → Nat) (a : Nat → Nat) (ua : Nat → Nat) (n0 : Nat) (n1 : Nat) (n2 : Nat) (n3 : Nat) (F : Sg) (Q : Sg) (T : Sg) (O : Sg) (E : Sg) (X : Sg) (Td : Sg) (Od : Sg) (Ed : Sg) (Xd : Sg) (L : Sg) (K : Sg) (N : Sg) (S : Sg) (H : Sg) (U : Sg) (p2 : Int32) (p3 : Int32) (r : Bool) (N1 : Sg) (hf : f_X11_holds n0 n1 n2 n3 T O N U p2 p3 = some (r, N1)) : Ct l D cy yX11_holds cX11_holds 6 (some .boolean) 4 279 0 0 [.ref (fa 0), .ref (ua 0), .int p2, .int p3] (wFT cy fa ha kr rk lr tx da sr a ua n0 n1 n2 n3 F Q T O E X Td Od Ed Xd L K N S H U) (some (.int (bI r))) (wFT cy fa ha kr rk lr tx da sr a ua n0 n1 n2 n3 F Q T O E X Td Od Ed Xd L K N1 S H U) := by
  refine Ct_z tX11_holds hX11_holds (by decide) (Nat.le_of_ble_eq_true rfl) ?_
  intro Z hZ C hR
  subst hZ
  replace C : Cx Z D cy RX11 tX11_holds 6 4 279 0 0 := C
  show Wk Z D 6 0 0 (wFT cy fa ha kr rk lr tx da sr a ua n0 n1 n2 n3 F Q T O E X Td Od Ed Xd L K N S H U) 0 [(0, .ref (fa 0)), (1, .ref (ua 0)), (2, .int p2), (3, .int p3)] []
  unfold f_X11_holds at hf
  have hb44 : ∀ (N : Sg), f_X11_holds_b44 n0 n1 n2 n3 T O U p2 p3 N = some (r, N1) → Wk Z D 6 0 0 (wFT cy fa ha kr rk lr tx da sr a ua n0 n1 n2 n3 F Q T O E X Td Od Ed Xd L K N S H U) 44 [] [] := by
    intro N hf
    unfold f_X11_holds_b44 at hf
    refine k_iconst C 24 rfl ci_1 ?_
    refine k_goto C 25 rfl 49 (by decide) ?_
    exact k_zret (wf := (fun u => (wFT cy fa ha kr rk lr tx da sr a ua n0 n1 n2 n3 F Q T O E X Td Od Ed Xd L K u S H U))) hR 27 rfl hf
  refine k_aload_1 C 0 rfl 1 rfl ?_
  refine kg4_2 C 1 rfl qX11_343 70 FT_c70 FT_f70_2 ?_
  refine k_iload_2 C 2 rfl 2 rfl ?_
  obtain ⟨i5, hi, hin, hf⟩ := ixd_some hf
  refine k_iald C 3 rfl 73 FT_c73 hin hi ?_
  obtain ⟨x4_6, hx, hf⟩ := bnd_some hf
  refine k_topi hx ?_
  refine k_istore C 4 rfl (by decide) rfl ?_
  refine k_sub (lv2 := [(0, .ref (fa 0)), (1, .ref (ua 0)), (2, .int p2), (3, .int p3), (4, .int x4_6)]) [1, 2, 3, 4, 0] rfl ?_
  refine k_aload_1 C 5 rfl 1 rfl ?_
  refine kg4_3 C 6 rfl qX11_346 70 FT_c70 FT_f70_3 ?_
  refine k_iload_2 C 7 rfl 2 rfl ?_
  obtain ⟨i13, hi, hin, hf⟩ := ixd_some hf
  refine k_iald C 8 rfl 74 FT_c74 hin hi ?_
  obtain ⟨x5_14, hx, hf⟩ := bnd_some hf
  refine k_topi hx ?_
  refine k_istore C 9 rfl (by decide) rfl ?_
  refine k_sub (lv2 := [(0, .ref (fa 0)), (1, .ref (ua 0)), (2, .int p2), (3, .int p3), (4, .int x4_6), (5, .int x5_14)]) [1, 2, 3, 4, 5, 0] rfl ?_
  refine k_iload C 10 rfl 4 rfl ?_
  refine k_iload C 11 rfl 5 rfl ?_
  refine k_icmp_ge C 12 rfl 44 (by decide) (fun hc => ?_) (fun hc => ?_)
  · replace hf := if_t hf hc
    exact k_sub [] rfl (hb44 N hf)
  · replace hf := if_f hf hc
    refine k_aload_0 C 13 rfl 0 rfl ?_
    refine kg11_10 C 14 rfl qX11_74 0 FT_c0 FT_f0_10 ?_
    refine k_aload_1 C 15 rfl 1 rfl ?_
    refine kg4_0 C 16 rfl qX11_349 70 FT_c70 FT_f70_0 ?_
    refine k_iload C 17 rfl 4 rfl ?_
    refine k_iload C 18 rfl 5 rfl ?_
    refine k_iload_3 C 19 rfl 3 rfl ?_
    obtain ⟨r36, N_36, h5, hf⟩ := ob2_some hf
    refine k_re (w2 := (wN cy rk (fun i => ua (1 + i)) a n0 N U T O E X) ++ (List.filterMap (fun i => (wFT cy fa ha kr rk lr tx da sr a ua n0 n1 n2 n3 F Q T O E X Td Od Ed Xd L K N S H U)[i]?) [0, 1, 2, 3, 4, 5, 6, 7, 10, 11, 12, 13, 14, 15, 16, 17, 18, 19, 20, 21, 22, 23, 24, 25, 26, 27, 28, 29, 30, 31, 32, 33, 34, 35, 36, 37, 38, 39, 40, 41, 42, 43, 44, 45, 46, 70, 72, 73, 74])) [8, 9, 71, 47, 48, 49, 50, 51, 52, 53, 54, 55, 56, 57, 58, 59, 60, 61, 62, 63, 64, 65, 66, 67, 68, 69, 0, 1, 2, 3, 4, 5, 6, 7, 10, 11, 12, 13, 14, 15, 16, 17, 18, 19, 20, 21, 22, 23, 24, 25, 26, 27, 28, 29, 30, 31, 32, 33, 34, 35, 36, 37, 38, 39, 40, 41, 42, 43, 44, 45, 46, 70, 72, 73, 74] (by decide) rfl rfl ?_
    refine k_callV (X := []) (Y := (List.filterMap (fun i => (wFT cy fa ha kr rk lr tx da sr a ua n0 n1 n2 n3 F Q T O E X Td Od Ed Xd L K N S H U)[i]?) [0, 1, 2, 3, 4, 5, 6, 7, 10, 11, 12, 13, 14, 15, 16, 17, 18, 19, 20, 21, 22, 23, 24, 25, 26, 27, 28, 29, 30, 31, 32, 33, 34, 35, 36, 37, 38, 39, 40, 41, 42, 43, 44, 45, 46, 70, 72, 73, 74])) (w2 := (wN cy rk (fun i => ua (1 + i)) a n0 N_36 U T O E X) ++ (List.filterMap (fun i => (wFT cy fa ha kr rk lr tx da sr a ua n0 n1 n2 n3 F Q T O E X Td Od Ed Xd L K N S H U)[i]?) [0, 1, 2, 3, 4, 5, 6, 7, 10, 11, 12, 13, 14, 15, 16, 17, 18, 19, 20, 21, 22, 23, 24, 25, 26, 27, 28, 29, 30, 31, 32, 33, 34, 35, 36, 37, 38, 39, 40, 41, 42, 43, 44, 45, 46, 70, 72, 73, 74])) C 20 (c_X3_reckon Z.2.1 D cy rk (fun i => ua (1 + i)) a n0 N U T O E X x4_6 x5_14 p3 r36 N_36 h5) rfl qX11_352 mvX3_reckon 0 3 N_c0 rfl rfl rfl rfl rfl (Nat.le_of_ble_eq_true rfl) ⟨Nat.le_of_ble_eq_true rfl, Nat.le_of_ble_eq_true rfl, Nat.le_refl 0, Nat.le_refl 0⟩ ?_
    refine k_re (w2 := (wFT cy fa ha kr rk lr tx da sr a ua n0 n1 n2 n3 F Q T O E X Td Od Ed Xd L K N_36 S H U)) [26, 27, 28, 29, 30, 31, 32, 33, 0, 1, 34, 35, 36, 37, 38, 39, 40, 41, 42, 43, 44, 45, 46, 47, 48, 49, 50, 51, 52, 53, 54, 55, 56, 57, 58, 59, 60, 61, 62, 63, 64, 65, 66, 67, 68, 69, 70, 3, 4, 5, 6, 7, 8, 9, 10, 11, 12, 13, 14, 15, 16, 17, 18, 19, 20, 21, 22, 23, 24, 25, 71, 2, 72, 73, 74] (by decide) rfl rfl ?_
    refine k_lconst0 C 21 rfl ?_
    refine k_lcmp C 22 rfl ?_
    refine k_if_eq C 23 rfl 48 (by decide) (fun hc => ?_) (fun hc => ?_)
    · replace hf := if_t hf hc
      refine k_iconst C 26 rfl ci_0 ?_
      exact k_zret (wf := (fun u => (wFT cy fa ha kr rk lr tx da sr a ua n0 n1 n2 n3 F Q T O E X Td Od Ed Xd L K u S H U))) hR 27 rfl hf
    · replace hf := if_f hf hc
      exact k_sub [] rfl (hb44 N_36 hf)
