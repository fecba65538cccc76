def tX11_rule : List (Nat × Instr × Nat) := [(0, .aload_n 0, 1), (1, .getfield 47, 3), (4, .bipush 6, 2), (6, .if_icmp .lt 5, 3), (9, .iconst (-1), 1), (10, .ireturn, 1), (11, .aload_n 0, 1), (12, .getfield 65, 3), (15, .invokevirtual 131, 3), (18, .istore_n 1, 1), (19, .aload_n 0, 1), (20, .getfield 12, 3), (23, .iconst 0, 1), (24, .putfield 85, 3), (27, .iload_n 1, 1), (28, .ifCond .ne 14, 3), (31, .bipush (-2), 2), (33, .aload_n 0, 1), (34, .getfield 12, 3), (37, .getfield 96, 3), (40, .isub, 1), (41, .ireturn, 1), (42, .aload_n 0, 1), (43, .getfield 43, 3), (46, .aload_n 0, 1), (47, .getfield 47, 3), (50, .new 41, 3), (53, .dup, 1), (54, .aload_n 0, 1), (55, .getfield 65, 3), (58, .invokespecial 132, 3), (61, .aastore, 1), (62, .aload_n 0, 1), (63, .dup, 1), (64, .getfield 47, 3), (67, .iconst 1, 1), (68, .iadd, 1), (69, .putfield 47, 3), (72, .aload_n 0, 1), (73, .getfield 47, 3), (76, .iconst 1, 1), (77, .isub, 1), (78, .ireturn, 1)]
set_option maxRecDepth 20000 in
theorem hX11_rule : ∀ q ∈ tX11_rule, decode cX11_rule q.1 = .ok (q.2.1, q.2.2) := by decide +kernel
theorem mvX11_rule : MWv yX11_rule RX11 cX11_rule 2 (some .int) 0 := ⟨(tg3 166 (by decide +kernel) (by decide +kernel)), (tg3 167 (by decide +kernel) (by decide +kernel)), (tg1 1 (by decide +kernel) (by decide +kernel)), (tg3 168 (by decide +kernel) (by decide +kernel)), rfl, by decide, by decide, by decide +kernel⟩
theorem qX11_131 : Cond.methodLink RX11 131 yX5_read ∈ TG := tg3 169 (by decide +kernel) (by decide +kernel)
theorem qX11_132 : Cond.methodLink RX11 132 yX4_init ∈ TG := tg3 225 (by decide +kernel) (by decide +kernel)
/-! rule() -/
def fC (tx kr v : Nat → Nat) (rc : Int32) : List Value := [.ref (tx 0), .ref (v 1), .ref (v 2), .ref (v 3), .ref (v 4), .ref (v 5), .ref (v 6), .int rc, .ref (v 8), .ref (kr 0), .ref (v 10), .ref (v 11)]
def wR (cy : Nat → ClassId) (x : Nat) (tx kr v : Nat → Nat) (rf : Nat → Option Nat) (rc : Int32) (K Q : Sg) : va_W := (x, .inr (11, fC tx kr v rc)) :: (v 6, .inl (cy 5, 6, .inr (.inr (.inr (.inr rf))))) :: wK cy kr tx K Q
theorem pm_r1 {β : Type} (P K Q U : List β) : ((P ++ (K ++ Q)) ++ U).Perm ((P ++ Q) ++ (U ++ K)) := by
  have h : [0, 1, 2, 3].Perm [0, 2, 3, 1] := by decide
  have h2 := List.Perm.flatMap_right (fun i => match i with | 0 => P | 1 => K | 2 => Q | _ => U) h
  simpa [List.append_assoc] using h2
theorem pm_r2 {β : Type} (P K Q U : List β) : ((P ++ Q) ++ (K ++ U)).Perm ((P ++ (K ++ Q)) ++ U) := by
  have h : [0, 2, 1, 3].Perm [0, 1, 2, 3] := by decide
  have h2 := List.Perm.flatMap_right (fun i => match i with | 0 => P | 1 => K | 2 => Q | _ => U) h
  simpa [List.append_assoc] using h2
set_option maxHeartbeats 1000000 in
theorem c_ruleA (l : Launch) (D : va_G) (cy : Nat → ClassId) (x : Nat) (tx kr v : Nat → Nat) (rf : Nat → Option Nat) (rc : Int32) (K Q : Sg) (h6 : ¬ rc < 6) : Ct l D cy yX11_rule cX11_rule 2 (some .int) 31 883 0 0 [.ref x] (wR cy x tx kr v rf rc K Q) (some (.int (-1))) (wR cy x tx kr v rf rc K Q) := by
  refine Ct_i tX11_rule hX11_rule (by decide) (Nat.le_of_ble_eq_true rfl) ?_
  intro Z hZ C hR
  subst hZ
  replace C : Cx Z D cy RX11 tX11_rule 2 31 883 0 0 := C
  show Wk Z D 2 0 0 (wR cy x tx kr v rf rc K Q) 0 [(0, .ref x)] []
  refine k_aload_0 C 0 rfl 0 rfl ?_
  refine kg11_7 C 1 rfl qX11_47 0 (a := x) (fs := fC tx kr v rc) rfl (v := .int rc) rfl ?_
  refine k_bipush C 2 rfl cb_6 ?_
  refine k_icmp_lt C 3 rfl 11 (by decide) (fun hc => absurd hc h6) (fun hc => ?_)
  refine k_iconst C 4 rfl ci_m1 ?_
  exact k_iretP hR 5 rfl rfl
set_option maxHeartbeats 1000000 in
theorem c_ruleB (l : Launch) (D : va_G) (cy : Nat → ClassId) (x : Nat) (tx kr v : Nat → Nat) (rf : Nat → Option Nat) (rc : Int32) (K Q K1 Q1 : Sg) (h6 : rc < 6) (hf : f_X5_read K Q = some (false, K1, Q1)) : Ct l D cy yX11_rule cX11_rule 2 (some .int) 31 883 0 0 [.ref x] (wR cy x tx kr v rf rc K Q) (some (.int ((-2) - (sI Q1 1 0).1 2))) (wR cy x tx kr v rf rc K1 (sI Q1 1 0)) := by
  refine Ct_i tX11_rule hX11_rule (by decide) (Nat.le_of_ble_eq_true rfl) ?_
  intro Z hZ C hR
  subst hZ
  replace C : Cx Z D cy RX11 tX11_rule 2 31 883 0 0 := C
  show Wk Z D 2 0 0 (wR cy x tx kr v rf rc K Q) 0 [(0, .ref x)] []
  refine k_aload_0 C 0 rfl 0 rfl ?_
  refine kg11_7 C 1 rfl qX11_47 0 (a := x) (fs := fC tx kr v rc) rfl (v := .int rc) rfl ?_
  refine k_bipush C 2 rfl cb_6 ?_
  refine k_icmp_lt C 3 rfl 11 (by decide) (fun hc => ?_) (fun hc => absurd h6 hc)
  refine k_aload_0 C 6 rfl 0 rfl ?_
  refine kg11_9 C 7 rfl qX11_65 0 (a := x) (fs := fC tx kr v rc) rfl (v := .ref (kr 0)) rfl ?_
  refine k_callV (X := (wR cy x tx kr v rf rc K Q).take 2) (Y := []) (w2 := wR cy x tx kr v rf rc K1 Q1) C 8 (c_X5_read Z.2.1 D cy kr tx K Q false K1 Q1 hf) rfl qX11_131 mvX5_read 0 5 K_c0 rfl rfl rfl rfl rfl (Nat.le_of_ble_eq_true rfl) ⟨Nat.le_of_ble_eq_true rfl, Nat.le_of_ble_eq_true rfl, Nat.le_refl 0, Nat.le_refl 0⟩ ?_
  refine k_istore_1 C 9 rfl (by decide) rfl ?_
  refine k_aload_0 C 10 rfl 1 rfl ?_
  refine kg11_0 C 11 rfl qX11_12 0 (a := x) (fs := fC tx kr v rc) rfl (v := .ref (tx 0)) rfl ?_
  refine k_iconst C 12 rfl ci_0 ?_
  refine kp8_1 (w2 := wR cy x tx kr v rf rc K1 (sI Q1 1 0)) C 13 rfl qX11_85 7 (a := tx 0) (fs := K_g5 kr tx K1 Q1) rfl (v := 0) rfl rfl ?_
  refine k_iload_1 C 14 rfl 0 rfl ?_
  refine k_if_ne C 15 rfl 42 (by decide) (fun hc => absurd rfl hc) (fun hc => ?_)
  refine k_bipush C 16 rfl cb_m2 ?_
  refine k_aload_0 C 17 rfl 1 rfl ?_
  refine kg11_0 C 18 rfl qX11_12 0 (a := x) (fs := fC tx kr v rc) rfl (v := .ref (tx 0)) rfl ?_
  refine kg8_2 C 19 rfl qX11_96 7 (a := tx 0) (fs := K_g5 kr tx K1 (sI Q1 1 0)) rfl (v := .int ((sI Q1 1 0).1 2)) rfl ?_
  refine k_isub C 20 rfl ?_
  exact k_iretP hR 21 rfl rfl
set_option maxHeartbeats 1000000 in
theorem g_ruleC (l : Launch) (D : va_G) (cy : Nat → ClassId) (x : Nat) (tx kr v : Nat → Nat) (rf : Nat → Option Nat) (r0 : Nat) (K Q K1 Q1 : Sg) (n m : Nat) (hn : n ≤ 400) (hm : m ≤ 12) (h1 : K1.1 1 = nI n) (h5 : K1.1 5 = nI m) (h6 : r0 < 6) (hf : f_X5_read K Q = some (true, K1, Q1)) : Cg l D cy yX11_rule cX11_rule 2 (some .int) 31 883 5 1604 [.ref x] (wR cy x tx kr v rf (nI r0) K Q) (fun _ => some (.int (nI r0))) (fun ad => wR cy x tx kr v (va_up rf r0 (some (ad 0))) (nI (r0 + 1)) K1 (sI Q1 1 0) ++ wU cy ad n m m m (ruS K1)) := by
  refine Cg_of (ins := .ireturn) tX11_rule hX11_rule (by decide) (Nat.le_of_ble_eq_true rfl) (fun ad p e R s m args below meth c H locs Qc free hx hr hlk hq hf pc ls hd => W.iret hx rfl hr hq hf hd hlk) ?_
  intro Z hZ C hE hnm hR
  subst hZ
  replace C : Cx Z D cy RX11 tX11_rule 2 31 883 5 1604 := C
  show Wk Z D 2 0 0 (wR cy x tx kr v rf (nI r0) K Q) 0 [(0, .ref x)] []
  refine k_aload_0 C 0 rfl 0 rfl ?_
  refine kg11_7 C 1 rfl qX11_47 0 (a := x) (fs := fC tx kr v (nI r0)) rfl (v := .int (nI r0)) rfl ?_
  refine k_bipush C 2 rfl cb_6 ?_
  refine k_icmp_lt C 3 rfl 11 (by decide) (fun hc => ?_) (fun hc => absurd (show nI r0 < nI 6 from nI_lt h6 (by decide)) hc)
  refine k_aload_0 C 6 rfl 0 rfl ?_
  refine kg11_9 C 7 rfl qX11_65 0 (a := x) (fs := fC tx kr v (nI r0)) rfl (v := .ref (kr 0)) rfl ?_
  refine k_callV (X := (wR cy x tx kr v rf (nI r0) K Q).take 2) (Y := []) (w2 := wR cy x tx kr v rf (nI r0) K1 Q1) C 8 (c_X5_read Z.2.1 D cy kr tx K Q true K1 Q1 hf) rfl qX11_131 mvX5_read 0 5 K_c0 rfl rfl rfl rfl rfl (Nat.le_of_ble_eq_true rfl) ⟨Nat.le_of_ble_eq_true rfl, Nat.le_of_ble_eq_true rfl, by decide, by decide⟩ ?_
  refine k_istore_1 C 9 rfl (by decide) rfl ?_
  refine k_aload_0 C 10 rfl 1 rfl ?_
  refine kg11_0 C 11 rfl qX11_12 0 (a := x) (fs := fC tx kr v (nI r0)) rfl (v := .ref (tx 0)) rfl ?_
  refine k_iconst C 12 rfl ci_0 ?_
  refine kp8_1 (w2 := wR cy x tx kr v rf (nI r0) K1 (sI Q1 1 0)) C 13 rfl qX11_85 7 (a := tx 0) (fs := K_g5 kr tx K1 Q1) rfl (v := 0) rfl rfl ?_
  refine k_iload_1 C 14 rfl 0 rfl ?_
  refine k_if_ne C 15 rfl 42 (by decide) (fun hc => ?_) (fun hc => absurd hc (by decide))
  refine k_aload_0 C 22 rfl 1 rfl ?_
  refine kg11_6 C 23 rfl qX11_43 0 (a := x) (fs := fC tx kr v (nI r0)) rfl (v := .ref (v 6)) rfl ?_
  refine k_aload_0 C 24 rfl 1 rfl ?_
  refine kg11_7 C 25 rfl qX11_47 0 (a := x) (fs := fC tx kr v (nI r0)) rfl (v := .int (nI r0)) rfl ?_
  refine kn4 C 26 rfl qX11_41 ⟨by decide, by decide⟩ (fun u => ?_)
  refine k_dup C 27 rfl rfl ?_
  refine k_aload_0 C 28 rfl 1 rfl ?_
  refine kg11_9 C 29 rfl qX11_65 0 (a := x) (fs := fC tx kr v (nI r0)) rfl (v := .ref (kr 0)) rfl ?_
  refine k_pm (w2 := ([(x, .inr (11, fC tx kr v (nI r0))), (v 6, .inl (cy 5, 6, .inr (.inr (.inr (.inr rf)))))] ++ wQ cy tx (sI Q1 1 0)) ++ ((u, .inr (4, [.null, .null, .null, .null])) :: wK1 cy kr tx K1)) ?_ ?_
  · have e1 : wR cy x tx kr v rf (nI r0) K1 (sI Q1 1 0) = [(x, .inr (11, fC tx kr v (nI r0))), (v 6, .inl (cy 5, 6, .inr (.inr (.inr (.inr rf)))))] ++ (wK1 cy kr tx K1 ++ wQ cy tx (sI Q1 1 0)) := rfl
    rw [e1]
    exact pm_r1 _ _ _ ([(u, .inr (4, [.null, .null, .null, .null]))] : va_W)
  refine k_callI0 (X := [(x, .inr (11, fC tx kr v (nI r0))), (v 6, .inl (cy 5, 6, .inr (.inr (.inr (.inr rf)))))] ++ wQ cy tx (sI Q1 1 0)) C hE 30 (e_X4 Z.2.1 D cy u kr tx K1 n m hn hm h1 h5) rfl qX11_132 miX4_init rfl rfl (Nat.le_of_ble_eq_true rfl) ⟨Nat.le_of_ble_eq_true rfl, Nat.le_of_ble_eq_true rfl, by decide, by decide⟩ (fun ad => ?_)
  refine k_pm (w2 := wR cy x tx kr v rf (nI r0) K1 (sI Q1 1 0) ++ wU cy (ad0 u ad) n m m m (ruS K1)) ?_ ?_
  · have e1 : wR cy x tx kr v rf (nI r0) K1 (sI Q1 1 0) = [(x, .inr (11, fC tx kr v (nI r0))), (v 6, .inl (cy 5, 6, .inr (.inr (.inr (.inr rf)))))] ++ (wK1 cy kr tx K1 ++ wQ cy tx (sI Q1 1 0)) := rfl
    rw [e1]
    exact pm_r2 _ _ _ _
  refine k_aast (w2 := wR cy x tx kr v (va_up rf r0 (some u)) (nI r0) K1 (sI Q1 1 0) ++ wU cy (ad0 u ad) n m m m (ruS K1)) C 31 rfl 1 5 12 4 (v := u) (f := rf) (r := (RX4, TX4, 4)) (vs := U_g0 (ad0 u ad) n m m m (ruS K1)) rfl rfl rfl rfl (vp_in_nI h6 (by decide)) (k := r0) (nI_clamp (by omega)) rfl ?_
  refine k_aload_0 C 32 rfl 1 rfl ?_
  refine k_dup C 33 rfl rfl ?_
  refine kg11_7 C 34 rfl qX11_47 0 (a := x) (fs := fC tx kr v (nI r0)) rfl (v := .int (nI r0)) rfl ?_
  refine k_iconst C 35 rfl ci_1 ?_
  refine k_iadd C 36 rfl ?_
  refine k_topi (nI_1 r0) ?_
  refine kp11_7 (w2 := wR cy x tx kr v (va_up rf r0 (some u)) (nI (r0 + 1)) K1 (sI Q1 1 0) ++ wU cy (ad0 u ad) n m m m (ruS K1)) C 37 rfl qX11_47 0 (a := x) (fs := fC tx kr v (nI r0)) rfl (v := nI (r0 + 1)) rfl rfl ?_
  refine k_aload_0 C 38 rfl 1 rfl ?_
  refine kg11_7 C 39 rfl qX11_47 0 (a := x) (fs := fC tx kr v (nI (r0 + 1))) rfl (v := .int (nI (r0 + 1))) rfl ?_
  refine k_iconst C 40 rfl ci_1 ?_
  refine k_isub C 41 rfl ?_
  refine k_topi (nI_pred r0) ?_
  exact hR 42 78 _ (ad0 u ad) rfl
