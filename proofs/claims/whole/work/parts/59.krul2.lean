def tJ7_copyOf_59c91 : List (Nat × Instr × Nat) := [(0, .iload_n 1, 1), (1, .aload_n 0, 1), (2, .arraylength, 1), (3, .if_icmp .ne 11, 3), (6, .aload_n 0, 1), (7, .invokevirtual 316, 3), (10, .checkcast 317, 3), (13, .areturn, 1), (14, .iload_n 1, 1), (15, .newarray .int, 2), (17, .astore_n 2, 1), (18, .aload_n 0, 1), (19, .iconst 0, 1), (20, .aload_n 2, 1), (21, .iconst 0, 1), (22, .aload_n 0, 1), (23, .arraylength, 1), (24, .iload_n 1, 1), (25, .invokestatic 304, 3), (28, .invokestatic 150, 3), (31, .aload_n 2, 1), (32, .areturn, 1)]
set_option maxRecDepth 20000 in
theorem hJ7_copyOf_59c91 : ∀ q ∈ tJ7_copyOf_59c91, decode cJ7_copyOf_59c91 q.1 = .ok (q.2.1, q.2.2) := by decide +kernel
theorem msJ7_copyOf_59c91 : MWs yJ7_copyOf_59c91 cJ7_copyOf_59c91 3 (some (.array .int)) 2 := ⟨(tg3 230 (by decide +kernel) (by decide +kernel)), (tg1 7 (by decide +kernel) (by decide +kernel)), (tg3 231 (by decide +kernel) (by decide +kernel)), by decide, by decide, by decide +kernel⟩
theorem qJ7_150 : Cond.methodLink RJ7 150 ⟨"java/lang/System", "arraycopy", "(Ljava/lang/Object;ILjava/lang/Object;II)V"⟩ ∈ TG := tg4 2 (by decide +kernel) (by decide +kernel)
theorem qJ7_304 : Cond.methodLink RJ7 304 yJ9_min_7cf53 ∈ TG := tg3 239 (by decide +kernel) (by decide +kernel)
theorem qJ7_317 : Cond.classLink RJ7 317 "[I" ∈ TG := tg3 238 (by decide +kernel) (by decide +kernel)
theorem qX4_1 : Cond.methodLink RX4 1 ⟨"java/lang/Object", "<init>", "()V"⟩ ∈ TG := tg3 228 (by decide +kernel) (by decide +kernel)
theorem qX4_7 : Cond.fieldLink RX4 7 "FrontFour$RuleReader" "code" "[I" ∈ TG := tg2 98 (by decide +kernel) (by decide +kernel)
theorem qX4_13 : Cond.fieldLink RX4 13 "FrontFour$RuleReader" "size" "I" ∈ TG := tg2 100 (by decide +kernel) (by decide +kernel)
theorem qX4_17 : Cond.methodLink RX4 17 yJ7_copyOf_59c91 ∈ TG := tg3 229 (by decide +kernel) (by decide +kernel)
theorem qX4_23 : Cond.fieldLink RX4 23 "FrontFour$Rule" "code" "[I" ∈ TG := tg4 3 (by decide +kernel) (by decide +kernel)
theorem qX4_26 : Cond.fieldLink RX4 26 "FrontFour$RuleReader" "kinds" "[I" ∈ TG := tg2 103 (by decide +kernel) (by decide +kernel)
theorem qX4_29 : Cond.fieldLink RX4 29 "FrontFour$RuleReader" "clauses" "I" ∈ TG := tg2 108 (by decide +kernel) (by decide +kernel)
theorem qX4_32 : Cond.fieldLink RX4 32 "FrontFour$Rule" "kinds" "[I" ∈ TG := tg4 5 (by decide +kernel) (by decide +kernel)
theorem qX4_33 : Cond.fieldLink RX4 33 "FrontFour$RuleReader" "sumEnds" "[I" ∈ TG := tg2 105 (by decide +kernel) (by decide +kernel)
theorem qX4_36 : Cond.fieldLink RX4 36 "FrontFour$Rule" "sumEnds" "[I" ∈ TG := tg4 7 (by decide +kernel) (by decide +kernel)
theorem qX4_37 : Cond.fieldLink RX4 37 "FrontFour$RuleReader" "testEnds" "[I" ∈ TG := tg2 107 (by decide +kernel) (by decide +kernel)
theorem clw : Cond.methodLink RJ7 316 ⟨"[I", "clone", "()Ljava/lang/Object;"⟩ ∈ TG ∧ Cond.sameMethod "[I" "java/lang/Object" "clone" "()Ljava/lang/Object;" ∈ TG ∧ Cond.native ⟨"java/lang/Object", "clone", "()Ljava/lang/Object;"⟩ ∈ TG ∧ Cond.instanceMethod ⟨"java/lang/Object", "clone", "()Ljava/lang/Object;"⟩ ∈ TG ∧ Cond.selects "[I" ⟨"[I", "clone", "()Ljava/lang/Object;"⟩ ⟨"java/lang/Object", "clone", "()Ljava/lang/Object;"⟩ ∈ TG := ⟨(tg3 232 (by decide +kernel) (by decide +kernel)), (tg3 233 (by decide +kernel) (by decide +kernel)), (tg3 234 (by decide +kernel) (by decide +kernel)), (tg3 235 (by decide +kernel) (by decide +kernel)), (tg3 236 (by decide +kernel) (by decide +kernel))⟩
theorem jmin_nI {a b : Nat} (ha : a < 2 ^ 31) (hb : b < 2 ^ 31) : jmin (nI a) (nI b) = nI (min a b) := by
  unfold jmin
  by_cases h : b < a
  · rw [if_pos ((nI_ltI hb ha).mpr h), Nat.min_eq_right (by omega)]
  · rw [if_neg (fun z => h ((nI_ltI hb ha).mp z)), Nat.min_eq_left (by omega)]
set_option maxHeartbeats 1000000 in
theorem g_copyOf (l : Launch) (D : va_G) (cy : Nat → ClassId) (ad n N : Nat) (f : Nat → Int32) (hn : n ≤ 400) (hN : N ≤ 400) : Cg l D cy yJ7_copyOf_59c91 cJ7_copyOf_59c91 3 (some (.array .int)) 1 210 1 400 [.ref ad, .int (nI N)] [(ad, .inl (cy 1, n, .inl f))] (fun q => some (.ref (q 0))) (fun q => [(ad, .inl (cy 1, n, .inl f)), (q 0, .inl (cy 1, N, .inl (cpo f n)))]) := by
  refine Cg_of (ins := .areturn) tJ7_copyOf_59c91 hJ7_copyOf_59c91 (by decide) (Nat.le_of_ble_eq_true rfl) (fun ad p e R s m args below meth c H locs Qc free hx hr hlk hq hf pc ls hd => W.aret hx rfl hr (Or.inr ⟨_, rfl⟩) (Or.inr ⟨_, rfl⟩) hq hf hd hlk) ?_
  intro Z hZ C hE hnm hR
  subst hZ
  replace C : Cx Z D cy RJ7 tJ7_copyOf_59c91 3 1 210 1 400 := C
  show Wk Z D 3 0 0 [(ad, .inl (cy 1, n, .inl f))] 0 [(0, .ref ad), (1, .int (nI N))] []
  refine k_iload_1 C 0 rfl 1 rfl ?_
  refine k_aload_0 C 1 rfl 0 rfl ?_
  refine k_alen C 2 rfl 0 1 (a := ad) rfl rfl (v := nI n) rfl ?_
  refine k_icmp_ne C 3 rfl 14 (by decide) (fun hc => ?_) (fun hc => ?_)
  · refine k_iload_1 C 8 rfl 1 rfl ?_
    refine k_newI C 9 N rfl acI (nI_pos (by omega)) (nI_clamp (by omega)) (by omega) ⟨by omega, by omega⟩ (fun q => ?_)
    refine k_astore_2 C 10 rfl (by decide) rfl ?_
    refine k_aload_0 C 11 rfl 1 rfl ?_
    refine k_iconst C 12 rfl ci_0 ?_
    refine k_aload_2 C 13 rfl 0 rfl ?_
    refine k_iconst C 14 rfl ci_0 ?_
    refine k_aload_0 C 15 rfl 1 rfl ?_
    refine k_alen C 16 rfl 0 1 (a := ad) rfl rfl (v := nI n) rfl ?_
    refine k_iload_1 C 17 rfl 2 rfl ?_
    refine k_mmin C 18 rfl qJ7_304 jw_min (Nat.le_of_ble_eq_true rfl) (Nat.le_of_ble_eq_true rfl) (Nat.le_of_ble_eq_true rfl) ⟨by omega, by omega⟩ ?_
    rw [jmin_nI (by omega) (by omega)]
    refine k_copy (w2 := [(ad, .inl (cy 1, n, .inl f)), (q, .inl (cy 1, N, .inl (va_cpy f (fun _ => 0) 0 0 (min n N))))]) C 19 rfl qJ7_150 jw_copy 0 1 rfl rfl (min n N) (nI_clamp (by omega)) (nI_pos (by omega)) (Nat.min_le_left _ _) (Nat.min_le_right _ _) (Nat.le_of_ble_eq_true rfl) (Nat.le_of_ble_eq_true rfl) (Nat.le_of_ble_eq_true rfl) rfl ?_
    refine k_arr 1 (a := q) (f := va_cpy f (fun _ => 0) 0 0 (min n N)) (g := cpo f n) rfl (fun j hj => ?_) rfl ?_
    · unfold va_cpy cpo
      by_cases h : j < n
      · rw [if_pos (show 0 ≤ j ∧ j < 0 + min n N by omega), if_pos h]
        congr 1
        omega
      · rw [if_neg (show ¬ (0 ≤ j ∧ j < 0 + min n N) by omega), if_neg h]
    · refine k_aload_2 C 20 rfl 0 rfl ?_
      refine k_widen (kc2 := 1) (ks2 := 400) (by omega) (by omega) ?_
      exact hR 21 32 _ (fun _ => q) rfl
  · have hNn : N = n := (nI_eq (by omega) (by omega)).mp hc
    subst hNn
    refine k_aload_0 C 4 rfl 0 rfl ?_
    refine k_clone C hE 5 rfl clw 0 rfl (Nat.le_of_ble_eq_true rfl) (Nat.le_of_ble_eq_true rfl) (Nat.le_of_ble_eq_true rfl) ⟨by omega, by omega⟩ (fun q => ?_)
    refine k_castI C 6 rfl qJ7_317 1 rfl ?_
    refine k_arr 1 (a := q) (f := f) (g := cpo f N) rfl (fun j hj => ?_) rfl ?_
    · unfold cpo
      rw [if_pos hj]
    · refine k_widen (kc2 := 1) (ks2 := 400) (by omega) (by omega) ?_
      exact hR 7 13 _ (fun _ => q) rfl
theorem pm_mid {β : Type} (X Y : List β) (c q : β) : (X ++ [c, q] ++ Y).Perm ((X ++ [c] ++ Y) ++ [q]) := by
  have h : (X ++ [c, q] ++ Y) = (X ++ [c]) ++ ([q] ++ Y) := by simp
  rw [h, List.append_assoc (X ++ [c]) Y [q]]
  exact List.Perm.append_left _ List.perm_append_comm
section
variable {Z : Cz} {D : va_G} {cy : Nat → ClassId} {own : String} {tab : List (Nat × Instr × Nat)} {nL fr lo mc ms kc ks : Nat} {w : va_W} {pc : Nat} {lv : List (Nat × Value)} {st : List Value}
/-- Arrays.copyOf of an array of the world: a new array behind the world -/
theorem k_copyOf (C : Cx Z D cy own tab nL fr lo mc ms) (hE : Ew (zS Z)) (i : Nat) {idx : Nat} (hi : tab[i]? = some (pc, .invokestatic idx, 3)) (hlk : Cond.methodLink own idx yJ7_copyOf_59c91 ∈ TG) (q : Nat) {a n : Nat} {f : Nat → Int32} (he : w[q]? = some (a, .inl (cy 1, n, .inl f))) {z : Int32} {N : Nat} (hz : z = nI N) (hn : n ≤ 400) (hN : N ≤ 400) (hsm : (st.map fun v => v.category).sum ≤ 8) (hR : 2 ≤ fr ∧ 240 ≤ lo ∧ kc + 1 ≤ mc ∧ ks + 400 ≤ ms)
    (h : ∀ x, Wk Z D nL (kc + 1) (ks + 400) (w ++ [(x, .inl (cy 1, N, .inl (cpo f n)))]) (pc + 3) lv (.ref x :: st)) : Wk Z D nL kc ks w pc lv (.int z :: .ref a :: st) := by
  subst hz
  have hcut := w_cut he
  obtain ⟨p, l, e, R, s, m, args, below, meth, c, A, Q⟩ := Z
  obtain ⟨hx, hd, hts, hown, hml, hK, hA, hfr, hlo, hmc, hms, hEv⟩ := C
  have hd1 := hd _ _ _ (List.mem_of_getElem? hi)
  intro H locs ls hP hD hS hl
  rw [← hcut] at hP hD
  obtain ⟨hPc, hDc⟩ := k_part hP hD
  obtain ⟨m1, m2, m4, m6⟩ := msJ7_copyOf_59c91
  have hG : GoodIn TG (.code yJ7_copyOf_59c91 cJ7_copyOf_59c91 3 (some (.array .int)) :: TG) := tg_in (by
    intro z hz
    rcases List.mem_cons.mp hz with rfl | hz
    · exact m4
    · exact hz)
  have hrun := va_runS (R := R) (H := H) (locs := locs) (cells := kc) (slots := ks) (args := args) (s := s) (e := e) (below := below) (meth := meth) (rest := st) (As := [.ref a, .int (nI N)]) (g := F0 m pc ls (.int (nI N) :: .ref a :: st)) ⟨hx, rfl, hml, hown, hts⟩ (g_copyOf l D cy a n N f hn hN H.size) ⟨callB_of 2 hts hG rfl rfl rfl (hts _ m2) (hts _ hlk) m6 ⟨by show 1 + 1 ≤ _; omega, by show 8 + (3 + 11) + 210 ≤ _; omega⟩, hts _ m1⟩ ⟨k_blindE, fun U hU hW => ⟨rfl, ⟨by rw [hU], by rw [hU]; exact hPc, va_K.moved hW.alike hK, hDc.weaken (fun _ _ _ _ => trivial), by rw [hU]; exact hEv.go hS.2.1 (k_free hA hD hS) hW⟩, Ew.warm hW hE⟩⟩ rfl rfl hl.1 rfl (lv_room hsm) hd1 ⟨by omega, by omega⟩
  have hF := k_free hA hD hS
  intro T hT XX
  obtain ⟨v, st₀, t, T', L, h0, X', hL, e1, e2, hq, stp⟩ := hrun T hT XX
  obtain ⟨ad, hv, hP1, hD1, hz, hk⟩ := hq
  cases hv
  rw [h0] at hz hk
  obtain ⟨hP2, hD2⟩ := k_join hP hD hk hP1 hD1 hF
  have hS2 : va_S A s.heap t.heap (locs ++ L) := ⟨Nat.le_trans hS.1 hz, fun q h1 h2 => by rw [hk q (Nat.lt_of_lt_of_le h1 hS.1) (fun z => h2 (hF q z))]; exact hS.2.1 q h1 h2, fun q hq => by
      rcases List.mem_append.mp hq with h | h
      · exact hS.2.2 q h
      · exact hF _ (hL q h)⟩
  have h9 : Wk (p, l, e, R, s, m, args, below, meth, c, A, Q) D nL (kc + 1) (ks + 400) (w.take q ++ [(a, .inl (cy 1, n, .inl f)), (ad 0, .inl (cy 1, N, .inl (cpo f n)))] ++ w.drop (q + 1)) (pc + 3) lv (.ref (ad 0) :: st) := by
    refine k_pm (pm_mid _ _ _ _) ?_
    rw [hcut]
    exact h (ad 0)
  obtain ⟨t2, a1, b1⟩ := h9 t.heap (locs ++ L) ls hP2 hD2 hS2 hl T' e1 X'
  exact ⟨t2, stp t2 a1, b1⟩
end
set_option maxHeartbeats 1000000 in
/-- Rule's constructor: the reader's rows are copied -/
theorem e_X4 (l : Launch) (D : va_G) (cy : Nat → ClassId) (u : Nat) (c b : Nat → Nat) (K : Sg) (n m : Nat) (hn : n ≤ 400) (hm : m ≤ 12) (h1 : K.1 1 = nI n) (h5 : K.1 5 = nI m) : Ce l D cy yX4_init cX4_init 2 2 240 4 1600 [.ref u, .ref (c 0)] ((u, .inr (4, [.null, .null, .null, .null])) :: wK1 cy c b K) (fun ad => wK1 cy c b K ++ wU cy (ad0 u ad) n m m m (ruS K)) := by
  refine Ce_of tX4_init hX4_init (by decide) rfl (Nat.le_of_ble_eq_true rfl) ?_
  intro Z hZ C hE hI hR
  subst hZ
  replace C : Cx Z D cy RX4 tX4_init 2 2 240 4 1600 := C
  show Wk Z D 2 0 0 ((u, .inr (4, [.null, .null, .null, .null])) :: wK1 cy c b K) 0 [(0, .ref u), (1, .ref (c 0))] []
  refine k_aload_0 C 0 rfl 0 rfl ?_
  refine k_obj C 1 rfl qX4_1 obw (by decide) (by decide) (Nat.le_of_ble_eq_true rfl) ?_
  refine k_aload_0 C 2 rfl 0 rfl ?_
  refine k_aload_1 C 3 rfl 1 rfl ?_
  refine kg5_0 C 4 rfl qX4_7 1 (a := c 0) (fs := K1_g0 c b K) rfl (v := .ref (c 1)) rfl ?_
  refine k_aload_1 C 5 rfl 1 rfl ?_
  refine kg5_1 C 6 rfl qX4_13 1 (a := c 0) (fs := K1_g0 c b K) rfl (v := .int (K.1 1)) rfl ?_
  refine k_copyOf C hE 7 rfl qX4_17 2 (a := c 1) (n := 400) (f := K.2.1 0) rfl h1 (by decide) hn (Nat.le_of_ble_eq_true rfl) ⟨by omega, by omega, by omega, by omega⟩ (fun q0 => ?_)
  refine kf4_0 (w2 := (u, .inr (4, [.ref q0, .null, .null, .null])) :: (wK1 cy c b K ++ [(q0, .inl (cy 1, n, .inl (cpo (K.2.1 0) 400)))])) C hI 8 rfl qX4_23 0 (a := u) (fs := _) rfl rfl st0 ?_
  refine k_aload_0 C 9 rfl 0 rfl ?_
  refine k_aload_1 C 10 rfl 1 rfl ?_
  refine kg5_2 C 11 rfl qX4_26 1 (a := c 0) (fs := K1_g0 c b K) rfl (v := .ref (c 2)) rfl ?_
  refine k_aload_1 C 12 rfl 1 rfl ?_
  refine kg5_5 C 13 rfl qX4_29 1 (a := c 0) (fs := K1_g0 c b K) rfl (v := .int (K.1 5)) rfl ?_
  refine k_copyOf C hE 14 rfl qX4_17 3 (a := c 2) (n := 12) (f := K.2.1 2) rfl h5 (by decide) (by omega) (Nat.le_of_ble_eq_true rfl) ⟨by omega, by omega, by omega, by omega⟩ (fun q1 => ?_)
  refine kf4_1 (w2 := (u, .inr (4, [.ref q0, .ref q1, .null, .null])) :: ((wK1 cy c b K ++ [(q0, .inl (cy 1, n, .inl (cpo (K.2.1 0) 400)))]) ++ [(q1, .inl (cy 1, m, .inl (cpo (K.2.1 2) 12)))])) C hI 15 rfl qX4_32 0 (a := u) (fs := _) rfl rfl st0 ?_
  refine k_aload_0 C 16 rfl 0 rfl ?_
  refine k_aload_1 C 17 rfl 1 rfl ?_
  refine kg5_3 C 18 rfl qX4_33 1 (a := c 0) (fs := K1_g0 c b K) rfl (v := .ref (c 3)) rfl ?_
  refine k_aload_1 C 19 rfl 1 rfl ?_
  refine kg5_5 C 20 rfl qX4_29 1 (a := c 0) (fs := K1_g0 c b K) rfl (v := .int (K.1 5)) rfl ?_
  refine k_copyOf C hE 21 rfl qX4_17 4 (a := c 3) (n := 12) (f := K.2.1 3) rfl h5 (by decide) (by omega) (Nat.le_of_ble_eq_true rfl) ⟨by omega, by omega, by omega, by omega⟩ (fun q2 => ?_)
  refine kf4_2 (w2 := (u, .inr (4, [.ref q0, .ref q1, .ref q2, .null])) :: (((wK1 cy c b K ++ [(q0, .inl (cy 1, n, .inl (cpo (K.2.1 0) 400)))]) ++ [(q1, .inl (cy 1, m, .inl (cpo (K.2.1 2) 12)))]) ++ [(q2, .inl (cy 1, m, .inl (cpo (K.2.1 3) 12)))])) C hI 22 rfl qX4_36 0 (a := u) (fs := _) rfl rfl st0 ?_
  refine k_aload_0 C 23 rfl 0 rfl ?_
  refine k_aload_1 C 24 rfl 1 rfl ?_
  refine kg5_4 C 25 rfl qX4_37 1 (a := c 0) (fs := K1_g0 c b K) rfl (v := .ref (c 4)) rfl ?_
  refine k_aload_1 C 26 rfl 1 rfl ?_
  refine kg5_5 C 27 rfl qX4_29 1 (a := c 0) (fs := K1_g0 c b K) rfl (v := .int (K.1 5)) rfl ?_
  refine k_copyOf C hE 28 rfl qX4_17 5 (a := c 4) (n := 12) (f := K.2.1 4) rfl h5 (by decide) (by omega) (Nat.le_of_ble_eq_true rfl) ⟨by omega, by omega, by omega, by omega⟩ (fun q3 => ?_)
  refine kf4_3 (w2 := (u, .inr (4, [.ref q0, .ref q1, .ref q2, .ref q3])) :: ((((wK1 cy c b K ++ [(q0, .inl (cy 1, n, .inl (cpo (K.2.1 0) 400)))]) ++ [(q1, .inl (cy 1, m, .inl (cpo (K.2.1 2) 12)))]) ++ [(q2, .inl (cy 1, m, .inl (cpo (K.2.1 3) 12)))]) ++ [(q3, .inl (cy 1, m, .inl (cpo (K.2.1 4) 12)))])) C hI 29 rfl qX4_40 0 (a := u) (fs := _) rfl rfl st0 ?_
  refine k_pm (w2 := wK1 cy c b K ++ wU cy (ad0 u (adl [0, q0, q1, q2, q3])) n m m m (ruS K)) ?_ (hR 30 64 _ (adl [0, q0, q1, q2, q3]) rfl)
  have e1 : wU cy (ad0 u (adl [0, q0, q1, q2, q3])) n m m m (ruS K) = (u, .inr (4, [.ref q0, .ref q1, .ref q2, .ref q3])) :: [(q0, .inl (cy 1, n, .inl (cpo (K.2.1 0) 400))), (q1, .inl (cy 1, m, .inl (cpo (K.2.1 2) 12))), (q2, .inl (cy 1, m, .inl (cpo (K.2.1 3) 12))), (q3, .inl (cy 1, m, .inl (cpo (K.2.1 4) 12)))] := rfl
  rw [e1]
  simp only [List.append_assoc, List.cons_append, List.nil_append]
  exact List.perm_middle.symm
