def tJ0_length_8abf5 : List (Nat × Instr × Nat) := [(0, .aload_n 0, 1), (1, .getfield 9, 3), (4, .arraylength, 1), (5, .aload_n 0, 1), (6, .invokevirtual 335, 3), (9, .ishr, 1), (10, .ireturn, 1)]
set_option maxRecDepth 20000 in
theorem hJ0_length_8abf5 : ∀ q ∈ tJ0_length_8abf5, decode cJ0_length_8abf5 q.1 = .ok (q.2.1, q.2.2) := by decide +kernel
def tJ0_charAt_5068e : List (Nat × Instr × Nat) := [(0, .aload_n 0, 1), (1, .invokevirtual 492, 3), (4, .ifCond .eq 12, 3), (7, .aload_n 0, 1), (8, .getfield 9, 3), (11, .iload_n 1, 1), (12, .invokestatic 495, 3), (15, .ireturn, 1), (16, .aload_n 0, 1), (17, .getfield 9, 3), (20, .iload_n 1, 1), (21, .invokestatic 498, 3), (24, .ireturn, 1)]
set_option maxRecDepth 20000 in
theorem hJ0_charAt_5068e : ∀ q ∈ tJ0_charAt_5068e, decode cJ0_charAt_5068e q.1 = .ok (q.2.1, q.2.2) := by decide +kernel
def tJ0_coder_7d493 : List (Nat × Instr × Nat) := [(0, .getstatic 38, 3), (3, .ifCond .eq 10, 3), (6, .aload_n 0, 1), (7, .getfield 15, 3), (10, .goto 4, 3), (13, .iconst 1, 1), (14, .ireturn, 1)]
set_option maxRecDepth 20000 in
theorem hJ0_coder_7d493 : ∀ q ∈ tJ0_coder_7d493, decode cJ0_coder_7d493 q.1 = .ok (q.2.1, q.2.2) := by decide +kernel
def tJ0_isLatin1_aae02 : List (Nat × Instr × Nat) := [(0, .getstatic 38, 3), (3, .ifCond .eq 14, 3), (6, .aload_n 0, 1), (7, .getfield 15, 3), (10, .ifCond .ne 7, 3), (13, .iconst 1, 1), (14, .goto 4, 3), (17, .iconst 0, 1), (18, .ireturn, 1)]
set_option maxRecDepth 20000 in
theorem hJ0_isLatin1_aae02 : ∀ q ∈ tJ0_isLatin1_aae02, decode cJ0_isLatin1_aae02 q.1 = .ok (q.2.1, q.2.2) := by decide +kernel
def tJ0_checkIndex_df160 : List (Nat × Instr × Nat) := [(0, .iload_n 0, 1), (1, .iload_n 1, 1), (2, .getstatic 1053, 3), (5, .invokestatic 1059, 3), (8, .pop, 1), (9, .return_, 1)]
set_option maxRecDepth 20000 in
theorem hJ0_checkIndex_df160 : ∀ q ∈ tJ0_checkIndex_df160, decode cJ0_checkIndex_df160 q.1 = .ok (q.2.1, q.2.2) := by decide +kernel
def tJ1_charAt_3b067 : List (Nat × Instr × Nat) := [(0, .iload_n 1, 1), (1, .aload_n 0, 1), (2, .arraylength, 1), (3, .invokestatic 9, 3), (6, .aload_n 0, 1), (7, .iload_n 1, 1), (8, .baload, 1), (9, .sipush 255, 3), (12, .iand, 1), (13, .i2c, 1), (14, .ireturn, 1)]
set_option maxRecDepth 20000 in
theorem hJ1_charAt_3b067 : ∀ q ∈ tJ1_charAt_3b067, decode cJ1_charAt_3b067 q.1 = .ok (q.2.1, q.2.2) := by decide +kernel
def tJ3_checkIndex_8e157 : List (Nat × Instr × Nat) := [(0, .iload_n 0, 1), (1, .ifCond .lt 8, 3), (4, .iload_n 0, 1), (5, .iload_n 1, 1), (6, .if_icmp .lt 10, 3), (9, .aload_n 2, 1), (10, .iload_n 0, 1), (11, .iload_n 1, 1), (12, .invokestatic 95, 3), (15, .athrow, 1), (16, .iload_n 0, 1), (17, .ireturn, 1)]
set_option maxRecDepth 20000 in
theorem hJ3_checkIndex_8e157 : ∀ q ∈ tJ3_checkIndex_8e157, decode cJ3_checkIndex_8e157 q.1 = .ok (q.2.1, q.2.2) := by decide +kernel
theorem mvJ0_length_8abf5 : MWv yJ0_length_8abf5 RJ0 cJ0_length_8abf5 1 (some .int) 0 := ⟨(tg3 48 (by decide +kernel) (by decide +kernel)), (tg3 49 (by decide +kernel) (by decide +kernel)), (tg1 14 (by decide +kernel) (by decide +kernel)), (tg3 50 (by decide +kernel) (by decide +kernel)), rfl, by decide, by decide, by decide +kernel⟩
theorem mvJ0_charAt_5068e : MWv yJ0_charAt_5068e RJ0 cJ0_charAt_5068e 2 (some .char) 1 := ⟨(tg3 58 (by decide +kernel) (by decide +kernel)), (tg3 59 (by decide +kernel) (by decide +kernel)), (tg1 14 (by decide +kernel) (by decide +kernel)), (tg3 60 (by decide +kernel) (by decide +kernel)), rfl, by decide, by decide, by decide +kernel⟩
theorem mvJ0_coder_7d493 : MWv yJ0_coder_7d493 RJ0 cJ0_coder_7d493 1 (some .byte) 0 := ⟨(tg3 52 (by decide +kernel) (by decide +kernel)), (tg3 53 (by decide +kernel) (by decide +kernel)), (tg1 14 (by decide +kernel) (by decide +kernel)), (tg3 54 (by decide +kernel) (by decide +kernel)), rfl, by decide, by decide, by decide +kernel⟩
theorem mvJ0_isLatin1_aae02 : MWv yJ0_isLatin1_aae02 RJ0 cJ0_isLatin1_aae02 1 (some .boolean) 0 := ⟨(tg3 62 (by decide +kernel) (by decide +kernel)), (tg3 63 (by decide +kernel) (by decide +kernel)), (tg1 14 (by decide +kernel) (by decide +kernel)), (tg3 64 (by decide +kernel) (by decide +kernel)), rfl, by decide, by decide, by decide +kernel⟩
theorem msJ0_checkIndex_df160 : MWs yJ0_checkIndex_df160 cJ0_checkIndex_df160 2 none 2 := ⟨(tg3 69 (by decide +kernel) (by decide +kernel)), (tg1 14 (by decide +kernel) (by decide +kernel)), (tg3 70 (by decide +kernel) (by decide +kernel)), by decide, by decide, by decide +kernel⟩
theorem msJ1_charAt_3b067 : MWs yJ1_charAt_3b067 cJ1_charAt_3b067 2 (some .char) 2 := ⟨(tg3 66 (by decide +kernel) (by decide +kernel)), (tg1 15 (by decide +kernel) (by decide +kernel)), (tg3 67 (by decide +kernel) (by decide +kernel)), by decide, by decide, by decide +kernel⟩
theorem msJ3_checkIndex_8e157 : MWs yJ3_checkIndex_8e157 cJ3_checkIndex_8e157 3 (some .int) 3 := ⟨(tg3 74 (by decide +kernel) (by decide +kernel)), (tg1 16 (by decide +kernel) (by decide +kernel)), (tg3 75 (by decide +kernel) (by decide +kernel)), by decide, by decide, by decide +kernel⟩
theorem qJ0_9 : Cond.fieldLink RJ0 9 "java/lang/String" "value" "[B" ∈ TG := tg8 140 (by decide +kernel) (by decide +kernel)
theorem qJ0_15 : Cond.fieldLink RJ0 15 "java/lang/String" "coder" "B" ∈ TG := tg8 141 (by decide +kernel) (by decide +kernel)
theorem qJ0_38 : Cond.fieldLink RJ0 38 "java/lang/String" "COMPACT_STRINGS" "Z" ∈ TG := tg3 55 (by decide +kernel) (by decide +kernel)
theorem qJ0_335 : Cond.methodLink RJ0 335 yJ0_coder_7d493 ∈ TG := tg3 51 (by decide +kernel) (by decide +kernel)
theorem qJ0_492 : Cond.methodLink RJ0 492 yJ0_isLatin1_aae02 ∈ TG := tg3 61 (by decide +kernel) (by decide +kernel)
theorem qJ0_495 : Cond.methodLink RJ0 495 yJ1_charAt_3b067 ∈ TG := tg3 65 (by decide +kernel) (by decide +kernel)
theorem qJ0_1053 : Cond.fieldLink RJ0 1053 "jdk/internal/util/Preconditions" "SIOOBE_FORMATTER" "Ljava/util/function/BiFunction;" ∈ TG := tg3 71 (by decide +kernel) (by decide +kernel)
theorem qJ0_1059 : Cond.methodLink RJ0 1059 yJ3_checkIndex_8e157 ∈ TG := tg3 73 (by decide +kernel) (by decide +kernel)
theorem qJ1_9 : Cond.methodLink RJ1 9 yJ0_checkIndex_df160 ∈ TG := tg3 68 (by decide +kernel) (by decide +kernel)
theorem qX8_64 : Cond.methodLink RX8 64 yJ0_length_8abf5 ∈ TG := tg3 47 (by decide +kernel) (by decide +kernel)
theorem qX8_69 : Cond.methodLink RX8 69 yJ0_charAt_5068e ∈ TG := tg3 57 (by decide +kernel) (by decide +kernel)
def zS (Z : Cz) : State := Z.2.2.2.2.1
def zA (Z : Cz) : Nat → Prop := Z.2.2.2.2.2.2.2.2.2.2.1
theorem wb_ok : ∀ j, j < 152 → (((WB.getD j 0 &&& 255).toUInt32 % 65536).toInt32 = WB.getD j 0 ∧ narrow .char (.int (WB.getD j 0)) = .int (WB.getD j 0)) := by decide +kernel
section
variable {l : Launch} {D : va_G} {cy : Nat → ClassId} {y : MethodName} {cc : ByteArray} {nL fr lo mc ms : Nat} {av : List Value} {w0 w1 : va_W}
theorem Ct_n {ty : FieldType} {r : Int32} (hn : narrow ty (.int r) = .int r) (tab : List (Nat × Instr × Nat)) (htab : ∀ q ∈ tab, decode cc q.1 = .ok (q.2.1, q.2.2)) (hy : plainName y.cls = true) (hlen : (lg_sl av).length ≤ nL)
    (h : ∀ Z : Cz, Z.2.1 = l → Cx Z D cy y.cls tab nL fr lo mc ms → Rp Z D nL mc ms tab .ireturn (some (.int r)) w1 → Wk Z D nL 0 0 w0 0 (lv_args 0 av) []) : Ct l D cy y cc nL (some ty) fr lo mc ms av w0 (some (.int r)) w1 :=
  Ct_of tab htab hy hlen (fun p e R s m args below meth c H locs Qc free hx hr hlk hq hf pc ls hd => W.zret hx rfl hr hn hq hf hd hlk) h
end
section
variable {Z : Cz} {D : va_G} {cy : Nat → ClassId} {own : String} {tab : List (Nat × Instr × Nat)} {nL fr lo mc ms kc ks : Nat} {w : va_W} {pc : Nat} {lv : List (Nat × Value)} {st : List Value}
theorem Cx.ev (C : Cx Z D cy own tab nL fr lo mc ms) : Ev cy (zA Z) (zS Z) (zS Z).heap := by
  obtain ⟨p, l, e, R, s, m, args, below, meth, c, A, Q⟩ := Z
  exact C.2.2.2.2.2.2.2.2.2.2.2
theorem k_gets (C : Cx Z D cy own tab nL fr lo mc ms) (i : Nat) {idx : Nat} {CC n d : String} {v : Value} (hi : tab[i]? = some (pc, .getstatic idx, 3)) (hlk : Cond.fieldLink own idx CC n d ∈ TG) (hZ : va_Z CC n d v (zA Z) (zS Z) (zS Z).heap) (h : Wk Z D nL kc ks w (pc + 3) lv (v :: st)) : Wk Z D nL kc ks w pc lv st := by
  obtain ⟨p, l, e, R, s, m, args, below, meth, c, A, Q⟩ := Z
  obtain ⟨hx, hd, hts, hown, hml, hK, hA, hfr, hlo, hmc, hms, hEv⟩ := C
  have hd1 := hd _ _ _ (List.mem_of_getElem? hi)
  intro H locs ls hP hD hS hl
  exact va_gets hx rfl hZ hS hown (hts _ hlk) (fun _ z => z) hd1 (h H locs ls hP hD hS hl)
theorem k_getO (C : Cx Z D cy own tab nL fr lo mc ms) (i : Nat) {idx q : Nat} {CC n d : String} {v : Value} (hi : tab[i]? = some (pc, .getfield idx, 3)) (hlk : Cond.fieldLink own idx CC n d ∈ TG) (hZ : va_OF CC n d v q (zA Z) (zS Z) (zS Z).heap) (h : Wk Z D nL kc ks w (pc + 3) lv (v :: st)) : Wk Z D nL kc ks w pc lv (.ref q :: st) := by
  obtain ⟨p, l, e, R, s, m, args, below, meth, c, A, Q⟩ := Z
  obtain ⟨hx, hd, hts, hown, hml, hK, hA, hfr, hlo, hmc, hms, hEv⟩ := C
  have hd1 := hd _ _ _ (List.mem_of_getElem? hi)
  intro H locs ls hP hD hS hl
  exact vk_getf hx rfl hZ hS hown (hts _ hlk) (fun _ z => z) hd1 (h H locs ls hP hD hS hl)
theorem k_tlen (C : Cx Z D cy own tab nL fr lo mc ms) (i : Nat) {t N : Nat} {f : Nat → Value} {ty : FieldType} {v : Int32} (hi : tab[i]? = some (pc, .arraylength, 1)) (hT : va_T ty t N f (zA Z) (zS Z) (zS Z).heap) (hv : Int32.ofNat N = v) (h : Wk Z D nL kc ks w (pc + 1) lv (.int v :: st)) : Wk Z D nL kc ks w pc lv (.ref t :: st) := by
  obtain ⟨p, l, e, R, s, m, args, below, meth, c, A, Q⟩ := Z
  obtain ⟨hx, hd, hts, hown, hml, hK, hA, hfr, hlo, hmc, hms, hEv⟩ := C
  have hd1 := hd _ _ _ (List.mem_of_getElem? hi)
  intro H locs ls hP hD hS hl
  exact va_tlen hx rfl hT hS hv hd1 (h H locs ls hP hD hS hl)
theorem k_tb (C : Cx Z D cy own tab nL fr lo mc ms) (i : Nat) {t N : Nat} {f : Nat → Value} {j : Int32} {v : Value} (hi : tab[i]? = some (pc, .baload, 1)) (hT : va_T .byte t N f (zA Z) (zS Z) (zS Z).heap) (hin : vp_in j N) (hv : f j.toNatClampNeg = v) (h : Wk Z D nL kc ks w (pc + 1) lv (v :: st)) : Wk Z D nL kc ks w pc lv (.int j :: .ref t :: st) := by
  obtain ⟨p, l, e, R, s, m, args, below, meth, c, A, Q⟩ := Z
  obtain ⟨hx, hd, hts, hown, hml, hK, hA, hfr, hlo, hmc, hms, hEv⟩ := C
  have hd1 := hd _ _ _ (List.mem_of_getElem? hi)
  intro H locs ls hP hD hS hl
  exact va_tb hx rfl hT hS hin hv hd1 (h H locs ls hP hD hS hl)
theorem k_i2c (C : Cx Z D cy own tab nL fr lo mc ms) (i : Nat) {x v : Int32} (hi : tab[i]? = some (pc, .i2c, 1)) (hv : (x.toUInt32 % 65536).toInt32 = v) (h : Wk Z D nL kc ks w (pc + 1) lv (.int v :: st)) : Wk Z D nL kc ks w pc lv (.int x :: st) := by
  obtain ⟨p, l, e, R, s, m, args, below, meth, c, A, Q⟩ := Z
  obtain ⟨hx, hd, hts, hown, hml, hK, hA, hfr, hlo, hmc, hms, hEv⟩ := C
  have hd1 := hd _ _ _ (List.mem_of_getElem? hi)
  intro H locs ls hP hD hS hl
  exact lv_i2c hx rfl hd1 hv (h H locs ls hP hD hS hl)
theorem k_ldcS (C : Cx Z D cy RX8 tab nL fr lo mc ms) (i : Nat) (hi : tab[i]? = some (pc, .ldc 62, 2)) (h : Wk Z D nL kc ks w (pc + 2) lv (.ref (cy 10) :: st)) : Wk Z D nL kc ks w pc lv st := by
  obtain ⟨p, l, e, R, s, m, args, below, meth, c, A, Q⟩ := Z
  obtain ⟨hx, hd, hts, hown, hml, hK, hA, hfr, hlo, hmc, hms, hEv⟩ := C
  have hd1 := hd _ _ _ (List.mem_of_getElem? hi)
  intro H locs ls hP hD hS hl
  exact va_ldcS hx rfl hown hEv.2.1 hd1 (h H locs ls hP hD hS hl)
/-- a call on the String constant -/
theorem k_callK (C : Cx Z D cy own tab nL fr lo mc ms) (i : Nat) {idx : Nat} {y : MethodName} {cc2 : ByteArray} {nL2 fr2 lo2 : Nat} {rt : Option FieldType} {As : List Value} {rv : Option Value} {stk stk2 : List Value}
    (hct : Ct Z.2.1 D cy y cc2 nL2 rt fr2 lo2 0 0 (.ref (cy 10) :: As) [] rv []) (hi : tab[i]? = some (pc, .invokevirtual idx, 3)) (hlk : Cond.methodLink own idx y ∈ TG) (hmw : MWv y RJ0 cc2 nL2 rt As.length)
    (hst : As.reverse ++ .ref (cy 10) :: st = stk) (hst2 : rv.toList ++ st = stk2) (hsm : (st.map fun v => v.category).sum ≤ 8) (hR : fr2 + 1 ≤ fr ∧ 8 + (nL2 + 11) + lo2 ≤ lo ∧ kc ≤ mc ∧ ks ≤ ms)
    (h : Wk Z D nL kc ks w (pc + 3) lv stk2) : Wk Z D nL kc ks w pc lv stk := by
  subst hst hst2
  obtain ⟨p, l, e, R, s, m, args, below, meth, c, A, Q⟩ := Z
  obtain ⟨hx, hd, hts, hown, hml, hK, hA, hfr, hlo, hmc, hms, hEv⟩ := C
  have hd1 := hd _ _ _ (List.mem_of_getElem? hi)
  intro H locs ls hP hD hS hl
  have hP0 : va_P D vwCl (w ++ [] ++ []) H := by simpa using hP
  have hD0 : va_D A (w ++ [] ++ []) := by simpa using hD
  obtain ⟨hPc, hDc⟩ := k_part hP0 hD0
  obtain ⟨m1, m2, m3, m4, m5, m6⟩ := hmw
  have hG : GoodIn TG (wsV own idx RJ0 y (.code y cc2 nL2 rt :: TG)) := tg_in (by
    intro z hz
    unfold wsV at hz
    rcases List.mem_append.mp hz with hz | hz
    · simp only [List.mem_cons, List.not_mem_nil, or_false] at hz
      rcases hz with rfl | rfl | rfl | rfl <;> assumption
    · rcases List.mem_cons.mp hz with rfl | hz
      · exact m4
      · exact hz)
  have hrun := va_runV (R := R) (H := H) (locs := locs) (cells := kc) (slots := ks) (args := args) (s := s) (e := e) (below := below) (meth := meth) (rest := st) (g := F0 m pc ls (As.reverse ++ .ref (cy 10) :: st)) ⟨hx, rfl, hml, hown, hts⟩ (hct H.size) (cwV As.length hts hG rfl rfl rfl ⟨m5, m6⟩ ⟨Nat.le_trans hR.1 hfr, Nat.le_trans hR.2.1 hlo⟩) ⟨k_blind, vk_recv hEv.1 (Nat.zero_lt_one) hS, fun U hU hW => ⟨rfl, by rw [hU], by rw [hU]; exact hPc, va_K.moved hW.alike hK, hDc.weaken (fun _ _ _ _ => trivial), by rw [hU]; exact hEv.go hS.2.1 (k_free hA hD0 hS) hW⟩⟩ rfl rfl hl.1 rfl (lv_room hsm) hd1 ⟨Nat.le_trans hR.2.2.1 hmc, Nat.le_trans hR.2.2.2 hms⟩
  have h' : Wk (p, l, e, R, s, m, args, below, meth, c, A, Q) D nL kc ks (w ++ [] ++ []) (pc + 3) lv (rv.toList ++ st) := by simpa using h
  exact k_after hA hP0 hD0 hS hl (k_free hA hD0 hS) (fun _ _ _ z => z) hrun h'
end
def nv_ok (v : Value) : Prop := v = .null ∨ ∃ t, v = .ref t
theorem c_pre (l : Launch) (D : va_G) (cy : Nat → ClassId) (i n : Int32) (v : Value) (hv : nv_ok v) (h0 : ¬ i < 0) (h1 : i < n) : Ct l D cy yJ3_checkIndex_8e157 cJ3_checkIndex_8e157 3 (some .int) 0 0 0 0 [.int i, .int n, v] [] (some (.int i)) [] := by
  rcases hv with rfl | ⟨t, rfl⟩
  all_goals
    refine Ct_i tJ3_checkIndex_8e157 hJ3_checkIndex_8e157 (by decide) (Nat.le_of_ble_eq_true rfl) ?_
    intro Z hZ C hR
    subst hZ
    replace C : Cx Z D cy RJ3 tJ3_checkIndex_8e157 3 0 0 0 0 := C
    refine k_iload_0 C 0 rfl 0 rfl ?_
    refine k_if_lt C 1 rfl 9 (by decide) (fun hc => absurd hc h0) (fun hc => ?_)
    refine k_iload_0 C 2 rfl 0 rfl ?_
    refine k_iload_1 C 3 rfl 1 rfl ?_
    refine k_icmp_lt C 4 rfl 16 (by decide) (fun hc => ?_) (fun hc => absurd h1 hc)
    refine k_iload_0 C 10 rfl 0 rfl ?_
    exact k_iretP hR 11 rfl rfl
theorem c_chk (l : Launch) (D : va_G) (cy : Nat → ClassId) (i n : Int32) (h0 : ¬ i < 0) (h1 : i < n) : Ct l D cy yJ0_checkIndex_df160 cJ0_checkIndex_df160 2 none 1 40 0 0 [.int i, .int n] [] none [] := by
  refine Ct_v tJ0_checkIndex_df160 hJ0_checkIndex_df160 (by decide) (Nat.le_of_ble_eq_true rfl) ?_
  intro Z hZ C hR
  subst hZ
  replace C : Cx Z D cy RJ0 tJ0_checkIndex_df160 2 1 40 0 0 := C
  show Wk Z D 2 0 0 [] 0 [(0, .int i), (1, .int n)] []
  refine k_iload_0 C 0 rfl 0 rfl ?_
  refine k_iload_1 C 1 rfl 1 rfl ?_
  rcases C.ev.2.2.2 with hz | ⟨t, hz⟩
  · refine k_gets C 2 rfl qJ0_1053 hz ?_
    refine k_callE C 3 (c_pre Z.2.1 D cy i n .null (Or.inl rfl) h0 h1) rfl qJ0_1059 msJ3_checkIndex_8e157 rfl rfl (Nat.le_of_ble_eq_true rfl) ⟨Nat.le_of_ble_eq_true rfl, Nat.le_of_ble_eq_true rfl, Nat.le_refl 0, Nat.le_refl 0⟩ ?_
    refine k_pop C 4 rfl rfl ?_
    exact hR 5 9 _ rfl
  · refine k_gets C 2 rfl qJ0_1053 hz ?_
    refine k_callE C 3 (c_pre Z.2.1 D cy i n (.ref t) (Or.inr ⟨t, rfl⟩) h0 h1) rfl qJ0_1059 msJ3_checkIndex_8e157 rfl rfl (Nat.le_of_ble_eq_true rfl) ⟨Nat.le_of_ble_eq_true rfl, Nat.le_of_ble_eq_true rfl, Nat.le_refl 0, Nat.le_refl 0⟩ ?_
    refine k_pop C 4 rfl rfl ?_
    exact hR 5 9 _ rfl
theorem c_lch (l : Launch) (D : va_G) (cy : Nat → ClassId) (j : Int32) (hj : vp_in j 152) : Ct l D cy yJ1_charAt_3b067 cJ1_charAt_3b067 2 (some .char) 2 80 0 0 [.ref (cy 11), .int j] [] (some (.int (WB.getD j.toNatClampNeg 0))) [] := by
  obtain ⟨jn, hjn, rfl⟩ := vp_in_of hj (by decide)
  have ejn : (nI jn).toNatClampNeg = jn := nI_clamp (by omega)
  refine Ct_n (by rw [ejn]; exact (wb_ok jn hjn).2) tJ1_charAt_3b067 hJ1_charAt_3b067 (by decide) (Nat.le_of_ble_eq_true rfl) ?_
  intro Z hZ C hR
  subst hZ
  replace C : Cx Z D cy RJ1 tJ1_charAt_3b067 2 2 80 0 0 := C
  have hT := (C.ev.1.1 0 Nat.zero_lt_one).2.2.2
  show Wk Z D 2 0 0 [] 0 [(0, .ref (cy 11)), (1, .int (nI jn))] []
  refine k_iload_1 C 0 rfl 1 rfl ?_
  refine k_aload_0 C 1 rfl 0 rfl ?_
  refine k_tlen C 2 rfl hT (v := 152) (by decide) ?_
  refine k_callE C 3 (c_chk Z.2.1 D cy (nI jn) 152 (nI_pos (by omega)) (show nI jn < nI 152 from nI_lt hjn (by decide))) rfl qJ1_9 msJ0_checkIndex_df160 rfl rfl (Nat.le_of_ble_eq_true rfl) ⟨Nat.le_of_ble_eq_true rfl, Nat.le_of_ble_eq_true rfl, Nat.le_refl 0, Nat.le_refl 0⟩ ?_
  refine k_aload_0 C 4 rfl 0 rfl ?_
  refine k_iload_1 C 5 rfl 1 rfl ?_
  refine k_tb C 6 rfl hT hj rfl ?_
  refine k_sipush C 7 rfl cs_255 ?_
  refine k_iand C 8 rfl ?_
  refine k_i2c C 9 rfl (v := WB.getD (nI jn).toNatClampNeg 0) (by rw [ejn]; exact (wb_ok jn hjn).1) ?_
  exact k_iretP hR 10 rfl rfl
theorem c_lat (l : Launch) (D : va_G) (cy : Nat → ClassId) : Ct l D cy yJ0_isLatin1_aae02 cJ0_isLatin1_aae02 1 (some .boolean) 0 0 0 0 [.ref (cy 10)] [] (some (.int (bI true))) [] := by
  refine Ct_z tJ0_isLatin1_aae02 hJ0_isLatin1_aae02 (by decide) (Nat.le_of_ble_eq_true rfl) ?_
  intro Z hZ C hR
  subst hZ
  replace C : Cx Z D cy RJ0 tJ0_isLatin1_aae02 1 0 0 0 0 := C
  show Wk Z D 1 0 0 [] 0 [(0, .ref (cy 10))] []
  refine k_gets C 0 rfl qJ0_38 C.ev.2.2.1 ?_
  refine k_if_eq C 1 rfl 17 (by decide) (fun hc => absurd hc (by decide)) (fun hc => ?_)
  refine k_aload_0 C 2 rfl 0 rfl ?_
  refine k_getO C 3 rfl qJ0_15 (C.ev.1.1 0 Nat.zero_lt_one).2.1 ?_
  refine k_if_ne C 4 rfl 17 (by decide) (fun hc => absurd rfl hc) (fun hc => ?_)
  refine k_iconst C 5 rfl ci_1 ?_
  refine k_goto C 6 rfl 18 (by decide) ?_
  exact k_zretP hR 8 rfl rfl
theorem c_cod (l : Launch) (D : va_G) (cy : Nat → ClassId) : Ct l D cy yJ0_coder_7d493 cJ0_coder_7d493 1 (some .byte) 0 0 0 0 [.ref (cy 10)] [] (some (.int 0)) [] := by
  refine Ct_n (by decide) tJ0_coder_7d493 hJ0_coder_7d493 (by decide) (Nat.le_of_ble_eq_true rfl) ?_
  intro Z hZ C hR
  subst hZ
  replace C : Cx Z D cy RJ0 tJ0_coder_7d493 1 0 0 0 0 := C
  show Wk Z D 1 0 0 [] 0 [(0, .ref (cy 10))] []
  refine k_gets C 0 rfl qJ0_38 C.ev.2.2.1 ?_
  refine k_if_eq C 1 rfl 13 (by decide) (fun hc => absurd hc (by decide)) (fun hc => ?_)
  refine k_aload_0 C 2 rfl 0 rfl ?_
  refine k_getO C 3 rfl qJ0_15 (C.ev.1.1 0 Nat.zero_lt_one).2.1 ?_
  refine k_goto C 4 rfl 14 (by decide) ?_
  exact k_iretP hR 6 rfl rfl
theorem c_len (l : Launch) (D : va_G) (cy : Nat → ClassId) : Ct l D cy yJ0_length_8abf5 cJ0_length_8abf5 1 (some .int) 1 40 0 0 [.ref (cy 10)] [] (some (.int 152)) [] := by
  refine Ct_i tJ0_length_8abf5 hJ0_length_8abf5 (by decide) (Nat.le_of_ble_eq_true rfl) ?_
  intro Z hZ C hR
  subst hZ
  replace C : Cx Z D cy RJ0 tJ0_length_8abf5 1 1 40 0 0 := C
  show Wk Z D 1 0 0 [] 0 [(0, .ref (cy 10))] []
  refine k_aload_0 C 0 rfl 0 rfl ?_
  refine k_getO C 1 rfl qJ0_9 (C.ev.1.1 0 Nat.zero_lt_one).2.2.1 ?_
  refine k_tlen C 2 rfl (C.ev.1.1 0 Nat.zero_lt_one).2.2.2 (v := 152) (by decide) ?_
  refine k_aload_0 C 3 rfl 0 rfl ?_
  refine k_callK C 4 (c_cod Z.2.1 D cy) rfl qJ0_335 mvJ0_coder_7d493 rfl rfl (Nat.le_of_ble_eq_true rfl) ⟨Nat.le_of_ble_eq_true rfl, Nat.le_of_ble_eq_true rfl, Nat.le_refl 0, Nat.le_refl 0⟩ ?_
  refine k_ishr C 5 rfl ?_
  refine k_topi (z := 152) (by decide) ?_
  exact k_iretP hR 6 rfl rfl
theorem c_chr (l : Launch) (D : va_G) (cy : Nat → ClassId) (j : Int32) (hj : vp_in j 152) : Ct l D cy yJ0_charAt_5068e cJ0_charAt_5068e 2 (some .char) 3 120 0 0 [.ref (cy 10), .int j] [] (some (.int (WB.getD j.toNatClampNeg 0))) [] := by
  have hn : narrow .char (.int (WB.getD j.toNatClampNeg 0)) = .int (WB.getD j.toNatClampNeg 0) := by
    obtain ⟨jn, hjn, rfl⟩ := vp_in_of hj (by decide)
    rw [nI_clamp (by omega)]
    exact (wb_ok jn hjn).2
  refine Ct_n hn tJ0_charAt_5068e hJ0_charAt_5068e (by decide) (Nat.le_of_ble_eq_true rfl) ?_
  intro Z hZ C hR
  subst hZ
  replace C : Cx Z D cy RJ0 tJ0_charAt_5068e 2 3 120 0 0 := C
  show Wk Z D 2 0 0 [] 0 [(0, .ref (cy 10)), (1, .int j)] []
  refine k_aload_0 C 0 rfl 0 rfl ?_
  refine k_callK C 1 (c_lat Z.2.1 D cy) rfl qJ0_492 mvJ0_isLatin1_aae02 rfl rfl (Nat.le_of_ble_eq_true rfl) ⟨Nat.le_of_ble_eq_true rfl, Nat.le_of_ble_eq_true rfl, Nat.le_refl 0, Nat.le_refl 0⟩ ?_
  refine k_if_eq C 2 rfl 16 (by decide) (fun hc => absurd hc (by decide)) (fun hc => ?_)
  refine k_aload_0 C 3 rfl 0 rfl ?_
  refine k_getO C 4 rfl qJ0_9 (C.ev.1.1 0 Nat.zero_lt_one).2.2.1 ?_
  refine k_iload_1 C 5 rfl 1 rfl ?_
  refine k_callE C 6 (c_lch Z.2.1 D cy j hj) rfl qJ0_495 msJ1_charAt_3b067 rfl rfl (Nat.le_of_ble_eq_true rfl) ⟨Nat.le_of_ble_eq_true rfl, Nat.le_of_ble_eq_true rfl, Nat.le_refl 0, Nat.le_refl 0⟩ ?_
  exact k_iretP hR 7 rfl rfl
