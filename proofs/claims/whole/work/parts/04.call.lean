/-! contracts out of walks, and calls by contract -/
def Rp (Z : Cz) (D : va_G) (nL mc ms : Nat) (tab : List (Nat × Instr × Nat)) (ins : Instr) (rv : Option Value) (w1 : va_W) : Prop := ∀ (i pc : Nat) (lv : List (Nat × Value)), tab[i]? = some (pc, ins, 1) → Wk Z D nL mc ms w1 pc lv rv.toList
theorem bI_nar (b : Bool) : narrow .boolean (.int (bI b)) = .int (bI b) := by cases b <;> rfl
section
variable {l : Launch} {D : va_G} {cy : Nat → ClassId} {y : MethodName} {cc : ByteArray} {nL fr lo mc ms : Nat} {av : List Value} {w0 w1 : va_W}
theorem Ct_of {rt : Option FieldType} {rv : Option Value} {ins : Instr} (tab : List (Nat × Instr × Nat)) (htab : ∀ q ∈ tab, decode cc q.1 = .ok (q.2.1, q.2.2)) (hy : plainName y.cls = true) (hlen : (lg_sl av).length ≤ nL)
    (hret : ∀ (p : Program) (e : Env) (R : Room) (s : State) (m : MethodId) (args : Array Value) (below : List Frame) (meth : Method) (c : Code) (H : Heap) (locs : List Loc) (Qc : Array Value → State → Outcome → State → Prop) (free : Addr → Prop), p.tables.exec = Jvm.exec → meth.sig.returnType = rt → meth.locks = false → (∀ t : State, t.heap = H → s.WarmedH t.vm → Qc args s (.returned rv) t) → (∀ q ∈ locs, free q.base) → ∀ (pc : Nat) (ls : Array Slot), decode c.code pc = .ok (ins, 1) → W p l e R s m args below meth c H locs mc ms (MQ below Qc args s mc ms free) (F0 m pc ls rv.toList))
    (h : ∀ Z : Cz, Z.2.1 = l → Cx Z D cy y.cls tab nL fr lo mc ms → Rp Z D nL mc ms tab ins rv w1 → Wk Z D nL 0 0 w0 0 (lv_args 0 av) []) : Ct l D cy y cc nL rt fr lo mc ms av w0 rv w1 := by
  intro sz
  refine Met.ofW (cc := cc) (maxL := nL) (ret := rt) hy rfl ?_
  intro p e s m args below meth c s₁ B hml hv
  obtain ⟨rfl, hsz, hP, hK, hD0, hEv⟩ := hv
  have hx := B.exec
  have hb := B.bytes
  have hr := B.returns
  have hts := atoms_spec (ws := .code y cc nL rt :: TG) B.pre
  have hown : s.vm.findClass y.cls = some m.cls := findClass_of_methodNamed B.named
  have hlocks := B.notSynchronized
  subst hsz
  have hD := hD0.self (sz := s.heap.size)
  have htb : ∀ (pc : Nat) (ins : Instr) (len : Nat), (pc, ins, len) ∈ tab → decode c.code pc = .ok (ins, len) := by
    intro pc ins len hq
    have h9 := htab (pc, ins, len) hq
    rw [hb]
    exact h9
  have Zc : Cx (p, l, e, (headSpec (.code y cc nL rt :: TG) ({ frames := fr, cells := mc, slots := ms, locals := lo })).room, s, m, av.toArray, below, meth, c, va_A w0 s.heap.size, MQ below (fun _ st oc t => oc = .returned rv ∧ va_P D vwCl w1 t.heap ∧ va_D (va_A w0 s.heap.size) w1 ∧ va_F (va_A w0 s.heap.size) st t) av.toArray s mc ms (va_A w0 s.heap.size)) D cy y.cls tab nL fr lo mc ms :=
    ⟨hx, htb, fun w hw => hts w (List.mem_cons_of_mem _ hw), hown, hml, hK, fun q h => Or.inr h, Nat.le_refl _, Nat.le_refl _, Nat.le_refl _, Nat.le_refl _, hEv⟩
  have key := h _ rfl Zc (by
    intro i pc lv hi H locs ls hP hD hS hl
    exact hret p e _ s m _ below meth c H locs _ _ hx hr hlocks (fun t ht hW => ⟨rfl, by rw [ht]; exact hP, hD, hS.F ht⟩) hS.2.2 pc ls (htb _ _ _ (List.mem_of_getElem? hi)))
  rw [lg_entry_eq]
  exact key s.heap [] _ hP hD va_S.rf (lv_entry av hlen)
theorem Ct_i {r : Int32} (tab : List (Nat × Instr × Nat)) (htab : ∀ q ∈ tab, decode cc q.1 = .ok (q.2.1, q.2.2)) (hy : plainName y.cls = true) (hlen : (lg_sl av).length ≤ nL)
    (h : ∀ Z : Cz, Z.2.1 = l → Cx Z D cy y.cls tab nL fr lo mc ms → Rp Z D nL mc ms tab .ireturn (some (.int r)) w1 → Wk Z D nL 0 0 w0 0 (lv_args 0 av) []) : Ct l D cy y cc nL (some .int) fr lo mc ms av w0 (some (.int r)) w1 :=
  Ct_of tab htab hy hlen (fun p e R s m args below meth c H locs Qc free hx hr hlk hq hf pc ls hd => W.iret hx rfl hr hq hf hd hlk) h
theorem Ct_z {r : Bool} (tab : List (Nat × Instr × Nat)) (htab : ∀ q ∈ tab, decode cc q.1 = .ok (q.2.1, q.2.2)) (hy : plainName y.cls = true) (hlen : (lg_sl av).length ≤ nL)
    (h : ∀ Z : Cz, Z.2.1 = l → Cx Z D cy y.cls tab nL fr lo mc ms → Rp Z D nL mc ms tab .ireturn (some (.int (bI r))) w1 → Wk Z D nL 0 0 w0 0 (lv_args 0 av) []) : Ct l D cy y cc nL (some .boolean) fr lo mc ms av w0 (some (.int (bI r))) w1 :=
  Ct_of tab htab hy hlen (fun p e R s m args below meth c H locs Qc free hx hr hlk hq hf pc ls hd => W.zret hx rfl hr (bI_nar r) hq hf hd hlk) h
theorem Ct_l {r : Int64} (tab : List (Nat × Instr × Nat)) (htab : ∀ q ∈ tab, decode cc q.1 = .ok (q.2.1, q.2.2)) (hy : plainName y.cls = true) (hlen : (lg_sl av).length ≤ nL)
    (h : ∀ Z : Cz, Z.2.1 = l → Cx Z D cy y.cls tab nL fr lo mc ms → Rp Z D nL mc ms tab .lreturn (some (.long r)) w1 → Wk Z D nL 0 0 w0 0 (lv_args 0 av) []) : Ct l D cy y cc nL (some .long) fr lo mc ms av w0 (some (.long r)) w1 :=
  Ct_of tab htab hy hlen (fun p e R s m args below meth c H locs Qc free hx hr hlk hq hf pc ls hd => W.lret hx rfl hr hq hf hd hlk) h
theorem Ct_v (tab : List (Nat × Instr × Nat)) (htab : ∀ q ∈ tab, decode cc q.1 = .ok (q.2.1, q.2.2)) (hy : plainName y.cls = true) (hlen : (lg_sl av).length ≤ nL)
    (h : ∀ Z : Cz, Z.2.1 = l → Cx Z D cy y.cls tab nL fr lo mc ms → Rp Z D nL mc ms tab .return_ none w1 → Wk Z D nL 0 0 w0 0 (lv_args 0 av) []) : Ct l D cy y cc nL none fr lo mc ms av w0 none w1 :=
  Ct_of tab htab hy hlen (fun p e R s m args below meth c H locs Qc free hx hr hlk hq hf pc ls hd => W.vret hx rfl hr hq hf hd hlk) h
end
/-- the words of a method that is called on an object, and of a static one -/
def MWv (y : MethodName) (CC : String) (cc : ByteArray) (nL : Nat) (rt : Option FieldType) (n : Nat) : Prop := Cond.instanceMethod y ∈ TG ∧ Cond.selects CC y y ∈ TG ∧ Cond.initialized CC ∈ TG ∧ Cond.code y cc nL rt ∈ TG ∧ y.cls = CC ∧ y.cls ≠ "java/lang/invoke/MethodHandle" ∧ y.cls ≠ "java/lang/invoke/VarHandle" ∧ (parseMethodDescriptor y.desc).map (fun d => d.parameters.length) = some n
def MWs (y : MethodName) (cc : ByteArray) (nL : Nat) (rt : Option FieldType) (n : Nat) : Prop := Cond.static y ∈ TG ∧ Cond.initialized y.cls ∈ TG ∧ Cond.code y cc nL rt ∈ TG ∧ y.cls ≠ "java/lang/invoke/MethodHandle" ∧ y.cls ≠ "java/lang/invoke/VarHandle" ∧ (parseMethodDescriptor y.desc).map (fun d => d.parameters.length) = some n
theorem tg_in {ws : List Cond} (h : ∀ w ∈ ws, w ∈ TG) : GoodIn TG ws := fun w hw => ⟨h w hw, (tg_good w (h w hw)).2⟩
section
variable {Z : Cz} {D : va_G} {cy : Nat → ClassId} {own : String} {tab : List (Nat × Instr × Nat)} {nL fr lo mc ms kc ks : Nat} {w : va_W} {pc : Nat} {lv : List (Nat × Value)} {st : List Value}
theorem k_after {p : Program} {l : Launch} {e : Env} {R : Room} {s : State} {m : MethodId} {args : Array Value} {below : List Frame} {meth : Method} {c : Code} {A : Nat → Prop} {Q : State → Prop} {X w0 w1 Y : va_W} {rv : Option Value} {mc2 ms2 : Nat} {stk : List Value} {H : Heap} {locs : List Loc} {ls : Array Slot} {Qa : State → Outcome → State → Prop}
    (hA : ∀ q, s.heap.size ≤ q → A q) (hP : va_P D vwCl (X ++ w0 ++ Y) H) (hD : va_D A (X ++ w0 ++ Y)) (hS : va_S A s.heap H locs) (hl : lv_has ls nL lv) (hF : ∀ q, va_A w0 H.size q → A q)
    (hQ : ∀ st₀ oc t, Qa st₀ oc t → oc = .returned rv ∧ va_P D vwCl w1 t.heap ∧ va_D (va_A w0 H.size) w1 ∧ va_F (va_A w0 H.size) st₀ t)
    (hrun : va_Run p l e R s m args below meth c H locs kc ks mc2 ms2 (F0 m pc ls stk) st Qa (va_A w0 H.size))
    (h : Wk (p, l, e, R, s, m, args, below, meth, c, A, Q) D nL (kc + mc2) (ks + ms2) (X ++ w1 ++ Y) (pc + 3) lv (rv.toList ++ st)) : W p l e R s m args below meth c H locs kc ks Q (F0 m pc ls stk) := by
  intro T hT XX
  obtain ⟨v, st₀, t, T', L, h0, X', hL, e1, e2, hq, stp⟩ := hrun T hT XX
  obtain ⟨hv, hP1, hD1, hz, hk⟩ := hQ _ _ _ hq
  cases hv
  rw [h0] at hz hk
  obtain ⟨hP2, hD2⟩ := k_join hP hD hk hP1 hD1 hF
  have hS2 : va_S A s.heap t.heap (locs ++ L) := ⟨Nat.le_trans hS.1 hz, fun q h1 h2 => by rw [hk q (Nat.lt_of_lt_of_le h1 hS.1) (fun z => h2 (hF q z))]; exact hS.2.1 q h1 h2, fun q hq => by
      rcases List.mem_append.mp hq with h | h
      · exact hS.2.2 q h
      · exact hF _ (hL q h)⟩
  obtain ⟨t2, a1, b1⟩ := h t.heap (locs ++ L) ls hP2 hD2 hS2 hl T' e1 X'
  exact ⟨t2, stp t2 a1, b1⟩
theorem k_free {A : Nat → Prop} {X w0 Y : va_W} {H H0 : Heap} {locs : List Loc} (hA : ∀ q, H0.size ≤ q → A q) (hD : va_D A (X ++ w0 ++ Y)) (hS : va_S A H0 H locs) : ∀ q, va_A w0 H.size q → A q := by
  intro q h
  rcases vaA_iff.mp h with h | h
  · obtain ⟨z, hz, rfl⟩ := List.mem_map.mp h
    exact (vaD_iff.mp hD).2 z (List.mem_append_left _ (List.mem_append_right _ hz))
  · exact hA q (Nat.le_trans hS.1 h)
theorem k_blind {av : List Value} {sz : Nat} {w0 : va_W} : FrameBlind (va_Pc av (fun U => U.heap.size = sz ∧ va_P D vwCl w0 U.heap ∧ va_K D vwCl (tys cy) U ∧ va_D (fun _ => True) w0 ∧ Ev cy (va_A w0 sz) U U.heap)) := fun a U g mk q => by
  obtain ⟨q0, q1, qP, qK, qD, qE⟩ := q
  exact ⟨q0, q1, qP, va_K.moved (u := U) (U := U.calling g mk a) (Vm.Alike.refl U.vm) qK, qD, qE.call⟩
theorem k_callV (C : Cx Z D cy own tab nL fr lo mc ms) (i : Nat) {idx : Nat} {y : MethodName} {CC : String} {cc2 : ByteArray} {nL2 fr2 lo2 mc2 ms2 b : Nat} {rt : Option FieldType} {As : List Value} {X w0 w1 Y w2 : va_W} {rv : Option Value} {stk stk2 : List Value}
    (hct : Ct Z.2.1 D cy y cc2 nL2 rt fr2 lo2 mc2 ms2 (.ref b :: As) w0 rv w1) (hi : tab[i]? = some (pc, .invokevirtual idx, 3)) (hlk : Cond.methodLink own idx y ∈ TG) (hmw : MWv y CC cc2 nL2 rt As.length)
    (q ci : Nat) {T : u_T} {N : Nat} {fs : List Value} (he : w0[q]? = some (b, .inr (ci, fs))) (hc : vwCl[ci]? = some (CC, T, N)) (hw : X ++ w0 ++ Y = w) (hw2 : X ++ w1 ++ Y = w2)
    (hst : As.reverse ++ .ref b :: st = stk) (hst2 : rv.toList ++ st = stk2) (hsm : (st.map fun v => v.category).sum ≤ 8) (hR : fr2 + 1 ≤ fr ∧ 8 + (nL2 + 11) + lo2 ≤ lo ∧ kc + mc2 ≤ mc ∧ ks + ms2 ≤ ms)
    (h : Wk Z D nL (kc + mc2) (ks + ms2) w2 (pc + 3) lv stk2) : Wk Z D nL kc ks w pc lv stk := by
  subst hw hw2 hst hst2
  obtain ⟨p, l, e, R, s, m, args, below, meth, c, A, Q⟩ := Z
  obtain ⟨hx, hd, hts, hown, hml, hK, hA, hfr, hlo, hmc, hms, hEv⟩ := C
  have hd1 := hd _ _ _ (List.mem_of_getElem? hi)
  intro H locs ls hP hD hS hl
  obtain ⟨hPc, hDc⟩ := k_part hP hD
  obtain ⟨m1, m2, m3, m4, m5, m6⟩ := hmw
  have hG : GoodIn TG (wsV own idx CC y (.code y cc2 nL2 rt :: TG)) := tg_in (by
    intro z hz
    unfold wsV at hz
    rcases List.mem_append.mp hz with hz | hz
    · simp only [List.mem_cons, List.not_mem_nil, or_false] at hz
      rcases hz with rfl | rfl | rfl | rfl <;> assumption
    · rcases List.mem_cons.mp hz with rfl | hz
      · exact m4
      · exact hz)
  have hrun := va_runV (R := R) (H := H) (locs := locs) (cells := kc) (slots := ks) (args := args) (s := s) (e := e) (below := below) (meth := meth) (rest := st) (g := F0 m pc ls (As.reverse ++ .ref b :: st)) ⟨hx, rfl, hml, hown, hts⟩ (hct H.size) (cwV As.length hts hG rfl rfl rfl ⟨m5, m6⟩ ⟨Nat.le_trans hR.1 hfr, Nat.le_trans hR.2.1 hlo⟩) ⟨k_blind, va_recv hK hPc hc he, fun U hU hW => ⟨rfl, by rw [hU], by rw [hU]; exact hPc, va_K.moved hW.alike hK, hDc.weaken (fun _ _ _ _ => trivial), by rw [hU]; exact hEv.go hS.2.1 (k_free hA hD hS) hW⟩⟩ rfl rfl hl.1 rfl (lv_room hsm) hd1 ⟨Nat.le_trans hR.2.2.1 hmc, Nat.le_trans hR.2.2.2 hms⟩
  exact k_after hA hP hD hS hl (k_free hA hD hS) (fun _ _ _ z => z) hrun h
theorem k_callS (C : Cx Z D cy own tab nL fr lo mc ms) (i : Nat) {idx : Nat} {y : MethodName} {cc2 : ByteArray} {nL2 fr2 lo2 mc2 ms2 : Nat} {rt : Option FieldType} {As : List Value} {X w0 w1 Y w2 : va_W} {rv : Option Value} {stk stk2 : List Value}
    (hct : Ct Z.2.1 D cy y cc2 nL2 rt fr2 lo2 mc2 ms2 As w0 rv w1) (hi : tab[i]? = some (pc, .invokestatic idx, 3)) (hlk : Cond.methodLink own idx y ∈ TG) (hmw : MWs y cc2 nL2 rt As.length)
    (hw : X ++ w0 ++ Y = w) (hw2 : X ++ w1 ++ Y = w2)
    (hst : As.reverse ++ st = stk) (hst2 : rv.toList ++ st = stk2) (hsm : (st.map fun v => v.category).sum ≤ 8) (hR : fr2 + 1 ≤ fr ∧ 8 + (nL2 + 11) + lo2 ≤ lo ∧ kc + mc2 ≤ mc ∧ ks + ms2 ≤ ms)
    (h : Wk Z D nL (kc + mc2) (ks + ms2) w2 (pc + 3) lv stk2) : Wk Z D nL kc ks w pc lv stk := by
  subst hw hw2 hst hst2
  obtain ⟨p, l, e, R, s, m, args, below, meth, c, A, Q⟩ := Z
  obtain ⟨hx, hd, hts, hown, hml, hK, hA, hfr, hlo, hmc, hms, hEv⟩ := C
  have hd1 := hd _ _ _ (List.mem_of_getElem? hi)
  intro H locs ls hP hD hS hl
  obtain ⟨hPc, hDc⟩ := k_part hP hD
  obtain ⟨m1, m2, m4, m6⟩ := hmw
  have hG : GoodIn TG (.code y cc2 nL2 rt :: TG) := tg_in (by
    intro z hz
    rcases List.mem_cons.mp hz with rfl | hz
    · exact m4
    · exact hz)
  have hrun := va_runS (R := R) (H := H) (locs := locs) (cells := kc) (slots := ks) (args := args) (s := s) (e := e) (below := below) (meth := meth) (rest := st) (g := F0 m pc ls (As.reverse ++ st)) ⟨hx, rfl, hml, hown, hts⟩ (hct H.size) ⟨callB_of As.length hts hG rfl rfl rfl (hts _ m2) (hts _ hlk) m6 ⟨Nat.le_trans hR.1 hfr, Nat.le_trans hR.2.1 hlo⟩, hts _ m1⟩ ⟨k_blind, fun U hU hW => ⟨rfl, by rw [hU], by rw [hU]; exact hPc, va_K.moved hW.alike hK, hDc.weaken (fun _ _ _ _ => trivial), by rw [hU]; exact hEv.go hS.2.1 (k_free hA hD hS) hW⟩⟩ rfl rfl hl.1 rfl (lv_room hsm) hd1 ⟨Nat.le_trans hR.2.2.1 hmc, Nat.le_trans hR.2.2.2 hms⟩
  exact k_after hA hP hD hS hl (k_free hA hD hS) (fun _ _ _ z => z) hrun h
/-- the callee's world is the caller's -/
theorem k_callW (C : Cx Z D cy own tab nL fr lo mc ms) (i : Nat) {idx : Nat} {y : MethodName} {CC : String} {cc2 : ByteArray} {nL2 fr2 lo2 b : Nat} {rt : Option FieldType} {As : List Value} {w1 : va_W} {rv : Option Value} {stk stk2 : List Value}
    (hct : Ct Z.2.1 D cy y cc2 nL2 rt fr2 lo2 0 0 (.ref b :: As) w rv w1) (hi : tab[i]? = some (pc, .invokevirtual idx, 3)) (hlk : Cond.methodLink own idx y ∈ TG) (hmw : MWv y CC cc2 nL2 rt As.length)
    (q ci : Nat) {T : u_T} {N : Nat} {fs : List Value} (he : w[q]? = some (b, .inr (ci, fs))) (hc : vwCl[ci]? = some (CC, T, N))
    (hst : As.reverse ++ .ref b :: st = stk) (hst2 : rv.toList ++ st = stk2) (hsm : (st.map fun v => v.category).sum ≤ 8) (hR : fr2 + 1 ≤ fr ∧ 8 + (nL2 + 11) + lo2 ≤ lo ∧ kc ≤ mc ∧ ks ≤ ms)
    (h : Wk Z D nL kc ks w1 (pc + 3) lv stk2) : Wk Z D nL kc ks w pc lv stk :=
  k_callV (X := []) (Y := []) C i hct hi hlk hmw q ci he hc (by simp) (by simp) hst hst2 hsm hR h
/-- a static method that looks at no cell -/
theorem k_callE (C : Cx Z D cy own tab nL fr lo mc ms) (i : Nat) {idx : Nat} {y : MethodName} {cc2 : ByteArray} {nL2 fr2 lo2 : Nat} {rt : Option FieldType} {As : List Value} {rv : Option Value} {stk stk2 : List Value}
    (hct : Ct Z.2.1 D cy y cc2 nL2 rt fr2 lo2 0 0 As [] rv []) (hi : tab[i]? = some (pc, .invokestatic idx, 3)) (hlk : Cond.methodLink own idx y ∈ TG) (hmw : MWs y cc2 nL2 rt As.length)
    (hst : As.reverse ++ st = stk) (hst2 : rv.toList ++ st = stk2) (hsm : (st.map fun v => v.category).sum ≤ 8) (hR : fr2 + 1 ≤ fr ∧ 8 + (nL2 + 11) + lo2 ≤ lo ∧ kc ≤ mc ∧ ks ≤ ms)
    (h : Wk Z D nL kc ks w (pc + 3) lv stk2) : Wk Z D nL kc ks w pc lv stk :=
  k_callS (X := w) (Y := []) C i hct hi hlk hmw (by simp) (by simp) hst hst2 hsm hR h
theorem k_iret {σ : Type} {wf : σ → va_W} {r r2 : Int32} {u u2 : σ} (hR : Rp Z D nL kc ks tab .ireturn (some (.int r)) (wf u)) (i : Nat) (hi : tab[i]? = some (pc, .ireturn, 1)) (hf : some (r2, u2) = some (r, u)) : Wk Z D nL kc ks (wf u2) pc lv [.int r2] := by
  cases hf; exact hR i pc lv hi
theorem k_iretP {r r2 : Int32} (hR : Rp Z D nL kc ks tab .ireturn (some (.int r)) w) (i : Nat) (hi : tab[i]? = some (pc, .ireturn, 1)) (hf : some r2 = some r) : Wk Z D nL kc ks w pc lv [.int r2] := by
  cases hf; exact hR i pc lv hi
theorem k_zret {σ : Type} {wf : σ → va_W} {r r2 : Bool} {u u2 : σ} (hR : Rp Z D nL kc ks tab .ireturn (some (.int (bI r))) (wf u)) (i : Nat) (hi : tab[i]? = some (pc, .ireturn, 1)) (hf : some (r2, u2) = some (r, u)) : Wk Z D nL kc ks (wf u2) pc lv [.int (bI r2)] := by
  cases hf; exact hR i pc lv hi
theorem k_zretP {r r2 : Bool} (hR : Rp Z D nL kc ks tab .ireturn (some (.int (bI r))) w) (i : Nat) (hi : tab[i]? = some (pc, .ireturn, 1)) (hf : some r2 = some r) : Wk Z D nL kc ks w pc lv [.int (bI r2)] := by
  cases hf; exact hR i pc lv hi
theorem k_lret {σ : Type} {wf : σ → va_W} {r r2 : Int64} {u u2 : σ} (hR : Rp Z D nL kc ks tab .lreturn (some (.long r)) (wf u)) (i : Nat) (hi : tab[i]? = some (pc, .lreturn, 1)) (hf : some (r2, u2) = some (r, u)) : Wk Z D nL kc ks (wf u2) pc lv [.long r2] := by
  cases hf; exact hR i pc lv hi
theorem k_lretP {r r2 : Int64} (hR : Rp Z D nL kc ks tab .lreturn (some (.long r)) w) (i : Nat) (hi : tab[i]? = some (pc, .lreturn, 1)) (hf : some r2 = some r) : Wk Z D nL kc ks w pc lv [.long r2] := by
  cases hf; exact hR i pc lv hi
theorem k_vret {σ : Type} {wf : σ → va_W} {u u2 : σ} (hR : Rp Z D nL kc ks tab .return_ none (wf u)) (i : Nat) (hi : tab[i]? = some (pc, .return_, 1)) (hf : some u2 = some u) : Wk Z D nL kc ks (wf u2) pc lv [] := by
  cases hf; exact hR i pc lv hi
end
