/-! methods that make cells and answer: copyOf, Rule's constructor, rule -/
def Cg (l : Launch) (D : va_G) (cy : Nat → ClassId) (y : MethodName) (cc : ByteArray) (nL : Nat) (rt : Option FieldType) (fr lo mc ms : Nat) (av : List Value) (w0 : va_W) (rv : (Nat → Nat) → Option Value) (w1 : (Nat → Nat) → va_W) : Prop :=
  ∀ sz : Nat, Met l y (.code y cc nL rt :: TG) ({ frames := fr, cells := mc, slots := ms, locals := lo }) (va_Pc av (fun U => (U.heap.size = sz ∧ va_P D vwCl w0 U.heap ∧ va_K D vwCl (tys cy) U ∧ va_D (fun _ => True) w0 ∧ Ev cy (va_A w0 sz) U U.heap) ∧ Ew U)) (fun _ st oc t => ∃ ad : Nat → Nat, oc = .returned (rv ad) ∧ va_P D vwCl (w1 ad) t.heap ∧ va_D (va_A w0 sz) (w1 ad) ∧ va_F (va_A w0 sz) st t) mc ms (va_A w0 sz)
section
variable {l : Launch} {D : va_G} {cy : Nat → ClassId} {y : MethodName} {cc : ByteArray} {nL fr lo mc ms : Nat} {av : List Value} {w0 : va_W} {w1 : (Nat → Nat) → va_W}
theorem Cg_of {rt : Option FieldType} {rv : (Nat → Nat) → Option Value} {ins : Instr} (tab : List (Nat × Instr × Nat)) (htab : ∀ q ∈ tab, decode cc q.1 = .ok (q.2.1, q.2.2)) (hy : plainName y.cls = true) (hlen : (lg_sl av).length ≤ nL)
    (hret : ∀ (ad : Nat → Nat) (p : Program) (e : Env) (R : Room) (s : State) (m : MethodId) (args : Array Value) (below : List Frame) (meth : Method) (c : Code) (H : Heap) (locs : List Loc) (Qc : Array Value → State → Outcome → State → Prop) (free : Addr → Prop), p.tables.exec = Jvm.exec → meth.sig.returnType = rt → meth.locks = false → (∀ t : State, t.heap = H → s.WarmedH t.vm → Qc args s (.returned (rv ad)) t) → (∀ q ∈ locs, free q.base) → ∀ (pc : Nat) (ls : Array Slot), decode c.code pc = .ok (ins, 1) → W p l e R s m args below meth c H locs mc ms (MQ below Qc args s mc ms free) (F0 m pc ls (rv ad).toList))
    (h : ∀ Z : Cz, Z.2.1 = l → Cx Z D cy y.cls tab nL fr lo mc ms → Ew (zS Z) → (meth_name : (zM Z).name = y.name) → (∀ (i pc : Nat) (lv : List (Nat × Value)) (ad : Nat → Nat), tab[i]? = some (pc, ins, 1) → Wk Z D nL mc ms (w1 ad) pc lv (rv ad).toList) → Wk Z D nL 0 0 w0 0 (lv_args 0 av) []) : Cg l D cy y cc nL rt fr lo mc ms av w0 rv w1 := by
  intro sz
  refine Met.ofW (cc := cc) (maxL := nL) (ret := rt) hy rfl ?_
  intro p e s m args below meth c s₁ B hml hv
  obtain ⟨rfl, ⟨hsz, hP, hK, hD0, hEv⟩, hEw⟩ := hv
  have hx := B.exec
  have hb := B.bytes
  have hr := B.returns
  have hts := atoms_spec (ws := .code y cc nL rt :: TG) B.pre
  have hown : s.vm.findClass y.cls = some m.cls := findClass_of_methodNamed B.named
  have hlocks := B.notSynchronized
  have hinn : meth.name = y.name := (name_of_methodNamed B.named B.method).1
  subst hsz
  have hD := hD0.self (sz := s.heap.size)
  have htb : ∀ (pc : Nat) (ins : Instr) (len : Nat), (pc, ins, len) ∈ tab → decode c.code pc = .ok (ins, len) := by
    intro pc ins len hq
    have h9 := htab (pc, ins, len) hq
    rw [hb]
    exact h9
  have Zc : Cx (p, l, e, (headSpec (.code y cc nL rt :: TG) ({ frames := fr, cells := mc, slots := ms, locals := lo })).room, s, m, av.toArray, below, meth, c, va_A w0 s.heap.size, MQ below (fun _ st oc t => ∃ ad : Nat → Nat, oc = .returned (rv ad) ∧ va_P D vwCl (w1 ad) t.heap ∧ va_D (va_A w0 s.heap.size) (w1 ad) ∧ va_F (va_A w0 s.heap.size) st t) av.toArray s mc ms (va_A w0 s.heap.size)) D cy y.cls tab nL fr lo mc ms :=
    ⟨hx, htb, fun w hw => hts w (List.mem_cons_of_mem _ hw), hown, hml, hK, fun q h => Or.inr h, Nat.le_refl _, Nat.le_refl _, Nat.le_refl _, Nat.le_refl _, hEv⟩
  have key := h _ rfl Zc hEw hinn (by
    intro i pc lv ad hi H locs ls hP hD hS hl
    exact hret ad p e _ s m _ below meth c H locs _ _ hx hr hlocks (fun t ht hW => ⟨ad, rfl, by rw [ht]; exact hP, hD, hS.F ht⟩) hS.2.2 pc ls (htb _ _ _ (List.mem_of_getElem? hi)))
  rw [lg_entry_eq]
  exact key s.heap [] _ hP hD va_S.rf (lv_entry av hlen)
end
theorem cell_congr {cA : ClassId} {N : Nat} {f g : Nat → Int32} (h : ∀ j, j < N → f j = g j) : vp_cell cA (N, .inl f) = vp_cell cA (N, .inl g) := by
  show arrV cA N (fun j => .int (f j)) = arrV cA N (fun j => .int (g j))
  unfold arrV
  congr 2
  funext j
  dsimp only
  rw [h j.val j.isLt]
section
variable {Z : Cz} {D : va_G} {cy : Nat → ClassId} {own : String} {tab : List (Nat × Instr × Nat)} {nL fr lo mc ms kc ks : Nat} {w : va_W} {pc : Nat} {lv : List (Nat × Value)} {st : List Value}
theorem k_widen {kc2 ks2 : Nat} (h1 : kc ≤ kc2) (h2 : ks ≤ ks2) (h : Wk Z D nL kc2 ks2 w pc lv st) : Wk Z D nL kc ks w pc lv st := by
  obtain ⟨p, l, e, R, s, m, args, below, meth, c, A, Q⟩ := Z
  intro H locs ls hP hD hS hl
  exact W.widen h1 h2 (h H locs ls hP hD hS hl)
/-- an array's places behind its end are no matter -/
theorem k_arr (q : Nat) {a N : Nat} {cA : ClassId} {f g : Nat → Int32} (he : w[q]? = some (a, .inl (cA, N, .inl f))) (hfg : ∀ j, j < N → f j = g j) {w2 : va_W} (hw : w.set q (a, .inl (cA, N, .inl g)) = w2) (h : Wk Z D nL kc ks w2 pc lv st) : Wk Z D nL kc ks w pc lv st := by
  subst hw
  obtain ⟨p, l, e, R, s, m, args, below, meth, c, A, Q⟩ := Z
  intro H locs ls hP hD hS hl
  obtain ⟨hq, hqe⟩ := List.getElem?_eq_some_iff.mp he
  refine h H locs ls ?_ ?_ hS hl
  · intro k x hx
    rw [List.getElem?_set] at hx
    by_cases hk : q = k
    · subst hk
      rw [if_pos rfl, if_pos hq] at hx
      cases hx
      have h9 := hP q _ he
      show H[a]? = some (vp_cell cA (N, .inl g))
      rw [← cell_congr hfg]
      exact h9
    · rw [if_neg hk] at hx
      exact hP k x hx
  · have h1 : (w.set q (a, .inl (cA, N, .inl g))).map Prod.fst = w.map Prod.fst := by
      rw [List.map_set]
      apply List.ext_getElem?
      intro k
      rw [List.getElem?_set]
      by_cases hk : q = k
      · subst hk
        rw [if_pos rfl, if_pos (by rw [List.length_map]; exact hq), List.getElem?_map, he]
        rfl
      · rw [if_neg hk]
    have hD' := vaD_iff.mp hD
    refine vaD_iff.mpr ⟨by rw [h1]; exact hD'.1, fun x hx => ?_⟩
    have hm : x.1 ∈ (w.set q (a, .inl (cA, N, .inl g))).map Prod.fst := List.mem_map_of_mem hx
    rw [h1] at hm
    obtain ⟨y, hy, hyx⟩ := List.mem_map.mp hm
    rw [← hyx]
    exact hD'.2 y hy
theorem k_clone (C : Cx Z D cy RJ7 tab nL fr lo mc ms) (hE : Ew (zS Z)) (i : Nat) (hi : tab[i]? = some (pc, .invokevirtual 316, 3)) (hwd : Cond.methodLink RJ7 316 ⟨"[I", "clone", "()Ljava/lang/Object;"⟩ ∈ TG ∧ Cond.sameMethod "[I" "java/lang/Object" "clone" "()Ljava/lang/Object;" ∈ TG ∧ Cond.native ⟨"java/lang/Object", "clone", "()Ljava/lang/Object;"⟩ ∈ TG ∧ Cond.instanceMethod ⟨"java/lang/Object", "clone", "()Ljava/lang/Object;"⟩ ∈ TG ∧ Cond.selects "[I" ⟨"[I", "clone", "()Ljava/lang/Object;"⟩ ⟨"java/lang/Object", "clone", "()Ljava/lang/Object;"⟩ ∈ TG) (q : Nat) {a n : Nat} {f : Nat → Int32} (he : w[q]? = some (a, .inl (cy 1, n, .inl f))) (hf1 : 1 ≤ fr) (hl1 : 40 ≤ lo) (hsm : (st.map fun v => v.category).sum ≤ 8) (hR : kc + 1 ≤ mc ∧ ks + n ≤ ms) (h : ∀ x, Wk Z D nL (kc + 1) (ks + n) (w ++ [(x, .inl (cy 1, n, .inl f))]) (pc + 3) lv (.ref x :: st)) : Wk Z D nL kc ks w pc lv (.ref a :: st) := by
  obtain ⟨p, l, e, R, s, m, args, below, meth, c, A, Q⟩ := Z
  obtain ⟨hx, hd, hts, hown, hml, hK, hA, hfr, hlo, hmc, hms, hEv⟩ := C
  have hd1 := hd _ _ _ (List.mem_of_getElem? hi)
  intro H locs ls hP hD hS hl
  have hnm : s.vm.findClass "[I" = some (cy 1) := (hK.2 1 (cy 1, .int) rfl).2
  refine va_clone hx rfl (hml.trans hl.1.symm) hown (hts _ hwd.1) (hts _ hwd.2.1) (hts _ hwd.2.2.1) (hts _ hwd.2.2.2.1) (hts _ hwd.2.2.2.2) hE.2.2.2.2.2.2.2.2 hK hP hD hS hA q 1 he rfl hnm ?_ (by omega) (by omega) (Nat.le_trans hR.1 hmc) (Nat.le_trans hR.2 hms) hd1 ?_
  · intro j v hv
    have hv2 : (arrV (cy 1) n (fun j => .int (f j))).slots[j]? = some v := hv
    have hj : j < n := by
      have := (Array.getElem?_eq_some_iff.mp hv2).1
      rw [arrV_size] at this
      exact this
    rw [arrV_read _ _ hj] at hv2
    cases hv2
    rfl
  · intro x H1 hK2 hP hD hS
    exact h x H1 locs ls hP hD hS hl
theorem k_castI (C : Cx Z D cy own tab nL fr lo mc ms) (i : Nat) {idx : Nat} (hi : tab[i]? = some (pc, .checkcast idx, 3)) (hlk : Cond.classLink own idx "[I" ∈ TG) (q : Nat) {a : Nat} {x : vp_A} (he : w[q]? = some (a, .inl (cy 1, x))) (h : Wk Z D nL kc ks w (pc + 3) lv (.ref a :: st)) : Wk Z D nL kc ks w pc lv (.ref a :: st) := by
  obtain ⟨p, l, e, R, s, m, args, below, meth, c, A, Q⟩ := Z
  obtain ⟨hx, hd, hts, hown, hml, hK, hA, hfr, hlo, hmc, hms, hEv⟩ := C
  have hd1 := hd _ _ _ (List.mem_of_getElem? hi)
  intro H locs ls hP hD hS hl
  have hnm : s.vm.findClass "[I" = some (cy 1) := (hK.2 1 (cy 1, .int) rfl).2
  exact va_castA hx rfl hown (hts _ hlk) hP q he hnm hd1 (h H locs ls hP hD hS hl)
end
