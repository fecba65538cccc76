/-! a walk over a world that is an explicit list of cells; the machine's names in one tuple -/
abbrev Cz : Type := Program × Launch × Env × Room × State × MethodId × Array Value × List Frame × Method × Code × (Nat → Prop) × (State → Prop)
def tys (cy : Nat → ClassId) : List (ClassId × FieldType) := [(cy 0, .byte), (cy 1, .int), (cy 2, .long), (cy 3, .boolean), (cy 4, .object RX2), (cy 5, .object RX4), (cy 6, .object RX10)]
/-! what was there ahead of the law and stays: the one String constant, and two statics (cy 10: the String, cy 11: its bytes) -/
def WT : String := "train dest stop parting shut trolley seats rider told platform inside outside stay if and or not coach second left right near halt loads pace full moved"
def WB : List Int32 := [116, 114, 97, 105, 110, 32, 100, 101, 115, 116, 32, 115, 116, 111, 112, 32, 112, 97, 114, 116, 105, 110, 103, 32, 115, 104, 117, 116, 32, 116, 114, 111, 108, 108, 101, 121, 32, 115, 101, 97, 116, 115, 32, 114, 105, 100, 101, 114, 32, 116, 111, 108, 100, 32, 112, 108, 97, 116, 102, 111, 114, 109, 32, 105, 110, 115, 105, 100, 101, 32, 111, 117, 116, 115, 105, 100, 101, 32, 115, 116, 97, 121, 32, 105, 102, 32, 97, 110, 100, 32, 111, 114, 32, 110, 111, 116, 32, 99, 111, 97, 99, 104, 32, 115, 101, 99, 111, 110, 100, 32, 108, 101, 102, 116, 32, 114, 105, 103, 104, 116, 32, 110, 101, 97, 114, 32, 104, 97, 108, 116, 32, 108, 111, 97, 100, 115, 32, 112, 97, 99, 101, 32, 102, 117, 108, 108, 32, 109, 111, 118, 101, 100]
def Ev (cy : Nat → ClassId) (A : Nat → Prop) (U : State) (H : Heap) : Prop := vk_S 1 [152] [WB] (fun _ => cy 10) (fun _ => cy 11) A U H ∧ vk_R RX8 62 WT (cy 10) U ∧ va_Z "java/lang/String" "COMPACT_STRINGS" "Z" (.int 1) A U H ∧ va_Zq "jdk/internal/util/Preconditions" "SIOOBE_FORMATTER" "Ljava/util/function/BiFunction;" A U H
set_option maxHeartbeats 100000 in
theorem Ev.go {cy : Nat → ClassId} {A B : Nat → Prop} {s U : State} {H0 H : Heap} (h : Ev cy A s H0) (hq : ∀ q : Nat, q < H0.size → ¬ A q → H[q]? = H0[q]?) (hAB : ∀ q, B q → A q) (hW : s.WarmedH U.vm) : Ev cy B U H :=
  ⟨((h.1.kept hq).narrow hAB).moved hW.alike, h.2.1.warm hW, ((h.2.2.1.kept hq).narrow hAB).moved hW.alike, ((h.2.2.2.kept hq).narrow hAB).moved hW.alike⟩
set_option maxHeartbeats 100000 in
theorem Ev.call {cy : Nat → ClassId} {A : Nat → Prop} {U : State} {g : JFrame} {mk : MethodId} {a : Array Value} (h : Ev cy A U U.heap) : Ev cy A (U.calling g mk a) (U.calling g mk a).heap :=
  ⟨h.1.moved (Vm.Alike.refl U.vm), h.2.1.same rfl, h.2.2.1.moved (Vm.Alike.refl U.vm), h.2.2.2.moved (Vm.Alike.refl U.vm)⟩
def Cx (Z : Cz) (D : va_G) (cy : Nat → ClassId) (own : String) (tab : List (Nat × Instr × Nat)) (nL fr lo mc ms : Nat) : Prop :=
  match Z with
  | (p, _, _, R, s, m, args, _, _, c, A, _) => p.tables.exec = Jvm.exec ∧ (∀ (pc : Nat) (ins : Instr) (len : Nat), (pc, ins, len) ∈ tab → decode c.code pc = .ok (ins, len)) ∧ (∀ w ∈ TG, w.before args s = true) ∧ s.vm.findClass own = some m.cls ∧ c.maxLocals = nL ∧ va_K D vwCl (tys cy) s ∧ (∀ q, s.heap.size ≤ q → A q) ∧ fr ≤ R.frames ∧ lo ≤ R.locals ∧ mc ≤ R.cells ∧ ms ≤ R.slots ∧ Ev cy A s s.heap
def Wk (Z : Cz) (D : va_G) (nL kc ks : Nat) (w : va_W) (pc : Nat) (lv : List (Nat × Value)) (st : List Value) : Prop :=
  match Z with
  | (p, l, e, R, s, m, args, below, meth, c, A, Q) => ∀ (H : Heap) (locs : List Loc) (ls : Array Slot), va_P D vwCl w H → va_D A w → va_S A s.heap H locs → lv_has ls nL lv → W p l e R s m args below meth c H locs kc ks Q (F0 m pc ls st)
/-- what a method says: it ends with just this answer, and the world is just this one -/
def Ct (l : Launch) (D : va_G) (cy : Nat → ClassId) (y : MethodName) (cc : ByteArray) (nL : Nat) (rt : Option FieldType) (fr lo mc ms : Nat) (av : List Value) (w0 : va_W) (rv : Option Value) (w1 : va_W) : Prop :=
  ∀ sz : Nat, Met l y (.code y cc nL rt :: TG) ({ frames := fr, cells := mc, slots := ms, locals := lo }) (va_Pc av (fun U => U.heap.size = sz ∧ va_P D vwCl w0 U.heap ∧ va_K D vwCl (tys cy) U ∧ va_D (fun _ => True) w0 ∧ Ev cy (va_A w0 sz) U U.heap)) (fun _ st oc t => oc = .returned rv ∧ va_P D vwCl w1 t.heap ∧ va_D (va_A w0 sz) w1 ∧ va_F (va_A w0 sz) st t) mc ms (va_A w0 sz)
/-! combinators of the plain functions -/
def bnd {α β : Type} (x : α) (f : α → β) : β := f x
def ob1 {α γ : Type} (x : Option α) (f : α → Option γ) : Option γ := x.bind f
def ob2 {α β γ : Type} (x : Option (α × β)) (f : α → β → Option γ) : Option γ := x.bind (fun z => f z.1 z.2)
def lp {σ ρ : Type} (F : (σ → Option ρ) → σ → Option ρ) : Nat → σ → Option ρ
  | 0, _ => none
  | n + 1, s => F (lp F n) s
def FU : Nat := 5000
def bI (b : Bool) : Int32 := if b then 1 else 0
set_option maxHeartbeats 100000 in
theorem ob1_some {α γ : Type} {x : Option α} {f : α → Option γ} {o : γ} (h : ob1 x f = some o) : ∃ a, x = some a ∧ f a = some o := by
  cases x with
  | none => cases h
  | some a => exact ⟨a, rfl, h⟩
set_option maxHeartbeats 100000 in
theorem ob2_some {α β γ : Type} {x : Option (α × β)} {f : α → β → Option γ} {o : γ} (h : ob2 x f = some o) : ∃ a b, x = some (a, b) ∧ f a b = some o := by
  cases x with
  | none => cases h
  | some z => exact ⟨z.1, z.2, rfl, h⟩
set_option maxHeartbeats 100000 in
theorem if_t {γ : Type} {c : Prop} [Decidable c] {x y o : γ} (h : (if c then x else y) = o) (hc : c) : x = o := by rw [if_pos hc] at h; exact h
set_option maxHeartbeats 100000 in
theorem if_f {γ : Type} {c : Prop} [Decidable c] {x y o : γ} (h : (if c then x else y) = o) (hc : ¬ c) : y = o := by rw [if_neg hc] at h; exact h
set_option maxHeartbeats 100000 in
theorem if_n {γ : Type} {c : Prop} [Decidable c] {x : Option γ} {o : γ} (h : (if c then x else none) = some o) : c ∧ x = some o := by
  by_cases hc : c
  · exact ⟨hc, if_t h hc⟩
  · have := if_f h hc; cases this
set_option maxHeartbeats 100000 in
theorem bnd_some {α β : Type} {x : α} {f : α → β} {o : β} (h : bnd x f = o) : ∃ z, x = z ∧ f z = o := ⟨x, rfl, h⟩
set_option maxHeartbeats 100000 in
theorem vaP_iff {D : va_G} {ws : va_W} {H : Heap} : va_P D vwCl ws H ↔ ∀ q ∈ ws, va_at D vwCl q H := by
  constructor
  · intro h q hq
    obtain ⟨k, hk⟩ := List.getElem?_of_mem hq
    exact h k q hk
  · intro h k q hk
    exact h q (List.mem_of_getElem? hk)
set_option maxHeartbeats 100000 in
theorem vaD_iff {A : Nat → Prop} {ws : va_W} : va_D A ws ↔ (ws.map Prod.fst).Nodup ∧ ∀ q ∈ ws, A q.1 := by
  constructor
  · rintro ⟨h1, h2⟩
    refine ⟨?_, fun q hq => ?_⟩
    · unfold List.Nodup
      rw [List.pairwise_iff_getElem]
      intro i j hi hj hij he
      rw [List.length_map] at hi hj
      rw [List.getElem_map, List.getElem_map] at he
      have := h1 i j ws[i] ws[j] (List.getElem?_eq_getElem hi) (List.getElem?_eq_getElem hj) he
      omega
    · obtain ⟨k, hk⟩ := List.getElem?_of_mem hq
      exact h2 k q hk
  · rintro ⟨h1, h2⟩
    refine ⟨?_, fun k q hk => h2 q (List.mem_of_getElem? hk)⟩
    intro i j p q hi hj he
    unfold List.Nodup at h1
    rw [List.pairwise_iff_getElem] at h1
    obtain ⟨hi', rfl⟩ := List.getElem?_eq_some_iff.mp hi
    obtain ⟨hj', rfl⟩ := List.getElem?_eq_some_iff.mp hj
    rcases Nat.lt_trichotomy i j with h | h | h
    · exact absurd (by rw [List.getElem_map, List.getElem_map]; exact he) (h1 i j (by rw [List.length_map]; exact hi') (by rw [List.length_map]; exact hj') h)
    · exact h
    · exact absurd (by rw [List.getElem_map, List.getElem_map]; exact he.symm) (h1 j i (by rw [List.length_map]; exact hj') (by rw [List.length_map]; exact hi') h)
set_option maxHeartbeats 100000 in
theorem vaA_iff {ws : va_W} {sz q : Nat} : va_A ws sz q ↔ (q ∈ ws.map Prod.fst) ∨ sz ≤ q := by
  unfold va_A
  constructor
  · rintro (⟨k, e, h⟩ | h)
    · exact Or.inl (List.mem_map.mpr ⟨(q, e), List.mem_of_getElem? h, rfl⟩)
    · exact Or.inr h
  · rintro (h | h)
    · obtain ⟨⟨q', e⟩, h1, rfl⟩ := List.mem_map.mp h
      obtain ⟨k, hk⟩ := List.getElem?_of_mem h1
      exact Or.inl ⟨k, e, hk⟩
    · exact Or.inr h
set_option maxHeartbeats 100000 in
theorem k_join {A : Nat → Prop} {D : va_G} {X w0 w1 Y : va_W} {H H1 : Heap} (hP : va_P D vwCl (X ++ w0 ++ Y) H) (hD : va_D A (X ++ w0 ++ Y)) (hk : ∀ q : Nat, q < H.size → ¬ va_A w0 H.size q → H1[q]? = H[q]?) (hP1 : va_P D vwCl w1 H1) (hD1 : va_D (va_A w0 H.size) w1) (hA : ∀ q, va_A w0 H.size q → A q) : va_P D vwCl (X ++ w1 ++ Y) H1 ∧ va_D A (X ++ w1 ++ Y) := by
  rw [vaP_iff] at hP hP1 ⊢
  rw [vaD_iff] at hD hD1 ⊢
  obtain ⟨hn, hAw⟩ := hD
  rw [List.map_append, List.map_append, List.nodup_append, List.nodup_append] at hn
  obtain ⟨⟨nX, n0, nX0⟩, nY, n0Y⟩ := hn
  have oldlt : ∀ q ∈ X ++ w0 ++ Y, q.1 < H.size := fun q hq => (hP q hq).lt
  have inX : ∀ q ∈ X, q ∈ X ++ w0 ++ Y := fun q h => List.mem_append_left _ (List.mem_append_left _ h)
  have inY : ∀ q ∈ Y, q ∈ X ++ w0 ++ Y := fun q h => List.mem_append_right _ h
  have apX : ∀ q ∈ X, ¬ va_A w0 H.size q.1 := by
    intro q hq h
    rcases vaA_iff.mp h with h | h
    · exact nX0 q.1 (List.mem_map_of_mem hq) q.1 h rfl
    · exact absurd (oldlt q (inX q hq)) (by omega)
  have apY : ∀ q ∈ Y, ¬ va_A w0 H.size q.1 := by
    intro q hq h
    rcases vaA_iff.mp h with h | h
    · exact n0Y q.1 (List.mem_append_right _ h) q.1 (List.mem_map_of_mem hq) rfl
    · exact absurd (oldlt q (inY q hq)) (by omega)
  refine ⟨fun q hq => ?_, ?_, fun q hq => ?_⟩
  · rcases List.mem_append.mp hq with h | h
    · rcases List.mem_append.mp h with h | h
      · exact (hP q (inX q h)).kept (hk q.1 (oldlt q (inX q h)) (apX q h))
      · exact hP1 q h
    · exact (hP q (inY q h)).kept (hk q.1 (oldlt q (inY q h)) (apY q h))
  · rw [List.map_append, List.map_append, List.nodup_append, List.nodup_append]
    refine ⟨⟨nX, hD1.1, fun a ha b hb he => ?_⟩, nY, fun a ha b hb he => ?_⟩
    · obtain ⟨q, hq, rfl⟩ := List.mem_map.mp ha
      obtain ⟨q', hq', rfl⟩ := List.mem_map.mp hb
      exact apX q hq (by rw [he]; exact hD1.2 q' hq')
    · rcases List.mem_append.mp ha with ha | ha
      · exact n0Y a (List.mem_append_left _ ha) b hb he
      · obtain ⟨q, hq, rfl⟩ := List.mem_map.mp ha
        obtain ⟨q', hq', rfl⟩ := List.mem_map.mp hb
        exact apY q' hq' (by rw [← he]; exact hD1.2 q hq)
  · rcases List.mem_append.mp hq with h | h
    · rcases List.mem_append.mp h with h | h
      · exact hAw q (inX q h)
      · exact hA q.1 (hD1.2 q h)
    · exact hAw q (inY q h)
set_option maxHeartbeats 100000 in
theorem k_part {A : Nat → Prop} {D : va_G} {X w0 Y : va_W} {H : Heap} (hP : va_P D vwCl (X ++ w0 ++ Y) H) (hD : va_D A (X ++ w0 ++ Y)) : va_P D vwCl w0 H ∧ va_D A w0 := by
  rw [vaP_iff] at hP ⊢
  rw [vaD_iff] at hD ⊢
  obtain ⟨hn, hAw⟩ := hD
  rw [List.map_append, List.map_append, List.nodup_append, List.nodup_append] at hn
  exact ⟨fun q hq => hP q (List.mem_append_left _ (List.mem_append_right _ hq)), hn.1.2.1, fun q hq => hAw q (List.mem_append_left _ (List.mem_append_right _ hq))⟩
section
variable {Z : Cz} {D : va_G} {cy : Nat → ClassId} {own : String} {tab : List (Nat × Instr × Nat)} {nL fr lo mc ms kc ks : Nat} {w : va_W} {pc : Nat} {lv : List (Nat × Value)} {st : List Value}
set_option maxHeartbeats 100000 in
theorem k_iconst (C : Cx Z D cy own tab nL fr lo mc ms) (i : Nat) {n : Int} {v : Int32} (hi : tab[i]? = some (pc, .iconst n, 1)) (hv : Int32.ofInt n = v) (h : Wk Z D nL kc ks w (pc + 1) lv (.int v :: st)) : Wk Z D nL kc ks w pc lv st := by
  obtain ⟨p, l, e, R, s, m, args, below, meth, c, A, Q⟩ := Z
  obtain ⟨hx, hd, hts, hown, hml, hK, hA, hfr, hlo, hmc, hms, hEv⟩ := C
  have hd1 := hd _ _ _ (List.mem_of_getElem? hi)
  intro H locs ls hP hD hS hl
  exact lv_iconst hx rfl hd1 hv (h H locs ls hP hD hS hl)
set_option maxHeartbeats 100000 in
theorem k_bipush (C : Cx Z D cy own tab nL fr lo mc ms) (i : Nat) {n : Int} {v : Int32} (hi : tab[i]? = some (pc, .bipush n, 2)) (hv : (Int8.ofInt n).toInt32 = v) (h : Wk Z D nL kc ks w (pc + 2) lv (.int v :: st)) : Wk Z D nL kc ks w pc lv st := by
  obtain ⟨p, l, e, R, s, m, args, below, meth, c, A, Q⟩ := Z
  obtain ⟨hx, hd, hts, hown, hml, hK, hA, hfr, hlo, hmc, hms, hEv⟩ := C
  have hd1 := hd _ _ _ (List.mem_of_getElem? hi)
  intro H locs ls hP hD hS hl
  exact lv_bipush hx rfl hd1 hv (h H locs ls hP hD hS hl)
set_option maxHeartbeats 100000 in
theorem k_sipush (C : Cx Z D cy own tab nL fr lo mc ms) (i : Nat) {n : Int} {v : Int32} (hi : tab[i]? = some (pc, .sipush n, 3)) (hv : (Int16.ofInt n).toInt32 = v) (h : Wk Z D nL kc ks w (pc + 3) lv (.int v :: st)) : Wk Z D nL kc ks w pc lv st := by
  obtain ⟨p, l, e, R, s, m, args, below, meth, c, A, Q⟩ := Z
  obtain ⟨hx, hd, hts, hown, hml, hK, hA, hfr, hlo, hmc, hms, hEv⟩ := C
  have hd1 := hd _ _ _ (List.mem_of_getElem? hi)
  intro H locs ls hP hD hS hl
  exact lv_sipush hx rfl hd1 hv (h H locs ls hP hD hS hl)
set_option maxHeartbeats 100000 in
theorem k_lconst0 (C : Cx Z D cy own tab nL fr lo mc ms) (i : Nat) (hi : tab[i]? = some (pc, .lconst 0, 1)) (h : Wk Z D nL kc ks w (pc + 1) lv (.long 0 :: st)) : Wk Z D nL kc ks w pc lv st := by
  obtain ⟨p, l, e, R, s, m, args, below, meth, c, A, Q⟩ := Z
  obtain ⟨hx, hd, hts, hown, hml, hK, hA, hfr, hlo, hmc, hms, hEv⟩ := C
  have hd1 := hd _ _ _ (List.mem_of_getElem? hi)
  intro H locs ls hP hD hS hl
  exact lv_lconst hx rfl hd1 rfl (h H locs ls hP hD hS hl)
set_option maxHeartbeats 100000 in
theorem k_lconst1 (C : Cx Z D cy own tab nL fr lo mc ms) (i : Nat) (hi : tab[i]? = some (pc, .lconst 1, 1)) (h : Wk Z D nL kc ks w (pc + 1) lv (.long 1 :: st)) : Wk Z D nL kc ks w pc lv st := by
  obtain ⟨p, l, e, R, s, m, args, below, meth, c, A, Q⟩ := Z
  obtain ⟨hx, hd, hts, hown, hml, hK, hA, hfr, hlo, hmc, hms, hEv⟩ := C
  have hd1 := hd _ _ _ (List.mem_of_getElem? hi)
  intro H locs ls hP hD hS hl
  exact lv_lconst hx rfl hd1 rfl (h H locs ls hP hD hS hl)
set_option maxHeartbeats 100000 in
theorem k_ldc (C : Cx Z D cy own tab nL fr lo mc ms) (i : Nat) {n : Nat} {v : Int32} (hi : tab[i]? = some (pc, .ldc n, 2)) (hc : Cond.constant own n v ∈ TG) (h : Wk Z D nL kc ks w (pc + 2) lv (.int v :: st)) : Wk Z D nL kc ks w pc lv st := by
  obtain ⟨p, l, e, R, s, m, args, below, meth, c, A, Q⟩ := Z
  obtain ⟨hx, hd, hts, hown, hml, hK, hA, hfr, hlo, hmc, hms, hEv⟩ := C
  have hd1 := hd _ _ _ (List.mem_of_getElem? hi)
  intro H locs ls hP hD hS hl
  exact lv_ldc hx rfl hown (hts _ hc) hd1 (h H locs ls hP hD hS hl)
set_option maxHeartbeats 100000 in
theorem k_ldcw (C : Cx Z D cy own tab nL fr lo mc ms) (i : Nat) {n : Nat} {v : Int32} (hi : tab[i]? = some (pc, .ldc_w n, 3)) (hc : Cond.constant own n v ∈ TG) (h : Wk Z D nL kc ks w (pc + 3) lv (.int v :: st)) : Wk Z D nL kc ks w pc lv st := by
  obtain ⟨p, l, e, R, s, m, args, below, meth, c, A, Q⟩ := Z
  obtain ⟨hx, hd, hts, hown, hml, hK, hA, hfr, hlo, hmc, hms, hEv⟩ := C
  have hd1 := hd _ _ _ (List.mem_of_getElem? hi)
  intro H locs ls hP hD hS hl
  exact lv_ldcw hx rfl hown (hts _ hc) hd1 (h H locs ls hP hD hS hl)
set_option maxHeartbeats 100000 in
theorem k_ldc2 (C : Cx Z D cy own tab nL fr lo mc ms) (i : Nat) {n : Nat} {v : Int64} (hi : tab[i]? = some (pc, .ldc2_w n, 3)) (hc : Cond.constantLong own n v ∈ TG) (h : Wk Z D nL kc ks w (pc + 3) lv (.long v :: st)) : Wk Z D nL kc ks w pc lv st := by
  obtain ⟨p, l, e, R, s, m, args, below, meth, c, A, Q⟩ := Z
  obtain ⟨hx, hd, hts, hown, hml, hK, hA, hfr, hlo, hmc, hms, hEv⟩ := C
  have hd1 := hd _ _ _ (List.mem_of_getElem? hi)
  intro H locs ls hP hD hS hl
  exact lv_ldc2 hx rfl hown (hts _ hc) hd1 (h H locs ls hP hD hS hl)
set_option maxHeartbeats 100000 in
theorem k_iload_0 (C : Cx Z D cy own tab nL fr lo mc ms) (i : Nat) {x : Int32} (hi : tab[i]? = some (pc, .iload_n 0, 1)) (j : Nat) (hj : lv[j]? = some (0, .int x)) (h : Wk Z D nL kc ks w (pc + 1) lv (.int x :: st)) : Wk Z D nL kc ks w pc lv st := by
  obtain ⟨p, l, e, R, s, m, args, below, meth, c, A, Q⟩ := Z
  obtain ⟨hx, hd, hts, hown, hml, hK, hA, hfr, hlo, hmc, hms, hEv⟩ := C
  have hd1 := hd _ _ _ (List.mem_of_getElem? hi)
  intro H locs ls hP hD hS hl
  exact lv_iload_n hx rfl hd1 rfl (lv_at hl j hj) (h H locs ls hP hD hS hl)
set_option maxHeartbeats 100000 in
theorem k_iload_1 (C : Cx Z D cy own tab nL fr lo mc ms) (i : Nat) {x : Int32} (hi : tab[i]? = some (pc, .iload_n 1, 1)) (j : Nat) (hj : lv[j]? = some (1, .int x)) (h : Wk Z D nL kc ks w (pc + 1) lv (.int x :: st)) : Wk Z D nL kc ks w pc lv st := by
  obtain ⟨p, l, e, R, s, m, args, below, meth, c, A, Q⟩ := Z
  obtain ⟨hx, hd, hts, hown, hml, hK, hA, hfr, hlo, hmc, hms, hEv⟩ := C
  have hd1 := hd _ _ _ (List.mem_of_getElem? hi)
  intro H locs ls hP hD hS hl
  exact lv_iload_n hx rfl hd1 rfl (lv_at hl j hj) (h H locs ls hP hD hS hl)
set_option maxHeartbeats 100000 in
theorem k_iload_2 (C : Cx Z D cy own tab nL fr lo mc ms) (i : Nat) {x : Int32} (hi : tab[i]? = some (pc, .iload_n 2, 1)) (j : Nat) (hj : lv[j]? = some (2, .int x)) (h : Wk Z D nL kc ks w (pc + 1) lv (.int x :: st)) : Wk Z D nL kc ks w pc lv st := by
  obtain ⟨p, l, e, R, s, m, args, below, meth, c, A, Q⟩ := Z
  obtain ⟨hx, hd, hts, hown, hml, hK, hA, hfr, hlo, hmc, hms, hEv⟩ := C
  have hd1 := hd _ _ _ (List.mem_of_getElem? hi)
  intro H locs ls hP hD hS hl
  exact lv_iload_n hx rfl hd1 rfl (lv_at hl j hj) (h H locs ls hP hD hS hl)
set_option maxHeartbeats 100000 in
theorem k_iload_3 (C : Cx Z D cy own tab nL fr lo mc ms) (i : Nat) {x : Int32} (hi : tab[i]? = some (pc, .iload_n 3, 1)) (j : Nat) (hj : lv[j]? = some (3, .int x)) (h : Wk Z D nL kc ks w (pc + 1) lv (.int x :: st)) : Wk Z D nL kc ks w pc lv st := by
  obtain ⟨p, l, e, R, s, m, args, below, meth, c, A, Q⟩ := Z
  obtain ⟨hx, hd, hts, hown, hml, hK, hA, hfr, hlo, hmc, hms, hEv⟩ := C
  have hd1 := hd _ _ _ (List.mem_of_getElem? hi)
  intro H locs ls hP hD hS hl
  exact lv_iload_n hx rfl hd1 rfl (lv_at hl j hj) (h H locs ls hP hD hS hl)
set_option maxHeartbeats 100000 in
theorem k_iload (C : Cx Z D cy own tab nL fr lo mc ms) (i : Nat) {n : Nat} {x : Int32} (hi : tab[i]? = some (pc, .iload n, 2)) (j : Nat) (hj : lv[j]? = some (n, .int x)) (h : Wk Z D nL kc ks w (pc + 2) lv (.int x :: st)) : Wk Z D nL kc ks w pc lv st := by
  obtain ⟨p, l, e, R, s, m, args, below, meth, c, A, Q⟩ := Z
  obtain ⟨hx, hd, hts, hown, hml, hK, hA, hfr, hlo, hmc, hms, hEv⟩ := C
  have hd1 := hd _ _ _ (List.mem_of_getElem? hi)
  intro H locs ls hP hD hS hl
  exact lv_iload hx rfl hd1 (lv_at hl j hj) (h H locs ls hP hD hS hl)
set_option maxHeartbeats 100000 in
theorem k_istore_0 (C : Cx Z D cy own tab nL fr lo mc ms) (i : Nat) {x : Int32} {lv2 : List (Nat × Value)} (hi : tab[i]? = some (pc, .istore_n 0, 1)) (hn : 0 < nL) (hl9 : (0, Value.int x) :: lv.filter (fun q => !(q.1 == 0) && !(q.1 + 1 == 0 && q.2.category == 2)) = lv2) (h : Wk Z D nL kc ks w (pc + 1) lv2 st) : Wk Z D nL kc ks w pc lv (.int x :: st) := by
  obtain ⟨p, l, e, R, s, m, args, below, meth, c, A, Q⟩ := Z
  obtain ⟨hx, hd, hts, hown, hml, hK, hA, hfr, hlo, hmc, hms, hEv⟩ := C
  have hd1 := hd _ _ _ (List.mem_of_getElem? hi)
  intro H locs ls hP hD hS hl
  exact lv_istore_n hx rfl hd1 rfl hl hn hl9 (fun ls hl => h H locs ls hP hD hS hl)
set_option maxHeartbeats 100000 in
theorem k_istore_1 (C : Cx Z D cy own tab nL fr lo mc ms) (i : Nat) {x : Int32} {lv2 : List (Nat × Value)} (hi : tab[i]? = some (pc, .istore_n 1, 1)) (hn : 1 < nL) (hl9 : (1, Value.int x) :: lv.filter (fun q => !(q.1 == 1) && !(q.1 + 1 == 1 && q.2.category == 2)) = lv2) (h : Wk Z D nL kc ks w (pc + 1) lv2 st) : Wk Z D nL kc ks w pc lv (.int x :: st) := by
  obtain ⟨p, l, e, R, s, m, args, below, meth, c, A, Q⟩ := Z
  obtain ⟨hx, hd, hts, hown, hml, hK, hA, hfr, hlo, hmc, hms, hEv⟩ := C
  have hd1 := hd _ _ _ (List.mem_of_getElem? hi)
  intro H locs ls hP hD hS hl
  exact lv_istore_n hx rfl hd1 rfl hl hn hl9 (fun ls hl => h H locs ls hP hD hS hl)
set_option maxHeartbeats 100000 in
theorem k_istore_2 (C : Cx Z D cy own tab nL fr lo mc ms) (i : Nat) {x : Int32} {lv2 : List (Nat × Value)} (hi : tab[i]? = some (pc, .istore_n 2, 1)) (hn : 2 < nL) (hl9 : (2, Value.int x) :: lv.filter (fun q => !(q.1 == 2) && !(q.1 + 1 == 2 && q.2.category == 2)) = lv2) (h : Wk Z D nL kc ks w (pc + 1) lv2 st) : Wk Z D nL kc ks w pc lv (.int x :: st) := by
  obtain ⟨p, l, e, R, s, m, args, below, meth, c, A, Q⟩ := Z
  obtain ⟨hx, hd, hts, hown, hml, hK, hA, hfr, hlo, hmc, hms, hEv⟩ := C
  have hd1 := hd _ _ _ (List.mem_of_getElem? hi)
  intro H locs ls hP hD hS hl
  exact lv_istore_n hx rfl hd1 rfl hl hn hl9 (fun ls hl => h H locs ls hP hD hS hl)
set_option maxHeartbeats 100000 in
theorem k_istore_3 (C : Cx Z D cy own tab nL fr lo mc ms) (i : Nat) {x : Int32} {lv2 : List (Nat × Value)} (hi : tab[i]? = some (pc, .istore_n 3, 1)) (hn : 3 < nL) (hl9 : (3, Value.int x) :: lv.filter (fun q => !(q.1 == 3) && !(q.1 + 1 == 3 && q.2.category == 2)) = lv2) (h : Wk Z D nL kc ks w (pc + 1) lv2 st) : Wk Z D nL kc ks w pc lv (.int x :: st) := by
  obtain ⟨p, l, e, R, s, m, args, below, meth, c, A, Q⟩ := Z
  obtain ⟨hx, hd, hts, hown, hml, hK, hA, hfr, hlo, hmc, hms, hEv⟩ := C
  have hd1 := hd _ _ _ (List.mem_of_getElem? hi)
  intro H locs ls hP hD hS hl
  exact lv_istore_n hx rfl hd1 rfl hl hn hl9 (fun ls hl => h H locs ls hP hD hS hl)
set_option maxHeartbeats 100000 in
theorem k_istore (C : Cx Z D cy own tab nL fr lo mc ms) (i : Nat) {n : Nat} {x : Int32} {lv2 : List (Nat × Value)} (hi : tab[i]? = some (pc, .istore n, 2)) (hn : n < nL) (hl9 : (n, Value.int x) :: lv.filter (fun q => !(q.1 == n) && !(q.1 + 1 == n && q.2.category == 2)) = lv2) (h : Wk Z D nL kc ks w (pc + 2) lv2 st) : Wk Z D nL kc ks w pc lv (.int x :: st) := by
  obtain ⟨p, l, e, R, s, m, args, below, meth, c, A, Q⟩ := Z
  obtain ⟨hx, hd, hts, hown, hml, hK, hA, hfr, hlo, hmc, hms, hEv⟩ := C
  have hd1 := hd _ _ _ (List.mem_of_getElem? hi)
  intro H locs ls hP hD hS hl
  exact lv_istore hx rfl hd1 hl hn hl9 (fun ls hl => h H locs ls hP hD hS hl)
set_option maxHeartbeats 100000 in
theorem k_lload_0 (C : Cx Z D cy own tab nL fr lo mc ms) (i : Nat) {x : Int64} (hi : tab[i]? = some (pc, .lload_n 0, 1)) (j : Nat) (hj : lv[j]? = some (0, .long x)) (h : Wk Z D nL kc ks w (pc + 1) lv (.long x :: st)) : Wk Z D nL kc ks w pc lv st := by
  obtain ⟨p, l, e, R, s, m, args, below, meth, c, A, Q⟩ := Z
  obtain ⟨hx, hd, hts, hown, hml, hK, hA, hfr, hlo, hmc, hms, hEv⟩ := C
  have hd1 := hd _ _ _ (List.mem_of_getElem? hi)
  intro H locs ls hP hD hS hl
  exact lv_lload_n hx rfl hd1 rfl (lv_at hl j hj) (h H locs ls hP hD hS hl)
set_option maxHeartbeats 100000 in
theorem k_lload_1 (C : Cx Z D cy own tab nL fr lo mc ms) (i : Nat) {x : Int64} (hi : tab[i]? = some (pc, .lload_n 1, 1)) (j : Nat) (hj : lv[j]? = some (1, .long x)) (h : Wk Z D nL kc ks w (pc + 1) lv (.long x :: st)) : Wk Z D nL kc ks w pc lv st := by
  obtain ⟨p, l, e, R, s, m, args, below, meth, c, A, Q⟩ := Z
  obtain ⟨hx, hd, hts, hown, hml, hK, hA, hfr, hlo, hmc, hms, hEv⟩ := C
  have hd1 := hd _ _ _ (List.mem_of_getElem? hi)
  intro H locs ls hP hD hS hl
  exact lv_lload_n hx rfl hd1 rfl (lv_at hl j hj) (h H locs ls hP hD hS hl)
set_option maxHeartbeats 100000 in
theorem k_lload_2 (C : Cx Z D cy own tab nL fr lo mc ms) (i : Nat) {x : Int64} (hi : tab[i]? = some (pc, .lload_n 2, 1)) (j : Nat) (hj : lv[j]? = some (2, .long x)) (h : Wk Z D nL kc ks w (pc + 1) lv (.long x :: st)) : Wk Z D nL kc ks w pc lv st := by
  obtain ⟨p, l, e, R, s, m, args, below, meth, c, A, Q⟩ := Z
  obtain ⟨hx, hd, hts, hown, hml, hK, hA, hfr, hlo, hmc, hms, hEv⟩ := C
  have hd1 := hd _ _ _ (List.mem_of_getElem? hi)
  intro H locs ls hP hD hS hl
  exact lv_lload_n hx rfl hd1 rfl (lv_at hl j hj) (h H locs ls hP hD hS hl)
set_option maxHeartbeats 100000 in
theorem k_lload_3 (C : Cx Z D cy own tab nL fr lo mc ms) (i : Nat) {x : Int64} (hi : tab[i]? = some (pc, .lload_n 3, 1)) (j : Nat) (hj : lv[j]? = some (3, .long x)) (h : Wk Z D nL kc ks w (pc + 1) lv (.long x :: st)) : Wk Z D nL kc ks w pc lv st := by
  obtain ⟨p, l, e, R, s, m, args, below, meth, c, A, Q⟩ := Z
  obtain ⟨hx, hd, hts, hown, hml, hK, hA, hfr, hlo, hmc, hms, hEv⟩ := C
  have hd1 := hd _ _ _ (List.mem_of_getElem? hi)
  intro H locs ls hP hD hS hl
  exact lv_lload_n hx rfl hd1 rfl (lv_at hl j hj) (h H locs ls hP hD hS hl)
set_option maxHeartbeats 100000 in
theorem k_lload (C : Cx Z D cy own tab nL fr lo mc ms) (i : Nat) {n : Nat} {x : Int64} (hi : tab[i]? = some (pc, .lload n, 2)) (j : Nat) (hj : lv[j]? = some (n, .long x)) (h : Wk Z D nL kc ks w (pc + 2) lv (.long x :: st)) : Wk Z D nL kc ks w pc lv st := by
  obtain ⟨p, l, e, R, s, m, args, below, meth, c, A, Q⟩ := Z
  obtain ⟨hx, hd, hts, hown, hml, hK, hA, hfr, hlo, hmc, hms, hEv⟩ := C
  have hd1 := hd _ _ _ (List.mem_of_getElem? hi)
  intro H locs ls hP hD hS hl
  exact lv_lload hx rfl hd1 (lv_at hl j hj) (h H locs ls hP hD hS hl)
set_option maxHeartbeats 100000 in
theorem k_lstore_0 (C : Cx Z D cy own tab nL fr lo mc ms) (i : Nat) {x : Int64} {lv2 : List (Nat × Value)} (hi : tab[i]? = some (pc, .lstore_n 0, 1)) (hn : 0 + 1 < nL) (hl9 : (0, Value.long x) :: lv.filter (fun q => !(q.1 == 0) && (!(q.1 == 0 + 1) && !(q.1 + 1 == 0 && q.2.category == 2))) = lv2) (h : Wk Z D nL kc ks w (pc + 1) lv2 st) : Wk Z D nL kc ks w pc lv (.long x :: st) := by
  obtain ⟨p, l, e, R, s, m, args, below, meth, c, A, Q⟩ := Z
  obtain ⟨hx, hd, hts, hown, hml, hK, hA, hfr, hlo, hmc, hms, hEv⟩ := C
  have hd1 := hd _ _ _ (List.mem_of_getElem? hi)
  intro H locs ls hP hD hS hl
  exact lv_lstore_n hx rfl hd1 rfl hl hn hl9 (fun ls hl => h H locs ls hP hD hS hl)
set_option maxHeartbeats 100000 in
theorem k_lstore_1 (C : Cx Z D cy own tab nL fr lo mc ms) (i : Nat) {x : Int64} {lv2 : List (Nat × Value)} (hi : tab[i]? = some (pc, .lstore_n 1, 1)) (hn : 1 + 1 < nL) (hl9 : (1, Value.long x) :: lv.filter (fun q => !(q.1 == 1) && (!(q.1 == 1 + 1) && !(q.1 + 1 == 1 && q.2.category == 2))) = lv2) (h : Wk Z D nL kc ks w (pc + 1) lv2 st) : Wk Z D nL kc ks w pc lv (.long x :: st) := by
  obtain ⟨p, l, e, R, s, m, args, below, meth, c, A, Q⟩ := Z
  obtain ⟨hx, hd, hts, hown, hml, hK, hA, hfr, hlo, hmc, hms, hEv⟩ := C
  have hd1 := hd _ _ _ (List.mem_of_getElem? hi)
  intro H locs ls hP hD hS hl
  exact lv_lstore_n hx rfl hd1 rfl hl hn hl9 (fun ls hl => h H locs ls hP hD hS hl)
set_option maxHeartbeats 100000 in
theorem k_lstore_2 (C : Cx Z D cy own tab nL fr lo mc ms) (i : Nat) {x : Int64} {lv2 : List (Nat × Value)} (hi : tab[i]? = some (pc, .lstore_n 2, 1)) (hn : 2 + 1 < nL) (hl9 : (2, Value.long x) :: lv.filter (fun q => !(q.1 == 2) && (!(q.1 == 2 + 1) && !(q.1 + 1 == 2 && q.2.category == 2))) = lv2) (h : Wk Z D nL kc ks w (pc + 1) lv2 st) : Wk Z D nL kc ks w pc lv (.long x :: st) := by
  obtain ⟨p, l, e, R, s, m, args, below, meth, c, A, Q⟩ := Z
  obtain ⟨hx, hd, hts, hown, hml, hK, hA, hfr, hlo, hmc, hms, hEv⟩ := C
  have hd1 := hd _ _ _ (List.mem_of_getElem? hi)
  intro H locs ls hP hD hS hl
  exact lv_lstore_n hx rfl hd1 rfl hl hn hl9 (fun ls hl => h H locs ls hP hD hS hl)
set_option maxHeartbeats 100000 in
theorem k_lstore_3 (C : Cx Z D cy own tab nL fr lo mc ms) (i : Nat) {x : Int64} {lv2 : List (Nat × Value)} (hi : tab[i]? = some (pc, .lstore_n 3, 1)) (hn : 3 + 1 < nL) (hl9 : (3, Value.long x) :: lv.filter (fun q => !(q.1 == 3) && (!(q.1 == 3 + 1) && !(q.1 + 1 == 3 && q.2.category == 2))) = lv2) (h : Wk Z D nL kc ks w (pc + 1) lv2 st) : Wk Z D nL kc ks w pc lv (.long x :: st) := by
  obtain ⟨p, l, e, R, s, m, args, below, meth, c, A, Q⟩ := Z
  obtain ⟨hx, hd, hts, hown, hml, hK, hA, hfr, hlo, hmc, hms, hEv⟩ := C
  have hd1 := hd _ _ _ (List.mem_of_getElem? hi)
  intro H locs ls hP hD hS hl
  exact lv_lstore_n hx rfl hd1 rfl hl hn hl9 (fun ls hl => h H locs ls hP hD hS hl)
set_option maxHeartbeats 100000 in
theorem k_lstore (C : Cx Z D cy own tab nL fr lo mc ms) (i : Nat) {n : Nat} {x : Int64} {lv2 : List (Nat × Value)} (hi : tab[i]? = some (pc, .lstore n, 2)) (hn : n + 1 < nL) (hl9 : (n, Value.long x) :: lv.filter (fun q => !(q.1 == n) && (!(q.1 == n + 1) && !(q.1 + 1 == n && q.2.category == 2))) = lv2) (h : Wk Z D nL kc ks w (pc + 2) lv2 st) : Wk Z D nL kc ks w pc lv (.long x :: st) := by
  obtain ⟨p, l, e, R, s, m, args, below, meth, c, A, Q⟩ := Z
  obtain ⟨hx, hd, hts, hown, hml, hK, hA, hfr, hlo, hmc, hms, hEv⟩ := C
  have hd1 := hd _ _ _ (List.mem_of_getElem? hi)
  intro H locs ls hP hD hS hl
  exact lv_lstore hx rfl hd1 hl hn hl9 (fun ls hl => h H locs ls hP hD hS hl)
set_option maxHeartbeats 100000 in
theorem k_aload_0 (C : Cx Z D cy own tab nL fr lo mc ms) (i : Nat) {x : Nat} (hi : tab[i]? = some (pc, .aload_n 0, 1)) (j : Nat) (hj : lv[j]? = some (0, .ref x)) (h : Wk Z D nL kc ks w (pc + 1) lv (.ref x :: st)) : Wk Z D nL kc ks w pc lv st := by
  obtain ⟨p, l, e, R, s, m, args, below, meth, c, A, Q⟩ := Z
  obtain ⟨hx, hd, hts, hown, hml, hK, hA, hfr, hlo, hmc, hms, hEv⟩ := C
  have hd1 := hd _ _ _ (List.mem_of_getElem? hi)
  intro H locs ls hP hD hS hl
  exact lv_aload_n hx rfl hd1 rfl (lv_at hl j hj) (h H locs ls hP hD hS hl)
set_option maxHeartbeats 100000 in
theorem k_aload_1 (C : Cx Z D cy own tab nL fr lo mc ms) (i : Nat) {x : Nat} (hi : tab[i]? = some (pc, .aload_n 1, 1)) (j : Nat) (hj : lv[j]? = some (1, .ref x)) (h : Wk Z D nL kc ks w (pc + 1) lv (.ref x :: st)) : Wk Z D nL kc ks w pc lv st := by
  obtain ⟨p, l, e, R, s, m, args, below, meth, c, A, Q⟩ := Z
  obtain ⟨hx, hd, hts, hown, hml, hK, hA, hfr, hlo, hmc, hms, hEv⟩ := C
  have hd1 := hd _ _ _ (List.mem_of_getElem? hi)
  intro H locs ls hP hD hS hl
  exact lv_aload_n hx rfl hd1 rfl (lv_at hl j hj) (h H locs ls hP hD hS hl)
set_option maxHeartbeats 100000 in
theorem k_aload_2 (C : Cx Z D cy own tab nL fr lo mc ms) (i : Nat) {x : Nat} (hi : tab[i]? = some (pc, .aload_n 2, 1)) (j : Nat) (hj : lv[j]? = some (2, .ref x)) (h : Wk Z D nL kc ks w (pc + 1) lv (.ref x :: st)) : Wk Z D nL kc ks w pc lv st := by
  obtain ⟨p, l, e, R, s, m, args, below, meth, c, A, Q⟩ := Z
  obtain ⟨hx, hd, hts, hown, hml, hK, hA, hfr, hlo, hmc, hms, hEv⟩ := C
  have hd1 := hd _ _ _ (List.mem_of_getElem? hi)
  intro H locs ls hP hD hS hl
  exact lv_aload_n hx rfl hd1 rfl (lv_at hl j hj) (h H locs ls hP hD hS hl)
set_option maxHeartbeats 100000 in
theorem k_aload_3 (C : Cx Z D cy own tab nL fr lo mc ms) (i : Nat) {x : Nat} (hi : tab[i]? = some (pc, .aload_n 3, 1)) (j : Nat) (hj : lv[j]? = some (3, .ref x)) (h : Wk Z D nL kc ks w (pc + 1) lv (.ref x :: st)) : Wk Z D nL kc ks w pc lv st := by
  obtain ⟨p, l, e, R, s, m, args, below, meth, c, A, Q⟩ := Z
  obtain ⟨hx, hd, hts, hown, hml, hK, hA, hfr, hlo, hmc, hms, hEv⟩ := C
  have hd1 := hd _ _ _ (List.mem_of_getElem? hi)
  intro H locs ls hP hD hS hl
  exact lv_aload_n hx rfl hd1 rfl (lv_at hl j hj) (h H locs ls hP hD hS hl)
set_option maxHeartbeats 100000 in
theorem k_aload (C : Cx Z D cy own tab nL fr lo mc ms) (i : Nat) {n : Nat} {x : Nat} (hi : tab[i]? = some (pc, .aload n, 2)) (j : Nat) (hj : lv[j]? = some (n, .ref x)) (h : Wk Z D nL kc ks w (pc + 2) lv (.ref x :: st)) : Wk Z D nL kc ks w pc lv st := by
  obtain ⟨p, l, e, R, s, m, args, below, meth, c, A, Q⟩ := Z
  obtain ⟨hx, hd, hts, hown, hml, hK, hA, hfr, hlo, hmc, hms, hEv⟩ := C
  have hd1 := hd _ _ _ (List.mem_of_getElem? hi)
  intro H locs ls hP hD hS hl
  exact lv_aload hx rfl hd1 (lv_at hl j hj) (h H locs ls hP hD hS hl)
set_option maxHeartbeats 100000 in
theorem k_astore_0 (C : Cx Z D cy own tab nL fr lo mc ms) (i : Nat) {x : Nat} {lv2 : List (Nat × Value)} (hi : tab[i]? = some (pc, .astore_n 0, 1)) (hn : 0 < nL) (hl9 : (0, Value.ref x) :: lv.filter (fun q => !(q.1 == 0) && !(q.1 + 1 == 0 && q.2.category == 2)) = lv2) (h : Wk Z D nL kc ks w (pc + 1) lv2 st) : Wk Z D nL kc ks w pc lv (.ref x :: st) := by
  obtain ⟨p, l, e, R, s, m, args, below, meth, c, A, Q⟩ := Z
  obtain ⟨hx, hd, hts, hown, hml, hK, hA, hfr, hlo, hmc, hms, hEv⟩ := C
  have hd1 := hd _ _ _ (List.mem_of_getElem? hi)
  intro H locs ls hP hD hS hl
  exact lv_astore_n hx rfl hd1 rfl hl hn hl9 (fun ls hl => h H locs ls hP hD hS hl)
set_option maxHeartbeats 100000 in
theorem k_astore_1 (C : Cx Z D cy own tab nL fr lo mc ms) (i : Nat) {x : Nat} {lv2 : List (Nat × Value)} (hi : tab[i]? = some (pc, .astore_n 1, 1)) (hn : 1 < nL) (hl9 : (1, Value.ref x) :: lv.filter (fun q => !(q.1 == 1) && !(q.1 + 1 == 1 && q.2.category == 2)) = lv2) (h : Wk Z D nL kc ks w (pc + 1) lv2 st) : Wk Z D nL kc ks w pc lv (.ref x :: st) := by
  obtain ⟨p, l, e, R, s, m, args, below, meth, c, A, Q⟩ := Z
  obtain ⟨hx, hd, hts, hown, hml, hK, hA, hfr, hlo, hmc, hms, hEv⟩ := C
  have hd1 := hd _ _ _ (List.mem_of_getElem? hi)
  intro H locs ls hP hD hS hl
  exact lv_astore_n hx rfl hd1 rfl hl hn hl9 (fun ls hl => h H locs ls hP hD hS hl)
set_option maxHeartbeats 100000 in
theorem k_astore_2 (C : Cx Z D cy own tab nL fr lo mc ms) (i : Nat) {x : Nat} {lv2 : List (Nat × Value)} (hi : tab[i]? = some (pc, .astore_n 2, 1)) (hn : 2 < nL) (hl9 : (2, Value.ref x) :: lv.filter (fun q => !(q.1 == 2) && !(q.1 + 1 == 2 && q.2.category == 2)) = lv2) (h : Wk Z D nL kc ks w (pc + 1) lv2 st) : Wk Z D nL kc ks w pc lv (.ref x :: st) := by
  obtain ⟨p, l, e, R, s, m, args, below, meth, c, A, Q⟩ := Z
  obtain ⟨hx, hd, hts, hown, hml, hK, hA, hfr, hlo, hmc, hms, hEv⟩ := C
  have hd1 := hd _ _ _ (List.mem_of_getElem? hi)
  intro H locs ls hP hD hS hl
  exact lv_astore_n hx rfl hd1 rfl hl hn hl9 (fun ls hl => h H locs ls hP hD hS hl)
set_option maxHeartbeats 100000 in
theorem k_astore_3 (C : Cx Z D cy own tab nL fr lo mc ms) (i : Nat) {x : Nat} {lv2 : List (Nat × Value)} (hi : tab[i]? = some (pc, .astore_n 3, 1)) (hn : 3 < nL) (hl9 : (3, Value.ref x) :: lv.filter (fun q => !(q.1 == 3) && !(q.1 + 1 == 3 && q.2.category == 2)) = lv2) (h : Wk Z D nL kc ks w (pc + 1) lv2 st) : Wk Z D nL kc ks w pc lv (.ref x :: st) := by
  obtain ⟨p, l, e, R, s, m, args, below, meth, c, A, Q⟩ := Z
  obtain ⟨hx, hd, hts, hown, hml, hK, hA, hfr, hlo, hmc, hms, hEv⟩ := C
  have hd1 := hd _ _ _ (List.mem_of_getElem? hi)
  intro H locs ls hP hD hS hl
  exact lv_astore_n hx rfl hd1 rfl hl hn hl9 (fun ls hl => h H locs ls hP hD hS hl)
set_option maxHeartbeats 100000 in
theorem k_astore (C : Cx Z D cy own tab nL fr lo mc ms) (i : Nat) {n : Nat} {x : Nat} {lv2 : List (Nat × Value)} (hi : tab[i]? = some (pc, .astore n, 2)) (hn : n < nL) (hl9 : (n, Value.ref x) :: lv.filter (fun q => !(q.1 == n) && !(q.1 + 1 == n && q.2.category == 2)) = lv2) (h : Wk Z D nL kc ks w (pc + 2) lv2 st) : Wk Z D nL kc ks w pc lv (.ref x :: st) := by
  obtain ⟨p, l, e, R, s, m, args, below, meth, c, A, Q⟩ := Z
  obtain ⟨hx, hd, hts, hown, hml, hK, hA, hfr, hlo, hmc, hms, hEv⟩ := C
  have hd1 := hd _ _ _ (List.mem_of_getElem? hi)
  intro H locs ls hP hD hS hl
  exact lv_astore hx rfl hd1 hl hn hl9 (fun ls hl => h H locs ls hP hD hS hl)
set_option maxHeartbeats 100000 in
theorem k_iinc (C : Cx Z D cy own tab nL fr lo mc ms) (i : Nat) {n : Nat} {d : Int} {x v : Int32} {lv2 : List (Nat × Value)} (hi : tab[i]? = some (pc, .iinc n d, 3)) (j : Nat) (hj : lv[j]? = some (n, .int x)) (hv : x + Int32.ofInt d = v) (hn : n < nL) (hl9 : (n, Value.int v) :: lv.filter (fun q => !(q.1 == n) && !(q.1 + 1 == n && q.2.category == 2)) = lv2) (h : Wk Z D nL kc ks w (pc + 3) lv2 st) : Wk Z D nL kc ks w pc lv st := by
  obtain ⟨p, l, e, R, s, m, args, below, meth, c, A, Q⟩ := Z
  obtain ⟨hx, hd, hts, hown, hml, hK, hA, hfr, hlo, hmc, hms, hEv⟩ := C
  have hd1 := hd _ _ _ (List.mem_of_getElem? hi)
  intro H locs ls hP hD hS hl
  exact lv_iinc hx rfl hd1 hl hj hv hn hl9 (fun ls hl => h H locs ls hP hD hS hl)
set_option maxHeartbeats 100000 in
theorem k_iadd (C : Cx Z D cy own tab nL fr lo mc ms) (i : Nat) {x y : Int32} (hi : tab[i]? = some (pc, .iadd, 1)) (h : Wk Z D nL kc ks w (pc + 1) lv (.int (x + y) :: st)) : Wk Z D nL kc ks w pc lv (.int y :: .int x :: st) := by
  obtain ⟨p, l, e, R, s, m, args, below, meth, c, A, Q⟩ := Z
  obtain ⟨hx, hd, hts, hown, hml, hK, hA, hfr, hlo, hmc, hms, hEv⟩ := C
  have hd1 := hd _ _ _ (List.mem_of_getElem? hi)
  intro H locs ls hP hD hS hl
  exact lv_iadd hx rfl hd1 (h H locs ls hP hD hS hl)
set_option maxHeartbeats 100000 in
theorem k_isub (C : Cx Z D cy own tab nL fr lo mc ms) (i : Nat) {x y : Int32} (hi : tab[i]? = some (pc, .isub, 1)) (h : Wk Z D nL kc ks w (pc + 1) lv (.int (x - y) :: st)) : Wk Z D nL kc ks w pc lv (.int y :: .int x :: st) := by
  obtain ⟨p, l, e, R, s, m, args, below, meth, c, A, Q⟩ := Z
  obtain ⟨hx, hd, hts, hown, hml, hK, hA, hfr, hlo, hmc, hms, hEv⟩ := C
  have hd1 := hd _ _ _ (List.mem_of_getElem? hi)
  intro H locs ls hP hD hS hl
  exact lv_isub hx rfl hd1 (h H locs ls hP hD hS hl)
set_option maxHeartbeats 100000 in
theorem k_imul (C : Cx Z D cy own tab nL fr lo mc ms) (i : Nat) {x y : Int32} (hi : tab[i]? = some (pc, .imul, 1)) (h : Wk Z D nL kc ks w (pc + 1) lv (.int (x * y) :: st)) : Wk Z D nL kc ks w pc lv (.int y :: .int x :: st) := by
  obtain ⟨p, l, e, R, s, m, args, below, meth, c, A, Q⟩ := Z
  obtain ⟨hx, hd, hts, hown, hml, hK, hA, hfr, hlo, hmc, hms, hEv⟩ := C
  have hd1 := hd _ _ _ (List.mem_of_getElem? hi)
  intro H locs ls hP hD hS hl
  exact lv_imul hx rfl hd1 (h H locs ls hP hD hS hl)
set_option maxHeartbeats 100000 in
theorem k_iand (C : Cx Z D cy own tab nL fr lo mc ms) (i : Nat) {x y : Int32} (hi : tab[i]? = some (pc, .iand, 1)) (h : Wk Z D nL kc ks w (pc + 1) lv (.int (x &&& y) :: st)) : Wk Z D nL kc ks w pc lv (.int y :: .int x :: st) := by
  obtain ⟨p, l, e, R, s, m, args, below, meth, c, A, Q⟩ := Z
  obtain ⟨hx, hd, hts, hown, hml, hK, hA, hfr, hlo, hmc, hms, hEv⟩ := C
  have hd1 := hd _ _ _ (List.mem_of_getElem? hi)
  intro H locs ls hP hD hS hl
  exact lv_iand hx rfl hd1 (h H locs ls hP hD hS hl)
set_option maxHeartbeats 100000 in
theorem k_ior (C : Cx Z D cy own tab nL fr lo mc ms) (i : Nat) {x y : Int32} (hi : tab[i]? = some (pc, .ior, 1)) (h : Wk Z D nL kc ks w (pc + 1) lv (.int (x ||| y) :: st)) : Wk Z D nL kc ks w pc lv (.int y :: .int x :: st) := by
  obtain ⟨p, l, e, R, s, m, args, below, meth, c, A, Q⟩ := Z
  obtain ⟨hx, hd, hts, hown, hml, hK, hA, hfr, hlo, hmc, hms, hEv⟩ := C
  have hd1 := hd _ _ _ (List.mem_of_getElem? hi)
  intro H locs ls hP hD hS hl
  exact lv_ior hx rfl hd1 (h H locs ls hP hD hS hl)
set_option maxHeartbeats 100000 in
theorem k_ixor (C : Cx Z D cy own tab nL fr lo mc ms) (i : Nat) {x y : Int32} (hi : tab[i]? = some (pc, .ixor, 1)) (h : Wk Z D nL kc ks w (pc + 1) lv (.int (x ^^^ y) :: st)) : Wk Z D nL kc ks w pc lv (.int y :: .int x :: st) := by
  obtain ⟨p, l, e, R, s, m, args, below, meth, c, A, Q⟩ := Z
  obtain ⟨hx, hd, hts, hown, hml, hK, hA, hfr, hlo, hmc, hms, hEv⟩ := C
  have hd1 := hd _ _ _ (List.mem_of_getElem? hi)
  intro H locs ls hP hD hS hl
  exact lv_ixor hx rfl hd1 (h H locs ls hP hD hS hl)
set_option maxHeartbeats 100000 in
theorem k_ishl (C : Cx Z D cy own tab nL fr lo mc ms) (i : Nat) {x y : Int32} (hi : tab[i]? = some (pc, .ishl, 1)) (h : Wk Z D nL kc ks w (pc + 1) lv (.int (x <<< (y &&& 31)) :: st)) : Wk Z D nL kc ks w pc lv (.int y :: .int x :: st) := by
  obtain ⟨p, l, e, R, s, m, args, below, meth, c, A, Q⟩ := Z
  obtain ⟨hx, hd, hts, hown, hml, hK, hA, hfr, hlo, hmc, hms, hEv⟩ := C
  have hd1 := hd _ _ _ (List.mem_of_getElem? hi)
  intro H locs ls hP hD hS hl
  exact lv_ishl hx rfl hd1 (h H locs ls hP hD hS hl)
set_option maxHeartbeats 100000 in
theorem k_ishr (C : Cx Z D cy own tab nL fr lo mc ms) (i : Nat) {x y : Int32} (hi : tab[i]? = some (pc, .ishr, 1)) (h : Wk Z D nL kc ks w (pc + 1) lv (.int (x >>> (y &&& 31)) :: st)) : Wk Z D nL kc ks w pc lv (.int y :: .int x :: st) := by
  obtain ⟨p, l, e, R, s, m, args, below, meth, c, A, Q⟩ := Z
  obtain ⟨hx, hd, hts, hown, hml, hK, hA, hfr, hlo, hmc, hms, hEv⟩ := C
  have hd1 := hd _ _ _ (List.mem_of_getElem? hi)
  intro H locs ls hP hD hS hl
  exact lv_ishr hx rfl hd1 (h H locs ls hP hD hS hl)
set_option maxHeartbeats 100000 in
theorem k_idiv (C : Cx Z D cy own tab nL fr lo mc ms) (i : Nat) {x y : Int32} (hi : tab[i]? = some (pc, .idiv, 1)) (hne : ¬ y = 0) (h : Wk Z D nL kc ks w (pc + 1) lv (.int (x / y) :: st)) : Wk Z D nL kc ks w pc lv (.int y :: .int x :: st) := by
  obtain ⟨p, l, e, R, s, m, args, below, meth, c, A, Q⟩ := Z
  obtain ⟨hx, hd, hts, hown, hml, hK, hA, hfr, hlo, hmc, hms, hEv⟩ := C
  have hd1 := hd _ _ _ (List.mem_of_getElem? hi)
  intro H locs ls hP hD hS hl
  exact lv_idiv hx rfl hd1 hne (h H locs ls hP hD hS hl)
set_option maxHeartbeats 100000 in
theorem k_irem (C : Cx Z D cy own tab nL fr lo mc ms) (i : Nat) {x y : Int32} (hi : tab[i]? = some (pc, .irem, 1)) (hne : ¬ y = 0) (h : Wk Z D nL kc ks w (pc + 1) lv (.int (x - x / y * y) :: st)) : Wk Z D nL kc ks w pc lv (.int y :: .int x :: st) := by
  obtain ⟨p, l, e, R, s, m, args, below, meth, c, A, Q⟩ := Z
  obtain ⟨hx, hd, hts, hown, hml, hK, hA, hfr, hlo, hmc, hms, hEv⟩ := C
  have hd1 := hd _ _ _ (List.mem_of_getElem? hi)
  intro H locs ls hP hD hS hl
  exact lv_irem hx rfl hd1 hne (h H locs ls hP hD hS hl)
set_option maxHeartbeats 100000 in
theorem k_ineg (C : Cx Z D cy own tab nL fr lo mc ms) (i : Nat) {x : Int32} (hi : tab[i]? = some (pc, .ineg, 1)) (h : Wk Z D nL kc ks w (pc + 1) lv (.int (-x) :: st)) : Wk Z D nL kc ks w pc lv (.int x :: st) := by
  obtain ⟨p, l, e, R, s, m, args, below, meth, c, A, Q⟩ := Z
  obtain ⟨hx, hd, hts, hown, hml, hK, hA, hfr, hlo, hmc, hms, hEv⟩ := C
  have hd1 := hd _ _ _ (List.mem_of_getElem? hi)
  intro H locs ls hP hD hS hl
  exact lv_ineg hx rfl hd1 (h H locs ls hP hD hS hl)
set_option maxHeartbeats 100000 in
theorem k_ladd (C : Cx Z D cy own tab nL fr lo mc ms) (i : Nat) {x y : Int64} (hi : tab[i]? = some (pc, .ladd, 1)) (h : Wk Z D nL kc ks w (pc + 1) lv (.long (x + y) :: st)) : Wk Z D nL kc ks w pc lv (.long y :: .long x :: st) := by
  obtain ⟨p, l, e, R, s, m, args, below, meth, c, A, Q⟩ := Z
  obtain ⟨hx, hd, hts, hown, hml, hK, hA, hfr, hlo, hmc, hms, hEv⟩ := C
  have hd1 := hd _ _ _ (List.mem_of_getElem? hi)
  intro H locs ls hP hD hS hl
  exact lv_ladd hx rfl hd1 (h H locs ls hP hD hS hl)
set_option maxHeartbeats 100000 in
theorem k_lsub (C : Cx Z D cy own tab nL fr lo mc ms) (i : Nat) {x y : Int64} (hi : tab[i]? = some (pc, .lsub, 1)) (h : Wk Z D nL kc ks w (pc + 1) lv (.long (x - y) :: st)) : Wk Z D nL kc ks w pc lv (.long y :: .long x :: st) := by
  obtain ⟨p, l, e, R, s, m, args, below, meth, c, A, Q⟩ := Z
  obtain ⟨hx, hd, hts, hown, hml, hK, hA, hfr, hlo, hmc, hms, hEv⟩ := C
  have hd1 := hd _ _ _ (List.mem_of_getElem? hi)
  intro H locs ls hP hD hS hl
  exact lv_lsub hx rfl hd1 (h H locs ls hP hD hS hl)
set_option maxHeartbeats 100000 in
theorem k_lmul (C : Cx Z D cy own tab nL fr lo mc ms) (i : Nat) {x y : Int64} (hi : tab[i]? = some (pc, .lmul, 1)) (h : Wk Z D nL kc ks w (pc + 1) lv (.long (x * y) :: st)) : Wk Z D nL kc ks w pc lv (.long y :: .long x :: st) := by
  obtain ⟨p, l, e, R, s, m, args, below, meth, c, A, Q⟩ := Z
  obtain ⟨hx, hd, hts, hown, hml, hK, hA, hfr, hlo, hmc, hms, hEv⟩ := C
  have hd1 := hd _ _ _ (List.mem_of_getElem? hi)
  intro H locs ls hP hD hS hl
  exact lv_lmul hx rfl hd1 (h H locs ls hP hD hS hl)
set_option maxHeartbeats 100000 in
theorem k_land (C : Cx Z D cy own tab nL fr lo mc ms) (i : Nat) {x y : Int64} (hi : tab[i]? = some (pc, .land, 1)) (h : Wk Z D nL kc ks w (pc + 1) lv (.long (x &&& y) :: st)) : Wk Z D nL kc ks w pc lv (.long y :: .long x :: st) := by
  obtain ⟨p, l, e, R, s, m, args, below, meth, c, A, Q⟩ := Z
  obtain ⟨hx, hd, hts, hown, hml, hK, hA, hfr, hlo, hmc, hms, hEv⟩ := C
  have hd1 := hd _ _ _ (List.mem_of_getElem? hi)
  intro H locs ls hP hD hS hl
  exact lv_land hx rfl hd1 (h H locs ls hP hD hS hl)
set_option maxHeartbeats 100000 in
theorem k_lor (C : Cx Z D cy own tab nL fr lo mc ms) (i : Nat) {x y : Int64} (hi : tab[i]? = some (pc, .lor, 1)) (h : Wk Z D nL kc ks w (pc + 1) lv (.long (x ||| y) :: st)) : Wk Z D nL kc ks w pc lv (.long y :: .long x :: st) := by
  obtain ⟨p, l, e, R, s, m, args, below, meth, c, A, Q⟩ := Z
  obtain ⟨hx, hd, hts, hown, hml, hK, hA, hfr, hlo, hmc, hms, hEv⟩ := C
  have hd1 := hd _ _ _ (List.mem_of_getElem? hi)
  intro H locs ls hP hD hS hl
  exact lv_lor hx rfl hd1 (h H locs ls hP hD hS hl)
set_option maxHeartbeats 100000 in
theorem k_ldiv (C : Cx Z D cy own tab nL fr lo mc ms) (i : Nat) {x y : Int64} (hi : tab[i]? = some (pc, .ldiv, 1)) (hne : ¬ y = 0) (h : Wk Z D nL kc ks w (pc + 1) lv (.long (x / y) :: st)) : Wk Z D nL kc ks w pc lv (.long y :: .long x :: st) := by
  obtain ⟨p, l, e, R, s, m, args, below, meth, c, A, Q⟩ := Z
  obtain ⟨hx, hd, hts, hown, hml, hK, hA, hfr, hlo, hmc, hms, hEv⟩ := C
  have hd1 := hd _ _ _ (List.mem_of_getElem? hi)
  intro H locs ls hP hD hS hl
  exact lv_ldiv hx rfl hd1 hne (h H locs ls hP hD hS hl)
set_option maxHeartbeats 100000 in
theorem k_lrem (C : Cx Z D cy own tab nL fr lo mc ms) (i : Nat) {x y : Int64} (hi : tab[i]? = some (pc, .lrem, 1)) (hne : ¬ y = 0) (h : Wk Z D nL kc ks w (pc + 1) lv (.long (x - x / y * y) :: st)) : Wk Z D nL kc ks w pc lv (.long y :: .long x :: st) := by
  obtain ⟨p, l, e, R, s, m, args, below, meth, c, A, Q⟩ := Z
  obtain ⟨hx, hd, hts, hown, hml, hK, hA, hfr, hlo, hmc, hms, hEv⟩ := C
  have hd1 := hd _ _ _ (List.mem_of_getElem? hi)
  intro H locs ls hP hD hS hl
  exact lv_lrem hx rfl hd1 hne (h H locs ls hP hD hS hl)
set_option maxHeartbeats 100000 in
theorem k_iushr (C : Cx Z D cy own tab nL fr lo mc ms) (i : Nat) {x y : Int32} (hi : tab[i]? = some (pc, .iushr, 1)) (h : Wk Z D nL kc ks w (pc + 1) lv (.int ((x.toUInt32 >>> (y.toUInt32 &&& Int32.toUInt32 31)).toInt32) :: st)) : Wk Z D nL kc ks w pc lv (.int y :: .int x :: st) := by
  obtain ⟨p, l, e, R, s, m, args, below, meth, c, A, Q⟩ := Z
  obtain ⟨hx, hd, hts, hown, hml, hK, hA, hfr, hlo, hmc, hms, hEv⟩ := C
  have hd1 := hd _ _ _ (List.mem_of_getElem? hi)
  intro H locs ls hP hD hS hl
  exact lv_iushr hx rfl hd1 rfl (h H locs ls hP hD hS hl)
set_option maxHeartbeats 100000 in
theorem k_lshl (C : Cx Z D cy own tab nL fr lo mc ms) (i : Nat) {x : Int64} {y : Int32} (hi : tab[i]? = some (pc, .lshl, 1)) (h : Wk Z D nL kc ks w (pc + 1) lv (.long (x <<< (y.toInt64 &&& 63)) :: st)) : Wk Z D nL kc ks w pc lv (.int y :: .long x :: st) := by
  obtain ⟨p, l, e, R, s, m, args, below, meth, c, A, Q⟩ := Z
  obtain ⟨hx, hd, hts, hown, hml, hK, hA, hfr, hlo, hmc, hms, hEv⟩ := C
  have hd1 := hd _ _ _ (List.mem_of_getElem? hi)
  intro H locs ls hP hD hS hl
  exact lv_lshl hx rfl hd1 rfl (h H locs ls hP hD hS hl)
set_option maxHeartbeats 100000 in
theorem k_i2l (C : Cx Z D cy own tab nL fr lo mc ms) (i : Nat) {x : Int32} (hi : tab[i]? = some (pc, .i2l, 1)) (h : Wk Z D nL kc ks w (pc + 1) lv (.long x.toInt64 :: st)) : Wk Z D nL kc ks w pc lv (.int x :: st) := by
  obtain ⟨p, l, e, R, s, m, args, below, meth, c, A, Q⟩ := Z
  obtain ⟨hx, hd, hts, hown, hml, hK, hA, hfr, hlo, hmc, hms, hEv⟩ := C
  have hd1 := hd _ _ _ (List.mem_of_getElem? hi)
  intro H locs ls hP hD hS hl
  exact lv_i2l hx rfl hd1 rfl (h H locs ls hP hD hS hl)
set_option maxHeartbeats 100000 in
theorem k_l2i (C : Cx Z D cy own tab nL fr lo mc ms) (i : Nat) {x : Int64} (hi : tab[i]? = some (pc, .l2i, 1)) (h : Wk Z D nL kc ks w (pc + 1) lv (.int x.toInt32 :: st)) : Wk Z D nL kc ks w pc lv (.long x :: st) := by
  obtain ⟨p, l, e, R, s, m, args, below, meth, c, A, Q⟩ := Z
  obtain ⟨hx, hd, hts, hown, hml, hK, hA, hfr, hlo, hmc, hms, hEv⟩ := C
  have hd1 := hd _ _ _ (List.mem_of_getElem? hi)
  intro H locs ls hP hD hS hl
  exact lv_l2i hx rfl hd1 rfl (h H locs ls hP hD hS hl)
set_option maxHeartbeats 100000 in
theorem k_i2b (C : Cx Z D cy own tab nL fr lo mc ms) (i : Nat) {x : Int32} (hi : tab[i]? = some (pc, .i2b, 1)) (h : Wk Z D nL kc ks w (pc + 1) lv (.int x.toInt8.toInt32 :: st)) : Wk Z D nL kc ks w pc lv (.int x :: st) := by
  obtain ⟨p, l, e, R, s, m, args, below, meth, c, A, Q⟩ := Z
  obtain ⟨hx, hd, hts, hown, hml, hK, hA, hfr, hlo, hmc, hms, hEv⟩ := C
  have hd1 := hd _ _ _ (List.mem_of_getElem? hi)
  intro H locs ls hP hD hS hl
  exact lv_i2b hx rfl hd1 rfl (h H locs ls hP hD hS hl)
set_option maxHeartbeats 100000 in
theorem k_lcmp (C : Cx Z D cy own tab nL fr lo mc ms) (i : Nat) {x y : Int64} (hi : tab[i]? = some (pc, .lcmp, 1)) (h : Wk Z D nL kc ks w (pc + 1) lv (.int (lg_cmp x y) :: st)) : Wk Z D nL kc ks w pc lv (.long y :: .long x :: st) := by
  obtain ⟨p, l, e, R, s, m, args, below, meth, c, A, Q⟩ := Z
  obtain ⟨hx, hd, hts, hown, hml, hK, hA, hfr, hlo, hmc, hms, hEv⟩ := C
  have hd1 := hd _ _ _ (List.mem_of_getElem? hi)
  intro H locs ls hP hD hS hl
  exact W.lcmp hx rfl hd1 (h H locs ls hP hD hS hl)
set_option maxHeartbeats 100000 in
theorem k_dup (C : Cx Z D cy own tab nL fr lo mc ms) (i : Nat) {v : Value} (hi : tab[i]? = some (pc, .dup, 1)) (hv : v.category = 1) (h : Wk Z D nL kc ks w (pc + 1) lv (v :: v :: st)) : Wk Z D nL kc ks w pc lv (v :: st) := by
  obtain ⟨p, l, e, R, s, m, args, below, meth, c, A, Q⟩ := Z
  obtain ⟨hx, hd, hts, hown, hml, hK, hA, hfr, hlo, hmc, hms, hEv⟩ := C
  have hd1 := hd _ _ _ (List.mem_of_getElem? hi)
  intro H locs ls hP hD hS hl
  exact lv_dup hx rfl hd1 hv (h H locs ls hP hD hS hl)
set_option maxHeartbeats 100000 in
theorem k_pop (C : Cx Z D cy own tab nL fr lo mc ms) (i : Nat) {v : Value} (hi : tab[i]? = some (pc, .pop, 1)) (hv : v.category = 1) (h : Wk Z D nL kc ks w (pc + 1) lv st) : Wk Z D nL kc ks w pc lv (v :: st) := by
  obtain ⟨p, l, e, R, s, m, args, below, meth, c, A, Q⟩ := Z
  obtain ⟨hx, hd, hts, hown, hml, hK, hA, hfr, hlo, hmc, hms, hEv⟩ := C
  have hd1 := hd _ _ _ (List.mem_of_getElem? hi)
  intro H locs ls hP hD hS hl
  exact lv_pop hx rfl hd1 hv (h H locs ls hP hD hS hl)
set_option maxHeartbeats 100000 in
theorem k_dup_x1 (C : Cx Z D cy own tab nL fr lo mc ms) (i : Nat) {v u : Value} (hi : tab[i]? = some (pc, .dup_x1, 1)) (hv : v.category = 1) (hu : u.category = 1) (h : Wk Z D nL kc ks w (pc + 1) lv (v :: u :: v :: st)) : Wk Z D nL kc ks w pc lv (v :: u :: st) := by
  obtain ⟨p, l, e, R, s, m, args, below, meth, c, A, Q⟩ := Z
  obtain ⟨hx, hd, hts, hown, hml, hK, hA, hfr, hlo, hmc, hms, hEv⟩ := C
  have hd1 := hd _ _ _ (List.mem_of_getElem? hi)
  intro H locs ls hP hD hS hl
  exact lv_dup_x1 hx rfl hd1 hv hu (h H locs ls hP hD hS hl)
set_option maxHeartbeats 100000 in
theorem k_dup2 (C : Cx Z D cy own tab nL fr lo mc ms) (i : Nat) {v u : Value} (hi : tab[i]? = some (pc, .dup2, 1)) (hv : v.category = 1) (hu : u.category = 1) (h : Wk Z D nL kc ks w (pc + 1) lv (v :: u :: v :: u :: st)) : Wk Z D nL kc ks w pc lv (v :: u :: st) := by
  obtain ⟨p, l, e, R, s, m, args, below, meth, c, A, Q⟩ := Z
  obtain ⟨hx, hd, hts, hown, hml, hK, hA, hfr, hlo, hmc, hms, hEv⟩ := C
  have hd1 := hd _ _ _ (List.mem_of_getElem? hi)
  intro H locs ls hP hD hS hl
  exact lv_dup2_11 hx rfl hd1 hv hu (h H locs ls hP hD hS hl)
set_option maxHeartbeats 100000 in
theorem k_icmp_eq (C : Cx Z D cy own tab nL fr lo mc ms) (i : Nat) {off : Int} {x y : Int32} (hi : tab[i]? = some (pc, .if_icmp .eq off, 3)) (tgt : Nat) (ht : (pc : Int) + off = (tgt : Int)) (h1 : x = y → Wk Z D nL kc ks w tgt lv st) (h2 : ¬ x = y → Wk Z D nL kc ks w (pc + 3) lv st) : Wk Z D nL kc ks w pc lv (.int y :: .int x :: st) := by
  obtain ⟨p, l, e, R, s, m, args, below, meth, c, A, Q⟩ := Z
  obtain ⟨hx, hd, hts, hown, hml, hK, hA, hfr, hlo, hmc, hms, hEv⟩ := C
  have hd1 := hd _ _ _ (List.mem_of_getElem? hi)
  intro H locs ls hP hD hS hl
  exact lv_icmp_eq hx rfl hd1 ht (fun z => h1 z H locs ls hP hD hS hl) (fun z => h2 z H locs ls hP hD hS hl)
set_option maxHeartbeats 100000 in
theorem k_if_eq (C : Cx Z D cy own tab nL fr lo mc ms) (i : Nat) {off : Int} {x : Int32} (hi : tab[i]? = some (pc, .ifCond .eq off, 3)) (tgt : Nat) (ht : (pc : Int) + off = (tgt : Int)) (h1 : x = 0 → Wk Z D nL kc ks w tgt lv st) (h2 : ¬ x = 0 → Wk Z D nL kc ks w (pc + 3) lv st) : Wk Z D nL kc ks w pc lv (.int x :: st) := by
  obtain ⟨p, l, e, R, s, m, args, below, meth, c, A, Q⟩ := Z
  obtain ⟨hx, hd, hts, hown, hml, hK, hA, hfr, hlo, hmc, hms, hEv⟩ := C
  have hd1 := hd _ _ _ (List.mem_of_getElem? hi)
  intro H locs ls hP hD hS hl
  exact lv_if_eq hx rfl hd1 ht (fun z => h1 z H locs ls hP hD hS hl) (fun z => h2 z H locs ls hP hD hS hl)
set_option maxHeartbeats 100000 in
theorem k_icmp_ne (C : Cx Z D cy own tab nL fr lo mc ms) (i : Nat) {off : Int} {x y : Int32} (hi : tab[i]? = some (pc, .if_icmp .ne off, 3)) (tgt : Nat) (ht : (pc : Int) + off = (tgt : Int)) (h1 : ¬ x = y → Wk Z D nL kc ks w tgt lv st) (h2 : x = y → Wk Z D nL kc ks w (pc + 3) lv st) : Wk Z D nL kc ks w pc lv (.int y :: .int x :: st) := by
  obtain ⟨p, l, e, R, s, m, args, below, meth, c, A, Q⟩ := Z
  obtain ⟨hx, hd, hts, hown, hml, hK, hA, hfr, hlo, hmc, hms, hEv⟩ := C
  have hd1 := hd _ _ _ (List.mem_of_getElem? hi)
  intro H locs ls hP hD hS hl
  exact lv_icmp_ne hx rfl hd1 ht (fun z => h1 z H locs ls hP hD hS hl) (fun z => h2 z H locs ls hP hD hS hl)
set_option maxHeartbeats 100000 in
theorem k_if_ne (C : Cx Z D cy own tab nL fr lo mc ms) (i : Nat) {off : Int} {x : Int32} (hi : tab[i]? = some (pc, .ifCond .ne off, 3)) (tgt : Nat) (ht : (pc : Int) + off = (tgt : Int)) (h1 : ¬ x = 0 → Wk Z D nL kc ks w tgt lv st) (h2 : x = 0 → Wk Z D nL kc ks w (pc + 3) lv st) : Wk Z D nL kc ks w pc lv (.int x :: st) := by
  obtain ⟨p, l, e, R, s, m, args, below, meth, c, A, Q⟩ := Z
  obtain ⟨hx, hd, hts, hown, hml, hK, hA, hfr, hlo, hmc, hms, hEv⟩ := C
  have hd1 := hd _ _ _ (List.mem_of_getElem? hi)
  intro H locs ls hP hD hS hl
  exact lv_if_ne hx rfl hd1 ht (fun z => h1 z H locs ls hP hD hS hl) (fun z => h2 z H locs ls hP hD hS hl)
set_option maxHeartbeats 100000 in
theorem k_icmp_lt (C : Cx Z D cy own tab nL fr lo mc ms) (i : Nat) {off : Int} {x y : Int32} (hi : tab[i]? = some (pc, .if_icmp .lt off, 3)) (tgt : Nat) (ht : (pc : Int) + off = (tgt : Int)) (h1 : x < y → Wk Z D nL kc ks w tgt lv st) (h2 : ¬ x < y → Wk Z D nL kc ks w (pc + 3) lv st) : Wk Z D nL kc ks w pc lv (.int y :: .int x :: st) := by
  obtain ⟨p, l, e, R, s, m, args, below, meth, c, A, Q⟩ := Z
  obtain ⟨hx, hd, hts, hown, hml, hK, hA, hfr, hlo, hmc, hms, hEv⟩ := C
  have hd1 := hd _ _ _ (List.mem_of_getElem? hi)
  intro H locs ls hP hD hS hl
  exact lv_icmp_lt hx rfl hd1 ht (fun z => h1 z H locs ls hP hD hS hl) (fun z => h2 z H locs ls hP hD hS hl)
set_option maxHeartbeats 100000 in
theorem k_if_lt (C : Cx Z D cy own tab nL fr lo mc ms) (i : Nat) {off : Int} {x : Int32} (hi : tab[i]? = some (pc, .ifCond .lt off, 3)) (tgt : Nat) (ht : (pc : Int) + off = (tgt : Int)) (h1 : x < 0 → Wk Z D nL kc ks w tgt lv st) (h2 : ¬ x < 0 → Wk Z D nL kc ks w (pc + 3) lv st) : Wk Z D nL kc ks w pc lv (.int x :: st) := by
  obtain ⟨p, l, e, R, s, m, args, below, meth, c, A, Q⟩ := Z
  obtain ⟨hx, hd, hts, hown, hml, hK, hA, hfr, hlo, hmc, hms, hEv⟩ := C
  have hd1 := hd _ _ _ (List.mem_of_getElem? hi)
  intro H locs ls hP hD hS hl
  exact lv_if_lt hx rfl hd1 ht (fun z => h1 z H locs ls hP hD hS hl) (fun z => h2 z H locs ls hP hD hS hl)
set_option maxHeartbeats 100000 in
theorem k_icmp_ge (C : Cx Z D cy own tab nL fr lo mc ms) (i : Nat) {off : Int} {x y : Int32} (hi : tab[i]? = some (pc, .if_icmp .ge off, 3)) (tgt : Nat) (ht : (pc : Int) + off = (tgt : Int)) (h1 : y ≤ x → Wk Z D nL kc ks w tgt lv st) (h2 : ¬ y ≤ x → Wk Z D nL kc ks w (pc + 3) lv st) : Wk Z D nL kc ks w pc lv (.int y :: .int x :: st) := by
  obtain ⟨p, l, e, R, s, m, args, below, meth, c, A, Q⟩ := Z
  obtain ⟨hx, hd, hts, hown, hml, hK, hA, hfr, hlo, hmc, hms, hEv⟩ := C
  have hd1 := hd _ _ _ (List.mem_of_getElem? hi)
  intro H locs ls hP hD hS hl
  exact lv_icmp_ge hx rfl hd1 ht (fun z => h1 z H locs ls hP hD hS hl) (fun z => h2 z H locs ls hP hD hS hl)
set_option maxHeartbeats 100000 in
theorem k_if_ge (C : Cx Z D cy own tab nL fr lo mc ms) (i : Nat) {off : Int} {x : Int32} (hi : tab[i]? = some (pc, .ifCond .ge off, 3)) (tgt : Nat) (ht : (pc : Int) + off = (tgt : Int)) (h1 : 0 ≤ x → Wk Z D nL kc ks w tgt lv st) (h2 : ¬ 0 ≤ x → Wk Z D nL kc ks w (pc + 3) lv st) : Wk Z D nL kc ks w pc lv (.int x :: st) := by
  obtain ⟨p, l, e, R, s, m, args, below, meth, c, A, Q⟩ := Z
  obtain ⟨hx, hd, hts, hown, hml, hK, hA, hfr, hlo, hmc, hms, hEv⟩ := C
  have hd1 := hd _ _ _ (List.mem_of_getElem? hi)
  intro H locs ls hP hD hS hl
  exact lv_if_ge hx rfl hd1 ht (fun z => h1 z H locs ls hP hD hS hl) (fun z => h2 z H locs ls hP hD hS hl)
set_option maxHeartbeats 100000 in
theorem k_icmp_gt (C : Cx Z D cy own tab nL fr lo mc ms) (i : Nat) {off : Int} {x y : Int32} (hi : tab[i]? = some (pc, .if_icmp .gt off, 3)) (tgt : Nat) (ht : (pc : Int) + off = (tgt : Int)) (h1 : y < x → Wk Z D nL kc ks w tgt lv st) (h2 : ¬ y < x → Wk Z D nL kc ks w (pc + 3) lv st) : Wk Z D nL kc ks w pc lv (.int y :: .int x :: st) := by
  obtain ⟨p, l, e, R, s, m, args, below, meth, c, A, Q⟩ := Z
  obtain ⟨hx, hd, hts, hown, hml, hK, hA, hfr, hlo, hmc, hms, hEv⟩ := C
  have hd1 := hd _ _ _ (List.mem_of_getElem? hi)
  intro H locs ls hP hD hS hl
  exact lv_icmp_gt hx rfl hd1 ht (fun z => h1 z H locs ls hP hD hS hl) (fun z => h2 z H locs ls hP hD hS hl)
set_option maxHeartbeats 100000 in
theorem k_if_gt (C : Cx Z D cy own tab nL fr lo mc ms) (i : Nat) {off : Int} {x : Int32} (hi : tab[i]? = some (pc, .ifCond .gt off, 3)) (tgt : Nat) (ht : (pc : Int) + off = (tgt : Int)) (h1 : 0 < x → Wk Z D nL kc ks w tgt lv st) (h2 : ¬ 0 < x → Wk Z D nL kc ks w (pc + 3) lv st) : Wk Z D nL kc ks w pc lv (.int x :: st) := by
  obtain ⟨p, l, e, R, s, m, args, below, meth, c, A, Q⟩ := Z
  obtain ⟨hx, hd, hts, hown, hml, hK, hA, hfr, hlo, hmc, hms, hEv⟩ := C
  have hd1 := hd _ _ _ (List.mem_of_getElem? hi)
  intro H locs ls hP hD hS hl
  exact lv_if_gt hx rfl hd1 ht (fun z => h1 z H locs ls hP hD hS hl) (fun z => h2 z H locs ls hP hD hS hl)
set_option maxHeartbeats 100000 in
theorem k_icmp_le (C : Cx Z D cy own tab nL fr lo mc ms) (i : Nat) {off : Int} {x y : Int32} (hi : tab[i]? = some (pc, .if_icmp .le off, 3)) (tgt : Nat) (ht : (pc : Int) + off = (tgt : Int)) (h1 : x ≤ y → Wk Z D nL kc ks w tgt lv st) (h2 : ¬ x ≤ y → Wk Z D nL kc ks w (pc + 3) lv st) : Wk Z D nL kc ks w pc lv (.int y :: .int x :: st) := by
  obtain ⟨p, l, e, R, s, m, args, below, meth, c, A, Q⟩ := Z
  obtain ⟨hx, hd, hts, hown, hml, hK, hA, hfr, hlo, hmc, hms, hEv⟩ := C
  have hd1 := hd _ _ _ (List.mem_of_getElem? hi)
  intro H locs ls hP hD hS hl
  exact lv_icmp_le hx rfl hd1 ht (fun z => h1 z H locs ls hP hD hS hl) (fun z => h2 z H locs ls hP hD hS hl)
set_option maxHeartbeats 100000 in
theorem k_if_le (C : Cx Z D cy own tab nL fr lo mc ms) (i : Nat) {off : Int} {x : Int32} (hi : tab[i]? = some (pc, .ifCond .le off, 3)) (tgt : Nat) (ht : (pc : Int) + off = (tgt : Int)) (h1 : x ≤ 0 → Wk Z D nL kc ks w tgt lv st) (h2 : ¬ x ≤ 0 → Wk Z D nL kc ks w (pc + 3) lv st) : Wk Z D nL kc ks w pc lv (.int x :: st) := by
  obtain ⟨p, l, e, R, s, m, args, below, meth, c, A, Q⟩ := Z
  obtain ⟨hx, hd, hts, hown, hml, hK, hA, hfr, hlo, hmc, hms, hEv⟩ := C
  have hd1 := hd _ _ _ (List.mem_of_getElem? hi)
  intro H locs ls hP hD hS hl
  exact lv_if_le hx rfl hd1 ht (fun z => h1 z H locs ls hP hD hS hl) (fun z => h2 z H locs ls hP hD hS hl)
set_option maxHeartbeats 100000 in
theorem k_goto (C : Cx Z D cy own tab nL fr lo mc ms) (i : Nat) {off : Int} (hi : tab[i]? = some (pc, .goto off, 3)) (tgt : Nat) (ht : (pc : Int) + off = (tgt : Int)) (h : Wk Z D nL kc ks w tgt lv st) : Wk Z D nL kc ks w pc lv st := by
  obtain ⟨p, l, e, R, s, m, args, below, meth, c, A, Q⟩ := Z
  obtain ⟨hx, hd, hts, hown, hml, hK, hA, hfr, hlo, hmc, hms, hEv⟩ := C
  have hd1 := hd _ _ _ (List.mem_of_getElem? hi)
  intro H locs ls hP hD hS hl
  exact lv_goto hx rfl hd1 ht (h H locs ls hP hD hS hl)
set_option maxHeartbeats 100000 in
theorem k_sub {lv2 : List (Nat × Value)} (js : List Nat) (hl9 : lv_pick lv js = lv2) (h : Wk Z D nL kc ks w pc lv2 st) : Wk Z D nL kc ks w pc lv st := by
  obtain ⟨p, l, e, R, s, m, args, below, meth, c, A, Q⟩ := Z
  intro H locs ls hP hD hS hl
  exact h H locs ls hP hD hS (lv_sub hl js hl9)
set_option maxHeartbeats 100000 in
theorem k_pc {pc2 : Nat} (hp : pc = pc2) (h : Wk Z D nL kc ks w pc2 lv st) : Wk Z D nL kc ks w pc lv st := by rw [hp]; exact h
set_option maxHeartbeats 100000 in
theorem k_tabIn (C : Cx Z D cy own tab nL fr lo mc ms) (i : Nat) {x : Int32} {dflt l0 h0 : Int} {offs : Array Int} {len : Nat} {off : Int} (hi : tab[i]? = some (pc, .tableswitch dflt l0 h0 offs, len)) (tgt : Nat) (h1 : ¬ x.toInt < l0) (h2 : ¬ h0 < x.toInt) (ho : offs[(x.toInt - l0).toNat]? = some off) (ht : (pc : Int) + off = (tgt : Int)) (h : Wk Z D nL kc ks w tgt lv st) : Wk Z D nL kc ks w pc lv (.int x :: st) := by
  obtain ⟨p, l, e, R, s, m, args, below, meth, c, A, Q⟩ := Z
  obtain ⟨hx, hd, hts, hown, hml, hK, hA, hfr, hlo, hmc, hms, hEv⟩ := C
  have hd1 := hd _ _ _ (List.mem_of_getElem? hi)
  intro H locs ls hP hD hS hl
  exact lv_tableIn hx rfl hd1 h1 h2 ho ht (h H locs ls hP hD hS hl)
set_option maxHeartbeats 100000 in
theorem k_tabOut (C : Cx Z D cy own tab nL fr lo mc ms) (i : Nat) {x : Int32} {dflt l0 h0 : Int} {offs : Array Int} {len : Nat} (hi : tab[i]? = some (pc, .tableswitch dflt l0 h0 offs, len)) (tgt : Nat) (h1 : x.toInt < l0 ∨ h0 < x.toInt) (ht : (pc : Int) + dflt = (tgt : Int)) (h : Wk Z D nL kc ks w tgt lv st) : Wk Z D nL kc ks w pc lv (.int x :: st) := by
  obtain ⟨p, l, e, R, s, m, args, below, meth, c, A, Q⟩ := Z
  obtain ⟨hx, hd, hts, hown, hml, hK, hA, hfr, hlo, hmc, hms, hEv⟩ := C
  have hd1 := hd _ _ _ (List.mem_of_getElem? hi)
  intro H locs ls hP hD hS hl
  exact lv_tableOut hx rfl hd1 h1 ht (h H locs ls hP hD hS hl)
set_option maxHeartbeats 100000 in
theorem k_iald (C : Cx Z D cy own tab nL fr lo mc ms) (i : Nat) (hi : tab[i]? = some (pc, .iaload, 1)) (q : Nat) {a n : Nat} {f : Nat → Int32} (he : w[q]? = some (a, .inl (cy 1, n, .inl f))) {j : Int32} (hin : vp_in j n) {k : Nat} (hk : j.toNatClampNeg = k) (h : Wk Z D nL kc ks w (pc + 1) lv (.int (f k) :: st)) : Wk Z D nL kc ks w pc lv (.int j :: .ref a :: st) := by
  obtain ⟨p, l, e, R, s, m, args, below, meth, c, A, Q⟩ := Z
  obtain ⟨hx, hd, hts, hown, hml, hK, hA, hfr, hlo, hmc, hms, hEv⟩ := C
  have hd1 := hd _ _ _ (List.mem_of_getElem? hi)
  intro H locs ls hP hD hS hl
  subst hk
  exact va_iald hx rfl hK hP q 1 he rfl hin hd1 (h H locs ls hP hD hS hl)
set_option maxHeartbeats 100000 in
theorem k_bald (C : Cx Z D cy own tab nL fr lo mc ms) (i : Nat) (hi : tab[i]? = some (pc, .baload, 1)) (q : Nat) {a n : Nat} {f : Nat → Int32} (he : w[q]? = some (a, .inl (cy 0, n, .inl f))) {j : Int32} (hin : vp_in j n) {k : Nat} (hk : j.toNatClampNeg = k) (h : Wk Z D nL kc ks w (pc + 1) lv (.int (f k) :: st)) : Wk Z D nL kc ks w pc lv (.int j :: .ref a :: st) := by
  obtain ⟨p, l, e, R, s, m, args, below, meth, c, A, Q⟩ := Z
  obtain ⟨hx, hd, hts, hown, hml, hK, hA, hfr, hlo, hmc, hms, hEv⟩ := C
  have hd1 := hd _ _ _ (List.mem_of_getElem? hi)
  intro H locs ls hP hD hS hl
  subst hk
  exact va_bald hx rfl hK hP q 0 he rfl hin hd1 (h H locs ls hP hD hS hl)
set_option maxHeartbeats 100000 in
theorem k_zald (C : Cx Z D cy own tab nL fr lo mc ms) (i : Nat) (hi : tab[i]? = some (pc, .baload, 1)) (q : Nat) {a n : Nat} {f : Nat → Int32} (he : w[q]? = some (a, .inl (cy 3, n, .inl f))) {j : Int32} (hin : vp_in j n) {k : Nat} (hk : j.toNatClampNeg = k) (h : Wk Z D nL kc ks w (pc + 1) lv (.int (f k) :: st)) : Wk Z D nL kc ks w pc lv (.int j :: .ref a :: st) := by
  obtain ⟨p, l, e, R, s, m, args, below, meth, c, A, Q⟩ := Z
  obtain ⟨hx, hd, hts, hown, hml, hK, hA, hfr, hlo, hmc, hms, hEv⟩ := C
  have hd1 := hd _ _ _ (List.mem_of_getElem? hi)
  intro H locs ls hP hD hS hl
  subst hk
  exact va_zald hx rfl hK hP q 3 he rfl hin hd1 (h H locs ls hP hD hS hl)
set_option maxHeartbeats 100000 in
theorem k_lald (C : Cx Z D cy own tab nL fr lo mc ms) (i : Nat) (hi : tab[i]? = some (pc, .laload, 1)) (q : Nat) {a n : Nat} {f : Nat → Int64} (he : w[q]? = some (a, .inl (cy 2, n, .inr (.inl f)))) {j : Int32} (hin : vp_in j n) {k : Nat} (hk : j.toNatClampNeg = k) (h : Wk Z D nL kc ks w (pc + 1) lv (.long (f k) :: st)) : Wk Z D nL kc ks w pc lv (.int j :: .ref a :: st) := by
  obtain ⟨p, l, e, R, s, m, args, below, meth, c, A, Q⟩ := Z
  obtain ⟨hx, hd, hts, hown, hml, hK, hA, hfr, hlo, hmc, hms, hEv⟩ := C
  have hd1 := hd _ _ _ (List.mem_of_getElem? hi)
  intro H locs ls hP hD hS hl
  subst hk
  exact va_lald hx rfl hK hP q 2 he rfl hin hd1 (h H locs ls hP hD hS hl)
set_option maxHeartbeats 100000 in
theorem k_iast (C : Cx Z D cy own tab nL fr lo mc ms) (i : Nat) (hi : tab[i]? = some (pc, .iastore, 1)) (q : Nat) {a n : Nat} {f : Nat → Int32} (he : w[q]? = some (a, .inl (cy 1, n, .inl f))) {j : Int32} {x : Int32} (hin : vp_in j n) {k : Nat} (hk : j.toNatClampNeg = k) {w2 : va_W} (hw : w.set q (a, .inl (cy 1, n, .inl (upd f k x))) = w2) (h : Wk Z D nL kc ks w2 (pc + 1) lv st) : Wk Z D nL kc ks w pc lv (.int x :: .int j :: .ref a :: st) := by
  obtain ⟨p, l, e, R, s, m, args, below, meth, c, A, Q⟩ := Z
  obtain ⟨hx, hd, hts, hown, hml, hK, hA, hfr, hlo, hmc, hms, hEv⟩ := C
  have hd1 := hd _ _ _ (List.mem_of_getElem? hi)
  intro H locs ls hP hD hS hl
  subst hk hw
  exact va_iast hx rfl hK hP hD hS q 1 he rfl hin hd1 (fun H locs hP hD hS => h H locs ls hP hD hS hl)
set_option maxHeartbeats 100000 in
theorem k_bast (C : Cx Z D cy own tab nL fr lo mc ms) (i : Nat) (hi : tab[i]? = some (pc, .bastore, 1)) (q : Nat) {a n : Nat} {f : Nat → Int32} (he : w[q]? = some (a, .inl (cy 0, n, .inl f))) {j : Int32} {x : Int32} (hin : vp_in j n) {k : Nat} (hk : j.toNatClampNeg = k) {w2 : va_W} (hw : w.set q (a, .inl (cy 0, n, .inl (upd f k (vp_nar .byte x)))) = w2) (h : Wk Z D nL kc ks w2 (pc + 1) lv st) : Wk Z D nL kc ks w pc lv (.int x :: .int j :: .ref a :: st) := by
  obtain ⟨p, l, e, R, s, m, args, below, meth, c, A, Q⟩ := Z
  obtain ⟨hx, hd, hts, hown, hml, hK, hA, hfr, hlo, hmc, hms, hEv⟩ := C
  have hd1 := hd _ _ _ (List.mem_of_getElem? hi)
  intro H locs ls hP hD hS hl
  subst hk hw
  exact va_bast hx rfl hK hP hD hS q 0 he rfl hin hd1 (fun H locs hP hD hS => h H locs ls hP hD hS hl)
set_option maxHeartbeats 100000 in
theorem k_zast (C : Cx Z D cy own tab nL fr lo mc ms) (i : Nat) (hi : tab[i]? = some (pc, .bastore, 1)) (q : Nat) {a n : Nat} {f : Nat → Int32} (he : w[q]? = some (a, .inl (cy 3, n, .inl f))) {j : Int32} {x : Int32} (hin : vp_in j n) {k : Nat} (hk : j.toNatClampNeg = k) {w2 : va_W} (hw : w.set q (a, .inl (cy 3, n, .inl (upd f k (vp_nar .boolean x)))) = w2) (h : Wk Z D nL kc ks w2 (pc + 1) lv st) : Wk Z D nL kc ks w pc lv (.int x :: .int j :: .ref a :: st) := by
  obtain ⟨p, l, e, R, s, m, args, below, meth, c, A, Q⟩ := Z
  obtain ⟨hx, hd, hts, hown, hml, hK, hA, hfr, hlo, hmc, hms, hEv⟩ := C
  have hd1 := hd _ _ _ (List.mem_of_getElem? hi)
  intro H locs ls hP hD hS hl
  subst hk hw
  exact va_zast hx rfl hK hP hD hS q 3 he rfl hin hd1 (fun H locs hP hD hS => h H locs ls hP hD hS hl)
set_option maxHeartbeats 100000 in
theorem k_last (C : Cx Z D cy own tab nL fr lo mc ms) (i : Nat) (hi : tab[i]? = some (pc, .lastore, 1)) (q : Nat) {a n : Nat} {f : Nat → Int64} (he : w[q]? = some (a, .inl (cy 2, n, .inr (.inl f)))) {j : Int32} {x : Int64} (hin : vp_in j n) {k : Nat} (hk : j.toNatClampNeg = k) {w2 : va_W} (hw : w.set q (a, .inl (cy 2, n, .inr (.inl (vp_updL f k x)))) = w2) (h : Wk Z D nL kc ks w2 (pc + 1) lv st) : Wk Z D nL kc ks w pc lv (.long x :: .int j :: .ref a :: st) := by
  obtain ⟨p, l, e, R, s, m, args, below, meth, c, A, Q⟩ := Z
  obtain ⟨hx, hd, hts, hown, hml, hK, hA, hfr, hlo, hmc, hms, hEv⟩ := C
  have hd1 := hd _ _ _ (List.mem_of_getElem? hi)
  intro H locs ls hP hD hS hl
  subst hk hw
  exact va_last hx rfl hK hP hD hS q 2 he rfl hin hd1 (fun H locs hP hD hS => h H locs ls hP hD hS hl)
set_option maxHeartbeats 100000 in
theorem k_alen (C : Cx Z D cy own tab nL fr lo mc ms) (i : Nat) (hi : tab[i]? = some (pc, .arraylength, 1)) (q t0 : Nat) {a : Nat} {cA : ClassId} {x : vp_A} {ty : FieldType} (he : w[q]? = some (a, .inl (cA, x))) (ht : (tys cy)[t0]? = some (cA, ty)) {v : Int32} (hv : Int32.ofNat x.1 = v) (h : Wk Z D nL kc ks w (pc + 1) lv (.int v :: st)) : Wk Z D nL kc ks w pc lv (.ref a :: st) := by
  obtain ⟨p, l, e, R, s, m, args, below, meth, c, A, Q⟩ := Z
  obtain ⟨hx, hd, hts, hown, hml, hK, hA, hfr, hlo, hmc, hms, hEv⟩ := C
  have hd1 := hd _ _ _ (List.mem_of_getElem? hi)
  intro H locs ls hP hD hS hl
  exact va_alen hx rfl hK hP q t0 he ht hv hd1 (h H locs ls hP hD hS hl)
set_option maxHeartbeats 100000 in
theorem k_get (C : Cx Z D cy own tab nL fr lo mc ms) (i : Nat) {idx ci N : Nat} {CC : String} {T : u_T} (hin : ∀ w ∈ u_ws CC T N, w ∈ TG) (hc : vwCl[ci]? = some (CC, T, N)) (k : Nat) (hk : k < N) (hi : tab[i]? = some (pc, .getfield idx, 3)) (hlk : Cond.fieldLink own idx (T k).1 (T k).2.1 (T k).2.2.1 ∈ TG) (q : Nat) {a : Nat} {fs : List Value} (he : w[q]? = some (a, .inr (ci, fs))) {v : Value} (hv : fs[k]? = some v) (h : Wk Z D nL kc ks w (pc + 3) lv (v :: st)) : Wk Z D nL kc ks w pc lv (.ref a :: st) := by
  obtain ⟨p, l, e, R, s, m, args, below, meth, c, A, Q⟩ := Z
  obtain ⟨hx, hd, hts, hown, hml, hK, hA, hfr, hlo, hmc, hms, hEv⟩ := C
  have hd1 := hd _ _ _ (List.mem_of_getElem? hi)
  intro H locs ls hP hD hS hl
  exact va_get hx rfl hts hin hown hK hP q he hc k hk (hts _ hlk) (fun _ z => z) hv hd1 (h H locs ls hP hD hS hl)
set_option maxHeartbeats 100000 in
theorem k_put (C : Cx Z D cy own tab nL fr lo mc ms) (i : Nat) {idx ci N : Nat} {CC : String} {T : u_T} (hin : ∀ w ∈ u_ws CC T N, w ∈ TG) (hc : vwCl[ci]? = some (CC, T, N)) (ty0 : Nat → FieldType) (hty : ∀ k, k < N → parseFieldDescriptor (T k).2.2.1 = some (ty0 k)) (hnm : ∀ a, a < N → ∀ b, b < N → a ≠ b → (T a).2.1 ≠ (T b).2.1) (k : Nat) (hk : k < N) (hfin : (T k).2.2.2 = false) (hi : tab[i]? = some (pc, .putfield idx, 3)) (hlk : Cond.fieldLink own idx (T k).1 (T k).2.1 (T k).2.2.1 ∈ TG) (q : Nat) {a : Nat} {fs : List Value} (he : w[q]? = some (a, .inr (ci, fs))) {v : Value} (hn : narrow (ty0 k) v = v) (hfit : fits (ty0 k) v = true) (hl0 : k < fs.length) {w2 : va_W} (hw : w.set q (a, .inr (ci, fs.set k v)) = w2) (h : Wk Z D nL kc ks w2 (pc + 3) lv st) : Wk Z D nL kc ks w pc lv (v :: .ref a :: st) := by
  obtain ⟨p, l, e, R, s, m, args, below, meth, c, A, Q⟩ := Z
  obtain ⟨hx, hd, hts, hown, hml, hK, hA, hfr, hlo, hmc, hms, hEv⟩ := C
  have hd1 := hd _ _ _ (List.mem_of_getElem? hi)
  intro H locs ls hP hD hS hl
  subst hw
  exact va_put hx rfl hts hin ty0 hty hnm hown hK hP hD hS q he hc k hk (hts _ hlk) (fun _ z => z) hfin (hty k hk) hn hfit hl0 hd1 (fun H locs hP hD hS => h H locs ls hP hD hS hl)
end
