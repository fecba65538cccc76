/-! more rows: another order of the world, Math, copies, switches -/
def jmax (x y : Int32) : Int32 := if x < y then y else x
def jmin (x y : Int32) : Int32 := if y < x then y else x
def jabs (x : Int32) : Int32 := if 0 ≤ x then x else 0 - x
def fillf (f : Nat → Int32) (n : Nat) (v : Int32) : Nat → Int32 := fun j => if j < n then v else f j
def JW (y : MethodName) (cc : ByteArray) (n : Nat) : Prop := Cond.static y ∈ TG ∧ Cond.initialized "java/lang/Math" ∈ TG ∧ Cond.code y cc n (some .int) ∈ TG
def ob4 {α β δ ε γ : Type} (x : Option (α × β × δ × ε)) (f : α → β → δ → ε → Option γ) : Option γ := x.bind (fun z => f z.1 z.2.1 z.2.2.1 z.2.2.2)
theorem ob4_some {α β δ ε γ : Type} {x : Option (α × β × δ × ε)} {f : α → β → δ → ε → Option γ} {o : γ} (h : ob4 x f = some o) : ∃ a b d e, x = some (a, b, d, e) ∧ f a b d e = some o := by
  cases x with
  | none => cases h
  | some z => exact ⟨z.1, z.2.1, z.2.2.1, z.2.2.2, rfl, h⟩
theorem lk_ne {x v : Int32} (h : ¬ x = v) : ¬ v.toInt = x.toInt := fun e => h (Int32.toInt_inj.mp e.symm)
theorem lk_out {ps : List (Int × Int)} {d k : Int} (h : ∀ q ∈ ps, ¬ q.1 = k) : Op.lookupswitch.offset ps d k = d := by
  induction ps with
  | nil => rfl
  | cons q ps ih =>
    have h1 := h q List.mem_cons_self
    have h2 := ih (fun z hz => h z (List.mem_cons_of_mem _ hz))
    first
      | (simp only [Op.lookupswitch.offset] at h2 ⊢; simp [h1, h2])
      | (unfold Op.lookupswitch.offset at h2 ⊢; simp [List.find?, h1] at h2 ⊢; exact h2)
section
variable {Z : Cz} {D : va_G} {cy : Nat → ClassId} {own : String} {tab : List (Nat × Instr × Nat)} {nL fr lo mc ms kc ks : Nat} {w : va_W} {pc : Nat} {lv : List (Nat × Value)} {st : List Value}
theorem k_re {w2 : va_W} (is : List Nat) (hn : va_nd is = true) (h1 : is.filterMap (fun i => w[i]?) = w2) (h2 : is.map (fun i => w[i]?) = w2.map some) (h : Wk Z D nL kc ks w2 pc lv st) : Wk Z D nL kc ks w pc lv st := by
  obtain ⟨p, l, e, R, s, m, args, below, meth, c, A, Q⟩ := Z
  intro H locs ls hP hD hS hl
  exact h H locs ls (hP.sub is h1) (hD.sub is hn h2) hS hl
theorem k_ifnonnull (C : Cx Z D cy own tab nL fr lo mc ms) (i : Nat) {off : Int} {x : Nat} (hi : tab[i]? = some (pc, .ifnonnull off, 3)) (tgt : Nat) (ht : (pc : Int) + off = (tgt : Int)) (h : Wk Z D nL kc ks w tgt lv st) : Wk Z D nL kc ks w pc lv (.ref x :: st) := by
  obtain ⟨p, l, e, R, s, m, args, below, meth, c, A, Q⟩ := Z
  obtain ⟨hx, hd, hts, hown, hml, hK, hA, hfr, hlo, hmc, hms, hEv⟩ := C
  have hd1 := hd _ _ _ (List.mem_of_getElem? hi)
  intro H locs ls hP hD hS hl
  exact lv_ifnonnull hx rfl hd1 ht (h H locs ls hP hD hS hl)
theorem k_lookup (C : Cx Z D cy own tab nL fr lo mc ms) (i : Nat) {x : Int32} {dflt : Int} {ps : Array (Int × Int)} {len : Nat} {off : Int} (hi : tab[i]? = some (pc, .lookupswitch dflt ps, len)) (tgt : Nat) (hp : (ps.toList.zip (ps.toList.drop 1)).all (fun (a, next) => a.1 < next.1) = true) (ho : Op.lookupswitch.offset ps.toList dflt x.toInt = off) (ht : (pc : Int) + off = (tgt : Int)) (h : Wk Z D nL kc ks w tgt lv st) : Wk Z D nL kc ks w pc lv (.int x :: st) := by
  obtain ⟨p, l, e, R, s, m, args, below, meth, c, A, Q⟩ := Z
  obtain ⟨hx, hd, hts, hown, hml, hK, hA, hfr, hlo, hmc, hms, hEv⟩ := C
  have hd1 := hd _ _ _ (List.mem_of_getElem? hi)
  intro H locs ls hP hD hS hl
  exact lv_lookup hx rfl hd1 hp ho ht (h H locs ls hP hD hS hl)
theorem k_mmax (C : Cx Z D cy own tab nL fr lo mc ms) (i : Nat) {idx : Nat} {x y : Int32} (hi : tab[i]? = some (pc, .invokestatic idx, 3)) (hlk : Cond.methodLink own idx Lib.Math.max.name ∈ TG) (jw : JW Lib.Math.max.name Lib.Math.max.code 2) (hf1 : 1 ≤ fr) (hl1 : 30 ≤ lo) (hsm : (st.map fun v => v.category).sum ≤ 8) (hkc : kc ≤ mc ∧ ks ≤ ms) (h : Wk Z D nL kc ks w (pc + 3) lv (.int (jmax x y) :: st)) : Wk Z D nL kc ks w pc lv (.int y :: .int x :: st) := by
  obtain ⟨p, l, e, R, s, m, args, below, meth, c, A, Q⟩ := Z
  obtain ⟨hx, hd, hts, hown, hml, hK, hA, hfr, hlo, hmc, hms, hEv⟩ := C
  have hd1 := hd _ _ _ (List.mem_of_getElem? hi)
  intro H locs ls hP hD hS hl
  exact va_mmax hx rfl (hml.trans hl.1.symm) hown (hts _ hlk) (hts _ jw.1) (hts _ jw.2.1) (hts _ jw.2.2) (by omega) (by omega) (by omega) (by omega) hd1 (h H locs ls hP hD hS hl)
theorem k_mmin (C : Cx Z D cy own tab nL fr lo mc ms) (i : Nat) {idx : Nat} {x y : Int32} (hi : tab[i]? = some (pc, .invokestatic idx, 3)) (hlk : Cond.methodLink own idx Lib.Math.min.name ∈ TG) (jw : JW Lib.Math.min.name Lib.Math.min.code 2) (hf1 : 1 ≤ fr) (hl1 : 30 ≤ lo) (hsm : (st.map fun v => v.category).sum ≤ 8) (hkc : kc ≤ mc ∧ ks ≤ ms) (h : Wk Z D nL kc ks w (pc + 3) lv (.int (jmin x y) :: st)) : Wk Z D nL kc ks w pc lv (.int y :: .int x :: st) := by
  obtain ⟨p, l, e, R, s, m, args, below, meth, c, A, Q⟩ := Z
  obtain ⟨hx, hd, hts, hown, hml, hK, hA, hfr, hlo, hmc, hms, hEv⟩ := C
  have hd1 := hd _ _ _ (List.mem_of_getElem? hi)
  intro H locs ls hP hD hS hl
  exact va_mmin hx rfl (hml.trans hl.1.symm) hown (hts _ hlk) (hts _ jw.1) (hts _ jw.2.1) (hts _ jw.2.2) (by omega) (by omega) (by omega) (by omega) hd1 (h H locs ls hP hD hS hl)
theorem k_mabs (C : Cx Z D cy own tab nL fr lo mc ms) (i : Nat) {idx : Nat} {x : Int32} (hi : tab[i]? = some (pc, .invokestatic idx, 3)) (hlk : Cond.methodLink own idx Lib.Math.abs.name ∈ TG) (jw : JW Lib.Math.abs.name Lib.Math.abs.code 1) (hf1 : 1 ≤ fr) (hl1 : 30 ≤ lo) (hsm : (st.map fun v => v.category).sum ≤ 8) (hkc : kc ≤ mc ∧ ks ≤ ms) (h : Wk Z D nL kc ks w (pc + 3) lv (.int (jabs x) :: st)) : Wk Z D nL kc ks w pc lv (.int x :: st) := by
  obtain ⟨p, l, e, R, s, m, args, below, meth, c, A, Q⟩ := Z
  obtain ⟨hx, hd, hts, hown, hml, hK, hA, hfr, hlo, hmc, hms, hEv⟩ := C
  have hd1 := hd _ _ _ (List.mem_of_getElem? hi)
  intro H locs ls hP hD hS hl
  exact va_mabs hx rfl (hml.trans hl.1.symm) hown (hts _ hlk) (hts _ jw.1) (hts _ jw.2.1) (hts _ jw.2.2) (by omega) (by omega) (by omega) (by omega) hd1 (h H locs ls hP hD hS hl)
theorem nfw : nativeFrameWords "java/lang/System" "arraycopy" 5 + 11 + 8 ≤ 200 := by decide +kernel
theorem k_copy (C : Cx Z D cy own tab nL fr lo mc ms) (i : Nat) {idx : Nat} {z : Int32} (hi : tab[i]? = some (pc, .invokestatic idx, 3)) (hlk : Cond.methodLink own idx arraycopyName ∈ TG) (jw : Cond.native arraycopyName ∈ TG ∧ Cond.static arraycopyName ∈ TG ∧ Cond.initialized "java/lang/System" ∈ TG) (q0 q1 : Nat) {a0 a n0 n1 : Nat} {f g : Nat → Int32} (ha0 : w[q0]? = some (a0, .inl (cy 1, n0, .inl f))) (ha1 : w[q1]? = some (a, .inl (cy 1, n1, .inl g))) (n : Nat) (hz : z.toNatClampNeg = n) (h3 : ¬ z < 0) (h4 : n ≤ n0) (h5 : n ≤ n1) (hf1 : 1 ≤ fr) (hl1 : 200 ≤ lo) (hsm : (st.map fun v => v.category).sum ≤ 8) {w2 : va_W} (hw : w.set q1 (a, .inl (cy 1, n1, .inl (va_cpy f g 0 0 n))) = w2) (h : Wk Z D nL kc ks w2 (pc + 3) lv st) : Wk Z D nL kc ks w pc lv (.int z :: .int 0 :: .ref a :: .int 0 :: .ref a0 :: st) := by
  subst hz hw
  obtain ⟨p, l, e, R, s, m, args, below, meth, c, A, Q⟩ := Z
  obtain ⟨hx, hd, hts, hown, hml, hK, hA, hfr, hlo, hmc, hms, hEv⟩ := C
  have hd1 := hd _ _ _ (List.mem_of_getElem? hi)
  have h9 := nfw
  have e0 : (0 : Int32).toNatClampNeg = 0 := by decide
  intro H locs ls hP hD hS hl
  refine va_copyi hx rfl (hml.trans hl.1.symm) hown (hts _ hlk) (hts _ jw.1) (hts _ jw.2.1) (hts _ jw.2.2) hK hP hD hS q0 q1 1 1 ha0 ha1 rfl rfl rfl (by decide) (by decide) h3 (by rw [e0]; omega) (by rw [e0]; omega) (fun _ _ => rfl) (by omega) (by omega) hd1 (fun H locs hP hD hS => ?_)
  rw [e0] at hP hD
  exact h H locs ls hP hD hS hl
/-- the world, cut at a cell -/
theorem w_cut {q : Nat} {x : Nat × va_E} (h : w[q]? = some x) : w.take q ++ [x] ++ w.drop (q + 1) = w := by
  obtain ⟨hq, rfl⟩ := List.getElem?_eq_some_iff.mp h
  rw [List.append_assoc, List.singleton_append, List.getElem_cons_drop, List.take_append_drop]
theorem w_set {q : Nat} {x y : Nat × va_E} (h : w[q]? = some x) : w.take q ++ [y] ++ w.drop (q + 1) = w.set q y := by
  obtain ⟨hq, -⟩ := List.getElem?_eq_some_iff.mp h
  rw [List.set_eq_take_append_cons_drop, if_pos hq, List.append_assoc, List.singleton_append]
end
