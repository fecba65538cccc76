/-! rows for arrays of references, five answers, a fixed place -/
def gE {γ : Type} (i j : Nat) (k : Unit → Option γ) : Option γ := if i = j then k () else none
theorem gE_some {γ : Type} {i j : Nat} {k : Unit → Option γ} {o : γ} (h : gE i j k = some o) : i = j ∧ k () = some o := if_n h
def ob5 {α β δ ε ζ γ : Type} (x : Option (α × β × δ × ε × ζ)) (f : α → β → δ → ε → ζ → Option γ) : Option γ := x.bind (fun z => f z.1 z.2.1 z.2.2.1 z.2.2.2.1 z.2.2.2.2)
theorem ob5_some {α β δ ε ζ γ : Type} {x : Option (α × β × δ × ε × ζ)} {f : α → β → δ → ε → ζ → Option γ} {o : γ} (h : ob5 x f = some o) : ∃ a b d e g, x = some (a, b, d, e, g) ∧ f a b d e g = some o := by
  cases x with
  | none => cases h
  | some z => exact ⟨z.1, z.2.1, z.2.2.1, z.2.2.2.1, z.2.2.2.2, rfl, h⟩
theorem k_aald {Z : Cz} {D : va_G} {cy : Nat → ClassId} {own : String} {tab : List (Nat × Instr × Nat)} {nL fr lo mc ms kc ks : Nat} {w : va_W} {pc : Nat} {lv : List (Nat × Value)} {st : List Value} (C : Cx Z D cy own tab nL fr lo mc ms) (i : Nat) (hi : tab[i]? = some (pc, .aaload, 1)) (q t0 : Nat) {a n : Nat} {cA : ClassId} {CC : String} {f : Nat → Option Nat} (he : w[q]? = some (a, .inl (cA, n, .inr (.inr (.inr (.inr f)))))) (ht : (tys cy)[t0]? = some (cA, .object CC)) {j : Int32} (hin : vp_in j n) {k x : Nat} (hk : j.toNatClampNeg = k) (hz : f k = some x) (h : Wk Z D nL kc ks w (pc + 1) lv (.ref x :: st)) : Wk Z D nL kc ks w pc lv (.int j :: .ref a :: st) := by
  subst hk
  obtain ⟨p, l, e, R, s, m, args, below, meth, c, A, Q⟩ := Z
  obtain ⟨hx, hd, hts, hown, hml, hK, hA, hfr, hlo, hmc, hms, hEv⟩ := C
  have hd1 := hd _ _ _ (List.mem_of_getElem? hi)
  intro H locs ls hP hD hS hl
  have h1 := h H locs ls hP hD hS hl
  refine va_aldq hx rfl hK hP q t0 he ht hin hd1 ?_
  rw [hz]
  exact h1
