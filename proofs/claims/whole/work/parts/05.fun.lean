/-! states, loops and guards of the plain functions -/
abbrev Sg : Type := (Nat → Int32) × (Nat → Nat → Int32) × (Nat → Nat → Int64)
def sI (M : Sg) (k : Nat) (v : Int32) : Sg := (upd M.1 k v, M.2)
def sA (M : Sg) (k j : Nat) (v : Int32) : Sg := (M.1, va_up M.2.1 k (upd (M.2.1 k) j v), M.2.2)
def sJ (M : Sg) (k j : Nat) (v : Int64) : Sg := (M.1, M.2.1, va_up M.2.2 k (vp_updL (M.2.2 k) j v))
def sF (M : Sg) (k : Nat) (g : Nat → Int32) : Sg := (M.1, va_up M.2.1 k g, M.2.2)
def ixd {γ : Type} (j : Int32) (n : Nat) (k : Nat → Option γ) : Option γ := if ¬ (j < 0 ∨ n ≤ j.toNatClampNeg) then k j.toNatClampNeg else none
def zb {γ : Type} (v : Int32) (k : Bool → Option γ) : Option γ := if v = 0 then k false else if v = 1 then k true else none
def nzI {γ : Type} (v : Int32) (k : Unit → Option γ) : Option γ := if ¬ v = 0 then k () else none
def nzJ {γ : Type} (v : Int64) (k : Unit → Option γ) : Option γ := if ¬ v = 0 then k () else none
def ob3 {α β δ γ : Type} (x : Option (α × β × δ)) (f : α → β → δ → Option γ) : Option γ := x.bind (fun z => f z.1 z.2.1 z.2.2)
theorem ob3_some {α β δ γ : Type} {x : Option (α × β × δ)} {f : α → β → δ → Option γ} {o : γ} (h : ob3 x f = some o) : ∃ a b d, x = some (a, b, d) ∧ f a b d = some o := by
  cases x with
  | none => cases h
  | some z => exact ⟨z.1, z.2.1, z.2.2, rfl, h⟩
theorem ixd_some {γ : Type} {j : Int32} {n : Nat} {k : Nat → Option γ} {o : γ} (h : ixd j n k = some o) : ∃ i, j.toNatClampNeg = i ∧ vp_in j n ∧ k i = some o := by
  unfold ixd at h
  obtain ⟨h1, h2⟩ := if_n h
  exact ⟨_, rfl, h1, h2⟩
theorem zb_some {γ : Type} {v : Int32} {k : Bool → Option γ} {o : γ} (h : zb v k = some o) : ∃ b, v = bI b ∧ k b = some o := by
  unfold zb at h
  by_cases h0 : v = 0
  · exact ⟨false, h0, if_t h h0⟩
  · obtain ⟨h1, h2⟩ := if_n (if_f h h0)
    exact ⟨true, h1, h2⟩
theorem nzI_some {γ : Type} {v : Int32} {k : Unit → Option γ} {o : γ} (h : nzI v k = some o) : (¬ v = 0) ∧ k () = some o := if_n h
theorem nzJ_some {γ : Type} {v : Int64} {k : Unit → Option γ} {o : γ} (h : nzJ v k = some o) : (¬ v = 0) ∧ k () = some o := if_n h
theorem bI_fit (b : Bool) : fits .boolean (.int (bI b)) = true := by cases b <;> rfl
theorem sw_out {x : Int32} {lo hi : Int} (vs : List Int32) (h : ∀ v ∈ vs, ¬ x = v) (hc : vs.map Int32.toInt = (List.range (hi + 1 - lo).toNat).map (fun (k : Nat) => lo + (k : Int))) : x.toInt < lo ∨ hi < x.toInt := by
  by_cases h1 : x.toInt < lo
  · exact Or.inl h1
  · by_cases h2 : hi < x.toInt
    · exact Or.inr h2
    · exfalso
      have h3 : x.toInt ∈ vs.map Int32.toInt := by
        rw [hc]
        exact List.mem_map.mpr ⟨(x.toInt - lo).toNat, List.mem_range.mpr (by omega), by omega⟩
      obtain ⟨v, hv, he⟩ := List.mem_map.mp h3
      exact h v hv (Int32.toInt_inj.mp he.symm)
section
variable {Z : Cz} {D : va_G} {nL kc ks : Nat} {w : va_W} {pc : Nat} {lv : List (Nat × Value)} {st : List Value}
theorem k_topi {x z : Int32} (hx : x = z) (h : Wk Z D nL kc ks w pc lv (.int z :: st)) : Wk Z D nL kc ks w pc lv (.int x :: st) := by rw [hx]; exact h
theorem k_topl {x z : Int64} (hx : x = z) (h : Wk Z D nL kc ks w pc lv (.long z :: st)) : Wk Z D nL kc ks w pc lv (.long x :: st) := by rw [hx]; exact h
end
def fl0 {ρ : Type} (F : (Option ρ) → Option ρ) : Nat → Option ρ
  | 0 => none
  | n + 1 => F (fl0 F n) 
theorem flW0 {ρ : Type} {F : (Option ρ) → Option ρ} {P : Prop} {o : ρ} (hF : ∀ k, (k  = some o → P ) → F k  = some o → P ) : ∀ n, fl0 F n  = some o → P  := by
  intro n
  induction n with
  | zero => intro  h; cases h
  | succ n ih => exact hF (fl0 F n) ih
def fl1 {α0 ρ : Type} (F : (α0 → Option ρ) → α0 → Option ρ) : Nat → α0 → Option ρ
  | 0, _ => none
  | n + 1, x0 => F (fl1 F n) x0
theorem flW1 {α0 ρ : Type} {F : (α0 → Option ρ) → α0 → Option ρ} {P : α0 → Prop} {o : ρ} (hF : ∀ k, (∀ (x0 : α0), k x0 = some o → P x0) → ∀ (x0 : α0), F k x0 = some o → P x0) : ∀ n, ∀ (x0 : α0), fl1 F n x0 = some o → P x0 := by
  intro n
  induction n with
  | zero => intro x0 h; cases h
  | succ n ih => exact hF (fl1 F n) ih
def fl2 {α0 α1 ρ : Type} (F : (α0 → α1 → Option ρ) → α0 → α1 → Option ρ) : Nat → α0 → α1 → Option ρ
  | 0, _, _ => none
  | n + 1, x0, x1 => F (fl2 F n) x0 x1
theorem flW2 {α0 α1 ρ : Type} {F : (α0 → α1 → Option ρ) → α0 → α1 → Option ρ} {P : α0 → α1 → Prop} {o : ρ} (hF : ∀ k, (∀ (x0 : α0) (x1 : α1), k x0 x1 = some o → P x0 x1) → ∀ (x0 : α0) (x1 : α1), F k x0 x1 = some o → P x0 x1) : ∀ n, ∀ (x0 : α0) (x1 : α1), fl2 F n x0 x1 = some o → P x0 x1 := by
  intro n
  induction n with
  | zero => intro x0 x1 h; cases h
  | succ n ih => exact hF (fl2 F n) ih
def fl3 {α0 α1 α2 ρ : Type} (F : (α0 → α1 → α2 → Option ρ) → α0 → α1 → α2 → Option ρ) : Nat → α0 → α1 → α2 → Option ρ
  | 0, _, _, _ => none
  | n + 1, x0, x1, x2 => F (fl3 F n) x0 x1 x2
theorem flW3 {α0 α1 α2 ρ : Type} {F : (α0 → α1 → α2 → Option ρ) → α0 → α1 → α2 → Option ρ} {P : α0 → α1 → α2 → Prop} {o : ρ} (hF : ∀ k, (∀ (x0 : α0) (x1 : α1) (x2 : α2), k x0 x1 x2 = some o → P x0 x1 x2) → ∀ (x0 : α0) (x1 : α1) (x2 : α2), F k x0 x1 x2 = some o → P x0 x1 x2) : ∀ n, ∀ (x0 : α0) (x1 : α1) (x2 : α2), fl3 F n x0 x1 x2 = some o → P x0 x1 x2 := by
  intro n
  induction n with
  | zero => intro x0 x1 x2 h; cases h
  | succ n ih => exact hF (fl3 F n) ih
def fl4 {α0 α1 α2 α3 ρ : Type} (F : (α0 → α1 → α2 → α3 → Option ρ) → α0 → α1 → α2 → α3 → Option ρ) : Nat → α0 → α1 → α2 → α3 → Option ρ
  | 0, _, _, _, _ => none
  | n + 1, x0, x1, x2, x3 => F (fl4 F n) x0 x1 x2 x3
theorem flW4 {α0 α1 α2 α3 ρ : Type} {F : (α0 → α1 → α2 → α3 → Option ρ) → α0 → α1 → α2 → α3 → Option ρ} {P : α0 → α1 → α2 → α3 → Prop} {o : ρ} (hF : ∀ k, (∀ (x0 : α0) (x1 : α1) (x2 : α2) (x3 : α3), k x0 x1 x2 x3 = some o → P x0 x1 x2 x3) → ∀ (x0 : α0) (x1 : α1) (x2 : α2) (x3 : α3), F k x0 x1 x2 x3 = some o → P x0 x1 x2 x3) : ∀ n, ∀ (x0 : α0) (x1 : α1) (x2 : α2) (x3 : α3), fl4 F n x0 x1 x2 x3 = some o → P x0 x1 x2 x3 := by
  intro n
  induction n with
  | zero => intro x0 x1 x2 x3 h; cases h
  | succ n ih => exact hF (fl4 F n) ih
def fl5 {α0 α1 α2 α3 α4 ρ : Type} (F : (α0 → α1 → α2 → α3 → α4 → Option ρ) → α0 → α1 → α2 → α3 → α4 → Option ρ) : Nat → α0 → α1 → α2 → α3 → α4 → Option ρ
  | 0, _, _, _, _, _ => none
  | n + 1, x0, x1, x2, x3, x4 => F (fl5 F n) x0 x1 x2 x3 x4
theorem flW5 {α0 α1 α2 α3 α4 ρ : Type} {F : (α0 → α1 → α2 → α3 → α4 → Option ρ) → α0 → α1 → α2 → α3 → α4 → Option ρ} {P : α0 → α1 → α2 → α3 → α4 → Prop} {o : ρ} (hF : ∀ k, (∀ (x0 : α0) (x1 : α1) (x2 : α2) (x3 : α3) (x4 : α4), k x0 x1 x2 x3 x4 = some o → P x0 x1 x2 x3 x4) → ∀ (x0 : α0) (x1 : α1) (x2 : α2) (x3 : α3) (x4 : α4), F k x0 x1 x2 x3 x4 = some o → P x0 x1 x2 x3 x4) : ∀ n, ∀ (x0 : α0) (x1 : α1) (x2 : α2) (x3 : α3) (x4 : α4), fl5 F n x0 x1 x2 x3 x4 = some o → P x0 x1 x2 x3 x4 := by
  intro n
  induction n with
  | zero => intro x0 x1 x2 x3 x4 h; cases h
  | succ n ih => exact hF (fl5 F n) ih
def fl6 {α0 α1 α2 α3 α4 α5 ρ : Type} (F : (α0 → α1 → α2 → α3 → α4 → α5 → Option ρ) → α0 → α1 → α2 → α3 → α4 → α5 → Option ρ) : Nat → α0 → α1 → α2 → α3 → α4 → α5 → Option ρ
  | 0, _, _, _, _, _, _ => none
  | n + 1, x0, x1, x2, x3, x4, x5 => F (fl6 F n) x0 x1 x2 x3 x4 x5
theorem flW6 {α0 α1 α2 α3 α4 α5 ρ : Type} {F : (α0 → α1 → α2 → α3 → α4 → α5 → Option ρ) → α0 → α1 → α2 → α3 → α4 → α5 → Option ρ} {P : α0 → α1 → α2 → α3 → α4 → α5 → Prop} {o : ρ} (hF : ∀ k, (∀ (x0 : α0) (x1 : α1) (x2 : α2) (x3 : α3) (x4 : α4) (x5 : α5), k x0 x1 x2 x3 x4 x5 = some o → P x0 x1 x2 x3 x4 x5) → ∀ (x0 : α0) (x1 : α1) (x2 : α2) (x3 : α3) (x4 : α4) (x5 : α5), F k x0 x1 x2 x3 x4 x5 = some o → P x0 x1 x2 x3 x4 x5) : ∀ n, ∀ (x0 : α0) (x1 : α1) (x2 : α2) (x3 : α3) (x4 : α4) (x5 : α5), fl6 F n x0 x1 x2 x3 x4 x5 = some o → P x0 x1 x2 x3 x4 x5 := by
  intro n
  induction n with
  | zero => intro x0 x1 x2 x3 x4 x5 h; cases h
  | succ n ih => exact hF (fl6 F n) ih
def fl7 {α0 α1 α2 α3 α4 α5 α6 ρ : Type} (F : (α0 → α1 → α2 → α3 → α4 → α5 → α6 → Option ρ) → α0 → α1 → α2 → α3 → α4 → α5 → α6 → Option ρ) : Nat → α0 → α1 → α2 → α3 → α4 → α5 → α6 → Option ρ
  | 0, _, _, _, _, _, _, _ => none
  | n + 1, x0, x1, x2, x3, x4, x5, x6 => F (fl7 F n) x0 x1 x2 x3 x4 x5 x6
theorem flW7 {α0 α1 α2 α3 α4 α5 α6 ρ : Type} {F : (α0 → α1 → α2 → α3 → α4 → α5 → α6 → Option ρ) → α0 → α1 → α2 → α3 → α4 → α5 → α6 → Option ρ} {P : α0 → α1 → α2 → α3 → α4 → α5 → α6 → Prop} {o : ρ} (hF : ∀ k, (∀ (x0 : α0) (x1 : α1) (x2 : α2) (x3 : α3) (x4 : α4) (x5 : α5) (x6 : α6), k x0 x1 x2 x3 x4 x5 x6 = some o → P x0 x1 x2 x3 x4 x5 x6) → ∀ (x0 : α0) (x1 : α1) (x2 : α2) (x3 : α3) (x4 : α4) (x5 : α5) (x6 : α6), F k x0 x1 x2 x3 x4 x5 x6 = some o → P x0 x1 x2 x3 x4 x5 x6) : ∀ n, ∀ (x0 : α0) (x1 : α1) (x2 : α2) (x3 : α3) (x4 : α4) (x5 : α5) (x6 : α6), fl7 F n x0 x1 x2 x3 x4 x5 x6 = some o → P x0 x1 x2 x3 x4 x5 x6 := by
  intro n
  induction n with
  | zero => intro x0 x1 x2 x3 x4 x5 x6 h; cases h
  | succ n ih => exact hF (fl7 F n) ih
def fl8 {α0 α1 α2 α3 α4 α5 α6 α7 ρ : Type} (F : (α0 → α1 → α2 → α3 → α4 → α5 → α6 → α7 → Option ρ) → α0 → α1 → α2 → α3 → α4 → α5 → α6 → α7 → Option ρ) : Nat → α0 → α1 → α2 → α3 → α4 → α5 → α6 → α7 → Option ρ
  | 0, _, _, _, _, _, _, _, _ => none
  | n + 1, x0, x1, x2, x3, x4, x5, x6, x7 => F (fl8 F n) x0 x1 x2 x3 x4 x5 x6 x7
theorem flW8 {α0 α1 α2 α3 α4 α5 α6 α7 ρ : Type} {F : (α0 → α1 → α2 → α3 → α4 → α5 → α6 → α7 → Option ρ) → α0 → α1 → α2 → α3 → α4 → α5 → α6 → α7 → Option ρ} {P : α0 → α1 → α2 → α3 → α4 → α5 → α6 → α7 → Prop} {o : ρ} (hF : ∀ k, (∀ (x0 : α0) (x1 : α1) (x2 : α2) (x3 : α3) (x4 : α4) (x5 : α5) (x6 : α6) (x7 : α7), k x0 x1 x2 x3 x4 x5 x6 x7 = some o → P x0 x1 x2 x3 x4 x5 x6 x7) → ∀ (x0 : α0) (x1 : α1) (x2 : α2) (x3 : α3) (x4 : α4) (x5 : α5) (x6 : α6) (x7 : α7), F k x0 x1 x2 x3 x4 x5 x6 x7 = some o → P x0 x1 x2 x3 x4 x5 x6 x7) : ∀ n, ∀ (x0 : α0) (x1 : α1) (x2 : α2) (x3 : α3) (x4 : α4) (x5 : α5) (x6 : α6) (x7 : α7), fl8 F n x0 x1 x2 x3 x4 x5 x6 x7 = some o → P x0 x1 x2 x3 x4 x5 x6 x7 := by
  intro n
  induction n with
  | zero => intro x0 x1 x2 x3 x4 x5 x6 x7 h; cases h
  | succ n ih => exact hF (fl8 F n) ih
def fl9 {α0 α1 α2 α3 α4 α5 α6 α7 α8 ρ : Type} (F : (α0 → α1 → α2 → α3 → α4 → α5 → α6 → α7 → α8 → Option ρ) → α0 → α1 → α2 → α3 → α4 → α5 → α6 → α7 → α8 → Option ρ) : Nat → α0 → α1 → α2 → α3 → α4 → α5 → α6 → α7 → α8 → Option ρ
  | 0, _, _, _, _, _, _, _, _, _ => none
  | n + 1, x0, x1, x2, x3, x4, x5, x6, x7, x8 => F (fl9 F n) x0 x1 x2 x3 x4 x5 x6 x7 x8
theorem flW9 {α0 α1 α2 α3 α4 α5 α6 α7 α8 ρ : Type} {F : (α0 → α1 → α2 → α3 → α4 → α5 → α6 → α7 → α8 → Option ρ) → α0 → α1 → α2 → α3 → α4 → α5 → α6 → α7 → α8 → Option ρ} {P : α0 → α1 → α2 → α3 → α4 → α5 → α6 → α7 → α8 → Prop} {o : ρ} (hF : ∀ k, (∀ (x0 : α0) (x1 : α1) (x2 : α2) (x3 : α3) (x4 : α4) (x5 : α5) (x6 : α6) (x7 : α7) (x8 : α8), k x0 x1 x2 x3 x4 x5 x6 x7 x8 = some o → P x0 x1 x2 x3 x4 x5 x6 x7 x8) → ∀ (x0 : α0) (x1 : α1) (x2 : α2) (x3 : α3) (x4 : α4) (x5 : α5) (x6 : α6) (x7 : α7) (x8 : α8), F k x0 x1 x2 x3 x4 x5 x6 x7 x8 = some o → P x0 x1 x2 x3 x4 x5 x6 x7 x8) : ∀ n, ∀ (x0 : α0) (x1 : α1) (x2 : α2) (x3 : α3) (x4 : α4) (x5 : α5) (x6 : α6) (x7 : α7) (x8 : α8), fl9 F n x0 x1 x2 x3 x4 x5 x6 x7 x8 = some o → P x0 x1 x2 x3 x4 x5 x6 x7 x8 := by
  intro n
  induction n with
  | zero => intro x0 x1 x2 x3 x4 x5 x6 x7 x8 h; cases h
  | succ n ih => exact hF (fl9 F n) ih
def fl10 {α0 α1 α2 α3 α4 α5 α6 α7 α8 α9 ρ : Type} (F : (α0 → α1 → α2 → α3 → α4 → α5 → α6 → α7 → α8 → α9 → Option ρ) → α0 → α1 → α2 → α3 → α4 → α5 → α6 → α7 → α8 → α9 → Option ρ) : Nat → α0 → α1 → α2 → α3 → α4 → α5 → α6 → α7 → α8 → α9 → Option ρ
  | 0, _, _, _, _, _, _, _, _, _, _ => none
  | n + 1, x0, x1, x2, x3, x4, x5, x6, x7, x8, x9 => F (fl10 F n) x0 x1 x2 x3 x4 x5 x6 x7 x8 x9
theorem flW10 {α0 α1 α2 α3 α4 α5 α6 α7 α8 α9 ρ : Type} {F : (α0 → α1 → α2 → α3 → α4 → α5 → α6 → α7 → α8 → α9 → Option ρ) → α0 → α1 → α2 → α3 → α4 → α5 → α6 → α7 → α8 → α9 → Option ρ} {P : α0 → α1 → α2 → α3 → α4 → α5 → α6 → α7 → α8 → α9 → Prop} {o : ρ} (hF : ∀ k, (∀ (x0 : α0) (x1 : α1) (x2 : α2) (x3 : α3) (x4 : α4) (x5 : α5) (x6 : α6) (x7 : α7) (x8 : α8) (x9 : α9), k x0 x1 x2 x3 x4 x5 x6 x7 x8 x9 = some o → P x0 x1 x2 x3 x4 x5 x6 x7 x8 x9) → ∀ (x0 : α0) (x1 : α1) (x2 : α2) (x3 : α3) (x4 : α4) (x5 : α5) (x6 : α6) (x7 : α7) (x8 : α8) (x9 : α9), F k x0 x1 x2 x3 x4 x5 x6 x7 x8 x9 = some o → P x0 x1 x2 x3 x4 x5 x6 x7 x8 x9) : ∀ n, ∀ (x0 : α0) (x1 : α1) (x2 : α2) (x3 : α3) (x4 : α4) (x5 : α5) (x6 : α6) (x7 : α7) (x8 : α8) (x9 : α9), fl10 F n x0 x1 x2 x3 x4 x5 x6 x7 x8 x9 = some o → P x0 x1 x2 x3 x4 x5 x6 x7 x8 x9 := by
  intro n
  induction n with
  | zero => intro x0 x1 x2 x3 x4 x5 x6 x7 x8 x9 h; cases h
  | succ n ih => exact hF (fl10 F n) ih
def fl11 {α0 α1 α2 α3 α4 α5 α6 α7 α8 α9 α10 ρ : Type} (F : (α0 → α1 → α2 → α3 → α4 → α5 → α6 → α7 → α8 → α9 → α10 → Option ρ) → α0 → α1 → α2 → α3 → α4 → α5 → α6 → α7 → α8 → α9 → α10 → Option ρ) : Nat → α0 → α1 → α2 → α3 → α4 → α5 → α6 → α7 → α8 → α9 → α10 → Option ρ
  | 0, _, _, _, _, _, _, _, _, _, _, _ => none
  | n + 1, x0, x1, x2, x3, x4, x5, x6, x7, x8, x9, x10 => F (fl11 F n) x0 x1 x2 x3 x4 x5 x6 x7 x8 x9 x10
theorem flW11 {α0 α1 α2 α3 α4 α5 α6 α7 α8 α9 α10 ρ : Type} {F : (α0 → α1 → α2 → α3 → α4 → α5 → α6 → α7 → α8 → α9 → α10 → Option ρ) → α0 → α1 → α2 → α3 → α4 → α5 → α6 → α7 → α8 → α9 → α10 → Option ρ} {P : α0 → α1 → α2 → α3 → α4 → α5 → α6 → α7 → α8 → α9 → α10 → Prop} {o : ρ} (hF : ∀ k, (∀ (x0 : α0) (x1 : α1) (x2 : α2) (x3 : α3) (x4 : α4) (x5 : α5) (x6 : α6) (x7 : α7) (x8 : α8) (x9 : α9) (x10 : α10), k x0 x1 x2 x3 x4 x5 x6 x7 x8 x9 x10 = some o → P x0 x1 x2 x3 x4 x5 x6 x7 x8 x9 x10) → ∀ (x0 : α0) (x1 : α1) (x2 : α2) (x3 : α3) (x4 : α4) (x5 : α5) (x6 : α6) (x7 : α7) (x8 : α8) (x9 : α9) (x10 : α10), F k x0 x1 x2 x3 x4 x5 x6 x7 x8 x9 x10 = some o → P x0 x1 x2 x3 x4 x5 x6 x7 x8 x9 x10) : ∀ n, ∀ (x0 : α0) (x1 : α1) (x2 : α2) (x3 : α3) (x4 : α4) (x5 : α5) (x6 : α6) (x7 : α7) (x8 : α8) (x9 : α9) (x10 : α10), fl11 F n x0 x1 x2 x3 x4 x5 x6 x7 x8 x9 x10 = some o → P x0 x1 x2 x3 x4 x5 x6 x7 x8 x9 x10 := by
  intro n
  induction n with
  | zero => intro x0 x1 x2 x3 x4 x5 x6 x7 x8 x9 x10 h; cases h
  | succ n ih => exact hF (fl11 F n) ih
def fl12 {α0 α1 α2 α3 α4 α5 α6 α7 α8 α9 α10 α11 ρ : Type} (F : (α0 → α1 → α2 → α3 → α4 → α5 → α6 → α7 → α8 → α9 → α10 → α11 → Option ρ) → α0 → α1 → α2 → α3 → α4 → α5 → α6 → α7 → α8 → α9 → α10 → α11 → Option ρ) : Nat → α0 → α1 → α2 → α3 → α4 → α5 → α6 → α7 → α8 → α9 → α10 → α11 → Option ρ
  | 0, _, _, _, _, _, _, _, _, _, _, _, _ => none
  | n + 1, x0, x1, x2, x3, x4, x5, x6, x7, x8, x9, x10, x11 => F (fl12 F n) x0 x1 x2 x3 x4 x5 x6 x7 x8 x9 x10 x11
theorem flW12 {α0 α1 α2 α3 α4 α5 α6 α7 α8 α9 α10 α11 ρ : Type} {F : (α0 → α1 → α2 → α3 → α4 → α5 → α6 → α7 → α8 → α9 → α10 → α11 → Option ρ) → α0 → α1 → α2 → α3 → α4 → α5 → α6 → α7 → α8 → α9 → α10 → α11 → Option ρ} {P : α0 → α1 → α2 → α3 → α4 → α5 → α6 → α7 → α8 → α9 → α10 → α11 → Prop} {o : ρ} (hF : ∀ k, (∀ (x0 : α0) (x1 : α1) (x2 : α2) (x3 : α3) (x4 : α4) (x5 : α5) (x6 : α6) (x7 : α7) (x8 : α8) (x9 : α9) (x10 : α10) (x11 : α11), k x0 x1 x2 x3 x4 x5 x6 x7 x8 x9 x10 x11 = some o → P x0 x1 x2 x3 x4 x5 x6 x7 x8 x9 x10 x11) → ∀ (x0 : α0) (x1 : α1) (x2 : α2) (x3 : α3) (x4 : α4) (x5 : α5) (x6 : α6) (x7 : α7) (x8 : α8) (x9 : α9) (x10 : α10) (x11 : α11), F k x0 x1 x2 x3 x4 x5 x6 x7 x8 x9 x10 x11 = some o → P x0 x1 x2 x3 x4 x5 x6 x7 x8 x9 x10 x11) : ∀ n, ∀ (x0 : α0) (x1 : α1) (x2 : α2) (x3 : α3) (x4 : α4) (x5 : α5) (x6 : α6) (x7 : α7) (x8 : α8) (x9 : α9) (x10 : α10) (x11 : α11), fl12 F n x0 x1 x2 x3 x4 x5 x6 x7 x8 x9 x10 x11 = some o → P x0 x1 x2 x3 x4 x5 x6 x7 x8 x9 x10 x11 := by
  intro n
  induction n with
  | zero => intro x0 x1 x2 x3 x4 x5 x6 x7 x8 x9 x10 x11 h; cases h
  | succ n ih => exact hF (fl12 F n) ih
