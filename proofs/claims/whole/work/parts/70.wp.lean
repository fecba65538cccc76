/-! what comes out of a plain function, and numbers as they are -/
def Wp {ρ : Type} (e : Option ρ) (P : ρ → Prop) : Prop := ∃ o, e = some o ∧ P o
theorem wp_some {ρ : Type} {o : ρ} {P : ρ → Prop} : Wp (some o) P ↔ P o := ⟨fun ⟨_, h, hp⟩ => by cases h; exact hp, fun h => ⟨o, rfl, h⟩⟩
theorem wp_mono {ρ : Type} {e : Option ρ} {P Q : ρ → Prop} (h : Wp e P) (hq : ∀ o, P o → Q o) : Wp e Q := by
  obtain ⟨o, h1, h2⟩ := h
  exact ⟨o, h1, hq o h2⟩
theorem wp_eq {ρ : Type} {e : Option ρ} {o : ρ} (h : e = some o) {P : ρ → Prop} : Wp e P ↔ P o := by rw [h]; exact wp_some
theorem wp_bnd {α ρ : Type} {x : α} {f : α → Option ρ} {P : ρ → Prop} : Wp (bnd x f) P ↔ Wp (f x) P := Iff.rfl
theorem wp_ob1 {α ρ : Type} {e : Option α} {f : α → Option ρ} {P : ρ → Prop} : Wp (ob1 e f) P ↔ Wp e (fun a => Wp (f a) P) := by
  cases e with
  | none => exact ⟨fun ⟨_, h, _⟩ => (by cases h), fun ⟨_, h, _⟩ => (by cases h)⟩
  | some a => exact ⟨fun h => ⟨a, rfl, h⟩, fun ⟨_, h, hp⟩ => by cases h; exact hp⟩
theorem wp_ob2 {α β ρ : Type} {e : Option (α × β)} {f : α → β → Option ρ} {P : ρ → Prop} : Wp (ob2 e f) P ↔ Wp e (fun a => Wp (f a.1 a.2) P) := wp_ob1 (e := e) (f := fun z => f z.1 z.2)
theorem wp_ob3 {α β γ ρ : Type} {e : Option (α × β × γ)} {f : α → β → γ → Option ρ} {P : ρ → Prop} : Wp (ob3 e f) P ↔ Wp e (fun a => Wp (f a.1 a.2.1 a.2.2) P) := wp_ob1 (e := e) (f := fun z => f z.1 z.2.1 z.2.2)
theorem wp_ob4 {α β γ δ ρ : Type} {e : Option (α × β × γ × δ)} {f : α → β → γ → δ → Option ρ} {P : ρ → Prop} : Wp (ob4 e f) P ↔ Wp e (fun a => Wp (f a.1 a.2.1 a.2.2.1 a.2.2.2) P) := wp_ob1 (e := e) (f := fun z => f z.1 z.2.1 z.2.2.1 z.2.2.2)
theorem wp_ob5 {α β γ δ ε ρ : Type} {e : Option (α × β × γ × δ × ε)} {f : α → β → γ → δ → ε → Option ρ} {P : ρ → Prop} : Wp (ob5 e f) P ↔ Wp e (fun a => Wp (f a.1 a.2.1 a.2.2.1 a.2.2.2.1 a.2.2.2.2) P) := wp_ob1 (e := e) (f := fun z => f z.1 z.2.1 z.2.2.1 z.2.2.2.1 z.2.2.2.2)
theorem wp_ite {ρ : Type} {c : Prop} {hc : Decidable c} {a b : Option ρ} {P : ρ → Prop} : Wp (if c then a else b) P ↔ ((c → Wp a P) ∧ (¬ c → Wp b P)) := by
  by_cases h : c
  · rw [if_pos h]; exact ⟨fun hp => ⟨fun _ => hp, fun hn => absurd h hn⟩, fun hp => hp.1 h⟩
  · rw [if_neg h]; exact ⟨fun hp => ⟨fun hn => absurd hn h, fun _ => hp⟩, fun hp => hp.2 h⟩
theorem wp_gE {ρ : Type} {i j : Nat} {k : Unit → Option ρ} {P : ρ → Prop} (h : i = j) : Wp (gE i j k) P ↔ Wp (k ()) P := by
  unfold gE; rw [if_pos h]
theorem nzI_eq {γ : Type} {v : Int32} {k : Unit → Option γ} (h : ¬ v = 0) : nzI v k = k () := if_pos h
theorem nzJ_eq {γ : Type} {v : Int64} {k : Unit → Option γ} (h : ¬ v = 0) : nzJ v k = k () := if_pos h
theorem zb_bI {γ : Type} {b : Bool} {k : Bool → Option γ} : zb (bI b) k = k b := by cases b <;> rfl
theorem zb_0 {γ : Type} {k : Bool → Option γ} : zb (nI 0) k = k false := rfl
theorem zb_1 {γ : Type} {k : Bool → Option γ} : zb (nI 1) k = k true := rfl
theorem bI_0 {b : Bool} : bI b = nI 0 ↔ b = false := by cases b <;> decide
theorem bI_t : bI true = nI 1 := rfl
theorem bI_f : bI false = nI 0 := rfl
theorem bnd_eq {α β : Type} (x : α) (f : α → β) : bnd x f = f x := rfl
theorem ob1_s {α γ : Type} (x : α) (f : α → Option γ) : ob1 (some x) f = f x := rfl
theorem ob2_s {α β γ : Type} (x : α × β) (f : α → β → Option γ) : ob2 (some x) f = f x.1 x.2 := rfl
theorem lit (k : Nat) : (OfNat.ofNat k : Int32) = nI (OfNat.ofNat k) := rfl
theorem nI_mul (a b : Nat) : nI a * nI b = nI (a * b) := (Int32.ofNat_mul a b).symm
theorem nI_sub {a b : Nat} (h : b ≤ a) : nI a - nI b = nI (a - b) := (Int32.ofNat_sub a b h).symm
theorem m1_lt {k : Nat} (h : k < 2 ^ 31) : (-nI 1 < nI k) ↔ True := by
  simp only [iff_true]
  rw [Int32.lt_iff_toInt_lt, nI_toInt h]
  have : (-nI 1).toInt = -1 := by decide
  omega
theorem lt_m1 {k : Nat} (h : k < 2 ^ 31) : (nI k < -nI 1) ↔ False := by
  simp only [iff_false]
  rw [Int32.lt_iff_toInt_lt, nI_toInt h]
  have : (-nI 1).toInt = -1 := by decide
  omega
theorem m1_le {k : Nat} (h : k < 2 ^ 31) : (-nI 1 ≤ nI k) ↔ True := by
  simp only [iff_true]
  rw [Int32.le_iff_toInt_le, nI_toInt h]
  have : (-nI 1).toInt = -1 := by decide
  omega
theorem le_m1 {k : Nat} (h : k < 2 ^ 31) : (nI k ≤ -nI 1) ↔ False := by
  simp only [iff_false]
  rw [Int32.le_iff_toInt_le, nI_toInt h]
  have : (-nI 1).toInt = -1 := by decide
  omega
theorem m1_eq {k : Nat} (h : k < 2 ^ 31) : (-nI 1 = nI k) ↔ False := by
  simp only [iff_false]
  rw [← Int32.toInt_inj, nI_toInt h]
  have : (-nI 1).toInt = -1 := by decide
  omega
theorem eq_m1 {k : Nat} (h : k < 2 ^ 31) : (nI k = -nI 1) ↔ False := by
  simp only [iff_false]
  rw [← Int32.toInt_inj, nI_toInt h]
  have : (-nI 1).toInt = -1 := by decide
  omega
section
variable {α0 α1 α2 α3 α4 α5 ρ : Type} {Q : ρ → Prop}
theorem wp_fl1 {F : (α0 → Option ρ) → α0 → Option ρ} (I : Nat → α0 → Prop) (hs : ∀ m k x0, I m x0 → (∀ m' y0, m' < m → I m' y0 → Wp (k y0) Q) → Wp (F k x0) Q) {N : Nat} : ∀ m, m < N → ∀ x0, I m x0 → Wp (fl1 F N x0) Q := by
  induction N with
  | zero => intro m hm; omega
  | succ N ih => intro m hm x0 hI; exact hs m _ x0 hI (fun m' y0 hm' hI' => ih m' (by omega) y0 hI')
theorem wp_fl2 {F : (α0 → α1 → Option ρ) → α0 → α1 → Option ρ} (I : Nat → α0 → α1 → Prop) (hs : ∀ m k x0 x1, I m x0 x1 → (∀ m' y0 y1, m' < m → I m' y0 y1 → Wp (k y0 y1) Q) → Wp (F k x0 x1) Q) {N : Nat} : ∀ m, m < N → ∀ x0 x1, I m x0 x1 → Wp (fl2 F N x0 x1) Q := by
  induction N with
  | zero => intro m hm; omega
  | succ N ih => intro m hm x0 x1 hI; exact hs m _ x0 x1 hI (fun m' y0 y1 hm' hI' => ih m' (by omega) y0 y1 hI')
theorem wp_fl3 {F : (α0 → α1 → α2 → Option ρ) → α0 → α1 → α2 → Option ρ} (I : Nat → α0 → α1 → α2 → Prop) (hs : ∀ m k x0 x1 x2, I m x0 x1 x2 → (∀ m' y0 y1 y2, m' < m → I m' y0 y1 y2 → Wp (k y0 y1 y2) Q) → Wp (F k x0 x1 x2) Q) {N : Nat} : ∀ m, m < N → ∀ x0 x1 x2, I m x0 x1 x2 → Wp (fl3 F N x0 x1 x2) Q := by
  induction N with
  | zero => intro m hm; omega
  | succ N ih => intro m hm x0 x1 x2 hI; exact hs m _ x0 x1 x2 hI (fun m' y0 y1 y2 hm' hI' => ih m' (by omega) y0 y1 y2 hI')
theorem wp_fl4 {F : (α0 → α1 → α2 → α3 → Option ρ) → α0 → α1 → α2 → α3 → Option ρ} (I : Nat → α0 → α1 → α2 → α3 → Prop) (hs : ∀ m k x0 x1 x2 x3, I m x0 x1 x2 x3 → (∀ m' y0 y1 y2 y3, m' < m → I m' y0 y1 y2 y3 → Wp (k y0 y1 y2 y3) Q) → Wp (F k x0 x1 x2 x3) Q) {N : Nat} : ∀ m, m < N → ∀ x0 x1 x2 x3, I m x0 x1 x2 x3 → Wp (fl4 F N x0 x1 x2 x3) Q := by
  induction N with
  | zero => intro m hm; omega
  | succ N ih => intro m hm x0 x1 x2 x3 hI; exact hs m _ x0 x1 x2 x3 hI (fun m' y0 y1 y2 y3 hm' hI' => ih m' (by omega) y0 y1 y2 y3 hI')
theorem wp_fl5 {F : (α0 → α1 → α2 → α3 → α4 → Option ρ) → α0 → α1 → α2 → α3 → α4 → Option ρ} (I : Nat → α0 → α1 → α2 → α3 → α4 → Prop) (hs : ∀ m k x0 x1 x2 x3 x4, I m x0 x1 x2 x3 x4 → (∀ m' y0 y1 y2 y3 y4, m' < m → I m' y0 y1 y2 y3 y4 → Wp (k y0 y1 y2 y3 y4) Q) → Wp (F k x0 x1 x2 x3 x4) Q) {N : Nat} : ∀ m, m < N → ∀ x0 x1 x2 x3 x4, I m x0 x1 x2 x3 x4 → Wp (fl5 F N x0 x1 x2 x3 x4) Q := by
  induction N with
  | zero => intro m hm; omega
  | succ N ih => intro m hm x0 x1 x2 x3 x4 hI; exact hs m _ x0 x1 x2 x3 x4 hI (fun m' y0 y1 y2 y3 y4 hm' hI' => ih m' (by omega) y0 y1 y2 y3 y4 hI')
end
theorem FU_lt {m : Nat} (h : m < 5000) : m < FU := h
/-! reading what was written -/
theorem sI_1 (M : Sg) (k j : Nat) (v : Int32) : (sI M k v).1 j = if j = k then v else M.1 j := rfl
theorem sI_2 (M : Sg) (k : Nat) (v : Int32) : (sI M k v).2 = M.2 := rfl
theorem sA_1 (M : Sg) (k j : Nat) (v : Int32) : (sA M k j v).1 = M.1 := rfl
theorem sA_2 (M : Sg) (k j q i : Nat) (v : Int32) : (sA M k j v).2.1 q i = if q = k then (if i = j then v else M.2.1 k i) else M.2.1 q i := by
  unfold sA va_up upd
  by_cases h : q = k
  · simp [h]
  · simp [h]
theorem sA_ne (M : Sg) {k q : Nat} (j : Nat) (v : Int32) (h : q ≠ k) : (sA M k j v).2.1 q = M.2.1 q := by
  unfold sA va_up
  simp [h]
theorem sA_3 (M : Sg) (k j : Nat) (v : Int32) : (sA M k j v).2.2 = M.2.2 := rfl
theorem sF_1 (M : Sg) (k : Nat) (g : Nat → Int32) : (sF M k g).1 = M.1 := rfl
theorem sF_2 (M : Sg) (k q : Nat) (g : Nat → Int32) : (sF M k g).2.1 q = if q = k then g else M.2.1 q := rfl
theorem sF_3 (M : Sg) (k : Nat) (g : Nat → Int32) : (sF M k g).2.2 = M.2.2 := rfl
theorem sJ_1 (M : Sg) (k j : Nat) (v : Int64) : (sJ M k j v).1 = M.1 := rfl
theorem sJ_2 (M : Sg) (k j : Nat) (v : Int64) : (sJ M k j v).2.1 = M.2.1 := rfl
theorem sJ_3 (M : Sg) (k j q i : Nat) (v : Int64) : (sJ M k j v).2.2 q i = if q = k then (if i = j then v else M.2.2 k i) else M.2.2 q i := by
  unfold sJ va_up vp_updL
  by_cases h : q = k
  · simp [h]
  · simp [h]
theorem nI_addm {k : Nat} (h : 1 ≤ k) : nI k + -nI 1 = nI (k - 1) := by
  rw [← nI_sub h, Int32.sub_eq_add_neg]
theorem wp_ob1' {α ρ : Type} {e : Option α} {f : α → Option ρ} {P : ρ → Prop} {o : α} (he : e = some o) (h : Wp (f o) P) : Wp (ob1 e f) P := by rw [wp_ob1, wp_eq he]; exact h
theorem wp_val {ρ : Type} {e : Option ρ} {v : ρ} : Wp e (fun o => o = v) ↔ e = some v := ⟨fun ⟨_, h, h2⟩ => by rw [h, h2], fun h => ⟨v, h, rfl⟩⟩
