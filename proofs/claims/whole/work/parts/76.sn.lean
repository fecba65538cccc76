/-! soonest, as numbers: what both searches come to -/
def cN (p : Nat → Bool) : Nat → Nat
  | 0 => 0
  | n + 1 => cN p n + (if p n then 1 else 0)
theorem cN_s (p : Nat → Bool) (n : Nat) : cN p (n + 1) = cN p n + (if p n then 1 else 0) := rfl
theorem cN_le (p : Nat → Bool) (n : Nat) : cN p n ≤ n := by
  induction n with
  | zero => exact Nat.le_refl _
  | succ n ih => rw [cN_s]; split <;> omega
theorem cN_mono {p q : Nat → Bool} {n : Nat} (h : ∀ c, c < n → p c = true → q c = true) : cN p n ≤ cN q n := by
  induction n with
  | zero => exact Nat.le_refl _
  | succ n ih =>
    have h1 := ih (fun c hc => h c (by omega))
    have h2 := h n (by omega)
    rw [cN_s, cN_s]
    by_cases hp : p n = true
    · rw [if_pos hp, if_pos (h2 hp)]; omega
    · rw [if_neg hp]; split <;> omega
theorem cN_lt {p q : Nat → Bool} {n c0 : Nat} (h : ∀ c, c < n → p c = true → q c = true) (h0 : c0 < n) (hq : q c0 = true) (hp : p c0 = false) : cN p n < cN q n := by
  induction n with
  | zero => omega
  | succ n ih =>
    rw [cN_s, cN_s]
    by_cases e : c0 = n
    · subst e
      have h1 : cN p c0 ≤ cN q c0 := cN_mono (fun c hc => h c (by omega))
      rw [hp, hq]
      simp only [Bool.false_eq_true, if_false, if_true]
      omega
    · have h1 := ih (fun c hc => h c (by omega)) (by omega)
      have h2 := h n (by omega)
      by_cases hp2 : p n = true
      · rw [if_pos hp2, if_pos (h2 hp2)]; omega
      · rw [if_neg hp2]; split <;> omega
theorem cN_ltn {p : Nat → Bool} {n c0 : Nat} (h0 : c0 < n) (hp : p c0 = false) : cN p n < n := by
  induction n with
  | zero => omega
  | succ n ih =>
    rw [cN_s]
    by_cases e : c0 = n
    · subst e
      have h1 := cN_le p c0
      rw [hp]; simp only [Bool.false_eq_true, if_false]; omega
    · have := ih (by omega); split <;> omega
theorem cN_congr {p q : Nat → Bool} {n : Nat} (h : ∀ c, c < n → p c = q c) : cN p n = cN q n := by
  induction n with
  | zero => rfl
  | succ n ih => rw [cN_s, cN_s, ih (fun c hc => h c (by omega)), h n (by omega)]
/-- a set that holds all below what it holds -/
theorem cN_down {p : Nat → Bool} {n : Nat} (h : ∀ s s', s ≤ s' → s' < n → p s' = true → p s = true) : ∀ s, s < n → (p s = true ↔ s < cN p n) := by
  induction n with
  | zero => intro s hs; omega
  | succ n ih =>
    intro s hs
    have ih2 := ih (fun s s' h1 h2 => h s s' h1 (by omega))
    rw [cN_s]
    by_cases hp : p n = true
    · rw [if_pos hp]
      have ha : ∀ c, c < n → p c = true := fun c hc => h c n (by omega) (by omega) hp
      have he : cN p n = n := by
        by_cases e : cN p n < n
        · have := (ih2 (cN p n) e).mp (ha _ e)
          omega
        · have := cN_le p n
          omega
      constructor
      · intro _; omega
      · intro _; exact h s n (by omega) (by omega) hp
    · rw [if_neg hp]
      by_cases e : s = n
      · subst e
        have := cN_le p s
        constructor
        · intro h2; exact absurd h2 hp
        · intro h2; omega
      · rw [ih2 s (by omega)]; omega
/-- the first end of a going from one coach to another, begun at a second or later -/
def fE (d : Tr) (m : Mo) (r c t s : Nat) : Nat := if dist c t = 1 then min (oC (sOB d (sOu d r c t) s) + sOu d r c t) (oC (sIB d m r c t s) + d.ins r) else oC (sOB d (sOu d r c t) s) + sOu d r c t
def eE (d : Tr) (m : Mo) (r c t s : Nat) : Nat := if fE d m r c t s ≤ 999 then fE d m r c t s else 1000000
def EP (n : Nat) (E : Nat → Nat → Nat → Nat) : Prop := (∀ c t s, E c t s ≤ 999 ∨ E c t s = 1000000) ∧ (∀ c t s s', c < n → t < n → c ≠ t → s ≤ s' → E c t s ≤ E c t s') ∧ (∀ c t s, c < n → t < n → c ≠ t → E c t s ≤ 999 → s < E c t s)
def Sn (n : Nat) (E : Nat → Nat → Nat → Nat) (a s : Nat) (A : Nat → Nat) : Prop := A a = s ∧ (∀ c, c < n → A c ≤ 999 ∨ A c = 1000000) ∧ (∀ c t, c < n → t < n → c ≠ t → A c ≤ 999 → A t ≤ E c t (A c)) ∧ (∀ t, t < n → A t ≤ 999 → t = a ∨ ∃ c, c < n ∧ c ≠ t ∧ A c < A t ∧ E c t (A c) = A t)
theorem sn_le {n : Nat} {E : Nat → Nat → Nat → Nat} {a s : Nat} {A B : Nat → Nat} (hE : EP n E) (ha : A a ≤ s) (hc : ∀ c t, c < n → t < n → c ≠ t → A c ≤ 999 → A t ≤ E c t (A c)) (hA : ∀ c, c < n → A c ≤ 1000000) (hB : Sn n E a s B) : ∀ v t, t < n → B t ≤ v → A t ≤ B t := by
  intro v
  induction v with
  | zero =>
    intro t ht hv
    rcases hB.2.2.2 t ht (by omega) with h | ⟨c, h1, h2, h3, h4⟩
    · subst h; rw [hB.1]; exact ha
    · omega
  | succ v ih =>
    intro t ht hv
    rcases hB.2.1 t ht with h5 | h5
    · rcases hB.2.2.2 t ht h5 with h | ⟨c, h1, h2, h3, h4⟩
      · subst h; rw [hB.1]; exact ha
      · have h6 := ih c h1 (by omega)
        have h7 := hc c t h1 ht h2 (by omega)
        have h8 := hE.2.1 c t (A c) (B c) h1 ht h2 h6
        omega
    · rw [h5]; exact hA t ht
theorem Sn.le9 {n : Nat} {E : Nat → Nat → Nat → Nat} {a s : Nat} {A : Nat → Nat} (h : Sn n E a s A) : ∀ c, c < n → A c ≤ 1000000 := fun c hc => by rcases h.2.1 c hc with h | h <;> omega
theorem sn_uniq {n : Nat} {E : Nat → Nat → Nat → Nat} {a s : Nat} {A B : Nat → Nat} (hE : EP n E) (hA : Sn n E a s A) (hB : Sn n E a s B) : ∀ t, t < n → A t = B t := by
  intro t ht
  have h1 := sn_le hE (by rw [hA.1]; exact Nat.le_refl _) hA.2.2.1 hA.le9 hB _ t ht (Nat.le_refl _)
  have h2 := sn_le hE (by rw [hB.1]; exact Nat.le_refl _) hB.2.2.1 hB.le9 hA _ t ht (Nat.le_refl _)
  omega
/-- how many come sooner -/
def rkS (n : Nat) (B : Nat → Nat) (t : Nat) : Nat := cN (fun c => decide (B c < B t)) n
theorem rkS_lt {n : Nat} {B : Nat → Nat} {c t : Nat} (hc : c < n) (h : B c < B t) : rkS n B c < rkS n B t := by
  refine cN_lt (c0 := c) ?_ hc ?_ ?_
  · intro x _ hx; simp only [decide_eq_true_eq] at hx ⊢; omega
  · simp only [decide_eq_true_eq]; exact h
  · simp
theorem rkS_n {n : Nat} {B : Nat → Nat} {t : Nat} (ht : t < n) : rkS n B t < n := cN_ltn ht (by simp)
section
variable {d : Tr} {m : Mo}
theorem sOB_bd (hd : TrOK d) {x s q : Nat} (h : sOB d x s = some q) : q + x ≤ 954 ∧ s ≤ q := by
  have hp := hd.pst
  unfold sOB at h
  cases h1 : fnd (fun k => decide (max s (d.hb k) + x ≤ d.he k)) (d.ps + 1) 0 with
  | none => rw [h1] at h; cases h
  | some k =>
    rw [h1] at h
    simp only [Option.map_some, Option.some.injEq] at h
    obtain ⟨b1, b2, b3, b4⟩ := fnd_some h1
    simp only [decide_eq_true_eq] at b1
    have := hd.heb (s := k) (by omega)
    omega
theorem sOB_mono (hd : TrOK d) {x s s' q' : Nat} (hs : s ≤ s') (h : sOB d x s' = some q') : ∃ q, sOB d x s = some q ∧ q ≤ q' := by
  have hp := hd.pst
  unfold sOB at h ⊢
  cases h1 : fnd (fun k => decide (max s' (d.hb k) + x ≤ d.he k)) (d.ps + 1) 0 with
  | none => rw [h1] at h; cases h
  | some k' =>
    rw [h1] at h
    simp only [Option.map_some, Option.some.injEq] at h
    obtain ⟨b1, b2, b3, b4⟩ := fnd_some h1
    simp only [decide_eq_true_eq] at b1
    cases h2 : fnd (fun k => decide (max s (d.hb k) + x ≤ d.he k)) (d.ps + 1) 0 with
    | none =>
      have := fnd_none h2 k' (by omega) (by omega)
      simp only [decide_eq_false_iff_not] at this
      omega
    | some k =>
      obtain ⟨a1, a2, a3, a4⟩ := fnd_some h2
      simp only [decide_eq_true_eq] at a1
      refine ⟨max s (d.hb k), rfl, ?_⟩
      have hk : k ≤ k' := by
        by_cases hc : k ≤ k'
        · exact hc
        · have := a4 k' (by omega) (by omega)
          simp only [decide_eq_false_iff_not] at this
          omega
      by_cases e : k = k'
      · subst e; omega
      · have := hd.hm (s := k) (t := k') (by omega) (by omega)
        omega
theorem sIB_bd {r a b s q : Nat} (h : sIB d m r a b s = some q) : s ≤ q := by
  unfold sIB at h
  split at h
  · cases h
  · split at h
    · cases h
    · cases h; omega
theorem sIB_mono {r a b s s' q' : Nat} (hs : s ≤ s') (h : sIB d m r a b s' = some q') : ∃ q, sIB d m r a b s = some q ∧ q ≤ q' := by
  unfold sIB at h ⊢
  split at h
  · cases h
  · rename_i h1
    rw [if_neg h1]
    split at h
    · cases h
    · rename_i h2
      cases h
      rw [if_neg (fun h3 => h2 ⟨h3.1, by omega⟩)]
      exact ⟨_, rfl, by omega⟩
theorem oC_cases (o : Option Nat) : (o = none ∧ oC o = 1000000) ∨ ∃ q, o = some q ∧ oC o = q := by
  cases o with
  | none => exact Or.inl ⟨rfl, rfl⟩
  | some q => exact Or.inr ⟨q, rfl, rfl⟩
theorem fE_mono (hd : TrOK d) {r c t s s' : Nat} (hs : s ≤ s') (hf : fE d m r c t s' ≤ 999) : fE d m r c t s ≤ fE d m r c t s' := by
  have h1 : oC (sOB d (sOu d r c t) s') ≤ 999 → oC (sOB d (sOu d r c t) s) ≤ oC (sOB d (sOu d r c t) s') := by
    intro h
    rcases oC_cases (sOB d (sOu d r c t) s') with ⟨h2, h3⟩ | ⟨q', h2, h3⟩
    · omega
    · obtain ⟨q, h4, h5⟩ := sOB_mono hd hs h2
      rw [h4, h2]; exact h5
  have h2 : oC (sIB d m r c t s') ≤ 999 → oC (sIB d m r c t s) ≤ oC (sIB d m r c t s') := by
    intro h
    rcases oC_cases (sIB d m r c t s') with ⟨h2, h3⟩ | ⟨q', h2, h3⟩
    · omega
    · obtain ⟨q, h4, h5⟩ := sIB_mono hs h2
      rw [h4, h2]; exact h5
  unfold fE at hf ⊢
  by_cases hc : dist c t = 1
  · simp only [if_pos hc] at hf ⊢; omega
  · simp only [if_neg hc] at hf ⊢; omega
theorem fE_lt (hd : TrOK d) {r c t s : Nat} (hr : r < d.rd) (hct : c ≠ t) (hf : fE d m r c t s ≤ 999) : s < fE d m r c t s := by
  have h1 : oC (sOB d (sOu d r c t) s) ≤ 999 → s ≤ oC (sOB d (sOu d r c t) s) := by
    intro h
    rcases oC_cases (sOB d (sOu d r c t) s) with ⟨h2, h3⟩ | ⟨q', h2, h3⟩
    · omega
    · have := sOB_bd hd h2; omega
  have h2 : oC (sIB d m r c t s) ≤ 999 → s ≤ oC (sIB d m r c t s) := by
    intro h
    rcases oC_cases (sIB d m r c t s) with ⟨h2, h3⟩ | ⟨q', h2, h3⟩
    · omega
    · have := sIB_bd h2; omega
  have h3 := sOu_pos hd hr hct
  have h4 := hd.inr hr
  unfold fE at hf ⊢
  by_cases hc : dist c t = 1
  · simp only [if_pos hc] at hf ⊢; omega
  · simp only [if_neg hc] at hf ⊢; omega
theorem eE_EP (hd : TrOK d) {r : Nat} (hr : r < d.rd) : EP d.n (eE d m r) := by
  refine ⟨fun c t s => ?_, fun c t s s' hc ht hct hs => ?_, fun c t s hc ht hct hs => ?_⟩
  · unfold eE; split <;> omega
  · unfold eE
    by_cases h : fE d m r c t s' ≤ 999
    · have := fE_mono hd hs h
      rw [if_pos h, if_pos (by omega)]; exact this
    · rw [if_neg h]; split <;> omega
  · unfold eE at hs ⊢
    by_cases h : fE d m r c t s ≤ 999
    · rw [if_pos h]; exact fE_lt hd hr hct h
    · rw [if_neg h] at hs; omega
end
/-- soonest at every coach from one at a second -/
noncomputable def sn (d : Tr) (m : Mo) (r a s : Nat) : Nat → Nat := Classical.epsilon (fun B => Sn d.n (eE d m r) a s B)
theorem sn_of {d : Tr} {m : Mo} {r a s : Nat} (h : ∃ B, Sn d.n (eE d m r) a s B) : Sn d.n (eE d m r) a s (sn d m r a s) := Classical.epsilon_spec h
