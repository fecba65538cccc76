/-! WORDS, numbers and signs of a tape, as numbers -/
def qrn (P : Nat → Bool) : Nat → Nat → Nat
  | 0, p => p
  | k + 1, p => if P p = true then qrn P k (p + 1) else p
theorem qrn_ge (P : Nat → Bool) : ∀ k p, p ≤ qrn P k p := by
  intro k
  induction k with
  | zero => intro p; exact Nat.le_refl _
  | succ k ih =>
    intro p
    show p ≤ (if P p = true then qrn P k (p + 1) else p)
    by_cases h : P p = true
    · rw [if_pos h]; have := ih (p + 1); omega
    · rw [if_neg h]; omega
theorem qrn_un {P : Nat → Bool} : ∀ (k p q : Nat), q ≤ p + k → p ≤ q → (∀ i, p ≤ i → i < q → P i = true) → P q = false → qrn P k p = q := by
  intro k
  induction k with
  | zero => intro p q h1 h2 _ _; show p = q; omega
  | succ k ih =>
    intro p q h1 h2 h3 h4
    show (if P p = true then qrn P k (p + 1) else p) = q
    by_cases e : p = q
    · subst e; rw [h4, if_neg (by decide)]
    · rw [if_pos (h3 p (Nat.le_refl _) (by omega))]
      exact ih (p + 1) q (by omega) (by omega) (fun i hi hq => h3 i (by omega) hq) h4
theorem qrn_in {P : Nat → Bool} : ∀ (k p i : Nat), p ≤ i → i < qrn P k p → P i = true := by
  intro k
  induction k with
  | zero => intro p i h1 h2; exact absurd h2 (by show ¬ i < p; omega)
  | succ k ih =>
    intro p i h1 h2
    have h2' : i < (if P p = true then qrn P k (p + 1) else p) := h2
    by_cases h : P p = true
    · rw [if_pos h] at h2'
      by_cases e : i = p
      · rw [e]; exact h
      · exact ih (p + 1) i (by omega) h2'
    · rw [if_neg h] at h2'; omega
theorem qrn_end {P : Nat → Bool} {n : Nat} (hn : ∀ i, n ≤ i → P i = false) : ∀ (k p : Nat), n ≤ p + k → P (qrn P k p) = false := by
  intro k
  induction k with
  | zero => intro p h; exact hn p (by omega)
  | succ k ih =>
    intro p h
    show P (if P p = true then qrn P k (p + 1) else p) = false
    by_cases e : P p = true
    · rw [if_pos e]; exact ih (p + 1) (by omega)
    · rw [if_neg e]; simpa using e
theorem qrn_le {P : Nat → Bool} {n : Nat} (hn : ∀ i, n ≤ i → P i = false) {k p : Nat} (hp : p ≤ n) : qrn P k p ≤ n := by
  by_cases h : qrn P k p ≤ n
  · exact h
  · have h1 := qrn_in (P := P) k p (qrn P k p - 1) (by omega) (by omega)
    rw [hn _ (by omega)] at h1
    cases h1
def qbl (b : Nat → Int32) (n i : Nat) : Bool := decide (i < n) && decide (b i = 32)
def qdg (b : Nat → Int32) (n i : Nat) : Bool := decide (i < n) && (decide (48 ≤ b i) && decide (b i ≤ 57))
def qlt (b : Nat → Int32) (n i : Nat) : Bool := decide (i < n) && (decide (97 ≤ b i) && decide (b i ≤ 122))
theorem qbl_n (b : Nat → Int32) (n : Nat) : ∀ i, n ≤ i → qbl b n i = false := by
  intro i hi; unfold qbl; rw [decide_eq_false (by omega)]; rfl
theorem qdg_n (b : Nat → Int32) (n : Nat) : ∀ i, n ≤ i → qdg b n i = false := by
  intro i hi; unfold qdg; rw [decide_eq_false (by omega)]; rfl
theorem qlt_n (b : Nat → Int32) (n : Nat) : ∀ i, n ≤ i → qlt b n i = false := by
  intro i hi; unfold qlt; rw [decide_eq_false (by omega)]; rfl
theorem qdg_y {b : Nat → Int32} {n i : Nat} (hi : i < n) : qdg b n i = (decide (48 ≤ b i) && decide (b i ≤ 57)) := by
  unfold qdg; rw [decide_eq_true hi]; rfl
theorem qlt_y {b : Nat → Int32} {n i : Nat} (hi : i < n) : qlt b n i = (decide (97 ≤ b i) && decide (b i ≤ 122)) := by
  unfold qlt; rw [decide_eq_true hi]; rfl
theorem qbl_y {b : Nat → Int32} {n i : Nat} (hi : i < n) : qbl b n i = decide (b i = 32) := by
  unfold qbl; rw [decide_eq_true hi]; rfl
def qsp (b : Nat → Int32) (n p : Nat) : Nat := qrn (qbl b n) n p
def qdE (b : Nat → Int32) (n p : Nat) : Nat := qrn (qdg b n) n p
def qlE (b : Nat → Int32) (n p : Nat) : Nat := qrn (qlt b n) n p
theorem nI_to {v : Int32} (h : 0 ≤ v.toInt) : v = nI v.toInt.toNat := by
  have h2 := Int32.toInt_lt v
  rw [← Int32.toInt_inj, nI_toInt (by omega)]
  omega
theorem nI_rg {v : Int32} {a b : Nat} (hb : b < 2 ^ 31) (h1 : nI a ≤ v) (h2 : v ≤ nI b) (ha : a < 2 ^ 31) : ∃ c, v = nI c ∧ a ≤ c ∧ c ≤ b := by
  rw [Int32.le_iff_toInt_le, nI_toInt ha] at h1
  rw [Int32.le_iff_toInt_le, nI_toInt hb] at h2
  exact ⟨v.toInt.toNat, nI_to (by omega), by omega, by omega⟩
theorem qdg_c {b : Nat → Int32} {n i : Nat} (h : qdg b n i = true) : i < n ∧ ∃ c, b i = nI c ∧ 48 ≤ c ∧ c ≤ 57 := by
  unfold qdg at h
  simp only [Bool.and_eq_true, decide_eq_true_eq] at h
  exact ⟨h.1, nI_rg (by omega) h.2.1 h.2.2 (by omega)⟩
theorem qlt_c {b : Nat → Int32} {n i : Nat} (h : qlt b n i = true) : i < n ∧ ∃ c, b i = nI c ∧ 97 ≤ c ∧ c ≤ 122 := by
  unfold qlt at h
  simp only [Bool.and_eq_true, decide_eq_true_eq] at h
  exact ⟨h.1, nI_rg (by omega) h.2.1 h.2.2 (by omega)⟩
/-- letters as one number -/
def qpk (f : Nat → Int32) (p : Nat) : Nat → Nat
  | 0 => 0
  | l + 1 => qpk f p l * 256 + (f (p + l)).toInt.toNat
def qok (f : Nat → Int32) (p l : Nat) : Prop := ∀ i, i < l → 0 < (f (p + i)).toInt ∧ (f (p + i)).toInt < 256
theorem qpk_z {f : Nat → Int32} {p : Nat} : ∀ l, qok f p l → (qpk f p l = 0 ↔ l = 0) := by
  intro l h
  cases l with
  | zero => exact ⟨fun _ => rfl, fun _ => rfl⟩
  | succ l =>
    have := h l (by omega)
    refine ⟨fun e => ?_, fun e => by omega⟩
    have e2 : qpk f p l * 256 + (f (p + l)).toInt.toNat = 0 := e
    omega
theorem qpk_inj {f g : Nat → Int32} {p q : Nat} : ∀ (l m : Nat), qok f p l → qok g q m → (qpk f p l = qpk g q m ↔ l = m ∧ ∀ i, i < l → f (p + i) = g (q + i)) := by
  intro l
  induction l with
  | zero =>
    intro m h1 h2
    have h3 := qpk_z m h2
    refine ⟨fun e => ?_, fun e => ?_⟩
    · have e2 : 0 = qpk g q m := e
      exact ⟨by have := h3.mp e2.symm; omega, fun i hi => by omega⟩
    · rw [← e.1]; rfl
  | succ l ih =>
    intro m h1 h2
    cases m with
    | zero =>
      have h3 := qpk_z (l + 1) h1
      refine ⟨fun e => ?_, fun e => ?_⟩
      · have e2 : qpk f p (l + 1) = 0 := e
        have := h3.mp e2
        omega
      · omega
    | succ m =>
      have h3 := ih m (fun i hi => h1 i (by omega)) (fun i hi => h2 i (by omega))
      have a1 := h1 l (by omega)
      have a2 := h2 m (by omega)
      show qpk f p l * 256 + (f (p + l)).toInt.toNat = qpk g q m * 256 + (g (q + m)).toInt.toNat ↔ _
      refine ⟨fun e => ?_, fun e => ?_⟩
      · have e1 : qpk f p l = qpk g q m := by omega
        have e2 : (f (p + l)).toInt = (g (q + m)).toInt := by omega
        obtain ⟨e3, e4⟩ := h3.mp e1
        refine ⟨by omega, fun i hi => ?_⟩
        by_cases e5 : i = l
        · subst e5; rw [← Int32.toInt_inj, e2, e3]
        · exact e4 i (by omega)
      · have e1 : l = m := by omega
        have e2 := h3.mpr ⟨e1, fun i hi => e.2 i (by omega)⟩
        have e3 := e.2 l (by omega)
        rw [e2, e3, e1]
/-- the numbers of the WORDS -/
def qWf (i : Nat) : Int32 := WB.getD i 0
def qwl : Nat → Nat → Nat → List Nat
  | 0, _, _ => []
  | k + 1, st, i => if i = 152 ∨ qWf i = 32 then qpk qWf st (i - st) :: qwl k (i + 1) (i + 1) else qwl k st (i + 1)
def qix (v : Nat) : List Nat → Nat → Int32
  | [], _ => -1
  | c :: cs, w => if v = c then nI w else qix v cs (w + 1)
def qWC : List Nat := [500135192942, 1684370292, 1937010544, 31632341598826087, 1936225652, 32776920184415609, 495622124659, 491394458994, 1953459300, 8100956982295360109, 115923103605861, 31372865427825765, 1937006969, 26982, 6385252, 28530, 7237492, 427070415720, 126879297138276, 1818584692, 491394656372, 1852137842, 1751215220, 465725121651, 1885430629, 1718971500, 470021465444]
theorem qwl_WC : qwl 153 0 0 = qWC := by decide
