/-! the reference's soonest -/
def sN (v : Nat) : Int32 := if v ≤ 999 then nI v else -nI 1
theorem sN_f {v : Nat} (h : v ≤ 999) : sN v = nI v := if_pos h
theorem sN_i {v : Nat} (h : ¬ v ≤ 999) : sN v = -nI 1 := if_neg h
def sM (M : Sg) (g h : Nat → Int32) : Sg := sF (sF M 24 g) 25 h
theorem sM_1 (M : Sg) (g h : Nat → Int32) : (sM M g h).1 = M.1 := rfl
theorem sM_24 (M : Sg) (g h : Nat → Int32) : (sM M g h).2.1 24 = g := rfl
theorem sM_25 (M : Sg) (g h : Nat → Int32) : (sM M g h).2.1 25 = h := rfl
theorem sM_20 (M : Sg) (g h : Nat → Int32) : (sM M g h).2.1 20 = M.2.1 20 := rfl
theorem va_up_up {α : Type} (f : Nat → α) (k : Nat) (u v : α) : va_up (va_up f k u) k v = va_up f k v := by
  funext j; unfold va_up; by_cases h : j = k <;> simp [h]
theorem va_up_cm {α : Type} (f : Nat → α) {k q : Nat} (u v : α) (h : k ≠ q) : va_up (va_up f k u) q v = va_up (va_up f q v) k u := by
  funext j; unfold va_up
  by_cases h1 : j = k
  · by_cases h2 : j = q
    · exact absurd (h1.symm.trans h2) h
    · simp [h1, h]
  · by_cases h2 : j = q
    · subst h2; simp [h1]
    · simp [h1, h2]
theorem va_up_se {α : Type} (f : Nat → α) (k : Nat) : va_up f k (f k) = f := by
  funext j; unfold va_up; by_cases h : j = k <;> simp [h]
theorem sM_id (M : Sg) : sM M (M.2.1 24) (M.2.1 25) = M := by
  unfold sM sF
  have h1 : va_up M.2.1 24 (M.2.1 24) = M.2.1 := va_up_se _ _
  rw [h1]
  have h2 : va_up M.2.1 25 (M.2.1 25) = M.2.1 := va_up_se _ _
  show (M.1, va_up M.2.1 25 (M.2.1 25), M.2.2) = M
  rw [h2]
theorem sA_24 (M : Sg) (g h : Nat → Int32) (i : Nat) (v : Int32) : sA (sM M g h) 24 i v = sM M (upd g i v) h := by
  show (M.1, va_up (va_up (va_up M.2.1 24 g) 25 h) 24 (upd g i v), M.2.2) = (M.1, va_up (va_up M.2.1 24 (upd g i v)) 25 h, M.2.2)
  rw [va_up_cm _ _ _ (show (25 : Nat) ≠ 24 by decide), va_up_up]
theorem sA_25 (M : Sg) (g h : Nat → Int32) (i : Nat) (v : Int32) : sA (sM M g h) 25 i v = sM M g (upd h i v) := by
  show (M.1, va_up (va_up (va_up M.2.1 24 g) 25 h) 25 (upd h i v), M.2.2) = (M.1, va_up (va_up M.2.1 24 g) 25 (upd h i v), M.2.2)
  rw [va_up_up]
theorem nar_b1 : vp_nar .boolean 1 = bI true := rfl
theorem nar_b0 : vp_nar .boolean 0 = bI false := rfl
theorem upd_at (f : Nat → Int32) (k : Nat) (x : Int32) (j : Nat) : upd f k x j = if j = k then x else f j := rfl
def nxS (B : Nat → Nat) (D : Nat → Bool) (k : Nat) (o : Option Nat) : Prop := match o with
  | none => ∀ c, c < k → B c ≤ 999 → D c = true
  | some b => (b < k ∧ B b ≤ 999 ∧ D b = false) ∧ ∀ c, c < k → B c ≤ 999 → D c = false → B b ≤ B c
def eI (d : Tr) (m : Mo) (r c t s : Nat) : Nat := if dist c t = 1 then (match sIF d m r c t s with | none => 1000000 | some q => q + d.ins r) else 1000000
def eO (d : Tr) (r c t s : Nat) : Nat := match sOB d (sOu d r c t) s with | none => 1000000 | some q => q + sOu d r c t
/-- one coach's goings reckoned in, of those below a number -/
def rlx (E : Nat → Nat → Nat → Nat) (c k : Nat) (B : Nat → Nat) : Nat → Nat := fun t => if t < k ∧ t ≠ c then min (B t) (E c t (B c)) else B t
def DJ (n : Nat) (E : Nat → Nat → Nat → Nat) (a s : Nat) (B : Nat → Nat) (D : Nat → Bool) : Prop := B a = s ∧ (∀ c, c < n → (B c ≤ 999 ∨ B c = 1000000) ∧ s ≤ B c) ∧ (∀ c t, c < n → t < n → c ≠ t → D c = true → B t ≤ E c t (B c)) ∧ (∀ t, t < n → B t ≤ 999 → t = a ∨ ∃ c, c < n ∧ c ≠ t ∧ D c = true ∧ B c < B t ∧ E c t (B c) = B t) ∧ (∀ c t, c < n → t < n → D c = true → D t = false → B c ≤ B t)
theorem dj_step {n : Nat} {E : Nat → Nat → Nat → Nat} {a s b : Nat} {B : Nat → Nat} {D : Nat → Bool} (hE : EP n E) (ha : a < n) (h : DJ n E a s B D) (ho : nxS B D n (some b)) : DJ n E a s (rlx E b n B) (fun c => if c = b then true else D c) := by
  obtain ⟨h1, h2, h3, h4, h5⟩ := h
  obtain ⟨⟨o1, o2, o3⟩, o4⟩ := ho
  have hb : rlx E b n B b = B b := by unfold rlx; rw [if_neg (by omega)]
  have hle : ∀ t, rlx E b n B t ≤ B t := fun t => by unfold rlx; split <;> omega
  have hEb : ∀ t, t < n → t ≠ b → B b < E b t (B b) := by
    intro t ht htb
    rcases hE.1 b t (B b) with h6 | h6
    · exact hE.2.2 b t (B b) o1 ht (fun e => htb e.symm) h6
    · omega
  have hcs : ∀ t, t < n → rlx E b n B t = B t ∨ (t ≠ b ∧ rlx E b n B t = E b t (B b) ∧ E b t (B b) < B t) := by
    intro t ht
    unfold rlx
    by_cases e : t = b
    · left; rw [if_neg (by omega)]
    · rw [if_pos ⟨ht, e⟩]
      by_cases e2 : E b t (B b) < B t
      · right; exact ⟨e, by omega, e2⟩
      · left; omega
  have hdn : ∀ t, t < n → D t = true → rlx E b n B t = B t := by
    intro t ht hD
    rcases hcs t ht with h6 | ⟨h6, h7, h8⟩
    · exact h6
    · have := h5 t b ht o1 hD o3
      have := hEb t ht h6
      omega
  refine ⟨?_, ?_, ?_, ?_, ?_⟩
  · rcases hcs a ha with h6 | ⟨h6, h7, h8⟩
    · rw [h6, h1]
    · have := hEb a ha h6
      have := (h2 b o1).2
      omega
  · intro c hc
    have h6 := h2 c hc
    have h6b := h2 b o1
    rcases hcs c hc with h7 | ⟨h7, h8, h9⟩
    · rw [h7]; exact h6
    · rw [h8]
      have := hEb c hc h7
      rcases hE.1 b c (B b) with h10 | h10
      · exact ⟨Or.inl h10, by omega⟩
      · exact ⟨Or.inr h10, by omega⟩
  · intro c t hc ht hct hD
    by_cases e : c = b
    · subst e
      rw [hb]
      unfold rlx
      rw [if_pos ⟨ht, fun e => hct e.symm⟩]
      omega
    · simp only [if_neg e] at hD
      rw [hdn c hc hD]
      have := h3 c t hc ht hct hD
      have := hle t
      omega
  · intro t ht hB
    rcases hcs t ht with h7 | ⟨h7, h8, h9⟩
    · rw [h7] at hB ⊢
      rcases h4 t ht hB with h10 | ⟨c, q1, q2, q3, q4, q5⟩
      · exact Or.inl h10
      · refine Or.inr ⟨c, q1, q2, ?_, ?_, ?_⟩
        · simp only [q3]; split <;> rfl
        · rw [hdn c q1 q3]; exact q4
        · rw [hdn c q1 q3]; exact q5
    · refine Or.inr ⟨b, o1, fun e => h7 e.symm, ?_, ?_, ?_⟩
      · simp
      · rw [hb, h8]; exact hEb t ht h7
      · rw [hb, h8]
  · intro c t hc ht hD hT
    have htb : t ≠ b := by
      intro e; subst e; simp at hT
    simp only [if_neg htb] at hT
    have hlow : B b ≤ rlx E b n B t := by
      rcases hcs t ht with h7 | ⟨h7, h8, h9⟩
      · rw [h7]
        rcases (h2 t ht).1 with h10 | h10
        · exact o4 t ht h10 hT
        · omega
      · rw [h8]; have := hEb t ht h7; omega
    by_cases e : c = b
    · subst e; rw [hb]; exact hlow
    · simp only [if_neg e] at hD
      rw [hdn c hc hD]
      have := h5 c b hc o1 hD o3
      omega
theorem dj_end {n : Nat} {E : Nat → Nat → Nat → Nat} {a s : Nat} {B : Nat → Nat} {D : Nat → Bool} (h : DJ n E a s B D) (ho : nxS B D n none) : Sn n E a s B := by
  obtain ⟨h1, h2, h3, h4, h5⟩ := h
  refine ⟨h1, fun c hc => (h2 c hc).1, fun c t hc ht hct hB => h3 c t hc ht hct (ho c hc hB), fun t ht hB => ?_⟩
  rcases h4 t ht hB with h10 | ⟨c, q1, q2, q3, q4, q5⟩
  · exact Or.inl h10
  · exact Or.inr ⟨c, q1, q2, q4, q5⟩
section
variable {d : Tr} {m : Mo} {M : Sg}
theorem eE_min (hd : TrOK d) {r c t s : Nat} : eE d m r c t s = min (eI d m r c t s) (eO d r c t s) := by
  unfold eE eI eO fE sIF
  rcases oC_cases (sOB d (sOu d r c t) s) with ⟨h2, h3⟩ | ⟨q, h2, h3⟩
  · rw [h3]
    simp only [h2]
    by_cases hc : dist c t = 1
    · simp only [if_pos hc]
      rcases oC_cases (sIB d m r c t s) with ⟨h4, h5⟩ | ⟨q', h4, h5⟩
      · rw [h5]; simp only [h4]; rw [if_neg (by omega)]; omega
      · rw [h5]; simp only [h4]
        by_cases hq : q' + d.ins r ≤ 999
        · simp only [if_pos hq]; rw [if_pos (by omega)]; omega
        · simp only [if_neg hq]; rw [if_neg (by omega)]; omega
    · simp only [if_neg hc]; rw [if_neg (by omega)]; omega
  · rw [h3]
    simp only [h2]
    have hb := sOB_bd hd h2
    by_cases hc : dist c t = 1
    · simp only [if_pos hc]
      rcases oC_cases (sIB d m r c t s) with ⟨h4, h5⟩ | ⟨q', h4, h5⟩
      · rw [h5]; simp only [h4]; rw [if_pos (by omega)]; omega
      · rw [h5]; simp only [h4]
        by_cases hq : q' + d.ins r ≤ 999
        · simp only [if_pos hq]; rw [if_pos (by omega)]; omega
        · simp only [if_neg hq]; rw [if_pos (by omega)]; omega
    · simp only [if_neg hc]; rw [if_pos (by omega)]; omega
theorem m_nextSoon (hd : TrOK d) (hM : TrM d (M.2.1 20)) {B : Nat → Nat} {D : Nat → Bool} (hg : ∀ c, c < d.n → M.2.1 24 c = sN (B c)) (hh : ∀ c, c < d.n → M.2.1 25 c = bI (D c)) : ∃ o, f_X12_nextSoon M = some (oM o) ∧ nxS B D d.n o := by
  have hn := hd.n8
  have key : Wp (f_X12_nextSoon M) (fun x => ∃ o, x = oM o ∧ nxS B D d.n o) := by
    unfold f_X12_nextSoon
    refine wp_fl2 (fun j x y => ∃ k o, x = oM o ∧ y = nI k ∧ k + j = d.n ∧ nxS B D k o) ?_ d.n (FU_lt (by omega)) _ _ ⟨0, none, rfl, rfl, by omega, fun c hc => by omega⟩
    rintro j K _ _ ⟨k, o, rfl, rfl, hk, ho⟩ ih
    cases j with
    | zero =>
      have e : k = d.n := by omega
      subst e
      unfold f_X12_nextSoon_b4
      rw [hM.1.1, if_pos (nI_le (Nat.le_refl _) (by omega))]
      exact wp_some.mpr ⟨o, rfl, ho⟩
    | succ j =>
      have hkn : k < d.n := by omega
      have e1 := hg k hkn
      have e2 := hh k hkn
      unfold f_X12_nextSoon_b4 f_X12_nextSoon_b51 f_X12_nextSoon_b53
      by_cases c1 : B k ≤ 999
      · rw [sN_f c1] at e1
        by_cases c2 : D k = true
        · rw [c2] at e2
          simp (disch := omega) only [hM.1.1, e1, e2, lit, nI_add, nI_mul, nI_ltI, nI_leI, nI_eq, nI_sub, m1_lt, lt_m1, m1_le, le_m1, m1_eq, eq_m1, ixd_nI, nI_addm, bnd_eq, ob1_s, ob2_s, bI_0, bI_t, bI_f, wp_some, wp_bnd, wp_ob1, wp_ob2, wp_ob3, wp_ob4, wp_ob5, if_true, if_false, ite_true, ite_false, reduceCtorEq, not_true_eq_false, not_false_eq_true, true_and, and_true, false_and, and_false, or_true, true_or, or_false, false_or, Bool.true_eq_false]
          rw [if_neg (by omega), if_neg (by omega)]
          refine ih j _ _ (by omega) ⟨k + 1, o, rfl, rfl, by omega, ?_⟩
          cases o with
          | none =>
            intro c hc hB
            by_cases e : c = k
            · subst e; exact c2
            · exact ho c (by omega) hB
          | some b =>
            refine ⟨⟨by have := ho.1.1; omega, ho.1.2⟩, fun c hc hB hD => ?_⟩
            by_cases e : c = k
            · subst e; rw [c2] at hD; cases hD
            · exact ho.2 c (by omega) hB hD
        · simp only [Bool.not_eq_true] at c2
          rw [c2] at e2
          cases o with
          | none =>
            have e3 : (oM none : Int32) = -nI 1 := rfl
            simp (disch := omega) only [hM.1.1, e1, e2, e3, lit, nI_add, nI_mul, nI_ltI, nI_leI, nI_eq, nI_sub, m1_lt, lt_m1, m1_le, le_m1, m1_eq, eq_m1, ixd_nI, nI_addm, bnd_eq, ob1_s, ob2_s, bI_0, bI_t, bI_f, wp_some, wp_bnd, wp_ob1, wp_ob2, wp_ob3, wp_ob4, wp_ob5, if_true, if_false, ite_true, ite_false, reduceCtorEq, not_true_eq_false, not_false_eq_true, true_and, and_true, false_and, and_false, or_true, true_or, or_false, false_or, Bool.true_eq_false]
            rw [if_neg (by omega), if_neg (by omega)]
            refine ih j _ _ (by omega) ⟨k + 1, some k, rfl, rfl, by omega, ⟨⟨by omega, c1, c2⟩, fun c hc hB hD => ?_⟩⟩
            by_cases e : c = k
            · subst e; exact Nat.le_refl _
            · have := ho c (by omega) hB; rw [this] at hD; cases hD
          | some b =>
            have e3 : (oM (some b) : Int32) = nI b := rfl
            have hb := ho.1.1
            have e4 := hg b (by omega)
            rw [sN_f ho.1.2.1] at e4
            have hb2 := ho.1.2.1
            simp (disch := omega) only [hM.1.1, e1, e2, e3, e4, lit, nI_add, nI_mul, nI_ltI, nI_leI, nI_eq, nI_sub, m1_lt, lt_m1, m1_le, le_m1, m1_eq, eq_m1, ixd_nI, nI_addm, bnd_eq, ob1_s, ob2_s, bI_0, bI_t, bI_f, wp_some, wp_bnd, wp_ob1, wp_ob2, wp_ob3, wp_ob4, wp_ob5, if_true, if_false, ite_true, ite_false, reduceCtorEq, not_true_eq_false, not_false_eq_true, true_and, and_true, false_and, and_false, or_true, true_or, or_false, false_or, Bool.true_eq_false]
            rw [if_neg (by omega), if_neg (by omega), if_neg (by omega)]
            by_cases c3 : B b ≤ B k
            · rw [if_pos c3]
              refine ih j _ _ (by omega) ⟨k + 1, some b, rfl, rfl, by omega, ⟨⟨by omega, ho.1.2⟩, fun c hc hB hD => ?_⟩⟩
              by_cases e : c = k
              · subst e; exact c3
              · exact ho.2 c (by omega) hB hD
            · rw [if_neg c3]
              refine ih j _ _ (by omega) ⟨k + 1, some k, rfl, rfl, by omega, ⟨⟨by omega, c1, c2⟩, fun c hc hB hD => ?_⟩⟩
              by_cases e : c = k
              · subst e; exact Nat.le_refl _
              · have := ho.2 c (by omega) hB hD; omega
      · rw [sN_i c1] at e1
        simp (disch := omega) only [hM.1.1, e1, e2, lit, nI_add, nI_mul, nI_ltI, nI_leI, nI_eq, nI_sub, m1_lt, lt_m1, m1_le, le_m1, m1_eq, eq_m1, ixd_nI, nI_addm, bnd_eq, ob1_s, ob2_s, bI_0, bI_t, bI_f, wp_some, wp_bnd, wp_ob1, wp_ob2, wp_ob3, wp_ob4, wp_ob5, if_true, if_false, ite_true, ite_false, reduceCtorEq, not_true_eq_false, not_false_eq_true, true_and, and_true, false_and, and_false, or_true, true_or, or_false, false_or]
        rw [if_neg (by omega)]
        refine ih j _ _ (by omega) ⟨k + 1, o, rfl, rfl, by omega, ?_⟩
        cases o with
        | none =>
          intro c hc hB
          by_cases e : c = k
          · subst e; exact absurd hB c1
          · exact ho c (by omega) hB
        | some b =>
          refine ⟨⟨by have := ho.1.1; omega, ho.1.2⟩, fun c hc hB hD => ?_⟩
          by_cases e : c = k
          · subst e; exact absurd hB c1
          · exact ho.2 c (by omega) hB hD
  obtain ⟨x, h1, o, h2, h3⟩ := key
  exact ⟨o, by rw [h1, h2], h3⟩
theorem m_comesAt {g h : Nat → Int32} {n : Nat} {B : Nat → Nat} {t v : Nat} (hn : n ≤ 8) (ht : t < n) (hg : ∀ c, c < n → g c = sN (B c)) : ∃ g', f_X12_comesAt (sM M g h) (nI t) (sN v) = some (sM M g' h) ∧ ∀ c, c < n → g' c = sN (if c = t then min (B t) v else B c) := by
  unfold f_X12_comesAt f_X12_comesAt_b23
  have hup : ∀ x, x = min (B t) v → ∀ c, c < n → upd g t (sN x) c = sN (if c = t then min (B t) v else B c) := by
    intro x hx c hc
    rw [upd_at]
    by_cases e : c = t
    · rw [if_pos e, if_pos e, hx]
    · rw [if_neg e, if_neg e]; exact hg c hc
  have hsm : B t ≤ v ∨ (¬ B t ≤ 999 ∧ ¬ v ≤ 999) → ∀ c, c < n → g c = sN (if c = t then min (B t) v else B c) := by
    intro hx c hc
    by_cases e : c = t
    · subst e
      rw [if_pos rfl, hg c hc]
      rcases hx with hx | hx
      · congr 1; omega
      · rw [sN_i hx.1, sN_i (by omega)]
    · rw [if_neg e]; exact hg c hc
  by_cases c1 : v ≤ 999
  · have e1 := hg t ht
    rw [sN_f c1]
    have hup2 := hup v
    rw [sN_f c1] at hup2
    by_cases c2 : B t ≤ 999
    · rw [sN_f c2] at e1
      simp (disch := omega) only [sM_24, sA_24, e1, lit, nI_add, nI_mul, nI_ltI, nI_leI, nI_eq, nI_sub, m1_lt, lt_m1, m1_le, le_m1, m1_eq, eq_m1, ixd_nI, nI_addm, bnd_eq, ob1_s, ob2_s, bI_0, bI_t, bI_f]
      rw [if_neg (by omega), if_neg (by omega)]
      by_cases c3 : B t ≤ v
      · rw [if_pos c3]; exact ⟨g, rfl, hsm (Or.inl c3)⟩
      · rw [if_neg c3]; exact ⟨_, rfl, hup2 (by omega)⟩
    · rw [sN_i c2] at e1
      simp (disch := omega) only [sM_24, sA_24, e1, lit, nI_add, nI_mul, nI_ltI, nI_leI, nI_eq, nI_sub, m1_lt, lt_m1, m1_le, le_m1, m1_eq, eq_m1, ixd_nI, nI_addm, bnd_eq, ob1_s, ob2_s, bI_0, bI_t, bI_f, if_true, if_false, ite_true, ite_false, reduceCtorEq, not_true_eq_false, not_false_eq_true, true_and, and_true, false_and, and_false, or_true, true_or, or_false, false_or]
      rw [if_neg (by omega)]
      exact ⟨_, rfl, hup2 (by omega)⟩
  · rw [sN_i c1]
    simp (disch := omega) only [lit, nI_add, nI_mul, nI_ltI, nI_leI, nI_eq, nI_sub, m1_lt, lt_m1, m1_le, le_m1, m1_eq, eq_m1, ixd_nI, nI_addm, bnd_eq, ob1_s, ob2_s, bI_0, bI_t, bI_f, if_true, if_false, ite_true, ite_false, reduceCtorEq, not_true_eq_false, not_false_eq_true, true_and, and_true, false_and, and_false, or_true, true_or, or_false, false_or]
    by_cases c2 : B t ≤ 999
    · exact ⟨g, rfl, hsm (Or.inl (by omega))⟩
    · exact ⟨g, rfl, hsm (Or.inr ⟨c2, c1⟩)⟩
end
