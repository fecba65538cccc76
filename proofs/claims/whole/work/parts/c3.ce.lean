/-! RULE: rows of cells -/
def wfl : List Nat → List Bool → Option (List Bool)
  | [], st => some st
  | y :: ys, st => match tyS y st with | none => none | some st' => wfl ys st'
theorem wfl_app : ∀ (c d : List Nat) (st vs : List Bool), wfl c st = some vs → wfl (c ++ d) st = wfl d vs := by
  intro c
  induction c with
  | nil => intro d st vs h; have h2 : some st = some vs := h; cases h2; rfl
  | cons y ys ih =>
    intro d st vs h
    show (match tyS y st with | none => none | some s2 => wfl (ys ++ d) s2) = _
    have h2 : (match tyS y st with | none => none | some s2 => wfl ys s2) = some vs := h
    cases e : tyS y st with
    | none => rw [e] at h2; cases h2
    | some s2 => rw [e] at h2; exact ih d s2 vs h2
theorem wfl_1 {c : List Nat} {st vs ws : List Bool} {y : Nat} (h : wfl c st = some vs) (hy : tyS y vs = some ws) : wfl (c ++ [y]) st = some ws := by
  rw [wfl_app c [y] st vs h]
  show (match tyS y vs with | none => none | some s2 => wfl [] s2) = some ws
  rw [hy]; rfl
theorem ty_v {y : Nat} {vs : List Bool} (hy : y % 16 ≤ 1) (h : vs.length < 60) : tyS y vs = some (false :: vs) := by
  unfold tyS; rw [if_pos hy, if_pos h]
theorem ty_a {y : Nat} {vs : List Bool} (hy : y = 2 ∨ y = 3 ∨ y = 4 ∨ y = 5 ∨ y = 14) : tyS y (false :: false :: vs) = some (false :: vs) := by
  rcases hy with rfl | rfl | rfl | rfl | rfl <;> rfl
theorem ty_c {y : Nat} {vs : List Bool} (hy : y = 6 ∨ y = 7 ∨ y = 8 ∨ y = 9 ∨ y = 10) : tyS y (false :: false :: vs) = some (true :: vs) := by
  rcases hy with rfl | rfl | rfl | rfl | rfl <;> rfl
theorem ty_n {vs : List Bool} : tyS 11 (true :: vs) = some (true :: vs) := rfl
theorem ty_b {y : Nat} {vs : List Bool} (hy : y = 12 ∨ y = 13) : tyS y (true :: true :: vs) = some (true :: vs) := by
  rcases hy with rfl | rfl <;> rfl
/-! cells of class and reference -/
def cdX (l : List Nat) (K : Sg) : Prop := K.1 1 = nI l.length ∧ ∀ i y, l[i]? = some y → K.2.1 0 i = nI (cC y)
def cdM (t : Nat) (l : List Nat) (M : Sg) : Prop := M.1 11 = nI t ∧ M.2.1 4 t = nI l.length ∧ ∀ i y, l[i]? = some y → M.2.1 3 (400 * t + i) = nI y ∧ yOK y
def kK (K K' : Sg) : Prop := (∀ k, k ≠ 1 → k ≠ 7 → K'.1 k = K.1 k) ∧ ∀ k, k ≠ 0 → K'.2.1 k = K.2.1 k
theorem kK.rf (K : Sg) : kK K K := ⟨fun _ _ _ => rfl, fun _ _ => rfl⟩
theorem kK.tr {K K' K2 : Sg} (h : kK K K') (h2 : kK K' K2) : kK K K2 := ⟨fun k a c => (h2.1 k a c).trans (h.1 k a c), fun k a => (h2.2 k a).trans (h.2 k a)⟩
theorem kK.s7 (K : Sg) (v : Int32) : kK K (sI K 7 v) := ⟨fun k _ c => by show (if k = 7 then v else K.1 k) = K.1 k; rw [if_neg c], fun _ _ => rfl⟩
def xSn (K : Sg) : Prop := ∃ k, k ≤ 400 ∧ K.1 1 = nI k
theorem app_c {l : List Nat} {y i x : Nat} (h : (l ++ [y])[i]? = some x) : (i = l.length ∧ x = y) ∨ (i < l.length ∧ l[i]? = some x) := by
  by_cases c : i < l.length
  · rw [List.getElem?_append_left c] at h; exact Or.inr ⟨c, h⟩
  · rw [List.getElem?_append_right (by omega)] at h
    by_cases e : i = l.length
    · subst e
      rw [Nat.sub_self] at h
      have h2 : some y = some x := h
      cases h2; exact Or.inl ⟨rfl, rfl⟩
    · have e2 : i - l.length = (i - l.length - 1) + 1 := by omega
      rw [e2, List.getElem?_cons_succ] at h
      have h2 : (none : Option Nat) = some x := h
      cases h2
theorem x_emit {l : List Nat} {K : Sg} {y : Nat} (h : cdX l K) (hl : l.length < 400) : ∃ K', f_X5_emit K (nI (cC y)) = some K' ∧ cdX (l ++ [y]) K' ∧ kK K K' ∧ K'.1 7 = K.1 7 := by
  unfold f_X5_emit
  rw [h.1, if_neg (show ¬ (400 : Int32) ≤ nI l.length from nI_ge (b := 400) hl (by omega)), ixd_nI hl (by omega), bnd_eq, bnd_eq]
  refine ⟨_, rfl, ⟨?_, fun i x hx => ?_⟩, ⟨fun k h1 h7 => ?_, fun k hk => ?_⟩, rfl⟩
  · show K.1 1 + 1 = nI (l ++ [y]).length
    rw [h.1, List.length_append]; exact (nI_succ _).symm
  · show (if i = l.length then nI (cC y) else K.2.1 0 i) = nI (cC x)
    rcases app_c hx with ⟨e, rfl⟩ | ⟨e, hx2⟩
    · rw [if_pos e]
    · rw [if_neg (by omega)]; exact h.2 i x hx2
  · show (if k = 1 then _ else K.1 k) = K.1 k
    rw [if_neg h1]
  · exact sA_ne K _ _ hk
theorem x_emitE {K : Sg} (v : Int32) (h : xSn K) : ∃ K', f_X5_emit K v = some K' ∧ xSn K' ∧ kK K K' := by
  obtain ⟨k, hk, e⟩ := h
  unfold f_X5_emit
  rw [e]
  by_cases c : 400 ≤ k
  · rw [if_pos (show (400 : Int32) ≤ nI k from nI_le (a := 400) c (by omega))]
    exact ⟨K, rfl, ⟨k, hk, e⟩, kK.rf K⟩
  · rw [if_neg (show ¬ (400 : Int32) ≤ nI k from nI_ge (b := 400) (by omega) (by omega)), ixd_nI (by omega) (by omega), bnd_eq, bnd_eq]
    refine ⟨_, rfl, ⟨k + 1, by omega, ?_⟩, ⟨fun j h1 h7 => ?_, fun j hj => ?_⟩⟩
    · show K.1 1 + 1 = _
      rw [e]; exact (nI_succ _).symm
    · show (if j = 1 then _ else K.1 j) = K.1 j
      rw [if_neg h1]
    · exact sA_ne K _ _ hj
def rF1 (t : Nat) (M M' : Sg) : Prop := M'.2.2 = M.2.2 ∧ (∀ k, k ≠ 3 → k ≠ 4 → M'.2.1 k = M.2.1 k) ∧ ∀ i, i < 400 * t → M'.2.1 3 i = M.2.1 3 i
def rF2 (t : Nat) (M M' : Sg) : Prop := rF1 t M M' ∧ ∀ k, k ≠ 8 → k ≠ 9 → k ≠ 10 → k ≠ 12 → M'.1 k = M.1 k
theorem rF1.rf (t : Nat) (M : Sg) : rF1 t M M := ⟨rfl, fun _ _ _ => rfl, fun _ _ => rfl⟩
theorem rF1.tr {t : Nat} {M M' M2 : Sg} (h : rF1 t M M') (h2 : rF1 t M' M2) : rF1 t M M2 := ⟨h2.1.trans h.1, fun k a c => (h2.2.1 k a c).trans (h.2.1 k a c), fun i a => (h2.2.2 i a).trans (h.2.2 i a)⟩
theorem rF1.eq {t : Nat} {M M' : Sg} (h : M'.2 = M.2) : rF1 t M M' := ⟨by rw [h], fun _ _ _ => by rw [h], fun _ _ => by rw [h]⟩
theorem rF2.rf (t : Nat) (M : Sg) : rF2 t M M := ⟨rF1.rf t M, fun _ _ _ _ _ => rfl⟩
theorem rF2.tr {t : Nat} {M M' M2 : Sg} (h : rF2 t M M') (h2 : rF2 t M' M2) : rF2 t M M2 := ⟨h.1.tr h2.1, fun k a c d e => (h2.2 k a c d e).trans (h.2 k a c d e)⟩
theorem rF2.s (t : Nat) (M : Sg) {j : Nat} (hj : j = 8 ∨ j = 9 ∨ j = 10 ∨ j = 12) (v : Int32) : rF2 t M (sI M j v) := ⟨rF1.eq rfl, fun k a c d e => by show (if k = j then v else M.1 k) = M.1 k; rw [if_neg (by omega)]⟩
theorem kq.r2 {M M' : Sg} (h : kq M M') (t : Nat) : rF2 t M M' := ⟨rF1.eq h.1, fun k a c d _ => h.2 k a c d⟩
theorem rF1.r2 {t : Nat} {M M' : Sg} (h : rF1 t M M') (e : M'.1 = M.1) : rF2 t M M' := ⟨h, fun k _ _ _ _ => by rw [e]⟩
theorem m_puts {t : Nat} {l : List Nat} {M : Sg} {y : Nat} {s v : Int32} (h : cdM t l M) (ht : t < 6) (hl : l.length < 400) (hy : yOK y) (e : s + 16 * v = nI y) : ∃ M', f_X12_puts M s v = some M' ∧ cdM t (l ++ [y]) M' ∧ M'.1 = M.1 ∧ rF1 t M M' := by
  unfold f_X12_puts
  have e2 : (400 : Int32) * nI t + nI l.length = nI (400 * t + l.length) := by rw [show (400 : Int32) = nI 400 from rfl, nI_mul, nI_add]
  rw [h.1, ixd_nI (by omega) (by omega), h.2.1, e2, ixd_nI (by omega) (by omega), bnd_eq]
  have e3 : (sA M 3 (400 * t + l.length) (s + 16 * v)).1 11 = nI t := h.1
  have e4 : (sA M 3 (400 * t + l.length) (s + 16 * v)).2.1 4 t = nI l.length := h.2.1
  rw [e3, ixd_nI (by omega) (by omega), ixd_nI (by omega) (by omega), bnd_eq, e4]
  refine ⟨_, rfl, ⟨h.1, ?_, fun i x hx => ?_⟩, rfl, rfl, fun k h3 h4 => ?_, fun i hi => ?_⟩
  · show (if t = t then nI l.length + 1 else _) = nI (l ++ [y]).length
    rw [if_pos rfl, List.length_append]; exact (nI_succ _).symm
  · show (if 400 * t + i = 400 * t + l.length then s + 16 * v else M.2.1 3 (400 * t + i)) = nI x ∧ yOK x
    rcases app_c hx with ⟨e5, rfl⟩ | ⟨e5, hx2⟩
    · rw [if_pos (by omega)]; exact ⟨e, hy⟩
    · rw [if_neg (by omega)]; exact h.2.2 i x hx2
  · rw [sA_ne _ _ _ h4, sA_ne _ _ _ h3]
  · show (if i = 400 * t + l.length then s + 16 * v else M.2.1 3 i) = M.2.1 3 i
    rw [if_neg (by omega)]
theorem cdM_eq {t : Nat} {l : List Nat} {M M' : Sg} (h : cdM t l M) (h2 : M'.2 = M.2) (h11 : M'.1 11 = M.1 11) : cdM t l M' := by
  unfold cdM; rw [h2, h11]; exact h
theorem m_makes {M : Sg} {a : Nat} (h : M.1 12 = nI a) (ha : a ≤ 60) (v : Int32) : (a = 60 → f_X12_makes M v = f_X12_fails M (nI 3) v) ∧ (a < 60 → f_X12_makes M v = some (true, sI M 12 (nI (a + 1)))) := by
  unfold f_X12_makes
  rw [h]
  refine ⟨fun e => ?_, fun e => ?_⟩
  · have h3 : f_X12_fails M 3 v = f_X12_fails M (nI 3) v := rfl
    rw [if_pos (by rw [e]; rfl), ob2_eta, h3]
  · rw [if_neg (by rw [show (60 : Int32) = nI 60 from rfl, nI_eq (by omega) (by omega)]; omega), bnd_eq, ← nI_succ]
/-- class and reference stand alike in a RULE -/
def RJ (b : Nat → Int32) (n t z : Nat) (l l' : List Nat) (vs : List Bool) (a e : Nat) (M K Q : Sg) (p : Nat) : Prop := (MqR b n M p ∧ TQ b n Q (qsp b n p) 0) ∧ M.1 9 = 0 ∧ (cdM t l M ∧ cdX l' K) ∧ (M.1 12 = nI a ∧ K.1 7 = nI a ∧ a ≤ 60) ∧ l.length + e ≤ p ∧ z ≤ l.length ∧ wfl (l.drop z) [] = some vs ∧ vs.length ≤ a
def Bad (b : Nat → Int32) (n : Nat) (M' : Sg) (o : Sg × Sg) : Prop := M'.1 9 ≠ 0 ∧ TQ b n o.2 n (M'.1 9) ∧ xSn o.1
def JG (b : Nat → Int32) (n t : Nat) (M K : Sg) (e : Option (Bool × Sg)) (o : Sg × Sg) (G : Sg → Prop) : Prop := ∃ r M', e = some (r, M') ∧ rF2 t M M' ∧ kK K o.1 ∧ ((r = true ∧ G M') ∨ (r = false ∧ Bad b n M' o))
theorem drop_1 {l : List Nat} {z y : Nat} {vs ws : List Bool} (hz : z ≤ l.length) (h : wfl (l.drop z) [] = some vs) (hy : tyS y vs = some ws) : wfl ((l ++ [y]).drop z) [] = some ws := by
  rw [List.drop_append_of_le_length hz]; exact wfl_1 h hy
theorem cdX_s {l : List Nat} {K : Sg} (h : cdX l K) (hl : l.length ≤ 400) : xSn K := ⟨_, hl, h.1⟩
section
variable {b : Nat → Int32} {n : Nat}
theorem qvl_n {P : Nat} (h : qkd b n P = 1) : (∃ v, v ≤ 99999 ∧ qvl b n P = nI v) ∨ qvl b n P = -1 := by
  have c := qkd_1.mp h
  have hPn := (qdg_c c).1
  have hE := qdE_gt c
  unfold qvl
  rw [if_pos hPn, if_pos c]
  by_cases d : qdE b n P - P ≤ 5
  · rw [if_pos d]
    refine Or.inl ⟨_, ?_, rfl⟩
    have h1 := qdv_le (b := b) (n := n) (p := P) (qdE b n P - P) (fun i h1 h2 => qrn_in (P := qdg b n) n P i h1 (by show i < qdE b n P; omega))
    have h2 : 10 ^ (qdE b n P - P) ≤ 10 ^ 5 := Nat.pow_le_pow_right (by omega) d
    omega
  · rw [if_neg d]; exact Or.inr rfl
end
