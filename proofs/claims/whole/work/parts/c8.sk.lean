/-! RULE: what is open, of the reference -/
theorem qwN_iff {v j : Nat} (hj : j < 27) : qwN v = nI j ↔ v = qWC.getD j 0 := by
  rcases qwN_c v with ⟨w, hw, e1, e2⟩ | ⟨e1, e2⟩
  · rw [e2, nI_eq (by omega) (by omega)]
    refine ⟨fun e => by rw [← e]; exact e1, fun e => ?_⟩
    exact Fin.mk.inj (qWC_inj ⟨w, hw⟩ ⟨j, hj⟩ (by rw [← e1]; exact e))
  · rw [e2]
    exact ⟨fun e => absurd e.symm (fun e => (eq_m1 (by omega)).mp e), fun e => absurd e (e1 j hj)⟩
def dep (os : List Nat) : Nat := (os.filter (fun y => decide (y = 11 ∨ y = 91))).length
theorem dep_app (a c : List Nat) : dep (a ++ c) = dep a + dep c := by
  unfold dep; rw [List.filter_append, List.length_append]
theorem dep_y (y : Nat) : dep [y] = if y = 11 ∨ y = 91 then 1 else 0 := by
  unfold dep
  by_cases h : y = 11 ∨ y = 91
  · rw [if_pos h, List.filter_cons_of_pos (by simpa using h)]; rfl
  · rw [if_neg h, List.filter_cons_of_neg (by simpa using h)]; rfl
def stM (os : List Nat) (M : Sg) : Prop := os.length ≤ 400 ∧ M.1 16 = nI os.length ∧ M.1 13 = nI (dep os) ∧ ∀ i y, os[i]? = some y → M.2.1 15 i = nI y ∧ y < 100
def rF3 (t : Nat) (M M' : Sg) : Prop := (M'.2.2 = M.2.2 ∧ (∀ k, k ≠ 3 → k ≠ 4 → k ≠ 15 → M'.2.1 k = M.2.1 k) ∧ ∀ i, i < 400 * t → M'.2.1 3 i = M.2.1 3 i) ∧ ∀ k, k ≠ 8 → k ≠ 9 → k ≠ 10 → k ≠ 12 → k ≠ 13 → k ≠ 16 → M'.1 k = M.1 k
theorem rF3.rf (t : Nat) (M : Sg) : rF3 t M M := ⟨⟨rfl, fun _ _ _ _ => rfl, fun _ _ => rfl⟩, fun _ _ _ _ _ _ _ => rfl⟩
theorem rF3.tr {t : Nat} {M M' M2 : Sg} (h : rF3 t M M') (h2 : rF3 t M' M2) : rF3 t M M2 := ⟨⟨h2.1.1.trans h.1.1, fun k a c d => (h2.1.2.1 k a c d).trans (h.1.2.1 k a c d), fun i a => (h2.1.2.2 i a).trans (h.1.2.2 i a)⟩, fun k a c d e f g => (h2.2 k a c d e f g).trans (h.2 k a c d e f g)⟩
theorem rF2.r3 {t : Nat} {M M' : Sg} (h : rF2 t M M') : rF3 t M M' := ⟨⟨h.1.1, fun k a c _ => h.1.2.1 k a c, h.1.2.2⟩, fun k a c d e _ _ => h.2 k a c d e⟩
theorem rF3.s (t : Nat) (M : Sg) {j : Nat} (hj : j = 8 ∨ j = 9 ∨ j = 10 ∨ j = 12 ∨ j = 13 ∨ j = 16) (v : Int32) : rF3 t M (sI M j v) := ⟨⟨rfl, fun _ _ _ _ => rfl, fun _ _ => rfl⟩, fun k a c d e f g => by show (if k = j then v else M.1 k) = M.1 k; rw [if_neg (by omega)]⟩
theorem rF3.a (t : Nat) (M : Sg) (j : Nat) (v : Int32) : rF3 t M (sA M 15 j v) := ⟨⟨rfl, fun k _ _ d => sA_ne M j v d, fun i _ => rfl⟩, fun _ _ _ _ _ _ _ => rfl⟩
theorem stM_r2 {t : Nat} {os : List Nat} {M M' : Sg} (h : stM os M) (hz : rF2 t M M') : stM os M' := by
  unfold stM
  rw [hz.2 16 (by omega) (by omega) (by omega) (by omega), hz.2 13 (by omega) (by omega) (by omega) (by omega), hz.1.2.1 15 (by omega) (by omega)]
  exact h
/-- something is opened -/
theorem stM_push {os : List Nat} {M : Sg} {y : Nat} {d : Int32} (h : stM os M) (hl : os.length < 400) (hy : y < 100) (hd : d = nI (dep (os ++ [y]))) : stM (os ++ [y]) (sI (sA (sI M 13 d) 15 os.length (nI y)) 16 (nI (os.length + 1))) := by
  obtain ⟨h1, h2, h3, h4⟩ := h
  refine ⟨by rw [List.length_append]; show os.length + 1 ≤ 400; omega, by rw [List.length_append]; rfl, hd, fun i x hx => ?_⟩
  show (if i = os.length then nI y else M.2.1 15 i) = nI x ∧ x < 100
  rcases app_c hx with ⟨e5, rfl⟩ | ⟨e5, hx2⟩
  · rw [if_pos e5]; exact ⟨rfl, hy⟩
  · rw [if_neg (by omega)]; exact h4 i x hx2
theorem stM_top {os : List Nat} {y : Nat} {M : Sg} (h : stM (os ++ [y]) M) : M.1 16 = nI (os.length + 1) ∧ os.length < 400 ∧ M.2.1 15 os.length = nI y := by
  obtain ⟨h1, h2, h3, h4⟩ := h
  rw [List.length_append] at h1 h2
  refine ⟨h2, by have : os.length + 1 ≤ 400 := h1; omega, (h4 os.length y ?_).1⟩
  rw [List.getElem?_append_right (Nat.le_refl _), Nat.sub_self]; rfl
theorem stM_pop {os : List Nat} {y : Nat} {M M' : Sg} (h : stM (os ++ [y]) M) (h16 : M'.1 16 = nI os.length) (h13 : M'.1 13 = nI (dep os)) (h15 : M'.2.1 15 = M.2.1 15) : stM os M' := by
  obtain ⟨h1, h2, h3, h4⟩ := h
  rw [List.length_append] at h1
  refine ⟨by have : os.length + 1 ≤ 400 := h1; omega, h16, h13, fun i x hx => ?_⟩
  rw [h15]
  refine h4 i x ?_
  have hi : i < os.length := by
    by_cases c : i < os.length
    · exact c
    · rw [List.getElem?_eq_none (by omega)] at hx; cases hx
  rw [List.getElem?_append_left hi]; exact hx
def stg (y : Nat) : Nat := if y = 13 then 1 else if y = 12 then 2 else if y = 11 then 3 else 0
theorem m_stg {y : Nat} (hy : y < 100) : f_X12_strength (nI y) = some (nI (stg y)) := by
  unfold f_X12_strength stg
  by_cases c1 : y = 13
  · rw [if_pos c1, if_pos (show nI y = 13 by rw [c1]; rfl)]; rfl
  · rw [if_neg c1, if_neg (show ¬ nI y = 13 by rw [show (13 : Int32) = nI 13 from rfl, nI_eq (by omega) (by omega)]; exact c1)]
    by_cases c2 : y = 12
    · rw [if_pos c2, if_pos (show nI y = 12 by rw [c2]; rfl)]; rfl
    · rw [if_neg c2, if_neg (show ¬ nI y = 12 by rw [show (12 : Int32) = nI 12 from rfl, nI_eq (by omega) (by omega)]; exact c2)]
      by_cases c3 : y = 11
      · rw [if_pos c3, if_pos (show nI y = 11 by rw [c3]; rfl)]; rfl
      · rw [if_neg c3, if_neg (show ¬ nI y = 11 by rw [show (11 : Int32) = nI 11 from rfl, nI_eq (by omega) (by omega)]; exact c3)]; rfl
theorem stg_le (y : Nat) : stg y ≤ 3 := by
  unfold stg; split
  · omega
  · split
    · omega
    · split <;> omega
/-- nothing is settled -/
theorem m_setN {os : List Nat} {M : Sg} {s : Nat} (h : stM os M) (hs : s ≤ 3) (hos : ∀ os' y, os = os' ++ [y] → stg y < s) (k : Sg → Option Sg) : f_X12_settles_b0 (nI s) k M = some M := by
  unfold f_X12_settles_b0
  rcases List.eq_nil_or_concat os with e | ⟨os', y, e⟩
  · rw [if_pos (by rw [h.2.1, e]; decide)]
  · rw [List.concat_eq_append] at e
    have hlt := hos os' y e
    subst e
    obtain ⟨t1, t2, t3⟩ := stM_top h
    have hy : y < 100 := (h.2.2.2 os'.length y (by rw [List.getElem?_append_right (Nat.le_refl _), Nat.sub_self]; rfl)).2
    rw [t1, if_neg (show ¬ nI (os'.length + 1) ≤ 0 from nI_nle (by omega) (by omega)), show nI (os'.length + 1) - 1 = nI os'.length from nI_pred _, ixd_nI t2 (by omega), t3, m_stg hy, ob1_s, if_pos (nI_lt hlt (by omega))]
section
variable {b : Nat → Int32} {n : Nat}
/-- what of RJ the reference has -/
theorem RJ_m {t z : Nat} {l l' : List Nat} {vs : List Bool} {a e p : Nat} {M M' K Q : Sg} (h : RJ b n t z l l' vs a e M K Q p) (e1 : M'.1 1 = M.1 1) (e8 : M'.1 8 = M.1 8) (e9 : M'.1 9 = M.1 9) (e11 : M'.1 11 = M.1 11) (e12 : M'.1 12 = M.1 12) (g0 : M'.2.1 0 = M.2.1 0) (g3 : M'.2.1 3 = M.2.1 3) (g4 : M'.2.1 4 = M.2.1 4) : RJ b n t z l l' vs a e M' K Q p := by
  unfold RJ MqR cdM
  rw [e1, e8, e9, e11, e12, g0, g3, g4]
  exact h
theorem RJ_e {t z : Nat} {l l' : List Nat} {vs : List Bool} {a e e' p : Nat} {M K Q : Sg} (h : RJ b n t z l l' vs a e M K Q p) (he : e' ≤ e) : RJ b n t z l l' vs a e' M K Q p := by
  obtain ⟨h1, h2, h3, h4, h5, h6⟩ := h
  exact ⟨h1, h2, h3, h4, by omega, h6⟩
theorem rk_m (hn : n ≤ 400) {t z : Nat} (ht : t < 6) {l l' : List Nat} {vs ws : List Bool} {a e p y : Nat} {M K Q : Sg} (h : RJ b n t z l l' vs a (e + 1) M K Q p) (hy : 2 ≤ y ∧ y ≤ 14) (hty : tyS y vs = some ws) (hws : ws.length ≤ a) : ∃ M2, f_X12_puts M (nI y) 0 = some M2 ∧ rF1 t M M2 ∧ M2.1 = M.1 ∧ RJ b n t z (l ++ [y]) l' ws a e M2 K Q p := by
  obtain ⟨⟨hM, hQ⟩, h9, ⟨hcM, hcX⟩, ⟨a1, a2, a3⟩, hlen, hzl, hw, hvs⟩ := h
  have hp := hM.2.2.2
  have hl : l.length < 400 := by omega
  have ep : nI y + 16 * (0 : Int32) = nI y := by
    rw [show (16 : Int32) = nI 16 from rfl, show (0 : Int32) = nI 0 from rfl, nI_mul, nI_add]; rfl
  obtain ⟨M3, m1, m2, m3, m4⟩ := m_puts hcM ht hl (y := y) (Or.inr (Or.inr hy)) ep
  have e1 : M3.2.1 0 = M.2.1 0 := m4.2.1 0 (by omega) (by omega)
  refine ⟨M3, m1, m4, m3, ⟨?_, hQ⟩, ?_, ⟨m2, hcX⟩, ⟨?_, a2, a3⟩, ?_, ?_, drop_1 hzl hw hty, hws⟩
  · unfold MqR; rw [m3, e1]; exact hM
  · rw [m3]; exact h9
  · rw [m3]; exact a1
  · rw [List.length_append]; show l.length + 1 + e ≤ p; omega
  · rw [List.length_append]; omega
theorem rk_x {t z : Nat} {l l' : List Nat} {vs : List Bool} {a e p y : Nat} {M K Q : Sg} (h : RJ b n t z l l' vs a e M K Q p) (hl : l'.length < 400) (hy : 2 ≤ y ∧ y ≤ 14) : ∃ K1, f_X5_emit K (nI (100000 + cS y)) = some K1 ∧ kK K K1 ∧ RJ b n t z l (l' ++ [y]) vs a e M K1 Q p := by
  obtain ⟨⟨hM, hQ⟩, h9, ⟨hcM, hcX⟩, ⟨a1, a2, a3⟩, hlen, hzl⟩ := h
  have ey : nI (100000 + cS y) = nI (cC y) := by
    unfold cC
    rw [if_neg (by omega), if_neg (by omega), show y % 16 = y by omega]
  obtain ⟨K2, k1, k2, k3, k4⟩ := x_emit (K := K) (y := y) hcX hl
  exact ⟨K2, by rw [ey]; exact k1, k3, ⟨hM, hQ⟩, h9, ⟨hcM, k2⟩, ⟨a1, by rw [k4]; exact a2, a3⟩, hlen, hzl⟩
/-- one is settled -/
theorem rk_pop (hn : n ≤ 400) {t z : Nat} (ht : t < 6) {l l' os : List Nat} {vs ws : List Bool} {a e p y s : Nat} {M K Q : Sg} (h : RJ b n t z l l' vs a (e + 1) M K Q p) (hst : stM (os ++ [y]) M) (hy : y = 11 ∨ y = 12 ∨ y = 13) (hs : s ≤ stg y) (hty : tyS y vs = some ws) (hws : ws.length ≤ a) : ∃ M', (∀ k, f_X12_settles_b0 (nI s) k M = k M') ∧ stM os M' ∧ rF3 t M M' ∧ RJ b n t z (l ++ [y]) l' ws a e M' K Q p := by
  obtain ⟨t1, t2, t3⟩ := stM_top hst
  have hR1 : RJ b n t z l l' vs a (e + 1) (sI M 16 (nI os.length)) K Q p := RJ_m h rfl rfl rfl rfl rfl rfl rfl rfl
  obtain ⟨M2, m1, m2, m3, m4⟩ := rk_m hn ht hR1 (y := y) (by omega) hty hws
  have hsg := stg_le y
  have e16 : M2.1 16 = nI os.length := by rw [m3]; rfl
  have e15 : M2.2.1 15 = M.2.1 15 := by rw [m2.2.1 15 (by omega) (by omega)]; rfl
  have e13 : M2.1 13 = nI (dep (os ++ [y])) := by rw [m3]; exact hst.2.2.1
  have z2 : rF3 t M M2 := (rF3.s t M (by omega) _).tr (m2.r2 m3).r3
  have hstep : ∀ k, f_X12_settles_b0 (nI s) k M = (if nI y = 11 then k (sI M2 13 (M2.1 13 - 1)) else k M2) := by
    intro k
    have e16' : (sI M 16 (nI os.length)).1 16 = nI os.length := rfl
    have e15' : (sI M 16 (nI os.length)).2.1 15 os.length = nI y := t3
    unfold f_X12_settles_b0
    rw [t1, if_neg (show ¬ nI (os.length + 1) ≤ 0 from nI_nle (by omega) (by omega)), show nI (os.length + 1) - 1 = nI os.length from nI_pred _, ixd_nI t2 (by omega), t3, m_stg (by omega), ob1_s, if_neg (nI_nlt hs (by omega)), bnd_eq, e16', ixd_nI t2 (by omega), e15', m1, ob1_s, e16, ixd_nI t2 (by omega), e15, t3]
    rfl
  by_cases c : y = 11
  · refine ⟨sI M2 13 (M2.1 13 - 1), fun k => by rw [hstep k, if_pos (by rw [c]; rfl)], stM_pop hst e16 ?_ e15, z2.tr (rF3.s t _ (by omega) _), RJ_m m4 rfl rfl rfl rfl rfl rfl rfl rfl⟩
    show M2.1 13 - 1 = nI (dep os)
    rw [e13, dep_app, dep_y, if_pos (Or.inl c)]; exact nI_pred _
  · refine ⟨M2, fun k => by rw [hstep k, if_neg (show ¬ nI y = 11 by rw [show (11 : Int32) = nI 11 from rfl, nI_eq (by omega) (by omega)]; exact c)], stM_pop hst e16 ?_ e15, z2, m4⟩
    rw [e13, dep_app, dep_y, if_neg (by omega)]; rfl
end
/-- is a bracket open? -/
theorem m_insL {os : List Nat} {M : Sg} (h : stM os M) : ∀ (m N i : Nat), m < N → i + m = os.length → (∀ j, j < i → os[j]? ≠ some 91) → fl1 (f_X12_isInside_b2 M) N (nI i) = some (decide (91 ∈ os)) := by
  intro m
  induction m with
  | zero =>
    intro N i hN hi hno
    have h0 := h.1
    obtain ⟨N, rfl⟩ : ∃ k, N = k + 1 := ⟨N - 1, by omega⟩
    show f_X12_isInside_b2 M (fl1 (f_X12_isInside_b2 M) N) (nI i) = _
    unfold f_X12_isInside_b2
    rw [h.2.1, if_pos (nI_le (by omega) (by omega)), decide_eq_false]
    intro hm
    obtain ⟨j, hj⟩ := List.mem_iff_getElem?.mp hm
    have hlt : j < os.length := by
      by_cases c : j < os.length
      · exact c
      · rw [List.getElem?_eq_none (by omega)] at hj; cases hj
    exact hno j (by omega) hj
  | succ m ih =>
    intro N i hN hi hno
    have h0 := h.1
    obtain ⟨N, rfl⟩ : ∃ k, N = k + 1 := ⟨N - 1, by omega⟩
    show f_X12_isInside_b2 M (fl1 (f_X12_isInside_b2 M) N) (nI i) = _
    have hlt : i < os.length := by omega
    have hy := List.getElem?_eq_getElem hlt
    have h4 := h.2.2.2 i _ hy
    have hI := ih N (i + 1) (by omega) (by omega)
    generalize fl1 (f_X12_isInside_b2 M) N = F at hI ⊢
    unfold f_X12_isInside_b2
    rw [h.2.1, if_neg (nI_ge hlt (by omega)), ixd_nI (by omega) (by omega), h4.1]
    by_cases c : os[i] = 91
    · rw [if_pos (show nI os[i] = 91 by rw [c]; rfl), decide_eq_true]
      rw [← c]; exact List.getElem_mem hlt
    · rw [if_neg (show ¬ nI os[i] = 91 by rw [show (91 : Int32) = nI 91 from rfl, nI_eq (by omega) (by omega)]; exact c), bnd_eq, ← nI_succ]
      refine hI (fun j hj => ?_)
      by_cases e : j = i
      · subst e; rw [hy]; intro e2; exact c (Option.some.inj e2)
      · exact hno j (by omega)
theorem m_ins {os : List Nat} {M : Sg} (h : stM os M) : f_X12_isInside M = some (decide (91 ∈ os)) := by
  have h0 := h.1
  unfold f_X12_isInside
  exact m_insL h os.length FU 0 (FU_lt (by omega)) (by omega) (fun j hj => by omega)
/-- one more is opened -/
theorem m_opens {os : List Nat} {M : Sg} {y P : Nat} (h : stM os M) (hl : os.length < 400) (hy : y = 11 ∨ y = 91) (hd : dep os ≤ 10) (h8 : M.1 8 = nI P) : (dep os = 10 → f_X12_opens M (nI y) = f_X12_fails M (nI 2) (nI P)) ∧ (dep os < 10 → f_X12_opens M (nI y) = some (true, sI (sA (sI M 13 (nI (dep os + 1))) 15 os.length (nI y)) 16 (nI (os.length + 1)))) := by
  have h3 : f_X12_fails M 2 (nI P) = f_X12_fails M (nI 2) (nI P) := rfl
  unfold f_X12_opens
  rw [h.2.2.1]
  refine ⟨fun e => ?_, fun e => ?_⟩
  · rw [if_pos (by rw [e]; rfl), ob2_eta, h8, h3]
  · have e16 : (sI M 13 (nI (dep os + 1))).1 16 = nI os.length := h.2.1
    have e16' : (sA (sI M 13 (nI (dep os + 1))) 15 os.length (nI y)).1 16 = nI os.length := h.2.1
    rw [if_neg (by rw [show (10 : Int32) = nI 10 from rfl, nI_eq (by omega) (by omega)]; omega), bnd_eq, ← nI_succ, e16, ixd_nI hl (by omega), bnd_eq, bnd_eq, e16', ← nI_succ]
