/-! RULE: a TEST, both ways of reading it -/
def rs (N : Nat) (M_26 : Sg) : Option (Bool × Sg) := ob2 (f_X12_isWord M_26 (6385252 : Int64)) fun r33 M_33 => if (bI r33) = 0 then (ob2 (f_X12_isWord M_33 (28530 : Int64)) fun r43 M_43 => if (bI r43) = 0 then (f_X12_tested_b54 (fl2 f_X12_tested_b12 N) 0 M_43) else (f_X12_tested_b49 (fl2 f_X12_tested_b12 N) M_43)) else (f_X12_tested_b49 (fl2 f_X12_tested_b12 N) M_33)
def tA (N N1 : Nat) (M : Sg) : Option (Bool × Sg) := ob2 (fl2 f_X12_fact_b2 N1 1 M) fun r17 M_17 => if (bI r17) = 0 then (some (false, M_17)) else (ob1 (f_X12_closes M_17) fun M_26 => rs N M_26)
def tB (N N2 : Nat) (M : Sg) : Option (Bool × Sg) := ob1 (fl1 f_X12_closes_b5 N2 M) fun M_26 => rs N M_26
def tC (N N2 N3 : Nat) (M : Sg) : Option (Bool × Sg) := ob1 (ob1 (fl1 (f_X12_settles_b0 (nI 3)) N3 M) fun M2 => fl1 f_X12_closes_b5 N2 M2) fun M_26 => rs N M_26
theorem tA_t (N : Nat) (M : Sg) : fl2 f_X12_tested_b12 (N + 1) 1 M = tA N FU M := by
  show f_X12_tested_b12 (fl2 f_X12_tested_b12 N) 1 M = _
  unfold tA rs
  generalize fl2 f_X12_tested_b12 N = G
  unfold f_X12_tested_b12 f_X12_fact
  rw [if_neg (show ¬ (1 : Int32) = 0 by decide)]
theorem tA_C {N N1 : Nat} {M M' : Sg} (h : fl2 f_X12_fact_b2 N1 1 M = some (true, M')) : tA N N1 M = tC N FU FU M' := by
  unfold tA tC f_X12_closes f_X12_settles
  rw [h, ob2_s]
  dsimp only
  rw [itT]
  rfl
theorem tC_B {N N2 N3 : Nat} {M : Sg} (h : f_X12_settles_b0 (nI 3) (fl1 (f_X12_settles_b0 (nI 3)) N3) M = some M) : tC N N2 (N3 + 1) M = tB N N2 M := by
  have h2 : fl1 (f_X12_settles_b0 (nI 3)) (N3 + 1) M = some M := h
  unfold tC tB
  rw [h2, ob1_s]
theorem tC_pop {N N2 N3 : Nat} {M M' : Sg} (h : ∀ k, f_X12_settles_b0 (nI 3) k M = k M') : tC N N2 (N3 + 1) M = tC N N2 N3 M' := by
  have h2 : fl1 (f_X12_settles_b0 (nI 3)) (N3 + 1) M = fl1 (f_X12_settles_b0 (nI 3)) N3 M' := h _
  unfold tC
  rw [h2]
/-! what waits -/
def oL (o w : Bool) : List Nat := (if o = true then [13] else []) ++ (if w = true then [12] else [])
def cL (o w : Bool) : List Nat := (if w = true then [12] else []) ++ (if o = true then [13] else [])
def wAn (w : Bool) : List Nat := if w = true then [12] else []
def vO (o w : Bool) (vs : List Bool) : List Bool := true :: ((if w = true then [true] else []) ++ ((if o = true then [true] else []) ++ vs))
theorem oL_d (o w : Bool) : dep (oL o w) = 0 := by cases o <;> cases w <;> decide
theorem oL_g {o w : Bool} {os : List Nat} {y : Nat} (h : oL o w = os ++ [y]) : stg y < 3 := by
  have hm : y ∈ oL o w := by rw [h]; simp
  cases o <;> cases w <;> simp [oL] at hm
  · subst hm; decide
  · subst hm; decide
  · rcases hm with rfl | rfl <;> decide
theorem app_l {S c os : List Nat} {y : Nat} (h : S ++ c = os ++ [y]) : (c = [] ∧ S = os ++ [y]) ∨ ∃ c', c = c' ++ [y] := by
  rcases List.eq_nil_or_concat c with e | ⟨c', x, e⟩
  · subst e; rw [List.append_nil] at h; exact Or.inl ⟨rfl, h⟩
  · rw [List.concat_eq_append] at e
    subst e
    rw [← List.append_assoc] at h
    have := List.append_inj_right' h rfl
    exact Or.inr ⟨c', by rw [this]⟩
theorem stM_p2 {os : List Nat} {M : Sg} {y : Nat} (h : stM os M) (hl : os.length < 400) (hy : y = 12 ∨ y = 13) : stM (os ++ [y]) (sI (sA M 15 os.length (nI y)) 16 (nI (os.length + 1))) := by
  obtain ⟨h1, h2, h3, h4⟩ := h
  refine ⟨by rw [List.length_append]; show os.length + 1 ≤ 400; omega, by rw [List.length_append]; rfl, ?_, fun i x hx => ?_⟩
  · rw [dep_app, dep_y, if_neg (by omega)]; exact h3
  · show (if i = os.length then nI y else M.2.1 15 i) = nI x ∧ x < 100
    rcases app_c hx with ⟨e5, rfl⟩ | ⟨e5, hx2⟩
    · rw [if_pos e5]; exact ⟨rfl, by omega⟩
    · rw [if_neg (by omega)]; exact h4 i x hx2
section
variable {b : Nat → Int32} {n : Nat}
theorem rk_set1 (hn : n ≤ 400) {t z : Nat} (ht : t < 6) {l l' S : List Nat} {vs : List Bool} {a x p N : Nat} {o w : Bool} {M K Q : Sg} (hS : ∀ S' y, S = S' ++ [y] → y = 91) (h : RJ b n t z l l' (vO o w vs) a (x + (oL o w).length) M K Q p) (hst : stM (S ++ oL o w) M) (hN : 2 < N) : ∃ M', fl1 (f_X12_settles_b0 (nI 1)) N M = some M' ∧ stM S M' ∧ rF3 t M M' ∧ RJ b n t z (l ++ cL o w) l' (true :: vs) a x M' K Q p := by
  have hz : ∀ (M : Sg) (k : Sg → Option Sg), stM S M → f_X12_settles_b0 (nI 1) k M = some M := fun M k hs => m_setN hs (by omega) (fun S' y e => by rw [hS S' y e]; decide) k
  obtain ⟨N, rfl⟩ : ∃ k, N = k + 1 + 1 + 1 := ⟨N - 3, by omega⟩
  have hva : (vO o w vs).length ≤ a := h.2.2.2.2.2.2.2
  cases o with
  | false =>
    cases w with
    | false =>
      have hst' : stM S M := by rw [← List.append_nil S]; exact hst
      exact ⟨M, hz M _ hst', hst', rF3.rf t M, by show RJ b n t z (l ++ []) l' (true :: vs) a x M K Q p; rw [List.append_nil]; exact h⟩
    | true =>
      have hva2 : vs.length + 2 ≤ a := hva
      obtain ⟨M1, m1, m2, m3, m4⟩ := rk_pop hn ht (os := S) (y := 12) (s := 1) (e := x) h hst (by omega) (by decide) (ty_b (vs := vs) (Or.inl rfl)) (by show vs.length + 1 ≤ a; omega)
      refine ⟨M1, ?_, m2, m3, m4⟩
      show f_X12_settles_b0 (nI 1) _ M = _
      rw [m1]
      exact hz M1 _ m2
  | true =>
    cases w with
    | false =>
      have hva2 : vs.length + 2 ≤ a := hva
      obtain ⟨M1, m1, m2, m3, m4⟩ := rk_pop hn ht (os := S) (y := 13) (s := 1) (e := x) h hst (by omega) (by decide) (ty_b (vs := vs) (Or.inr rfl)) (by show vs.length + 1 ≤ a; omega)
      refine ⟨M1, ?_, m2, m3, m4⟩
      show f_X12_settles_b0 (nI 1) _ M = _
      rw [m1]
      exact hz M1 _ m2
    | true =>
      have hva2 : vs.length + 3 ≤ a := hva
      have hst' : stM ((S ++ [13]) ++ [12]) M := by rw [List.append_assoc]; exact hst
      obtain ⟨M1, m1, m2, m3, m4⟩ := rk_pop hn ht (os := S ++ [13]) (y := 12) (s := 1) (e := x + 1) h hst' (by omega) (by decide) (ty_b (vs := true :: vs) (Or.inl rfl)) (by show vs.length + 2 ≤ a; omega)
      obtain ⟨M2, n1, n2, n3, n4⟩ := rk_pop hn ht (os := S) (y := 13) (s := 1) (e := x) m4 m2 (by omega) (by decide) (ty_b (vs := vs) (Or.inr rfl)) (by show vs.length + 1 ≤ a; omega)
      refine ⟨M2, ?_, n2, m3.tr n3, by rw [List.append_assoc] at n4; exact n4⟩
      show f_X12_settles_b0 (nI 1) _ M = _
      rw [m1]
      show f_X12_settles_b0 (nI 1) _ M1 = _
      rw [n1]
      exact hz M2 _ n2
theorem rk_set2 (hn : n ≤ 400) {t z : Nat} (ht : t < 6) {l l' S : List Nat} {vs : List Bool} {a x p N : Nat} {o w : Bool} {M K Q : Sg} (hS : ∀ S' y, S = S' ++ [y] → y = 91) (h : RJ b n t z l l' (vO o w vs) a (x + (oL o w).length) M K Q p) (hst : stM (S ++ oL o w) M) (hN : 2 < N) : ∃ M', fl1 (f_X12_settles_b0 (nI 2)) N M = some M' ∧ stM (S ++ oL o false) M' ∧ rF3 t M M' ∧ RJ b n t z (l ++ wAn w) l' (vO o false vs) a (x + (oL o false).length) M' K Q p := by
  have hz : ∀ (M : Sg) (k : Sg → Option Sg), stM (S ++ oL o false) M → f_X12_settles_b0 (nI 2) k M = some M := by
    intro M k hs
    refine m_setN hs (by omega) (fun S' y e => ?_) k
    rcases app_l e with ⟨_, e2⟩ | ⟨c', e2⟩
    · rw [hS S' y e2]; decide
    · have hm : y ∈ oL o false := by rw [e2]; simp
      cases o <;> simp [oL] at hm
      subst hm; decide
  obtain ⟨N, rfl⟩ : ∃ k, N = k + 1 + 1 + 1 := ⟨N - 3, by omega⟩
  have hva : (vO o w vs).length ≤ a := h.2.2.2.2.2.2.2
  cases w with
  | false =>
    exact ⟨M, hz M _ hst, hst, rF3.rf t M, by show RJ b n t z (l ++ []) l' (vO o false vs) a _ M K Q p; rw [List.append_nil]; exact h⟩
  | true =>
    have e1 : oL o true = oL o false ++ [12] := by cases o <;> rfl
    rw [e1] at h hst
    rw [← List.append_assoc] at hst
    rw [List.length_append] at h
    have e2 : vO o true vs = true :: vO o false vs := by cases o <;> rfl
    have hva2 : (vO o false vs).length + 1 ≤ a := by rw [e2] at hva; exact hva
    have e5 : tyS 12 (vO o true vs) = some (vO o false vs) := by cases o <;> rfl
    obtain ⟨M1, m1, m2, m3, m4⟩ := rk_pop hn ht (os := S ++ oL o false) (y := 12) (s := 2) (e := x + (oL o false).length) (ws := vO o false vs) h hst (by omega) (by decide) e5 (by omega)
    refine ⟨M1, ?_, m2, m3, m4⟩
    show f_X12_settles_b0 (nI 2) _ M = _
    rw [m1]
    exact hz M1 _ m2
theorem m_b76 (hn : n ≤ 400) {M1 M3 : Sg} {os : List Nat} {y P : Nat} (hM1 : MqR b n M1 P) (hy : y = 12 ∨ y = 13) (h : fl1 (f_X12_settles_b0 (nI (stg y))) FU (sI M1 8 (nI (qlE b n P))) = some M3) (hst : stM os M3) (hl : os.length < 400) (k : Int32 → Sg → Option (Bool × Sg)) : f_X12_tested_b76 k 1 (nI y) M1 = k 1 (sI (sA M3 15 os.length (nI y)) 16 (nI (os.length + 1))) := by
  have e16 : (sA M3 15 os.length (nI y)).1 16 = nI os.length := hst.2.1
  unfold f_X12_tested_b76 f_X12_settles
  rw [m_passWord hM1 hn, ob1_s, m_stg (by omega), ob1_s, h, ob1_s, hst.2.1, ixd_nI hl (by omega), bnd_eq, bnd_eq, e16, ← nI_succ]
theorem qsg_l {P : Nat} (h : qlt b n P = true) : qsg b n P = 0 := by
  unfold qsg; rw [if_neg (by rw [qkd_2.mpr h]; omega)]
/-! the class's words -/
variable {Q K : Sg} {P : Nat} {f : Int32}
theorem x_tb9N (hQ : TQ b n Q P f) (h1 : qwd b n P ≠ 6385252) (h2 : qwd b n P ≠ 28530) (rf : Sg → Sg → Int32 → Option (Sg × Sg)) (p1 : Int32) (k : Int32 → Int32 → Sg → Sg → Option (Sg × Sg)) (x2 x3 : Int32) : f_X5_readTest_vopen_b9 rf p1 k x2 x3 K Q = f_X5_readTest_vopen_b95 rf p1 x2 K Q := by
  have c1 : ¬ qwN (qwd b n P) = 14 := fun e => h1 ((qwN_iff (j := 14) (by omega)).mp e)
  have c2 : ¬ qwN (qwd b n P) = 15 := fun e => h2 ((qwN_iff (j := 15) (by omega)).mp e)
  unfold f_X5_readTest_vopen_b9
  by_cases c : 400 ≤ x3
  · rw [if_pos c]
  · rw [if_neg c, x_wrd hQ, ob1_s, if_neg c1, if_neg c2]
theorem x_tb9A (hQ : TQ b n Q P f) (h1 : qwd b n P = 6385252) {j : Nat} (hj : j < 400) (rf : Sg → Sg → Int32 → Option (Sg × Sg)) (p1 : Int32) (k : Int32 → Int32 → Sg → Sg → Option (Sg × Sg)) (x2 : Int32) : f_X5_readTest_vopen_b9 rf p1 k x2 (nI j) K Q = f_X5_readTest_vopen_b42 rf p1 k x2 (nI j) (nI 14) K Q := by
  have c1 : qwN (qwd b n P) = nI 14 := (qwN_iff (j := 14) (by omega)).mpr h1
  unfold f_X5_readTest_vopen_b9
  rw [if_neg (show ¬ (400 : Int32) ≤ nI j from nI_ge (b := 400) hj (by omega)), x_wrd hQ, ob1_s, c1, if_pos (show nI 14 = (14 : Int32) from rfl)]
theorem x_tb9O (hQ : TQ b n Q P f) (h1 : qwd b n P = 28530) {j : Nat} (hj : j < 400) (rf : Sg → Sg → Int32 → Option (Sg × Sg)) (p1 : Int32) (k : Int32 → Int32 → Sg → Sg → Option (Sg × Sg)) (x2 : Int32) : f_X5_readTest_vopen_b9 rf p1 k x2 (nI j) K Q = f_X5_readTest_vopen_b42 rf p1 k x2 (nI j) (nI 15) K Q := by
  have c1 : qwN (qwd b n P) = nI 15 := (qwN_iff (j := 15) (by omega)).mpr h1
  unfold f_X5_readTest_vopen_b9
  rw [if_neg (show ¬ (400 : Int32) ≤ nI j from nI_ge (b := 400) hj (by omega)), x_wrd hQ, ob1_s, c1, if_neg (show ¬ nI 15 = (14 : Int32) by decide), if_pos (show nI 15 = (15 : Int32) from rfl)]
theorem qwd_n : qwd b n n = 0 := qwd_0 (Nat.le_refl _) (qlt_n b n n (Nat.le_refl _))
theorem x_testLE (hQ : TQ b n Q n f) (hs : xSn K) {N : Nat} (hN : 0 < N) (rf : Sg → Sg → Int32 → Option (Sg × Sg)) (p1 x2 x3 : Int32) : Wp (fl4 (f_X5_readTest_vopen_b9 rf p1) N x2 x3 K Q) (fun o => TQ b n o.2 n f ∧ xSn o.1 ∧ kK K o.1) := by
  obtain ⟨N, rfl⟩ : ∃ k, N = k + 1 := ⟨N - 1, by omega⟩
  show Wp (f_X5_readTest_vopen_b9 rf p1 (fl4 (f_X5_readTest_vopen_b9 rf p1) N) x2 x3 K Q) _
  rw [x_tb9N hQ (by rw [qwd_n]; decide) (by rw [qwd_n]; decide)]
  unfold f_X5_readTest_vopen_b95
  by_cases c : x2 = 0
  · rw [if_pos c]; exact wp_some.mpr ⟨hQ, hs, kK.rf K⟩
  · obtain ⟨K', k1, k2, k3⟩ := x_emitE 100015 hs
    rw [if_neg c, k1, ob1_s]; exact wp_some.mpr ⟨hQ, k2, k3⟩
end
