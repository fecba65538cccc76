/-! RULE: a comparison -/
section
variable {b : Nat → Int32} {n : Nat}
theorem k3_in {P : Nat} (k3 : qkd b n P = 3) : P < n ∧ ¬ qdg b n P = true ∧ ¬ qlt b n P = true := by
  refine ⟨?_, fun e => by have := qkd_1.mpr e; omega, fun e => by have := qkd_2.mpr e; omega⟩
  have hz := qkd_z (b := b) (n := n) (P := P)
  by_cases q : P < n
  · exact q
  · have := hz.mpr q; omega
theorem b60 {v : Int32} (h : isB v) {c : Nat} (hc : 127 < c ∧ c < 2 ^ 31) : v ≠ nI c := by
  intro e
  unfold isB at h
  rw [e, nI_toInt hc.2] at h
  omega
/-- what the five signs are -/
theorem cmp_in (hB : ∀ i, i < n → isB (b i)) {P s : Nat} (h6 : s = 6 ∨ s = 7 ∨ s = 8 ∨ s = 9 ∨ s = 10) (h : qsg b n P = nI (cS s)) : P < n ∧ ((s = 6 ∧ b P = 60 ∧ ¬ (P + 1 < n ∧ b (P + 1) = 61) ∧ qte b n P = P + 1) ∨ (s = 7 ∧ b P = 60 ∧ (P + 1 < n ∧ b (P + 1) = 61) ∧ qte b n P = P + 2) ∨ (s = 8 ∧ b P = 61 ∧ qte b n P = P + 1) ∨ (s = 9 ∧ b P = 62 ∧ (P + 1 < n ∧ b (P + 1) = 61) ∧ qte b n P = P + 2) ∨ (s = 10 ∧ b P = 62 ∧ ¬ (P + 1 < n ∧ b (P + 1) = 61) ∧ qte b n P = P + 1)) := by
  unfold qsg at h
  by_cases k3 : qkd b n P = 3
  · obtain ⟨hP, h1, h2⟩ := k3_in k3
    refine ⟨hP, ?_⟩
    rw [if_pos k3] at h
    unfold qvl at h
    rw [if_pos hP, if_neg h1, if_neg h2] at h
    unfold qte
    rw [if_pos hP, if_neg h1, if_neg h2]
    by_cases t : qtw b n P = true
    · rw [if_pos t] at h
      rw [if_pos t]
      have ht : (b P = 60 ∨ b P = 62) ∧ P + 1 < n ∧ b (P + 1) = 61 := of_decide_eq_true t
      rcases ht.1 with e | e
      · rw [e, show (256 : Int32) + 60 = nI 316 from rfl] at h
        rcases h6 with rfl | rfl | rfl | rfl | rfl
        · exact absurd h (by decide)
        · exact Or.inr (Or.inl ⟨rfl, e, ht.2, rfl⟩)
        · exact absurd h (by decide)
        · exact absurd h (by decide)
        · exact absurd h (by decide)
      · rw [e, show (256 : Int32) + 62 = nI 318 from rfl] at h
        rcases h6 with rfl | rfl | rfl | rfl | rfl
        · exact absurd h (by decide)
        · exact absurd h (by decide)
        · exact absurd h (by decide)
        · exact Or.inr (Or.inr (Or.inr (Or.inl ⟨rfl, e, ht.2, rfl⟩)))
        · exact absurd h (by decide)
    · rw [if_neg t] at h
      rw [if_neg t]
      have ht : ¬ ((b P = 60 ∨ b P = 62) ∧ P + 1 < n ∧ b (P + 1) = 61) := fun q => t (decide_eq_true q)
      rcases h6 with rfl | rfl | rfl | rfl | rfl
      · have e : b P = 60 := h
        exact Or.inl ⟨rfl, e, fun q => ht ⟨Or.inl e, q⟩, rfl⟩
      · exact absurd h (b60 (hB P hP) (c := 316) (by omega))
      · have e : b P = 61 := h
        exact Or.inr (Or.inr (Or.inl ⟨rfl, e, rfl⟩))
      · exact absurd h (b60 (hB P hP) (c := 318) (by omega))
      · have e : b P = 62 := h
        exact Or.inr (Or.inr (Or.inr (Or.inr ⟨rfl, e, fun q => ht ⟨Or.inr e, q⟩, rfl⟩)))
  · rw [if_neg k3] at h
    rcases h6 with rfl | rfl | rfl | rfl | rfl <;> exact absurd h (by decide)
/-- none of the five -/
theorem cmp_no (hB : ∀ i, i < n → isB (b i)) {P : Nat} (h : ∀ s, s = 6 ∨ s = 7 ∨ s = 8 ∨ s = 9 ∨ s = 10 → qsg b n P ≠ nI (cS s)) : qch b n P ≠ 60 ∧ qch b n P ≠ 61 ∧ qch b n P ≠ 62 := by
  have key : ∀ c, (c = 60 ∨ c = 62) → qch b n P = nI c → qsg b n P = nI c ∨ qsg b n P = nI (256 + c) := by
    intro c hc e
    unfold qch at e
    by_cases hP : P < n
    · rw [if_pos hP, bAnd (hB P hP) (by omega)] at e
      obtain ⟨h1, h2, h3⟩ := sg_b (b := b) (n := n) (P := P) (c := c) ⟨by omega, by omega, by omega, by omega⟩ hP e
      unfold qsg qvl
      rw [if_pos h3, if_pos hP, h1, h2, if_neg (by decide), if_neg (by decide)]
      by_cases t : qtw b n P = true
      · rw [if_pos t, e, show (256 : Int32) = nI 256 from rfl, nI_add]; exact Or.inr rfl
      · rw [if_neg t]; exact Or.inl e
    · rw [if_neg hP] at e
      exact absurd e.symm (fun e => (eq_m1 (by omega)).mp e)
  refine ⟨fun e => ?_, fun e => ?_, fun e => ?_⟩
  · rcases key 60 (Or.inl rfl) e with h1 | h1
    · exact h 6 (by omega) h1
    · exact h 7 (by omega) h1
  · exact h 8 (by omega) ((ch_sg hB (c := 61) (by unfold sgC; omega)).mp e)
  · rcases key 62 (Or.inr rfl) e with h1 | h1
    · exact h 10 (by omega) h1
    · exact h 9 (by omega) h1
end
def mC (M : Sg) : Option (Bool × Sg) := (ob2 (f_X12_see M) fun r10 M_10 => bnd ((M_10.1 8)) fun x2_18 => if r10 = 60 then (f_X12_compare_b44 r10 x2_18 M_10) else (if r10 = 61 then (f_X12_compare_b44 r10 x2_18 M_10) else (if r10 = 62 then (f_X12_compare_b44 r10 x2_18 M_10) else (ob2 (f_X12_fails M_10 0 x2_18) fun r40 M_40 => some (r40, M_40)))))
theorem mC_c (M : Sg) : f_X12_compare M = ob2 (f_X12_sum M) fun r M1 => if (bI r) = 0 then some (false, M1) else mC M1 := rfl
section
variable {b : Nat → Int32} {n : Nat} {M : Sg} {p : Nat}
theorem m_cmpN (hn : n ≤ 400) (hM : MqR b n M p) (h1 : qch b n (qsp b n p) ≠ 60) (h2 : qch b n (qsp b n p) ≠ 61) (h3 : qch b n (qsp b n p) ≠ 62) : mC M = f_X12_fails (sI M 8 (nI (qsp b n p))) (nI 0) (nI (qsp b n p)) := by
  have e8 : (sI M 8 (nI (qsp b n p))).1 8 = nI (qsp b n p) := rfl
  unfold mC
  rw [m_see hM hn, ob2_s, bnd_eq]
  dsimp only
  rw [if_neg h1, if_neg h2, if_neg h3, ob2_eta, e8]
  rfl
theorem m_b44 {P q : Nat} (hn : n ≤ 400) (hM : MqR b n M P) (hP : P < n) (c : Int32) (h : (c = 61 ∧ q = P + 1) ∨ (c ≠ 61 ∧ ¬ (P + 1 < n ∧ b (P + 1) = 61) ∧ q = P + 1)) : f_X12_compare_b44 c (nI P) M = f_X12_compare_b105 c (nI P) 0 (sI M 8 (nI q)) := by
  have e1 : (sI M 8 (nI (P + 1))).1 1 = nI n := hM.1
  have e8 : (sI M 8 (nI (P + 1))).1 8 = nI (P + 1) := rfl
  unfold f_X12_compare_b44 f_X12_compare_b89 f_X12_compare_b90
  rw [hM.2.2.1, show nI P + 1 = nI (P + 1) from (nI_succ _).symm, bnd_eq, if_pos rfl]
  rcases h with ⟨h1, rfl⟩ | ⟨h1, h2, rfl⟩
  · rw [if_pos h1]
  · rw [if_neg h1, e1, e8]
    by_cases c2 : n ≤ P + 1
    · rw [if_pos (nI_le c2 (by omega))]
    · have eb : (sI M 8 (nI (P + 1))).2.1 0 (P + 1) = b (P + 1) := hM.2.1 _ (by omega)
      rw [if_neg (nI_ge (by omega) (by omega)), ixd_nI (by omega) (by omega), eb, if_neg (fun e => h2 ⟨by omega, e⟩)]
theorem m_b44t {P : Nat} (hn : n ≤ 400) (hM : MqR b n M P) (hP : P + 1 < n) (c : Int32) (hc : c ≠ 61) (h : b (P + 1) = 61) : f_X12_compare_b44 c (nI P) M = f_X12_compare_b105 c (nI P) 1 (sI M 8 (nI (P + 2))) := by
  have e1 : (sI M 8 (nI (P + 1))).1 1 = nI n := hM.1
  have e8 : (sI M 8 (nI (P + 1))).1 8 = nI (P + 1) := rfl
  have eb : (sI M 8 (nI (P + 1))).2.1 0 (P + 1) = b (P + 1) := hM.2.1 _ (by omega)
  unfold f_X12_compare_b44 f_X12_compare_b90
  rw [hM.2.2.1, show nI P + 1 = nI (P + 1) from (nI_succ _).symm, bnd_eq, if_neg hc, e1, e8, if_neg (nI_ge (by omega) (by omega)), ixd_nI (by omega) (by omega), eb, if_pos h, if_neg (show ¬ (1 : Int32) = 0 by decide), bnd_eq, show nI (P + 1) + 1 = nI (P + 2) from (nI_succ _).symm, sI_sI]
theorem m_cmpO (hn : n ≤ 400) (hB : ∀ i, i < n → isB (b i)) (hM : MqR b n M p) {s : Nat} (h6 : s = 6 ∨ s = 7 ∨ s = 8 ∨ s = 9 ∨ s = 10) (h : qsg b n (qsp b n p) = nI (cS s)) : mC M = ob2 (f_X12_makes (sI M 8 (nI (qte b n (qsp b n p)))) (nI (qsp b n p))) fun r M1 => if (bI r) = 0 then some (false, M1) else f_X12_compare_b152 (nI (s - 6)) M1 := by
  have hP := qsp_le (b := b) hM.2.2.2
  have hM1 := hM.s8 hP
  have e8 : (sI M 8 (nI (qsp b n p))).1 8 = nI (qsp b n p) := rfl
  have hq : ∀ c, c < 128 → qsp b n p < n → b (qsp b n p) = nI c → qch b n (qsp b n p) = nI c := by
    intro c hc h1 h2
    unfold qch
    rw [if_pos h1, bAnd (hB _ h1) hc]; exact h2
  obtain ⟨hPn, hh⟩ := cmp_in hB h6 h
  unfold mC
  rw [m_see hM hn, ob2_s, bnd_eq]
  dsimp only
  rw [e8]
  rcases hh with ⟨rfl, g1, g2, g3⟩ | ⟨rfl, g1, g2, g3⟩ | ⟨rfl, g1, g3⟩ | ⟨rfl, g1, g2, g3⟩ | ⟨rfl, g1, g2, g3⟩
  · rw [hq 60 (by omega) hPn g1, if_pos (show nI 60 = (60 : Int32) from rfl), m_b44 hn hM1 hPn (nI 60) (Or.inr ⟨by decide, g2, rfl⟩), sI_sI, g3]
    unfold f_X12_compare_b105
    simp only [if_pos (show nI 60 = (60 : Int32) from rfl), if_pos (show (0 : Int32) = 0 from rfl)]
    rfl
  · rw [hq 60 (by omega) hPn g1, if_pos (show nI 60 = (60 : Int32) from rfl), m_b44t hn hM1 g2.1 (nI 60) (by decide) g2.2, sI_sI, g3]
    unfold f_X12_compare_b105
    simp only [if_pos (show nI 60 = (60 : Int32) from rfl), if_neg (show ¬ (1 : Int32) = 0 by decide)]
    rfl
  · rw [hq 61 (by omega) hPn g1, if_neg (show ¬ nI 61 = (60 : Int32) by decide), if_pos (show nI 61 = (61 : Int32) from rfl), m_b44 hn hM1 hPn (nI 61) (Or.inl ⟨rfl, rfl⟩), sI_sI, g3]
    unfold f_X12_compare_b105
    simp only [if_neg (show ¬ nI 61 = (60 : Int32) by decide), if_pos (show nI 61 = (61 : Int32) from rfl)]
    rfl
  · rw [hq 62 (by omega) hPn g1, if_neg (show ¬ nI 62 = (60 : Int32) by decide), if_neg (show ¬ nI 62 = (61 : Int32) by decide), if_pos (show nI 62 = (62 : Int32) from rfl), m_b44t hn hM1 g2.1 (nI 62) (by decide) g2.2, sI_sI, g3]
    unfold f_X12_compare_b105
    simp only [if_neg (show ¬ nI 62 = (60 : Int32) by decide), if_neg (show ¬ nI 62 = (61 : Int32) by decide), if_neg (show ¬ (1 : Int32) = 0 by decide)]
    rfl
  · rw [hq 62 (by omega) hPn g1, if_neg (show ¬ nI 62 = (60 : Int32) by decide), if_neg (show ¬ nI 62 = (61 : Int32) by decide), if_pos (show nI 62 = (62 : Int32) from rfl), m_b44 hn hM1 hPn (nI 62) (Or.inr ⟨by decide, g2, rfl⟩), sI_sI, g3]
    unfold f_X12_compare_b105
    simp only [if_neg (show ¬ nI 62 = (60 : Int32) by decide), if_neg (show ¬ nI 62 = (61 : Int32) by decide), if_pos (show (0 : Int32) = 0 from rfl)]
    rfl
variable {Q K : Sg} {P : Nat} {f : Int32}
theorem x_tcO (hQ : TQ b n Q P f) {s : Nat} (h6 : s = 6 ∨ s = 7 ∨ s = 8 ∨ s = 9 ∨ s = 10) (h : qsg b n P = nI (cS s)) : f_X5_takeComparison K Q = f_X5_takeComparison_b50 (nI (cS s)) K Q := by
  unfold f_X5_takeComparison
  rw [x_signHere hQ, ob1_s, h]
  rcases h6 with rfl | rfl | rfl | rfl | rfl
  · rw [if_pos (by decide)]
  · rw [if_neg (by decide), if_pos (by decide)]
  · rw [if_neg (by decide), if_neg (by decide), if_pos (by decide)]
  · rw [if_neg (by decide), if_neg (by decide), if_neg (by decide), if_pos (by decide)]
  · rw [if_neg (by decide), if_neg (by decide), if_neg (by decide), if_neg (by decide), if_pos (by decide)]
theorem x_tcN (hQ : TQ b n Q P f) (h : ∀ s, s = 6 ∨ s = 7 ∨ s = 8 ∨ s = 9 ∨ s = 10 → qsg b n P ≠ nI (cS s)) : f_X5_takeComparison K Q = ob1 (f_X8_blame Q 0) fun Q_45 => some ((0 : Int32), K, Q_45) := by
  unfold f_X5_takeComparison
  rw [x_signHere hQ, ob1_s]
  rw [if_neg (show ¬ qsg b n P = 60 from h 6 (by omega)), if_neg (show ¬ qsg b n P = 316 from h 7 (by omega)), if_neg (show ¬ qsg b n P = 61 from h 8 (by omega)), if_neg (show ¬ qsg b n P = 318 from h 9 (by omega)), if_neg (show ¬ qsg b n P = 62 from h 10 (by omega))]
/-! the class's comparison -/
def xC (K Q : Sg) : Option (Sg × Sg) := (ob2 (f_X5_readSum K Q) fun K_35 Q_35 => ob3 (f_X5_takeComparison K_35 Q_35) fun r39 K_39 Q_39 => ob2 (f_X5_readSum K_39 Q_39) fun K_44 Q_44 => ob1 (f_X5_emit K_44 (100000 + r39)) fun K_52 => some (K_52, Q_44))
def xC2 (r : Int32) (K Q : Sg) : Option (Sg × Sg) := ob2 (f_X5_readSum K Q) fun K_44 Q_44 => ob1 (f_X5_emit K_44 (100000 + r)) fun K_52 => some (K_52, Q_44)
theorem x_c2E (hn : n ≤ 400) (hf : f ≠ 0) (hQ : TQ b n Q n f) (hs : xSn K) (r : Int32) : Wp (xC2 r K Q) (fun o => TQ b n o.2 n f ∧ xSn o.1 ∧ kK K o.1) := by
  unfold xC2
  rw [wp_ob2]
  refine wp_mono (x_sumE hn hf hQ hs) ?_
  rintro ⟨K4, Q4⟩ ⟨u1, u2, u3⟩
  dsimp only at u1 u2 u3 ⊢
  obtain ⟨K3, o1, o2, o3⟩ := x_emitE (100000 + r) u2
  rw [o1, ob1_s]
  exact wp_some.mpr ⟨u1, o2, u3.tr o3⟩
theorem x_tcE (hn : n ≤ 400) (hf : f ≠ 0) (hQ : TQ b n Q n f) (K : Sg) : ∃ Q', f_X5_takeComparison K Q = some (0, K, Q') ∧ TQ b n Q' n f := by
  obtain ⟨Q', q1, q2⟩ := x_blame hQ hn (c := 0) (by omega)
  have q1' : f_X8_blame Q 0 = some Q' := q1
  rw [x_tcN hQ (fun s hs => by rw [qsg_n]; rcases hs with rfl | rfl | rfl | rfl | rfl <;> decide), q1', ob1_s]
  rw [qbm_f hf] at q2
  exact ⟨Q', rfl, q2⟩
theorem x_cE (hn : n ≤ 400) (hf : f ≠ 0) (hQ : TQ b n Q n f) (hs : xSn K) : Wp (xC K Q) (fun o => TQ b n o.2 n f ∧ xSn o.1 ∧ kK K o.1) := by
  unfold xC
  rw [wp_ob2]
  refine wp_mono (x_sumE hn hf hQ hs) ?_
  rintro ⟨K4, Q4⟩ ⟨u1, u2, u3⟩
  dsimp only at u1 u2 u3 ⊢
  obtain ⟨Q5, v1, v2⟩ := x_tcE hn hf u1 K4
  rw [v1]
  refine wp_mono (x_c2E hn hf v2 u2 0) ?_
  rintro ⟨K6, Q6⟩ ⟨w1, w2, w3⟩
  exact ⟨w1, w2, u3.tr w3⟩
def CG (b : Nat → Int32) (n t z : Nat) (l0 : List Nat) (vs : List Bool) (e p0 : Nat) (o : Sg × Sg) (M' : Sg) : Prop := ∃ d a' p', p0 < p' ∧ RJ b n t z (l0 ++ d) (l0 ++ d) (true :: vs) a' e M' o.1 o.2 p'
end
section
variable {b : Nat → Int32} {n : Nat}
theorem rk_cmp (hn : n ≤ 400) (hB : ∀ i, i < n → isB (b i)) {t z : Nat} (ht : t < 6) {l : List Nat} {vs : List Bool} {a e p : Nat} {M K Q : Sg} (hR : RJ b n t z l l vs a e M K Q p) : Wp (xC K Q) (fun o => JG b n t M K (f_X12_compare M) o (CG b n t z l vs e p o)) := by
  unfold xC
  rw [mC_c, wp_ob2]
  refine wp_mono (rk_sum hn hB ht hR) ?_
  rintro ⟨K2, Q2⟩ ⟨r, M3, q1, q2, q3, q4⟩
  dsimp only at q3 q4 ⊢
  rw [q1, ob2_s]
  dsimp only
  rcases q4 with ⟨rfl, d, a', p', hp', hR3⟩ | ⟨rfl, hb1, hb2, hb3⟩
  · rw [itT]
    dsimp only at hR3
    have hM3 := hR3.1.1
    have hQ3 := hR3.1.2
    have hP := hQ3.le
    have hge := qsp_ge (b := b) (n := n) p'
    have hR4 := rk_at hR3
    obtain ⟨a1, a2, a3⟩ := hR3.2.2.2.1
    have hsn : xSn K2 := cdX_s hR3.2.2.1.2 (by have := hR3.2.2.2.2.1; have := hM3.2.2.2; omega)
    have hbad : ∀ (c : Nat) (M5 : Sg), c < 8 → M5.1 9 = 0 → rF2 t M M5 → Wp (ob3 (ob1 (f_X8_blame Q2 (nI c)) fun Q_45 => some ((0 : Int32), K2, Q_45)) fun r39 K_39 Q_39 => xC2 r39 K_39 Q_39) (fun o => JG b n t M K (some (false, sI M5 9 (qbm 0 (qsp b n p') c))) o (CG b n t z l vs e p o)) := by
      intro c M5 hc h9 hz
      have hf := qbm_ne (P := qsp b n p') (c := c) (by omega) hc
      obtain ⟨Q5, v1, v2⟩ := x_blame hQ3 hn hc
      rw [v1, ob1_s]
      refine wp_mono (x_c2E hn hf v2 hsn 0) ?_
      rintro ⟨K6, Q6⟩ ⟨w1, w2, w3⟩
      exact ⟨false, _, rfl, hz.tr (rF2.s t _ (Or.inr (Or.inl rfl)) _), q3.tr w3, Or.inr ⟨rfl, hf, w1, w2⟩⟩
    by_cases hc : ∃ s, (s = 6 ∨ s = 7 ∨ s = 8 ∨ s = 9 ∨ s = 10) ∧ qsg b n (qsp b n p') = nI (cS s)
    · obtain ⟨s, h6, hsg⟩ := hc
      obtain ⟨hPn, _⟩ := cmp_in hB h6 hsg
      have hte := qte_gt (b := b) (n := n) hPn
      rw [m_cmpO hn hB hM3 h6 hsg, x_tcO hQ3 h6 hsg]
      obtain ⟨k1, k2⟩ := m_makes (M := sI M3 8 (nI (qte b n (qsp b n p')))) (a := a') a1 a3 (nI (qsp b n p'))
      have hz5 : rF2 t M (sI M3 8 (nI (qte b n (qsp b n p')))) := q2.tr (rF2.s t _ (Or.inl rfl) _)
      have h95 : (sI M3 8 (nI (qte b n (qsp b n p')))).1 9 = 0 := hR3.2.1
      unfold f_X5_takeComparison_b50
      rw [a2]
      by_cases ca : a' < 60
      · rw [k2 ca, ob2_s]
        dsimp only
        obtain ⟨Q4, s1, s2⟩ := x_step hQ3 hPn
        rw [itT, if_pos (show nI a' < 60 from nI_lt (b := 60) ca (by omega)), bnd_eq, ← nI_succ, s1, ob1_s]
        have hR5 := rk_adv hR4 (q := qte b n (qsp b n p')) hte.2 hte.1 s2
        have hR6 : RJ b n t z (l ++ d) (l ++ d) (false :: vs) (a' + 1) (e + 1) (sI (sI M3 8 (nI (qte b n (qsp b n p')))) 12 (nI (a' + 1))) (sI K2 7 (nI (a' + 1))) Q4 (qte b n (qsp b n p')) := by
          rw [sI_sI] at hR5
          obtain ⟨⟨r1, r2⟩, r3, ⟨r4, r5⟩, r6, r7, r8, r9, r10⟩ := hR5
          exact ⟨⟨r1, r2⟩, r3, ⟨r4, r5⟩, ⟨rfl, rfl, by omega⟩, r7, r8, r9, by omega⟩
        show Wp (xC2 (nI (cS s)) (sI K2 7 (nI (a' + 1))) Q4) _
        unfold xC2 f_X12_compare_b152
        rw [wp_ob2]
        refine wp_mono (rk_sum hn hB ht hR6) ?_
        rintro ⟨K7, Q7⟩ ⟨r7, M7, z1, z2, z3, z4⟩
        dsimp only at z3 z4 ⊢
        have hz7 : rF2 t M M7 := (hz5.tr (rF2.s t _ (Or.inr (Or.inr (Or.inr rfl))) _)).tr z2
        have hk7 : kK K K7 := (q3.tr (kK.s7 K2 _)).tr z3
        rw [z1, ob2_s]
        dsimp only
        rcases z4 with ⟨rfl, d2, a7, p7, hp7, hR7⟩ | ⟨rfl, hb1, hb2, hb3⟩
        · rw [itT]
          dsimp only at hR7
          have hv7 : vs.length + 2 ≤ a7 := hR7.2.2.2.2.2.2.2
          obtain ⟨K8, M8, o1, o2, o3, o4, o5, hR8⟩ := rk_op hn ht hR7 (y := s) (ws := true :: vs) (by omega) (ty_c h6) (by show vs.length + 1 ≤ a7; omega)
          have e6 : (6 : Int32) + nI (s - 6) = nI s := by rw [show (6 : Int32) = nI 6 from rfl, nI_add]; congr 1; omega
          rw [e6, o2, ob1_s, o1, ob1_s]
          rw [List.append_assoc, List.append_assoc] at hR8
          exact wp_some.mpr ⟨true, M8, rfl, hz7.tr (o4.r2 o5), hk7.tr o3, Or.inl ⟨rfl, _, _, p7, by omega, hR8⟩⟩
        · rw [itF]
          obtain ⟨K8, o1, o2, o3⟩ := x_emitE (100000 + nI (cS s)) hb3
          rw [o1, ob1_s]
          exact wp_some.mpr ⟨false, M7, rfl, hz7, hk7.tr o3, Or.inr ⟨rfl, hb1, hb2, o2⟩⟩
      · rw [k1 (by omega), m_fails, ob2_s, h95]
        dsimp only
        rw [itF, if_neg (show ¬ nI a' < 60 from nI_nlt (b := 60) (by omega) (by omega))]
        exact hbad 3 _ (by omega) h95 hz5
    · have hno : ∀ s, s = 6 ∨ s = 7 ∨ s = 8 ∨ s = 9 ∨ s = 10 → qsg b n (qsp b n p') ≠ nI (cS s) := fun s h6 e => hc ⟨s, h6, e⟩
      obtain ⟨c1, c2, c3⟩ := cmp_no hB hno
      have h95 : (sI M3 8 (nI (qsp b n p'))).1 9 = 0 := hR3.2.1
      rw [m_cmpN hn hM3 c1 c2 c3, m_fails, h95, x_tcN hQ3 hno]
      exact hbad 0 _ (by omega) h95 (q2.tr (rF2.s t _ (Or.inl rfl) _))
  · rw [itF]
    dsimp only at hb2
    obtain ⟨Q5, v1, v2⟩ := x_tcE hn hb1 hb2 K2
    rw [v1]
    refine wp_mono (x_c2E hn hb1 v2 hb3 0) ?_
    rintro ⟨K6, Q6⟩ ⟨w1, w2, w3⟩
    exact ⟨false, M3, rfl, q2, q3.tr w3, Or.inr ⟨rfl, hb1, w1, w2⟩⟩
end
