/-! the class's Text, open -/
section
variable {b : Nat → Int32} {n : Nat}
theorem qsp_ge (p : Nat) : p ≤ qsp b n p := qrn_ge _ _ _
theorem qsp_le {p : Nat} (h : p ≤ n) : qsp b n p ≤ n := qrn_le (qbl_n b n) h
theorem qsp_nb (p : Nat) : qbl b n (qsp b n p) = false := qrn_end (qbl_n b n) _ _ (by omega)
theorem qsp_in {p i : Nat} (h : p ≤ i) (h2 : i < qsp b n p) : qbl b n i = true := qrn_in _ _ _ h h2
theorem qsp_id {p : Nat} (hp : p ≤ n) (h : qbl b n p = false) : qsp b n p = p := qsp_un hp (Nat.le_refl _) (fun i h1 h2 => by omega) h
theorem qsp_sp {p : Nat} (hp : p ≤ n) : qsp b n (qsp b n p) = qsp b n p := qsp_id (qsp_le hp) (qsp_nb p)
theorem qsp_st {p : Nat} (hp : p ≤ n) (h : qbl b n p = true) : qsp b n (p + 1) = qsp b n p := by
  have h1 := qsp_ge (b := b) (n := n) p
  have h2 := qsp_nb (b := b) (n := n) p
  have h3 : qsp b n p ≠ p := by intro e; rw [e, h] at h2; cases h2
  exact qsp_un (qsp_le hp) (by omega) (fun i h4 h5 => qsp_in (by omega) h5) h2
theorem qdE_gt {p : Nat} (h : qdg b n p = true) : p < qdE b n p ∧ qdE b n p ≤ n := by
  have h0 := (qdg_c h).1
  have h1 : p ≤ qdE b n p := qrn_ge _ _ _
  have h2 : qdg b n (qdE b n p) = false := qrn_end (qdg_n b n) _ _ (by omega)
  have h3 : qdE b n p ≠ p := by intro e; rw [e, h] at h2; cases h2
  exact ⟨by omega, qrn_le (qdg_n b n) (by omega)⟩
theorem qlE_gt {p : Nat} (h : qlt b n p = true) : p < qlE b n p ∧ qlE b n p ≤ n := by
  have h0 := (qlt_c h).1
  have h1 : p ≤ qlE b n p := qrn_ge _ _ _
  have h2 : qlt b n (qlE b n p) = false := qrn_end (qlt_n b n) _ _ (by omega)
  have h3 : qlE b n p ≠ p := by intro e; rw [e, h] at h2; cases h2
  exact ⟨by omega, qrn_le (qlt_n b n) (by omega)⟩
theorem qte_gt {p : Nat} (hp : p < n) : p < qte b n p ∧ qte b n p ≤ n := by
  unfold qte
  rw [if_pos hp]
  by_cases h1 : qdg b n p = true
  · rw [if_pos h1]; exact qdE_gt h1
  · rw [if_neg h1]
    by_cases h2 : qlt b n p = true
    · rw [if_pos h2]; exact qlE_gt h2
    · rw [if_neg h2]
      by_cases h3 : qtw b n p = true
      · rw [if_pos h3]
        unfold qtw at h3
        have := of_decide_eq_true h3
        omega
      · rw [if_neg h3]; omega
theorem qtp_le (k : Nat) : qtp b n k ≤ n := by
  induction k with
  | zero => exact qsp_le (Nat.zero_le _)
  | succ k ih =>
    show qsp b n (qte b n (qtp b n k)) ≤ n
    by_cases h : qtp b n k < n
    · exact qsp_le (qte_gt h).2
    · have : qte b n (qtp b n k) = qtp b n k := by unfold qte; rw [if_neg h]
      rw [this]; exact qsp_le ih
/-- the class stands at a place, with a FAULT -/
def TQ (b : Nat → Int32) (n : Nat) (Q : Sg) (P : Nat) (f : Int32) : Prop := ∃ k K, K ≤ 400 ∧ k ≤ K ∧ TL b n Q ∧ Q.1 6 = nI K ∧ Q.1 7 = nI k ∧ Q.1 2 = f ∧ (∀ j, j ≤ K → Q.2.1 3 j = nI (qkd b n (qtp b n j)) ∧ Q.2.1 4 j = qvl b n (qtp b n j) ∧ Q.2.1 5 j = nI (qtp b n j)) ∧ (∀ j, j < K → qtp b n j < n) ∧ qtp b n K = n ∧ qtp b n k = P
theorem qw3 (Z : Sg) (k : Nat) (u v w y : Int32) : (∀ j, (sI (sA (sA (sA Z 5 k u) 3 k v) 4 k w) 6 y).2.1 3 j = if j = k then v else Z.2.1 3 j) ∧ (∀ j, (sI (sA (sA (sA Z 5 k u) 3 k v) 4 k w) 6 y).2.1 4 j = if j = k then w else Z.2.1 4 j) ∧ (∀ j, (sI (sA (sA (sA Z 5 k u) 3 k v) 4 k w) 6 y).2.1 5 j = if j = k then u else Z.2.1 5 j) := ⟨fun _ => rfl, fun _ => rfl, fun _ => rfl⟩
theorem qw4 (Z : Sg) (k : Nat) (u v w : Int32) : (∀ j, (sA (sA (sA Z 3 k u) 4 k v) 5 k w).2.1 3 j = if j = k then u else Z.2.1 3 j) ∧ (∀ j, (sA (sA (sA Z 3 k u) 4 k v) 5 k w).2.1 4 j = if j = k then v else Z.2.1 4 j) ∧ (∀ j, (sA (sA (sA Z 3 k u) 4 k v) 5 k w).2.1 5 j = if j = k then w else Z.2.1 5 j) := ⟨fun _ => rfl, fun _ => rfl, fun _ => rfl⟩
theorem x_open {Q : Sg} (hQ : TL b n Q) (hn : n ≤ 400) : Wp (f_X8_open Q) (fun Q' => TQ b n Q' (qsp b n 0) 0) := by
  unfold f_X8_open
  rw [bnd_eq, bnd_eq, bnd_eq]
  refine wp_fl3 (fun j x1 x2 Z => ∃ p k x, j = n - p ∧ x1 = nI p ∧ x2 = nI x ∧ x ≤ p ∧ k ≤ p ∧ p ≤ n ∧ qsp b n p = qtp b n k ∧ TL b n Z ∧ Z.1 6 = nI k ∧ Z.1 7 = nI 0 ∧ Z.1 2 = 0 ∧ (∀ j, j < k → Z.2.1 3 j = nI (qkd b n (qtp b n j)) ∧ Z.2.1 4 j = qvl b n (qtp b n j) ∧ Z.2.1 5 j = nI (qtp b n j)) ∧ (∀ j, j < k → qtp b n j < n)) ?_ n (FU_lt (by omega)) _ _ _ ⟨0, 0, 0, by omega, rfl, rfl, Nat.le_refl _, Nat.le_refl _, by omega, rfl, ⟨hQ.1, fun i hi => hQ.2 i hi⟩, rfl, rfl, rfl, fun j hj => by omega, fun j hj => by omega⟩
  rintro j K _ _ Z ⟨p, k, x, rfl, rfl, rfl, hx, hkp, hpn, hs, hZ, h6, h7, h2, hA, hB⟩ ih
  unfold f_X8_open_b19
  have hend : p = n → Wp (f_X8_open_b83 Z) (fun Q' => TQ b n Q' (qsp b n 0) 0) := by
    intro e
    subst e
    have hk : qtp b p k = p := by rw [← hs]; exact qsp_id (Nat.le_refl _) (qbl_n b p p (Nat.le_refl _))
    unfold f_X8_open_b83
    have e1 : (sA Z 3 k 0).1 6 = nI k := h6
    have e2 : (sA (sA Z 3 k 0) 4 k 0).1 6 = nI k := h6
    have e3 : (sA (sA Z 3 k 0) 4 k 0).1 1 = nI p := hZ.1
    rw [h6, ixd_nI (by omega) (by omega), bnd_eq, e1, ixd_nI (by omega) (by omega), bnd_eq, e2, ixd_nI (by omega) (by omega), bnd_eq, e3]
    refine wp_some.mpr ⟨0, k, by omega, Nat.zero_le _, ⟨hZ.1, fun i hi => hZ.2 i hi⟩, h6, h7, h2, fun j hj => ?_, hB, hk, rfl⟩
    obtain ⟨w1, w2, w3⟩ := qw4 Z k 0 0 (nI p)
    rw [w1, w2, w3]
    by_cases e : j = k
    · subst e
      rw [if_pos rfl, if_pos rfl, if_pos rfl, hk]
      unfold qkd qvl
      rw [if_neg (Nat.lt_irrefl _), if_neg (Nat.lt_irrefl _)]
      exact ⟨rfl, rfl, rfl⟩
    · rw [if_neg e, if_neg e, if_neg e]
      exact hA j (by omega)
  by_cases c1 : 400 ≤ x
  · rw [if_pos (show (400 : Int32) ≤ nI x from nI_le (a := 400) c1 (by omega))]
    exact hend (by omega)
  · rw [if_neg (show ¬ (400 : Int32) ≤ nI x from nI_ge (b := 400) (by omega) (by omega)), hZ.1]
    by_cases c2 : n ≤ p
    · rw [if_pos (nI_le c2 (by omega))]
      exact hend (by omega)
    · rw [if_neg (nI_ge (by omega) (by omega)), ixd_nI (by omega) (by omega), hZ.2 p (by omega)]
      unfold f_X8_open_b77
      by_cases c3 : b p = 32
      · have c4 : qbl b n p = true := by rw [qbl_y (by omega)]; exact decide_eq_true c3
        rw [if_pos c3, wp_bnd, wp_bnd, ← nI_succ, ← nI_succ]
        exact ih _ _ _ _ (by omega) ⟨p + 1, k, x + 1, rfl, rfl, rfl, by omega, by omega, by omega, by rw [qsp_st hpn c4]; exact hs, hZ, h6, h7, h2, hA, hB⟩
      · have c4 : qbl b n p = false := by rw [qbl_y (by omega)]; exact decide_eq_false c3
        have hk : qtp b n k = p := by rw [← hs]; exact qsp_id hpn c4
        have hte := qte_gt (b := b) (n := n) (p := p) (by omega)
        rw [if_neg c3, h6, ixd_nI (by omega) (by omega), bnd_eq, x_scan (b := b) (n := n) (Q := sA Z 5 k (nI p)) ⟨hZ.1, fun i hi => hZ.2 i hi⟩ hn (by omega) (k := k) h6 (by omega), ob2_s]
        dsimp only
        have e6 : (sA (sA (sA Z 5 k (nI p)) 3 k (nI (qkd b n p))) 4 k (qvl b n p)).1 6 = nI k := h6
        rw [e6, wp_bnd, wp_bnd, ← nI_succ, ← nI_succ]
        refine ih _ _ _ _ (by omega) ⟨qte b n p, k + 1, x + 1, rfl, rfl, rfl, by omega, by omega, hte.2, by rw [← hk]; rfl, ⟨hZ.1, fun i hi => hZ.2 i hi⟩, rfl, h7, h2, fun j hj => ?_, fun j hj => ?_⟩
        · obtain ⟨w1, w2, w3⟩ := qw3 Z k (nI p) (nI (qkd b n p)) (qvl b n p) (nI (k + 1))
          rw [w1, w2, w3]
          by_cases e : j = k
          · subst e
            rw [if_pos rfl, if_pos rfl, if_pos rfl, hk]
            exact ⟨rfl, rfl, rfl⟩
          · rw [if_neg e, if_neg e, if_neg e]
            exact hA j (by omega)
        · by_cases e : j = k
          · rw [e, hk]; omega
          · exact hB j (by omega)
/-! what the class sees there -/
variable {Q : Sg} {P : Nat} {f : Int32}
def qbm (f : Int32) (P c : Nat) : Int32 := if f = 0 then nI (1 + 8 * P + c) else f
theorem TQ.le (h : TQ b n Q P f) : P ≤ n := by
  obtain ⟨k, K, _, _, _, _, _, _, _, _, _, e⟩ := h
  rw [← e]; exact qtp_le k
theorem qkd_z : qkd b n P = 0 ↔ ¬ P < n := by
  unfold qkd
  by_cases h : P < n
  · rw [if_pos h]
    by_cases h1 : qdg b n P = true
    · rw [if_pos h1]; simp [h]
    · rw [if_neg h1]
      by_cases h2 : qlt b n P = true
      · rw [if_pos h2]; simp [h]
      · rw [if_neg h2]; simp [h]
  · rw [if_neg h]; simp [h]
theorem qkd_le : qkd b n P ≤ 3 := by unfold qkd; split <;> (try split) <;> (try split) <;> omega
theorem x_step (h : TQ b n Q P f) (hP : P < n) : Wp (f_X8_step Q) (fun Q' => TQ b n Q' (qsp b n (qte b n P)) f) := by
  obtain ⟨k, K, h1, h2, h3, h4, h5, h6, h7, h8, h9, h10⟩ := h
  have hk : k < K := by
    by_cases e : k = K
    · rw [e, h9] at h10; omega
    · omega
  unfold f_X8_step
  rw [h4, h5, if_neg (nI_ge hk (by omega)), ← nI_succ, bnd_eq]
  refine wp_some.mpr ⟨k + 1, K, h1, by omega, ⟨h3.1, h3.2⟩, h4, rfl, h6, h7, h8, h9, ?_⟩
  show qsp b n (qte b n (qtp b n k)) = _
  rw [h10]
theorem x_stepE (h : TQ b n Q n f) : f_X8_step Q = some Q := by
  obtain ⟨k, K, h1, h2, h3, h4, h5, h6, h7, h8, h9, h10⟩ := h
  have hk : k = K := by
    by_cases e : k = K
    · exact e
    · have := h8 k (by omega); omega
  unfold f_X8_step
  rw [h4, h5, hk, if_pos (nI_le (Nat.le_refl _) (by omega))]
theorem x_atEnd (h : TQ b n Q P f) : f_X8_isAtEnd Q = some (decide (P = n)) := by
  have hle := h.le
  obtain ⟨k, K, h1, h2, h3, h4, h5, h6, h7, h8, h9, h10⟩ := h
  unfold f_X8_isAtEnd
  rw [h5, ixd_nI (by omega) (by omega), (h7 k h2).1, h10]
  have hz := qkd_z (b := b) (n := n) (P := P)
  have hl := qkd_le (b := b) (n := n) (P := P)
  by_cases c : P = n
  · rw [hz.mpr (by omega), decide_eq_true c]; rfl
  · rw [if_neg (by rw [show (0 : Int32) = nI 0 from rfl, nI_eq (by omega) (by omega), hz]; omega), decide_eq_false c]
theorem x_isNumber (h : TQ b n Q P f) : f_X8_isNumber Q = some (decide (qkd b n P = 1)) := by
  obtain ⟨k, K, h1, h2, h3, h4, h5, h6, h7, h8, h9, h10⟩ := h
  have hl := qkd_le (b := b) (n := n) (P := P)
  unfold f_X8_isNumber
  rw [h5, ixd_nI (by omega) (by omega), (h7 k h2).1, h10]
  by_cases c : qkd b n P = 1
  · rw [c]; rfl
  · rw [if_neg (by rw [show (1 : Int32) = nI 1 from rfl, nI_eq (by omega) (by omega)]; exact c), decide_eq_false c]
theorem x_numHere (h : TQ b n Q P f) : f_X8_numberHere Q = some (qvl b n P) := by
  obtain ⟨k, K, h1, h2, h3, h4, h5, h6, h7, h8, h9, h10⟩ := h
  unfold f_X8_numberHere
  rw [h5, ixd_nI (by omega) (by omega), (h7 k h2).2.1, h10]
theorem x_wordHere (h : TQ b n Q P f) : f_X8_wordHere Q = some (if qkd b n P = 2 then qvl b n P else -1) := by
  obtain ⟨k, K, h1, h2, h3, h4, h5, h6, h7, h8, h9, h10⟩ := h
  have hl := qkd_le (b := b) (n := n) (P := P)
  unfold f_X8_wordHere
  rw [h5, ixd_nI (by omega) (by omega), ixd_nI (by omega) (by omega), (h7 k h2).1, (h7 k h2).2.1, h10]
  by_cases c : qkd b n P = 2
  · rw [c]; rfl
  · rw [if_neg (by rw [show (2 : Int32) = nI 2 from rfl, nI_eq (by omega) (by omega)]; exact c), if_neg c]
def qsg (b : Nat → Int32) (n P : Nat) : Int32 := if qkd b n P = 3 then qvl b n P else 0
theorem x_signHere (h : TQ b n Q P f) : f_X8_signHere Q = some (qsg b n P) := by
  obtain ⟨k, K, h1, h2, h3, h4, h5, h6, h7, h8, h9, h10⟩ := h
  have hl := qkd_le (b := b) (n := n) (P := P)
  unfold f_X8_signHere qsg
  rw [h5, ixd_nI (by omega) (by omega), ixd_nI (by omega) (by omega), (h7 k h2).1, (h7 k h2).2.1, h10]
  by_cases c : qkd b n P = 3
  · rw [c]; rfl
  · rw [if_neg (by rw [show (3 : Int32) = nI 3 from rfl, nI_eq (by omega) (by omega)]; exact c), if_neg c]
theorem x_tkNo (h : TQ b n Q P f) {c : Int32} (hc : c ≠ 0) (hs : qsg b n P ≠ c) : f_X8_takesSign Q c = some (false, Q) := by
  obtain ⟨k, K, h1, h2, h3, h4, h5, h6, h7, h8, h9, h10⟩ := h
  have hl := qkd_le (b := b) (n := n) (P := P)
  unfold f_X8_takesSign f_X8_takesSign_b30 f_X8_takesSign_b31 f_X8_takesSign_b40
  rw [h5, ixd_nI (by omega) (by omega), ixd_nI (by omega) (by omega), (h7 k h2).1, (h7 k h2).2.1, h10]
  unfold qsg at hs
  by_cases e : qkd b n P = 3
  · rw [if_pos e] at hs
    rw [e, if_pos (show nI 3 = (3 : Int32) from rfl), if_neg hs]; rfl
  · rw [if_neg (by rw [show (3 : Int32) = nI 3 from rfl, nI_eq (by omega) (by omega)]; exact e)]; rfl
theorem x_tkYes (h : TQ b n Q P f) {c : Int32} (hc : c ≠ 0) (hs : qsg b n P = c) : Wp (f_X8_takesSign Q c) (fun o => o.1 = true ∧ TQ b n o.2 (qsp b n (qte b n P)) f) := by
  have h0 := h
  obtain ⟨k, K, h1, h2, h3, h4, h5, h6, h7, h8, h9, h10⟩ := h
  unfold f_X8_takesSign f_X8_takesSign_b31 f_X8_takesSign_b40
  rw [h5, ixd_nI (by omega) (by omega), ixd_nI (by omega) (by omega), (h7 k h2).1, (h7 k h2).2.1, h10]
  unfold qsg at hs
  by_cases e : qkd b n P = 3
  · rw [if_pos e] at hs
    have hP : P < n := by
      have hz := qkd_z (b := b) (n := n) (P := P)
      by_cases q : P < n
      · exact q
      · have := hz.mpr q; omega
    rw [e, if_pos (show nI 3 = (3 : Int32) from rfl), if_pos hs, if_neg (show ¬ (1 : Int32) = 0 by decide), wp_ob1]
    refine wp_mono (x_step h0 hP) (fun Q' hQ' => ?_)
    exact wp_some.mpr ⟨rfl, hQ'⟩
  · rw [if_neg e] at hs; exact absurd hs.symm hc
theorem x_blame (h : TQ b n Q P f) (hn : n ≤ 400) {c : Nat} (hc : c < 8) : Wp (f_X8_blame Q (nI c)) (fun Q' => TQ b n Q' n (qbm f P c)) := by
  have hle := h.le
  obtain ⟨k, K, h1, h2, h3, h4, h5, h6, h7, h8, h9, h10⟩ := h
  unfold f_X8_blame f_X8_blame_b27 qbm
  rw [h6]
  by_cases e : f = 0
  · rw [if_pos e, if_pos e, h5, ixd_nI (by omega) (by omega), (h7 k h2).2.2, h10, bnd_eq, bnd_eq]
    have e1 : (1 : Int32) + 8 * nI P + nI c = nI (1 + 8 * P + c) := by
      rw [show (1 : Int32) = nI 1 from rfl, show (8 : Int32) = nI 8 from rfl, nI_mul, nI_add, nI_add]
    rw [e1]
    exact wp_some.mpr ⟨K, K, h1, Nat.le_refl _, ⟨h3.1, h3.2⟩, h4, h4, rfl, h7, h8, h9, h9⟩
  · rw [if_neg e, if_neg e, bnd_eq]
    exact wp_some.mpr ⟨K, K, h1, Nat.le_refl _, ⟨h3.1, h3.2⟩, h4, h4, h6, h7, h8, h9, h9⟩
theorem x_tnYes (h : TQ b n Q P f) {lo hi : Int32} (hk : qkd b n P = 1) (h1 : lo ≤ qvl b n P) (h2 : qvl b n P ≤ hi) : Wp (f_X8_takeNumber Q lo hi) (fun o => o.1 = qvl b n P ∧ TQ b n o.2 (qsp b n (qte b n P)) f) := by
  have h0 := h
  obtain ⟨k, K, a1, a2, a3, a4, a5, a6, a7, a8, a9, a10⟩ := h
  have hP : P < n := by
    have hz := qkd_z (b := b) (n := n) (P := P)
    by_cases q : P < n
    · exact q
    · have := hz.mpr q; omega
  unfold f_X8_takeNumber
  rw [a5, ixd_nI (by omega) (by omega), ixd_nI (by omega) (by omega), (a7 k a2).1, (a7 k a2).2.1, a10, hk, if_pos (show nI 1 = (1 : Int32) from rfl), wp_bnd, if_neg (Int32.not_lt.mpr h1), if_pos h2, wp_ob1]
  exact wp_mono (x_step h0 hP) (fun Q' hQ' => wp_some.mpr ⟨rfl, hQ'⟩)
theorem x_tnNo (h : TQ b n Q P f) (hn : n ≤ 400) {lo hi : Int32} (hk : ¬ (qkd b n P = 1 ∧ lo ≤ qvl b n P ∧ qvl b n P ≤ hi)) : Wp (f_X8_takeNumber Q lo hi) (fun o => o.1 = lo ∧ TQ b n o.2 n (qbm f P (if qkd b n P = 1 then 1 else 0))) := by
  have h0 := h
  obtain ⟨k, K, a1, a2, a3, a4, a5, a6, a7, a8, a9, a10⟩ := h
  have hl := qkd_le (b := b) (n := n) (P := P)
  unfold f_X8_takeNumber f_X8_takeNumber_b40
  rw [a5, ixd_nI (by omega) (by omega), ixd_nI (by omega) (by omega), (a7 k a2).1, (a7 k a2).2.1, a10]
  by_cases e : qkd b n P = 1
  · rw [if_pos e, e, if_pos (show nI 1 = (1 : Int32) from rfl), wp_bnd]
    have hb : Wp (ob1 (f_X8_blame Q 1) fun Q_42 => some (lo, Q_42)) (fun o => o.1 = lo ∧ TQ b n o.2 n (qbm f P 1)) := by
      rw [wp_ob1]
      exact wp_mono (x_blame h0 hn (c := 1) (by omega)) (fun Q' hQ' => wp_some.mpr ⟨rfl, hQ'⟩)
    by_cases c1 : qvl b n P < lo
    · rw [if_pos c1]; exact hb
    · rw [if_neg c1]
      by_cases c2 : qvl b n P ≤ hi
      · exact absurd ⟨e, Int32.not_lt.mp c1, c2⟩ hk
      · rw [if_neg c2]; exact hb
  · rw [if_neg e, if_neg (by rw [show (1 : Int32) = nI 1 from rfl, nI_eq (by omega) (by omega)]; exact e), wp_ob1]
    exact wp_mono (x_blame h0 hn (c := 0) (by omega)) (fun Q' hQ' => wp_some.mpr ⟨rfl, hQ'⟩)
end
