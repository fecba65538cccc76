/-! RULE: a SUM -/
section
variable {b : Nat → Int32} {n : Nat}
theorem rk_at {t z : Nat} {l l' : List Nat} {vs : List Bool} {a e p : Nat} {M K Q : Sg} (h : RJ b n t z l l' vs a e M K Q p) : RJ b n t z l l' vs a e (sI M 8 (nI (qsp b n p))) K Q (qsp b n p) := by
  obtain ⟨⟨hM, hQ⟩, h9, ⟨hcM, hcX⟩, ha, hlen, hz⟩ := h
  have hge := qsp_ge (b := b) (n := n) p
  refine ⟨⟨hM.s8 hQ.le, ?_⟩, h9, ⟨hcM, hcX⟩, ha, by omega, hz⟩
  rw [qsp_sp hM.2.2.2]; exact hQ
theorem rk_adv {t z : Nat} {l l' : List Nat} {vs : List Bool} {a e P q : Nat} {M K Q Q1 : Sg} (h : RJ b n t z l l' vs a e M K Q P) (hq : q ≤ n) (hP : P < q) (hQ : TQ b n Q1 (qsp b n q) 0) : RJ b n t z l l' vs a (e + 1) (sI M 8 (nI q)) K Q1 q := by
  obtain ⟨⟨hM, _⟩, h9, ⟨hcM, hcX⟩, ha, hlen, hz⟩ := h
  exact ⟨⟨hM.s8 hq, hQ⟩, h9, ⟨hcM, hcX⟩, ha, by omega, hz⟩
theorem rk_op (hn : n ≤ 400) {t z : Nat} (ht : t < 6) {l : List Nat} {vs ws : List Bool} {a e p y : Nat} {M K Q : Sg} (h : RJ b n t z l l vs a (e + 1) M K Q p) (hy : 2 ≤ y ∧ y ≤ 14) (hty : tyS y vs = some ws) (hws : ws.length ≤ a) : ∃ K1 M2, f_X5_emit K (100000 + nI (cS y)) = some K1 ∧ f_X12_puts M (nI y) 0 = some M2 ∧ kK K K1 ∧ rF1 t M M2 ∧ M2.1 = M.1 ∧ RJ b n t z (l ++ [y]) (l ++ [y]) ws a e M2 K1 Q p := by
  obtain ⟨⟨hM, hQ⟩, h9, ⟨hcM, hcX⟩, ⟨a1, a2, a3⟩, hlen, hzl, hw, hvs⟩ := h
  have hp := hM.2.2.2
  have hl : l.length < 400 := by omega
  have ey : (100000 : Int32) + nI (cS y) = nI (cC y) := by
    unfold cC
    rw [if_neg (by omega), if_neg (by omega), show y % 16 = y by omega, show (100000 : Int32) = nI 100000 from rfl, nI_add]
  have ep : nI y + 16 * (0 : Int32) = nI y := by
    rw [show (16 : Int32) = nI 16 from rfl, show (0 : Int32) = nI 0 from rfl, nI_mul, nI_add]; rfl
  obtain ⟨M3, m1, m2, m3, m4⟩ := m_puts hcM ht hl (y := y) (Or.inr (Or.inr hy)) ep
  obtain ⟨K2, k1, k2, k3, k4⟩ := x_emit (K := K) (y := y) hcX hl
  have e1 : M3.2.1 0 = M.2.1 0 := m4.2.1 0 (by omega) (by omega)
  refine ⟨K2, M3, by rw [ey]; exact k1, m1, k3, m4, m3, ⟨?_, hQ⟩, ?_, ⟨m2, k2⟩, ⟨?_, by rw [k4]; exact a2, a3⟩, ?_, ?_, drop_1 hzl hw hty, hws⟩
  · unfold MqR; rw [m3, e1]; exact hM
  · rw [m3]; exact h9
  · rw [m3]; exact a1
  · rw [List.length_append]; show l.length + 1 + e ≤ p; omega
  · rw [List.length_append]; omega
/-! in a faulty state -/
theorem x_valE (hn : n ≤ 400) {f : Int32} (hf : f ≠ 0) {Q : Sg} (hQ : TQ b n Q n f) (K : Sg) : ∃ Q', f_X5_readValue K Q = some (K, Q') ∧ TQ b n Q' n f := by
  have hw0 := x_wrd hQ
  rw [qwd_0 (Nat.le_refl _) (qlt_n b n n (Nat.le_refl _)), qwN_0] at hw0
  have hnum := x_isNumber hQ
  rw [decide_eq_false (by rw [qkd_z.mpr (Nat.lt_irrefl n)]; omega)] at hnum
  obtain ⟨Q', q1, q2⟩ := x_blame hQ hn (c := 0) (by omega)
  have q1' : f_X8_blame Q 0 = some Q' := q1
  rw [x_rvn hw0 (Or.inl rfl)]
  unfold f_X5_readValue_b36
  rw [hnum, ob1_s, itF, if_pos rfl, q1', ob1_s]
  rw [qbm_f hf] at q2
  exact ⟨Q', rfl, q2⟩
theorem x_sb8E {Q K : Sg} {P : Nat} {f : Int32} (hQ : TQ b n Q P f) (h1 : qsg b n P ≠ 43) (h2 : qsg b n P ≠ 45) (h3 : qsg b n P ≠ 42) (h4 : qsg b n P ≠ 47) (h5 : qsg b n P ≠ 37) (k : Int32 → Int32 → Sg → Sg → Option (Sg × Sg)) (x1 x2 : Int32) : f_X5_readSum_b8 k x1 x2 K Q = f_X5_readSum_b120 x1 K Q := by
  unfold f_X5_readSum_b8 f_X5_readSum_b40
  by_cases c : 400 ≤ x2
  · rw [if_pos c]
  · rw [if_neg c, x_signHere hQ, ob1_s, if_neg h1, if_neg h2, if_pos rfl, if_neg h3, if_neg h4, if_neg h5]
theorem x_sumLE {f : Int32} {Q K : Sg} (hQ : TQ b n Q n f) (hs : xSn K) {N : Nat} (hN : 0 < N) (x1 x2 : Int32) : Wp (fl4 f_X5_readSum_b8 N x1 x2 K Q) (fun o => TQ b n o.2 n f ∧ xSn o.1 ∧ kK K o.1) := by
  cases N with
  | zero => omega
  | succ N =>
    show Wp (f_X5_readSum_b8 (fl4 f_X5_readSum_b8 N) x1 x2 K Q) _
    rw [x_sb8E hQ (by rw [qsg_n]; decide) (by rw [qsg_n]; decide) (by rw [qsg_n]; decide) (by rw [qsg_n]; decide) (by rw [qsg_n]; decide)]
    unfold f_X5_readSum_b120
    by_cases c : x1 = 0
    · rw [if_pos c]; exact wp_some.mpr ⟨hQ, hs, kK.rf K⟩
    · obtain ⟨K', k1, k2, k3⟩ := x_emitE (100000 + x1) hs
      rw [if_neg c, k1, ob1_s]; exact wp_some.mpr ⟨hQ, k2, k3⟩
theorem x_sumE (hn : n ≤ 400) {f : Int32} (hf : f ≠ 0) {Q K : Sg} (hQ : TQ b n Q n f) (hs : xSn K) : Wp (f_X5_readSum K Q) (fun o => TQ b n o.2 n f ∧ xSn o.1 ∧ kK K o.1) := by
  obtain ⟨Q', q1, q2⟩ := x_valE hn hf hQ K
  unfold f_X5_readSum
  rw [q1, ob2_s]
  exact x_sumLE q2 hs (FU_lt (by omega)) 0 0
/-! signs of a SUM -/
theorem x_sb8m {Q K : Sg} {P s j : Nat} {f : Int32} (hQ : TQ b n Q P f) (h4 : s = 4 ∨ s = 5 ∨ s = 14) (hs : qsg b n P = nI (cS s)) (hj : j < 400) (k : Int32 → Int32 → Sg → Sg → Option (Sg × Sg)) (x1 : Int32) : f_X5_readSum_b8 k x1 (nI j) K Q = f_X5_readSum_b68 k x1 (nI j) (nI (cS s)) 0 K Q := by
  unfold f_X5_readSum_b8 f_X5_readSum_b40
  rw [if_neg (show ¬ (400 : Int32) ≤ nI j from nI_ge (b := 400) hj (by omega)), x_signHere hQ, ob1_s, hs]
  rcases h4 with rfl | rfl | rfl
  · rw [if_neg (by decide), if_neg (by decide), if_pos rfl, if_pos (by decide)]
  · rw [if_neg (by decide), if_neg (by decide), if_pos rfl, if_neg (by decide), if_pos (by decide)]
  · rw [if_neg (by decide), if_neg (by decide), if_pos rfl, if_neg (by decide), if_neg (by decide), if_pos (by decide)]
theorem x_sb8a {Q K : Sg} {P s j : Nat} {f : Int32} (hQ : TQ b n Q P f) (h4 : s = 2 ∨ s = 3) (hs : qsg b n P = nI (cS s)) (hj : j < 400) (k : Int32 → Int32 → Sg → Sg → Option (Sg × Sg)) (x1 : Int32) : f_X5_readSum_b8 k x1 (nI j) K Q = f_X5_readSum_b68 k x1 (nI j) (nI (cS s)) 1 K Q := by
  unfold f_X5_readSum_b8 f_X5_readSum_b35 f_X5_readSum_b40
  rw [if_neg (show ¬ (400 : Int32) ≤ nI j from nI_ge (b := 400) hj (by omega)), x_signHere hQ, ob1_s, hs]
  rcases h4 with rfl | rfl
  · rw [if_pos (by decide), if_neg (by decide)]
  · rw [if_neg (by decide), if_pos (by decide), if_neg (by decide)]
variable {M : Sg} {p : Nat}
theorem ch_ne (hB : ∀ i, i < n → isB (b i)) {P c : Nat} (hc : sgC c) (h : qsg b n P ≠ nI c) : qch b n P ≠ nI c := fun e => h ((ch_sg hB hc).mp e)
theorem m_termE (hn : n ≤ 400) (hM : MqR b n M p) (h1 : qch b n (qsp b n p) ≠ 42) (h2 : qch b n (qsp b n p) ≠ 47) (h3 : qch b n (qsp b n p) ≠ 37) (k : Sg → Option (Bool × Sg)) : f_X12_term_b9 k M = some (true, sI M 8 (nI (qsp b n p))) := by
  have hP := qsp_le (b := b) hM.2.2.2
  have hM1 := hM.s8 hP
  have hs := qsp_sp (b := b) (n := n) hM.2.2.2
  have e2 : f_X12_see (sI M 8 (nI (qsp b n p))) = some (qch b n (qsp b n p), sI M 8 (nI (qsp b n p))) := by
    rw [m_see hM1 hn, hs, sI_sI]
  unfold f_X12_term_b9
  rw [m_see hM hn, ob2_s]
  dsimp only
  rw [if_neg h1, e2, ob2_s]
  dsimp only
  rw [if_neg h2, e2, ob2_s]
  dsimp only
  rw [if_neg h3]
theorem m_termO (hn : n ≤ 400) (hB : ∀ i, i < n → isB (b i)) (hM : MqR b n M p) {s : Nat} (h4 : s = 4 ∨ s = 5 ∨ s = 14) (hs0 : qsg b n (qsp b n p) = nI (cS s)) (k : Sg → Option (Bool × Sg)) : f_X12_term_b9 k M = f_X12_term_b74 k (nI s) (sI M 8 (nI (qsp b n p))) := by
  have hP := qsp_le (b := b) hM.2.2.2
  have hM1 := hM.s8 hP
  have hs := qsp_sp (b := b) (n := n) hM.2.2.2
  have e2 : f_X12_see (sI M 8 (nI (qsp b n p))) = some (qch b n (qsp b n p), sI M 8 (nI (qsp b n p))) := by
    rw [m_see hM1 hn, hs, sI_sI]
  have hc : sgC (cS s) := by rcases h4 with rfl | rfl | rfl <;> (unfold sgC; decide)
  have hq : qch b n (qsp b n p) = nI (cS s) := (ch_sg hB hc).mpr hs0
  obtain ⟨g1, g2, g3⟩ := sg_in hc hs0
  have e8 : (sI M 8 (nI (qsp b n p))).1 8 = nI (qsp b n p) := rfl
  have eb : (sI M 8 (nI (qsp b n p))).2.1 0 (qsp b n p) = nI (cS s) := by rw [← g2]; exact hM.2.1 _ g1
  unfold f_X12_term_b9 f_X12_term_b36
  rw [m_see hM hn, ob2_s]
  dsimp only
  rw [e2, hq, e8, ixd_nI (by omega) (by omega), ixd_nI (by omega) (by omega), eb]
  rcases h4 with rfl | rfl | rfl
  · rw [if_pos (by decide), if_pos (by decide)]; rfl
  · rw [if_neg (by decide), ob2_s]
    dsimp only
    rw [if_pos (by decide), e8, ixd_nI (by omega) (by omega), eb, if_neg (by decide), ixd_nI (by omega) (by omega), eb, if_pos (by decide)]; rfl
  · rw [if_neg (by decide), ob2_s]
    dsimp only
    rw [if_neg (by decide), e2, ob2_s]
    dsimp only
    rw [hq, if_pos (by decide), e8, ixd_nI (by omega) (by omega), eb, if_neg (by decide), ixd_nI (by omega) (by omega), eb, if_neg (by decide)]; rfl
theorem m_sumE (hn : n ≤ 400) (hM : MqR b n M p) (h1 : qch b n (qsp b n p) ≠ 43) (h2 : qch b n (qsp b n p) ≠ 45) (k : Sg → Option (Bool × Sg)) : f_X12_sum_b9 k M = some (true, sI M 8 (nI (qsp b n p))) := by
  have hP := qsp_le (b := b) hM.2.2.2
  have hM1 := hM.s8 hP
  have hs := qsp_sp (b := b) (n := n) hM.2.2.2
  have e2 : f_X12_see (sI M 8 (nI (qsp b n p))) = some (qch b n (qsp b n p), sI M 8 (nI (qsp b n p))) := by
    rw [m_see hM1 hn, hs, sI_sI]
  unfold f_X12_sum_b9
  rw [m_see hM hn, ob2_s]
  dsimp only
  rw [if_neg h1, e2, ob2_s]
  dsimp only
  rw [if_neg h2]
theorem m_sumO (hn : n ≤ 400) (hB : ∀ i, i < n → isB (b i)) (hM : MqR b n M p) {s : Nat} (h4 : s = 2 ∨ s = 3) (hs0 : qsg b n (qsp b n p) = nI (cS s)) (k : Sg → Option (Bool × Sg)) : f_X12_sum_b9 k M = f_X12_sum_b46 k (nI s) (sI M 8 (nI (qsp b n p))) := by
  have hP := qsp_le (b := b) hM.2.2.2
  have hM1 := hM.s8 hP
  have hs := qsp_sp (b := b) (n := n) hM.2.2.2
  have e2 : f_X12_see (sI M 8 (nI (qsp b n p))) = some (qch b n (qsp b n p), sI M 8 (nI (qsp b n p))) := by
    rw [m_see hM1 hn, hs, sI_sI]
  have hc : sgC (cS s) := by rcases h4 with rfl | rfl <;> (unfold sgC; decide)
  have hq : qch b n (qsp b n p) = nI (cS s) := (ch_sg hB hc).mpr hs0
  obtain ⟨g1, g2, g3⟩ := sg_in hc hs0
  have e8 : (sI M 8 (nI (qsp b n p))).1 8 = nI (qsp b n p) := rfl
  have eb : (sI M 8 (nI (qsp b n p))).2.1 0 (qsp b n p) = nI (cS s) := by rw [← g2]; exact hM.2.1 _ g1
  unfold f_X12_sum_b9 f_X12_sum_b27
  rw [m_see hM hn, ob2_s]
  dsimp only
  rw [hq, e8, ixd_nI (by omega) (by omega), eb]
  rcases h4 with rfl | rfl
  · rw [if_pos (by decide), if_pos (by decide)]; rfl
  · rw [if_neg (by decide), e2, ob2_s]
    dsimp only
    rw [hq, if_pos (by decide), e8, ixd_nI (by omega) (by omega), eb, if_neg (by decide)]; rfl
end
/-! the reference in a SUM: a sign w that waits, or none -/
def tS (N N1 w : Nat) (M : Sg) : Option (Bool × Sg) := ob2 (fl1 f_X12_term_b9 N1 M) fun r M1 => if (bI r) = 0 then some (false, M1) else (if w = 0 then fl1 f_X12_sum_b9 N M1 else (ob1 (f_X12_puts M1 (nI w) 0) fun M2 => fl1 f_X12_sum_b9 N M2))
theorem tS_0 (M : Sg) : f_X12_sum M = ob2 (f_X12_value M) fun r M1 => if (bI r) = 0 then some (false, M1) else tS FU FU 0 M1 := by
  unfold f_X12_sum f_X12_term tS
  generalize FU = N
  cases f_X12_value M with
  | none => rfl
  | some x =>
    obtain ⟨r, M1⟩ := x
    rw [ob2_s, ob2_s]
    dsimp only
    cases r with
    | false => rfl
    | true => rfl
theorem tS_1 {w : Nat} (hw : w ≠ 0) (N : Nat) (M : Sg) : f_X12_sum_b46 (fl1 f_X12_sum_b9 N) (nI w) M = ob2 (f_X12_value (sI M 8 (M.1 8 + 1))) fun r M1 => if (bI r) = 0 then some (false, M1) else tS N FU w M1 := by
  unfold f_X12_sum_b46 f_X12_term tS
  rw [bnd_eq]
  generalize FU = N2
  cases f_X12_value (sI M 8 (M.1 8 + 1)) with
  | none => rfl
  | some x =>
    obtain ⟨r, M1⟩ := x
    rw [ob2_s, ob2_s]
    dsimp only
    cases r with
    | false => rfl
    | true =>
      rw [itT, itT]
      simp only [if_neg hw]
def xw (w : Nat) : Int32 := if w = 0 then 0 else nI (cS w)
