/-! RULE: all clauses -/
theorem m_ruW {M1 : Sg} {d0 d1 d2 : Bool} (h0 : f_X12_isWord M1 (115923103605861 : Int64) = some (d0, M1)) (h1 : f_X12_isWord M1 (31372865427825765 : Int64) = some (d1, M1)) (h2 : f_X12_isWord M1 (1937006969 : Int64) = some (d2, M1)) (x1 : Int32) : f_X12_clauseHere_b24 x1 0 M1 = if (d0 || (d1 || d2)) = true then f_X12_clauseHere_b76 x1 0 M1 else f_X12_clauseHere_b69 x1 M1 := by
  unfold f_X12_clauseHere_b24
  rw [if_pos rfl, h0, ob2_s]
  cases d0 with
  | true => rfl
  | false =>
    dsimp only
    rw [itF, h1, ob2_s]
    cases d1 with
    | true => rfl
    | false =>
      dsimp only
      rw [itF, h2, ob2_s]
      cases d2 with
      | true => rfl
      | false => rfl
theorem m_ruD {M2 : Sg} {d0 d1 : Bool} (h0 : f_X12_isWord M2 (115923103605861 : Int64) = some (d0, M2)) (h1 : f_X12_isWord M2 (31372865427825765 : Int64) = some (d1, M2)) : (ob2 (f_X12_isWord M2 (115923103605861 : Int64)) fun r128 M_128 => if (bI r128) = 0 then (ob2 (f_X12_isWord M_128 (31372865427825765 : Int64)) fun r142 M_142 => if (bI r142) = 0 then (f_X12_clauseHere_b153 2 M_142) else (f_X12_clauseHere_b153 1 M_142)) else (f_X12_clauseHere_b153 0 M_128)) = f_X12_isDoingHere M2 (if d0 = true then 0 else if d1 = true then 1 else 2) := by
  unfold f_X12_clauseHere_b153
  rw [h0, ob2_s]
  cases d0 with
  | true => dsimp only; rw [itT, ob2_eta, if_pos rfl]
  | false =>
    dsimp only
    rw [itF, h1, ob2_s]
    cases d1 with
    | true => dsimp only; rw [itT, ob2_eta]; rfl
    | false => dsimp only; rw [itF, ob2_eta]; rfl
section
variable {b : Nat → Int32} {n : Nat}
theorem rk_clause (hn : n ≤ 400) (hB : ∀ i, i < n → isB (b i)) {t c : Nat} (ht : t < 6) {l : List Nat} {kd se te : Nat → Nat} {a p : Nat} {M K Q : Sg} (hCS : CS b n t c l kd se te a M K Q p) : Wp (f_X5_readClause K Q) (fun o => ∃ r M', f_X12_clauseHere M = some (r, M') ∧ rF4 t M M' ∧ ((r = true ∧ c < 12 ∧ ∃ l' kd' se' te' a' p', CS b n t (c + 1) l' kd' se' te' a' M' o.1 o.2 p') ∨ (r = false ∧ M'.1 9 ≠ 0 ∧ TQ b n o.2 n (M'.1 9)))) := by
  have hCS0 := hCS
  obtain ⟨hR, ⟨c14, c6, c5, c12⟩, hbg, hCK⟩ := hCS
  have hM := hR.1.1
  have hQ := hR.1.2
  have h9 := hR.2.1
  have h11 := hR.2.2.1.1.1
  have hP := hQ.le
  have hs := qsp_sp (b := b) (n := n) hM.2.2.2
  have hM1 := hM.s8 hP
  have z1 : rF4 t M (sI M 8 (nI (qsp b n p))) := rF4.s t _ (by omega) _
  have h91 : (sI M 8 (nI (qsp b n p))).1 9 = 0 := h9
  have e8 : (sI M 8 (nI (qsp b n p))).1 8 = nI (qsp b n p) := rfl
  have h111 : (sI M 8 (nI (qsp b n p))).1 11 = nI t := h11
  have hcl : f_X12_clauseHere M = f_X12_clauseHere_b24 (nI (qsp b n p)) 0 (sI M 8 (nI (qsp b n p))) := by
    unfold f_X12_clauseHere
    rw [m_see hM hn, ob2_s, bnd_eq]
    dsimp only
    rw [h111, e8, if_neg (show ¬ nI t = 6 by rw [show (6 : Int32) = nI 6 from rfl, nI_eq (by omega) (by omega)]; omega)]
  have hW : ∀ (Mx : Sg), MqR b n Mx (qsp b n p) → ∀ j, j < 27 → f_X12_isWord Mx (Int64.ofNat (qWC.getD j 0)) = some (decide (qwd b n (qsp b n p) = qWC.getD j 0), Mx) := by
    intro Mx hMx j hj
    have := qWC_pos ⟨j, hj⟩
    exact m_isW hMx hs hn this.1 this.2
  have hbl : ∀ (k : Nat) (M2 : Sg) (e : Option (Bool × Sg)), k < 8 → rF4 t M M2 → M2.1 9 = 0 → e = f_X12_fails M2 (nI k) (nI (qsp b n p)) → Wp (ob1 (f_X8_blame Q (nI k)) fun Q_23 => some (K, Q_23)) (fun o => ∃ r M', e = some (r, M') ∧ rF4 t M M' ∧ ((r = true ∧ c < 12 ∧ ∃ l' kd' se' te' a' p', CS b n t (c + 1) l' kd' se' te' a' M' o.1 o.2 p') ∨ (r = false ∧ M'.1 9 ≠ 0 ∧ TQ b n o.2 n (M'.1 9)))) := by
    intro k M2 e hk hz h92 he
    rw [wp_ob1]
    refine wp_mono (x_blame hQ hn hk) (fun Q' hQ' => wp_some.mpr ?_)
    rw [he, m_fails, h92]
    have hf := qbm_ne (P := qsp b n p) (c := k) (by omega) hk
    exact ⟨false, _, rfl, hz.tr (rF4.s t _ (by omega) _), Or.inr ⟨rfl, hf, hQ'⟩⟩
  rw [hcl]
  have v0 : f_X12_isWord (sI M 8 (nI (qsp b n p))) (115923103605861 : Int64) = _ := hW _ hM1 10 (by omega)
  have v1 : f_X12_isWord (sI M 8 (nI (qsp b n p))) (31372865427825765 : Int64) = _ := hW _ hM1 11 (by omega)
  have v2 : f_X12_isWord (sI M 8 (nI (qsp b n p))) (1937006969 : Int64) = _ := hW _ hM1 12 (by omega)
  rw [m_ruW v0 v1 v2]
  unfold f_X5_readClause f_X5_readClause_b20
  rw [x_wrd hQ, ob1_s]
  by_cases cw : ∃ w, w ≤ 2 ∧ qwd b n (qsp b n p) = qWC.getD (10 + w) 0
  · obtain ⟨w, hw, hv⟩ := cw
    have hlt : qlt b n (qsp b n p) = true := qwd_nz (by rw [hv]; have := (qWC_pos ⟨10 + w, by omega⟩).1; exact Nat.pos_iff_ne_zero.mp this) hP
    have hN : qwN (qwd b n (qsp b n p)) = nI (10 + w) := (qwN_iff (by omega)).mpr hv
    have hd : ∀ j, j ≤ 2 → decide (qwd b n (qsp b n p) = qWC.getD (10 + j) 0) = decide (w = j) := by
      intro j hj
      rw [hv]
      have hi := qWC_inj ⟨10 + w, by omega⟩ ⟨10 + j, by omega⟩
      by_cases q : w = j
      · rw [decide_eq_true q, decide_eq_true (by rw [q])]
      · rw [decide_eq_false q, decide_eq_false (fun e => q (by have := Fin.mk.inj (hi e); omega))]
    have d0 := hd 0 (by omega)
    have d1 := hd 1 (by omega)
    have d2 := hd 2 (by omega)
    have d3 : (decide (qwd b n (qsp b n p) = qWC.getD 10 0) || (decide (qwd b n (qsp b n p) = qWC.getD 11 0) || decide (qwd b n (qsp b n p) = qWC.getD 12 0))) = true := by
      rw [d0, d1, d2]
      have h3 : w = 0 ∨ w = 1 ∨ w = 2 := by omega
      rcases h3 with rfl | rfl | rfl <;> rfl
    rw [if_pos d3]
    rw [hN, if_neg (show ¬ nI (10 + w) < 10 from nI_nlt (b := 10) (by omega) (by omega)), if_pos (show nI (10 + w) ≤ 12 from nI_le (b := 12) (by omega) (by omega)), c5]
    have h141 : (sI M 8 (nI (qsp b n p))).1 14 = nI c := c14
    unfold f_X12_clauseHere_b76 f_X12_clauseHere_b91
    rw [if_pos rfl, h141, bnd_eq, if_pos rfl, ← nI_succ]
    by_cases k12 : c = 12
    · rw [if_neg (show ¬ nI c < 12 from nI_nlt (b := 12) (by omega) (by omega)), if_pos (show nI c = 12 by rw [k12]; rfl), ob2_eta]
      exact hbl 4 _ _ (by omega) z1 h91 rfl
    · have hM2 : MqR b n (sI (sI M 8 (nI (qsp b n p))) 14 (nI (c + 1))) (qsp b n p) := hM1
      have u0 : f_X12_isWord (sI (sI M 8 (nI (qsp b n p))) 14 (nI (c + 1))) (115923103605861 : Int64) = _ := hW _ hM2 10 (by omega)
      have u1 : f_X12_isWord (sI (sI M 8 (nI (qsp b n p))) 14 (nI (c + 1))) (31372865427825765 : Int64) = _ := hW _ hM2 11 (by omega)
      obtain ⟨Q1, s1, s2⟩ := x_step hQ (qlt_c hlt).1
      rw [if_pos (show nI c < 12 from nI_lt (b := 12) (by omega) (by omega)), if_neg (show ¬ nI c = 12 by rw [show (12 : Int32) = nI 12 from rfl, nI_eq (by omega) (by omega)]; exact k12), m_ruD u0 u1, s1, ob1_s, ixd_nI (by omega) (by omega), bnd_eq]
      have ek : (if decide (qwd b n (qsp b n p) = qWC.getD 10 0) = true then (0 : Int32) else if decide (qwd b n (qsp b n p) = qWC.getD 11 0) = true then 1 else 2) = nI w := by
        rw [d0, d1]
        have h3 : w = 0 ∨ w = 1 ∨ w = 2 := by omega
        rcases h3 with rfl | rfl | rfl <;> rfl
      rw [ek]
      refine wp_mono (rk_cl1 hn hB ht (by omega) hw hCS0 (M := sI (sI M 8 (nI (qsp b n p))) 14 (nI (c + 1))) (z1.tr (rF4.s t _ (by omega) _)) hM2 h91 rfl rfl rfl hlt s2) ?_
      rintro o ⟨r, M', q1, q2, q3⟩
      refine ⟨r, M', q1, q2, ?_⟩
      rcases q3 with ⟨g1, g2⟩ | g
      · exact Or.inl ⟨g1, by omega, g2⟩
      · exact Or.inr g
  · have hne : ∀ j, j ≤ 2 → decide (qwd b n (qsp b n p) = qWC.getD (10 + j) 0) = false := fun j hj => decide_eq_false (fun e => cw ⟨j, hj, e⟩)
    have d0 := hne 0 (by omega)
    have d1 := hne 1 (by omega)
    have d2 := hne 2 (by omega)
    rw [if_neg (show ¬ (decide (qwd b n (qsp b n p) = qWC.getD 10 0) || (decide (qwd b n (qsp b n p) = qWC.getD 11 0) || decide (qwd b n (qsp b n p) = qWC.getD 12 0))) = true by rw [d0, d1, d2]; decide)]
    have hb0 := hbl 0 (sI M 8 (nI (qsp b n p))) (f_X12_clauseHere_b69 (nI (qsp b n p)) (sI M 8 (nI (qsp b n p)))) (by omega) z1 h91 (by unfold f_X12_clauseHere_b69; rw [ob2_eta]; rfl)
    rcases qwN_c (qwd b n (qsp b n p)) with ⟨j, hj, e1, e2⟩ | ⟨e1, e2⟩
    · rw [e2]
      by_cases j1 : j < 10
      · rw [if_pos (show nI j < 10 from nI_lt (b := 10) j1 (by omega))]; exact hb0
      · rw [if_neg (show ¬ nI j < 10 from nI_nlt (b := 10) (by omega) (by omega))]
        by_cases j2 : j ≤ 12
        · exact absurd ⟨j - 10, by omega, by rw [show 10 + (j - 10) = j by omega]; exact e1⟩ cw
        · rw [if_neg (show ¬ nI j ≤ 12 from nI_ge (a := 12) (by omega) (by omega))]; exact hb0
    · rw [e2, if_pos (by decide)]; exact hb0
/-- in a faulty state -/
theorem x_rreadE {f : Int32} (hf : f ≠ 0) {k N : Nat} (hN : 0 < N) (hk : k ≤ 13) {K Q : Sg} (hQ : TQ b n Q n f) : Wp (fl3 f_X5_read_b28 N (nI k) K Q) (fun o => o.1 = false ∧ TQ b n o.2.2 n f) := by
  have h56 : Wp (f_X5_read_b56 K Q) (fun o => o.1 = false ∧ TQ b n o.2.2 n f) := by
    unfold f_X5_read_b56 f_X5_read_b74
    rw [x_atEnd hQ, ob1_s, decide_eq_true rfl, itT, hQ.f2, if_neg hf]
    exact wp_some.mpr ⟨rfl, hQ⟩
  obtain ⟨N, rfl⟩ : ∃ k, N = k + 1 := ⟨N - 1, by omega⟩
  show Wp (f_X5_read_b28 (fl3 f_X5_read_b28 N) (nI k) K Q) _
  generalize fl3 f_X5_read_b28 N = F
  unfold f_X5_read_b28
  by_cases c : 12 < k
  · rw [if_pos (show (12 : Int32) < nI k from nI_lt (a := 12) c (by omega))]; exact h56
  · rw [if_neg (show ¬ (12 : Int32) < nI k from nI_nlt (a := 12) (by omega) (by omega)), x_tkNo hQ (c := 59) (by decide) (by rw [qsg_n]; decide), ob2_s]
    dsimp only
    rw [itF]; exact h56
/-- what is left behind all clauses -/
def rF5 (t : Nat) (M M' : Sg) : Prop := (M'.2.2 = M.2.2 ∧ (∀ k, k ≠ 3 → k ≠ 4 → k ≠ 5 → k ≠ 6 → k ≠ 15 → M'.2.1 k = M.2.1 k) ∧ (∀ i, i < 400 * t → M'.2.1 3 i = M.2.1 3 i) ∧ (∀ i, i < 60 * t → M'.2.1 5 i = M.2.1 5 i) ∧ (∀ i, i < t → M'.2.1 6 i = M.2.1 6 i)) ∧ (∀ k, k ≠ 1 → k ≠ 8 → k ≠ 9 → k ≠ 10 → k ≠ 12 → k ≠ 13 → k ≠ 14 → k ≠ 16 → M'.1 k = M.1 k) ∧ M'.1 1 = 0
theorem rF4.r5 {t : Nat} {M M' : Sg} (h : rF4 t M M') : rF5 t M (sI M' 1 0) := ⟨h.1, fun k a c d e f g x y => by show (if k = 1 then 0 else M'.1 k) = M.1 k; rw [if_neg a]; exact h.2 k c d e f g x y, rfl⟩
def RkA (t : Nat) (M : Sg) (e : Option (Bool × Sg)) (o : Bool × Sg × Sg) : Prop := ∃ M', e = some (o.1, M') ∧ rF5 t M M' ∧ o.2.2.1 2 = M'.1 9 ∧ (o.1 = true → ∃ (c : Nat) (l : List Nat) (kd se te : Nat → Nat), c ≤ 12 ∧ l.length ≤ 400 ∧ cdM t l M' ∧ cdX l o.2.1 ∧ o.2.1.1 5 = nI c ∧ M'.2.1 6 t = nI c ∧ ∀ k, k < c → CK t l kd se te k (M'.2.1 5) o.2.1)
theorem rk_all (hn : n ≤ 400) (hB : ∀ i, i < n → isB (b i)) {t : Nat} (ht : t < 6) {M0 : Sg} : ∀ (m N N2 k : Nat) (K Q M : Sg) (p : Nat) (l : List Nat) (kd se te : Nat → Nat) (a : Nat), m < N → m < N2 → k + m = 13 → 1 ≤ k → k ≤ 12 → CS b n t k l kd se te a M K Q p → rF4 t M0 M → Wp (fl3 f_X5_read_b28 N (nI k) K Q) (fun o => RkA t M0 (fl2 f_X12_readsAll_b35 N2 1 M) o) := by
  intro m
  induction m with
  | zero => intro N N2 k K Q M p l kd se te a hN hN2 hk h1 h12; omega
  | succ m ih =>
    intro N N2 k K Q M p l kd se te a hN hN2 hk h1 h12 hCS hz
    obtain ⟨N, rfl⟩ : ∃ k, N = k + 1 := ⟨N - 1, by omega⟩
    obtain ⟨N2, rfl⟩ : ∃ k, N2 = k + 1 := ⟨N2 - 1, by omega⟩
    show Wp (f_X5_read_b28 (fl3 f_X5_read_b28 N) (nI k) K Q) (fun o => RkA t M0 (f_X12_readsAll_b35 (fl2 f_X12_readsAll_b35 N2) 1 M) o)
    obtain ⟨hR, ⟨c14, c6, c5, c12⟩, hbg, hCK⟩ := hCS
    have hM := hR.1.1
    have hQ := hR.1.2
    have h9 := hR.2.1
    have h11 := hR.2.2.1.1.1
    have hP := hQ.le
    have hs := qsp_sp (b := b) (n := n) hM.2.2.2
    have hM1 := hM.s8 hP
    have hR1 := rk_at hR
    have hz1 : rF4 t M0 (sI M 8 (nI (qsp b n p))) := hz.tr (rF4.s t _ (by omega) _)
    have h91 : (sI M 8 (nI (qsp b n p))).1 9 = 0 := h9
    have h111 : (sI M 8 (nI (qsp b n p))).1 11 = nI t := h11
    have h141 : (sI M 8 (nI (qsp b n p))).1 14 = nI k := c14
    have h61 : (sI M 8 (nI (qsp b n p))).2.1 6 t = nI k := c6
    have hCK1 : ∀ j, j < k → CK t l kd se te j ((sI M 8 (nI (qsp b n p))).2.1 5) K := hCK
    have hlen := hR.2.2.2.2.1
    have hpn := hM.2.2.2
    generalize hF : fl3 f_X5_read_b28 N = F
    generalize hG : fl2 f_X12_readsAll_b35 N2 = G
    unfold f_X5_read_b28 f_X12_readsAll_b35
    rw [if_neg (show ¬ (12 : Int32) < nI k from nI_nlt (a := 12) h12 (by omega)), if_neg (show ¬ (1 : Int32) = 0 by decide), m_see hM hn, ob2_s]
    dsimp only
    generalize sI M 8 (nI (qsp b n p)) = M1 at hM1 hR1 hz1 h91 h111 h141 h61 hCK1 ⊢
    generalize qsp b n p = P at hQ hP hs hM1 hR1 ⊢
    have hsg : qch b n P = 59 ↔ qsg b n P = 59 := ch_sg (b := b) (n := n) (P := P) hB (c := 59) (by unfold sgC; omega)
    by_cases c : qsg b n P = 59
    · obtain ⟨s1, s2, s3⟩ := sg_in (c := 59) (by unfold sgC; omega) c
      obtain ⟨⟨r0, Q1⟩, a1, a2, a3⟩ := x_tkYes hQ (c := 59) (by decide) c
      dsimp only at a2 a3
      subst a2
      rw [a1, ob2_s]
      dsimp only
      rw [itT, if_pos (hsg.mpr c), bnd_eq, hM1.2.2.1, show nI P + 1 = nI (P + 1) from (nI_succ P).symm, wp_ob2]
      rw [s3] at a3
      have hR2 := RJ_e (rk_adv hR1 (q := P + 1) (by omega) (by omega) a3) (e' := 0) (by omega)
      have hCS2 : CS b n t k l kd se te a (sI M1 8 (nI (P + 1))) K Q1 (P + 1) := ⟨hR2, ⟨h141, h61, c5, c12⟩, hbg, hCK1⟩
      refine wp_mono (rk_clause hn hB ht hCS2) ?_
      rintro ⟨K2, Q2⟩ ⟨r, M3, q1, q2, q3⟩
      dsimp only at q3 ⊢
      rw [q1, ob2_s, wp_bnd, show nI k + 1 = nI (k + 1) from (nI_succ k).symm]
      dsimp only
      have hz3 : rF4 t M0 M3 := (hz1.tr (rF4.s t _ (by omega) _)).tr q2
      rcases q3 with ⟨rfl, g1, l', kd', se', te', a', p', g2⟩ | ⟨rfl, g2, g3⟩
      · rw [← hF, ← hG]
        exact ih N N2 (k + 1) K2 Q2 M3 p' l' kd' se' te' a' (by omega) (by omega) (by omega) (by omega) (by omega) g2 hz3
      · have e0 : fl2 f_X12_readsAll_b35 N2 (bI false) M3 = some (false, sI M3 1 0) := m_readE g2 (by omega)
        rw [← hF, ← hG, e0]
        refine wp_mono (x_rreadE (N := N) (k := k + 1) g2 (by omega) (by omega) g3) ?_
        rintro ⟨o1, o2, o3⟩ ⟨u1, u2⟩
        dsimp only at u1 u2
        subst u1
        exact ⟨_, rfl, hz3.r5, u2.f2, fun h => by cases h⟩
    · have c2 : ¬ qch b n P = 59 := fun e => c (hsg.mp e)
      rw [x_tkNo hQ (c := 59) (by decide) c, ob2_s, if_neg c2]
      dsimp only
      rw [itF]
      unfold f_X5_read_b56 f_X5_read_b74 f_X12_readsAll_b66
      rw [x_atEnd hQ, ob1_s, if_neg (show ¬ (1 : Int32) = 0 by decide), m_see hM1 hn, ob2_s, hs, sI_se hM1.2.2.1]
      dsimp only
      have hm1 := ch_m1 (b := b) (n := n) (P := P) hB hP
      by_cases cP : P = n
      · rw [decide_eq_true cP, itT, if_pos (hm1.mpr cP), hQ.f2, if_pos rfl]
        unfold f_X12_readsAll_b88 f_X12_readsAll_b120
        have e9 : (sI M1 1 0).1 9 = 0 := h91
        rw [if_neg (show ¬ (1 : Int32) = 0 by decide), h111, if_neg (show ¬ nI t = 6 by rw [show (6 : Int32) = nI 6 from rfl, nI_eq (by omega) (by omega)]; omega), bnd_eq, if_pos e9]
        refine wp_some.mpr ⟨_, rfl, hz1.r5, ?_, fun _ => ⟨k, l, kd, se, te, h12, by omega, hR1.2.2.1.1, hR.2.2.1.2, c5, h61, hCK1⟩⟩
        show Q.1 2 = M1.1 9
        rw [hQ.f2, h91]
      · rw [decide_eq_false cP, itF, if_neg (fun e => cP (hm1.mp e)), hM1.2.2.1, wp_ob1]
        have hf : f_X12_fails M1 0 (nI P) = _ := m_fails M1 0 P
        rw [hf, ob2_s, h91]
        dsimp only
        unfold f_X12_readsAll_b88 f_X12_readsAll_b120
        have hne := qbm_ne (P := P) (c := 0) (by have := hn; omega) (by omega)
        have e9 : ¬ (sI (sI M1 9 (qbm 0 P 0)) 1 0).1 9 = 0 := hne
        rw [if_pos (show bI false = 0 from rfl), bnd_eq, if_neg e9]
        refine wp_mono (x_blame hQ hn (c := 0) (by omega)) (fun Q' hQ' => ?_)
        rw [hQ'.f2, if_neg hne]
        exact wp_some.mpr ⟨_, rfl, (hz1.tr (rF4.s t _ (by omega) _)).r5, hQ'.f2, fun h => by cases h⟩
end
