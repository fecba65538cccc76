/-! RULE: the SUM's loop -/
section
variable {b : Nat → Int32} {n : Nat}
def vW (w : Nat) (vs : List Bool) : List Bool := if w = 0 then false :: vs else false :: false :: vs
def eW (w e : Nat) : Nat := if w = 0 then e else e + 1
theorem vW_0 (vs : List Bool) : vW 0 vs = false :: vs := rfl
theorem vW_n {w : Nat} (h : w ≠ 0) (vs : List Bool) : vW w vs = false :: false :: vs := if_neg h
theorem eW_n {w : Nat} (h : w ≠ 0) (e : Nat) : eW w e = e + 1 := if_neg h
def SG (b : Nat → Int32) (n t z : Nat) (l0 : List Nat) (vs : List Bool) (e p0 : Nat) (o : Sg × Sg) (M' : Sg) : Prop := ∃ d a' p', p0 < p' ∧ RJ b n t z (l0 ++ d) (l0 ++ d) (false :: vs) a' e M' o.1 o.2 p'
theorem rk_flush (hn : n ≤ 400) {t z : Nat} (ht : t < 6) {l : List Nat} {vs : List Bool} {a e w P : Nat} {M K Q : Sg} (hw : w = 0 ∨ w = 2 ∨ w = 3) (hR : RJ b n t z l l (vW w vs) a (eW w e) M K Q P) : ∃ K1 M2 d1, (if w = 0 then some K else f_X5_emit K (100000 + xw w)) = some K1 ∧ (if w = 0 then some M else f_X12_puts M (nI w) 0) = some M2 ∧ kK K K1 ∧ rF2 t M M2 ∧ M2.1 = M.1 ∧ RJ b n t z (l ++ d1) (l ++ d1) (false :: vs) a e M2 K1 Q P := by
  by_cases c : w = 0
  · subst c
    refine ⟨K, M, [], rfl, rfl, kK.rf K, rF2.rf t M, rfl, ?_⟩
    rw [List.append_nil]; exact hR
  · rw [vW_n c, eW_n c] at hR
    have hv : vs.length + 2 ≤ a := hR.2.2.2.2.2.2.2
    obtain ⟨K1, M2, h1, h2, h3, h4, h5, h6⟩ := rk_op hn ht hR (y := w) (ws := false :: vs) (by omega) (ty_a (by omega)) (by show vs.length + 1 ≤ a; omega)
    rw [if_neg c, if_neg c]
    refine ⟨K1, M2, [w], ?_, h2, h3, h4.r2 h5, h5, h6⟩
    unfold xw; rw [if_neg c]; exact h1
theorem xw_0 {w : Nat} (hw : w = 0 ∨ w = 2 ∨ w = 3) : xw w = 0 ↔ w = 0 := by
  rcases hw with rfl | rfl | rfl <;> decide
theorem x_b120w {w : Nat} (hw : w = 0 ∨ w = 2 ∨ w = 3) (K Q : Sg) : f_X5_readSum_b120 (xw w) K Q = ob1 (if w = 0 then some K else f_X5_emit K (100000 + xw w)) fun K1 => some (K1, Q) := by
  unfold f_X5_readSum_b120
  by_cases c : w = 0
  · rw [if_pos c, if_pos ((xw_0 hw).mpr c), ob1_s]
  · rw [if_neg c, if_neg (fun e => c ((xw_0 hw).mp e))]
theorem x_b68a {w : Nat} (hw : w = 0 ∨ w = 2 ∨ w = 3) (k : Int32 → Int32 → Sg → Sg → Option (Sg × Sg)) (x2 x3 : Int32) (K Q : Sg) : f_X5_readSum_b68 k (xw w) x2 x3 1 K Q = ob1 (f_X8_step Q) fun Q1 => ob1 (if w = 0 then some K else f_X5_emit K (100000 + xw w)) fun K1 => f_X5_readSum_b92 k (xw w) x2 x3 1 K1 Q1 := by
  unfold f_X5_readSum_b68
  by_cases c : w = 0
  · simp only [if_pos c, if_pos ((xw_0 hw).mpr c), if_neg (show ¬ (1 : Int32) = 0 by decide), ob1_s]
  · simp only [if_neg c, if_neg (fun e => c ((xw_0 hw).mp e)), if_neg (show ¬ (1 : Int32) = 0 by decide)]
theorem tS_e {N N1 w : Nat} {M M1 : Sg} (h : f_X12_term_b9 (fl1 f_X12_term_b9 N1) M = some (true, M1)) : tS N (N1 + 1) w M = ob1 (if w = 0 then some M1 else f_X12_puts M1 (nI w) 0) fun M2 => fl1 f_X12_sum_b9 N M2 := by
  unfold tS
  have h2 : fl1 f_X12_term_b9 (N1 + 1) M = some (true, M1) := h
  rw [h2, ob2_s]
  dsimp only
  rw [itT]
  by_cases c : w = 0
  · rw [if_pos c, if_pos c, ob1_s]
  · rw [if_neg c, if_neg c]
theorem rk_sumEnd (hn : n ≤ 400) (hB : ∀ i, i < n → isB (b i)) {t z : Nat} (ht : t < 6) {l l0 d0 : List Nat} {vs : List Bool} {a e w p p0 N N1 N4 : Nat} {M M0 K K0 Q : Sg} (hw : w = 0 ∨ w = 2 ∨ w = 3) (hl : l = l0 ++ d0) (hp0 : p0 < p) (hR : RJ b n t z l l (vW w vs) a (eW w e) M K Q p) (h1 : qsg b n (qsp b n p) ≠ 43) (h2 : qsg b n (qsp b n p) ≠ 45) (h3 : qsg b n (qsp b n p) ≠ 42) (h4 : qsg b n (qsp b n p) ≠ 47) (h5 : qsg b n (qsp b n p) ≠ 37) (hN : 0 < N) (hN1 : 0 < N1) (hN4 : 0 < N4) (hz : rF2 t M0 M) (hK : kK K0 K) (x2 : Int32) : Wp (fl4 f_X5_readSum_b8 N4 (xw w) x2 K Q) (fun o => JG b n t M0 K0 (tS N N1 w M) o (SG b n t z l0 vs e p0 o)) := by
  have c1 : qch b n (qsp b n p) ≠ 43 := ch_ne hB (c := 43) (by unfold sgC; omega) h1
  have c2 : qch b n (qsp b n p) ≠ 45 := ch_ne hB (c := 45) (by unfold sgC; omega) h2
  have c3 : qch b n (qsp b n p) ≠ 42 := ch_ne hB (c := 42) (by unfold sgC; omega) h3
  have c4 : qch b n (qsp b n p) ≠ 47 := ch_ne hB (c := 47) (by unfold sgC; omega) h4
  have c5 : qch b n (qsp b n p) ≠ 37 := ch_ne hB (c := 37) (by unfold sgC; omega) h5
  have hM := hR.1.1
  have hQ := hR.1.2
  have hge := qsp_ge (b := b) (n := n) p
  have hs := qsp_sp (b := b) (n := n) hM.2.2.2
  have hR1 := rk_at hR
  obtain ⟨K1, M2, d1, f1, f2, f3, f4, f5, f6⟩ := rk_flush hn ht hw hR1
  obtain ⟨N, rfl⟩ : ∃ k, N = k + 1 := ⟨N - 1, by omega⟩
  obtain ⟨N1, rfl⟩ : ∃ k, N1 = k + 1 := ⟨N1 - 1, by omega⟩
  obtain ⟨N4, rfl⟩ : ∃ k, N4 = k + 1 := ⟨N4 - 1, by omega⟩
  show Wp (f_X5_readSum_b8 (fl4 f_X5_readSum_b8 N4) (xw w) x2 K Q) _
  rw [x_sb8E hQ h1 h2 h3 h4 h5, x_b120w hw, f1, ob1_s, tS_e (m_termE hn hM c3 c4 c5 _), f2, ob1_s]
  have e9 : fl1 f_X12_sum_b9 (N + 1) M2 = some (true, M2) := by
    show f_X12_sum_b9 (fl1 f_X12_sum_b9 N) M2 = _
    rw [m_sumE hn f6.1.1 (by rw [hs]; exact c1) (by rw [hs]; exact c2), hs, sI_se f6.1.1.2.2.1]
  rw [e9]
  refine wp_some.mpr ⟨true, M2, rfl, (hz.tr (rF2.s t _ (Or.inl rfl) _)).tr f4, hK.tr f3, Or.inl ⟨rfl, d0 ++ d1, a, qsp b n p, by omega, ?_⟩⟩
  rw [← List.append_assoc, ← hl]; exact f6
theorem rk_sumL (hn : n ≤ 400) (hB : ∀ i, i < n → isB (b i)) {t z : Nat} (ht : t < 6) {l0 : List Nat} {vs : List Bool} {e p0 : Nat} {M0 K0 : Sg} : ∀ (m N N1 N4 j w : Nat) (d0 : List Nat) (a p : Nat) (M K Q : Sg), n - p ≤ m → m ≤ 400 → m < N → m < N1 → m < N4 → j ≤ p → (w = 0 ∨ w = 2 ∨ w = 3) → p0 < p → RJ b n t z (l0 ++ d0) (l0 ++ d0) (vW w vs) a (eW w e) M K Q p → rF2 t M0 M → kK K0 K → Wp (fl4 f_X5_readSum_b8 N4 (xw w) (nI j) K Q) (fun o => JG b n t M0 K0 (tS N N1 w M) o (SG b n t z l0 vs e p0 o)) := by
  intro m
  induction m with
  | zero =>
    intro N N1 N4 j w d0 a p M K Q hm _ hN hN1 hN4 hj hw hp0 hR hz hK
    have hM := hR.1.1
    have hge := qsp_ge (b := b) (n := n) p
    have hle := qsp_le (b := b) hM.2.2.2
    have hP : qsp b n p = n := by have := hM.2.2.2; omega
    exact rk_sumEnd hn hB ht hw rfl hp0 hR (by rw [hP, qsg_n]; decide) (by rw [hP, qsg_n]; decide) (by rw [hP, qsg_n]; decide) (by rw [hP, qsg_n]; decide) (by rw [hP, qsg_n]; decide) hN hN1 hN4 hz hK _
  | succ m ih =>
    intro N N1 N4 j w d0 a p M K Q hm hm4 hN hN1 hN4 hj hw hp0 hR hz hK
    have hM := hR.1.1
    have hQ := hR.1.2
    have hge := qsp_ge (b := b) (n := n) p
    have hs := qsp_sp (b := b) (n := n) hM.2.2.2
    have hR1 := rk_at hR
    have hz1 : rF2 t M0 (sI M 8 (nI (qsp b n p))) := hz.tr (rF2.s t _ (Or.inl rfl) _)
    have e8 : (sI M 8 (nI (qsp b n p))).1 8 = nI (qsp b n p) := rfl
    have h3 : (∃ s, (s = 4 ∨ s = 5 ∨ s = 14) ∧ qsg b n (qsp b n p) = nI (cS s)) ∨ (∃ s, (s = 2 ∨ s = 3) ∧ qsg b n (qsp b n p) = nI (cS s)) ∨ (qsg b n (qsp b n p) ≠ 43 ∧ qsg b n (qsp b n p) ≠ 45 ∧ qsg b n (qsp b n p) ≠ 42 ∧ qsg b n (qsp b n p) ≠ 47 ∧ qsg b n (qsp b n p) ≠ 37) := by
      by_cases g1 : qsg b n (qsp b n p) = 43
      · exact Or.inr (Or.inl ⟨2, Or.inl rfl, g1⟩)
      by_cases g2 : qsg b n (qsp b n p) = 45
      · exact Or.inr (Or.inl ⟨3, Or.inr rfl, g2⟩)
      by_cases g3 : qsg b n (qsp b n p) = 42
      · exact Or.inl ⟨4, Or.inl rfl, g3⟩
      by_cases g4 : qsg b n (qsp b n p) = 47
      · exact Or.inl ⟨5, Or.inr (Or.inl rfl), g4⟩
      by_cases g5 : qsg b n (qsp b n p) = 37
      · exact Or.inl ⟨14, Or.inr (Or.inr rfl), g5⟩
      exact Or.inr (Or.inr ⟨g1, g2, g3, g4, g5⟩)
    rcases h3 with ⟨s, h4, hsg⟩ | ⟨s, h4, hsg⟩ | ⟨g1, g2, g3, g4, g5⟩
    · have hc : sgC (cS s) := by rcases h4 with rfl | rfl | rfl <;> (unfold sgC; decide)
      obtain ⟨g1, g2, g3⟩ := sg_in hc hsg
      obtain ⟨N1, rfl⟩ : ∃ k, N1 = k + 1 := ⟨N1 - 1, by omega⟩
      obtain ⟨N4, rfl⟩ : ∃ k, N4 = k + 1 := ⟨N4 - 1, by omega⟩
      show Wp (f_X5_readSum_b8 (fl4 f_X5_readSum_b8 N4) (xw w) (nI j) K Q) _
      rw [x_sb8m hQ h4 hsg (by omega)]
      have et : tS N (N1 + 1) w M = ob2 (f_X12_term_b74 (fl1 f_X12_term_b9 N1) (nI s) (sI M 8 (nI (qsp b n p)))) fun r M1 => if (bI r) = 0 then some (false, M1) else (if w = 0 then fl1 f_X12_sum_b9 N M1 else (ob1 (f_X12_puts M1 (nI w) 0) fun M2 => fl1 f_X12_sum_b9 N M2)) := by
        rw [← m_termO hn hB hM h4 hsg (fl1 f_X12_term_b9 N1)]
        rfl
      rw [et]
      generalize hF : fl4 f_X5_readSum_b8 N4 = F
      generalize hG : fl1 f_X12_term_b9 N1 = G
      unfold f_X5_readSum_b68 f_X5_readSum_b92 f_X5_readSum_b114 f_X12_term_b74
      obtain ⟨Q1, s1, s2⟩ := x_step hQ g1
      rw [g3] at s2
      rw [s1, ob1_s, if_pos rfl, wp_ob2, bnd_eq, e8, show nI (qsp b n p) + 1 = nI (qsp b n p + 1) from (nI_succ _).symm]
      have hR2 := rk_adv hR1 (q := qsp b n p + 1) (by omega) (by omega) s2
      refine wp_mono (rk_value hn ht hR2) ?_
      rintro ⟨K2, Q2⟩ ⟨r, M3, q1, q2, q3, q4⟩
      dsimp only at q3 q4 ⊢
      have hz3 : rF2 t M0 M3 := (hz1.tr (rF2.s t _ (Or.inl rfl) _)).tr q2
      rw [if_pos rfl, q1, ob2_s]
      dsimp only
      rcases q4 with ⟨rfl, y, p', hp', hR3⟩ | ⟨rfl, hb1, hb2, hb3⟩
      · rw [itT]
        have hv3 : (false :: vW w vs).length ≤ a + 1 := hR3.2.2.2.2.2.2.2
        have hv4 : (vW w vs).length + 1 ≤ a + 1 := hv3
        have hty : tyS s (false :: vW w vs) = some (vW w vs) := by
          unfold vW
          by_cases c : w = 0
          · rw [if_pos c]; exact ty_a (by omega)
          · rw [if_neg c]; exact ty_a (by omega)
        obtain ⟨K3, M4, o1, o2, o3, o4, o5, hR4⟩ := rk_op hn ht hR3 (y := s) (ws := vW w vs) (by omega) hty (by omega)
        rw [o1, ob1_s, wp_bnd, ← nI_succ, o2, ob1_s, ← hF, ← hG]
        rw [List.append_assoc, List.append_assoc] at hR4
        exact ih N N1 N4 (j + 1) w _ _ p' M4 K3 Q2 (by omega) (by omega) (by omega) (by omega) (by omega) (by omega) hw (by omega) hR4 (hz3.tr (o4.r2 o5)) ((hK.tr q3).tr o3)
      · rw [itF, ob2_s]
        dsimp only
        rw [itF]
        obtain ⟨K3, o1, o2, o3⟩ := x_emitE (100000 + nI (cS s)) hb3
        dsimp only at hb2
        rw [o1, ob1_s, wp_bnd, ← hF]
        refine wp_mono (x_sumLE (N := N4) hb2 o2 (by omega) _ _) ?_
        rintro ⟨K4, Q4⟩ ⟨u1, u2, u3⟩
        exact ⟨false, M3, rfl, hz3, ((hK.tr q3).tr o3).tr u3, Or.inr ⟨rfl, hb1, u1, u2⟩⟩
    · have hc : sgC (cS s) := by rcases h4 with rfl | rfl <;> (unfold sgC; decide)
      obtain ⟨g1, g2, g3⟩ := sg_in hc hsg
      have hne : ∀ c : Int32, nI (cS s) ≠ c → qsg b n (qsp b n p) ≠ c := fun c h e => h (by rw [← hsg]; exact e)
      have c3 : qch b n (qsp b n p) ≠ 42 := ch_ne hB (c := 42) (by unfold sgC; omega) (hne _ (by rcases h4 with rfl | rfl <;> decide))
      have c4 : qch b n (qsp b n p) ≠ 47 := ch_ne hB (c := 47) (by unfold sgC; omega) (hne _ (by rcases h4 with rfl | rfl <;> decide))
      have c5 : qch b n (qsp b n p) ≠ 37 := ch_ne hB (c := 37) (by unfold sgC; omega) (hne _ (by rcases h4 with rfl | rfl <;> decide))
      obtain ⟨K1, M2, d1, f1, f2, f3, f4, f5, f6⟩ := rk_flush hn ht hw hR1
      obtain ⟨N, rfl⟩ : ∃ k, N = k + 1 := ⟨N - 1, by omega⟩
      obtain ⟨N1, rfl⟩ : ∃ k, N1 = k + 1 := ⟨N1 - 1, by omega⟩
      obtain ⟨N4, rfl⟩ : ∃ k, N4 = k + 1 := ⟨N4 - 1, by omega⟩
      show Wp (f_X5_readSum_b8 (fl4 f_X5_readSum_b8 N4) (xw w) (nI j) K Q) _
      have eM2 : M2.1 8 = nI (qsp b n p) := f6.1.1.2.2.1
      have e9 : fl1 f_X12_sum_b9 (N + 1) M2 = ob2 (f_X12_value (sI M2 8 (nI (qsp b n p + 1)))) fun r M1 => if (bI r) = 0 then some (false, M1) else tS N FU s M1 := by
        show f_X12_sum_b9 (fl1 f_X12_sum_b9 N) M2 = _
        rw [m_sumO hn hB f6.1.1 h4 (by rw [hs]; exact hsg), hs, sI_se eM2, tS_1 (by omega), eM2, show nI (qsp b n p) + 1 = nI (qsp b n p + 1) from (nI_succ _).symm]
      rw [x_sb8a hQ h4 hsg (by omega), x_b68a hw, f1, tS_e (m_termE hn hM c3 c4 c5 _), f2, ob1_s, e9]
      generalize hF : fl4 f_X5_readSum_b8 N4 = F
      unfold f_X5_readSum_b92 f_X5_readSum_b114
      obtain ⟨Q1, s1, s2⟩ := x_step hQ g1
      rw [g3] at s2
      rw [s1, ob1_s, ob1_s, wp_ob2]
      have hR2 := rk_adv f6 (q := qsp b n p + 1) (by omega) (by omega) s2
      refine wp_mono (rk_value hn ht hR2) ?_
      rintro ⟨K2, Q2⟩ ⟨r, M3, q1, q2, q3, q4⟩
      dsimp only at q3 q4 ⊢
      have hz3 : rF2 t M0 M3 := ((hz1.tr f4).tr (rF2.s t _ (Or.inl rfl) _)).tr q2
      rw [if_neg (show ¬ (1 : Int32) = 0 by decide), q1, ob2_s, wp_bnd, ← nI_succ]
      dsimp only
      have exs : nI (cS s) = xw s := by unfold xw; rw [if_neg (by omega)]
      rcases q4 with ⟨rfl, y, p', hp', hR3⟩ | ⟨rfl, hb1, hb2, hb3⟩
      · rw [itT, ← hF, exs]
        rw [List.append_assoc, List.append_assoc] at hR3
        refine ih N FU N4 (j + 1) s (d0 ++ (d1 ++ [y])) (a + 1) p' M3 K2 Q2 (by omega) (by omega) (by omega) (FU_lt (by omega)) (by omega) (by omega) (by omega) (by omega) ?_ hz3 ((hK.tr f3).tr q3)
        rw [vW_n (by omega), eW_n (by omega)]
        exact hR3
      · rw [itF, ← hF]
        dsimp only at hb2
        refine wp_mono (x_sumLE (N := N4) hb2 hb3 (by omega) _ _) ?_
        rintro ⟨K4, Q4⟩ ⟨u1, u2, u3⟩
        exact ⟨false, M3, rfl, hz3, ((hK.tr f3).tr q3).tr u3, Or.inr ⟨rfl, hb1, u1, u2⟩⟩
    · exact rk_sumEnd hn hB ht hw rfl hp0 hR g1 g2 g3 g4 g5 (by omega) (by omega) (by omega) hz hK _
theorem rk_sum (hn : n ≤ 400) (hB : ∀ i, i < n → isB (b i)) {t z : Nat} (ht : t < 6) {l : List Nat} {vs : List Bool} {a e p : Nat} {M K Q : Sg} (hR : RJ b n t z l l vs a e M K Q p) : Wp (f_X5_readSum K Q) (fun o => JG b n t M K (f_X12_sum M) o (SG b n t z l vs e p o)) := by
  unfold f_X5_readSum
  rw [tS_0, wp_ob2]
  refine wp_mono (rk_value hn ht hR) ?_
  rintro ⟨K2, Q2⟩ ⟨r, M3, q1, q2, q3, q4⟩
  dsimp only at q3 q4 ⊢
  rw [q1, ob2_s]
  dsimp only
  rcases q4 with ⟨rfl, y, p', hp', hR3⟩ | ⟨rfl, hb1, hb2, hb3⟩
  · rw [itT]
    exact rk_sumL hn hB ht (vs := vs) (e := e) (p0 := p) (n - p') FU FU FU 0 0 [y] _ p' M3 K2 Q2 (by omega) (by omega) (FU_lt (by omega)) (FU_lt (by omega)) (FU_lt (by omega)) (by omega) (by omega) hp' hR3 q2 q3
  · rw [itF]
    dsimp only at hb2
    refine wp_mono (x_sumLE hb2 hb3 (FU_lt (by omega)) _ _) ?_
    rintro ⟨K4, Q4⟩ ⟨u1, u2, u3⟩
    exact ⟨false, M3, rfl, q2, q3.tr u3, Or.inr ⟨rfl, hb1, u1, u2⟩⟩
end
