/-! RULE: a FACT -/
section
variable {b : Nat → Int32} {n : Nat} {M : Sg} {p : Nat}
theorem m_factN (hn : n ≤ 400) (hM : MqR b n M p) (h : qwd b n (qsp b n p) = 7237492) (N : Nat) : fl2 f_X12_fact_b2 (N + 1) 1 M = ob2 (f_X12_opens (sI M 8 (nI (qsp b n p))) (nI 11)) fun r26 M_26 => if (bI r26) = 0 then (some (false, M_26)) else (ob1 (f_X12_passWord M_26) fun M_35 => fl2 f_X12_fact_b2 N 1 M_35) := by
  have hle := qsp_le (b := b) hM.2.2.2
  have hs := qsp_sp (b := b) (n := n) hM.2.2.2
  have iN : f_X12_isWord (sI M 8 (nI (qsp b n p))) (7237492 : Int64) = some (decide (qwd b n (qsp b n p) = 7237492), sI M 8 (nI (qsp b n p))) := m_isW (hM.s8 hle) hs hn (c := 7237492) (by omega) (by omega)
  rw [decide_eq_true h] at iN
  show f_X12_fact_b2 (fl2 f_X12_fact_b2 N) 1 M = _
  generalize fl2 f_X12_fact_b2 N = G
  unfold f_X12_fact_b2 f_X12_fact_b72
  rw [if_neg (show ¬ (1 : Int32) = 0 by decide), m_see hM hn, ob2_s]
  dsimp only
  rw [iN, ob2_s]
  dsimp only
  rw [itT]
  rfl
theorem m_factB (hn : n ≤ 400) (hM : MqR b n M p) (h : qwd b n (qsp b n p) ≠ 7237492) (h2 : qch b n (qsp b n p) = 91) (N : Nat) : fl2 f_X12_fact_b2 (N + 1) 1 M = ob2 (f_X12_opens (sI M 8 (nI (qsp b n p))) (nI 91)) fun r26 M_26 => if (bI r26) = 0 then (some (false, M_26)) else (fl2 f_X12_fact_b2 N 1 (sI M_26 8 ((M_26.1 8) + 1))) := by
  have hle := qsp_le (b := b) hM.2.2.2
  have hs := qsp_sp (b := b) (n := n) hM.2.2.2
  have iN : f_X12_isWord (sI M 8 (nI (qsp b n p))) (7237492 : Int64) = some (decide (qwd b n (qsp b n p) = 7237492), sI M 8 (nI (qsp b n p))) := m_isW (hM.s8 hle) hs hn (c := 7237492) (by omega) (by omega)
  rw [decide_eq_false h] at iN
  show f_X12_fact_b2 (fl2 f_X12_fact_b2 N) 1 M = _
  generalize fl2 f_X12_fact_b2 N = G
  unfold f_X12_fact_b2 f_X12_fact_b72
  rw [if_neg (show ¬ (1 : Int32) = 0 by decide), m_see hM hn, ob2_s]
  dsimp only
  rw [iN, ob2_s]
  dsimp only
  rw [itF, if_pos h2]
  rfl
theorem m_factC (hn : n ≤ 400) (hM : MqR b n M p) (h : qwd b n (qsp b n p) ≠ 7237492) (h2 : qch b n (qsp b n p) ≠ 91) (N : Nat) : fl2 f_X12_fact_b2 (N + 1 + 1) 1 M = f_X12_compare (sI M 8 (nI (qsp b n p))) := by
  have hle := qsp_le (b := b) hM.2.2.2
  have hs := qsp_sp (b := b) (n := n) hM.2.2.2
  have iN : f_X12_isWord (sI M 8 (nI (qsp b n p))) (7237492 : Int64) = some (decide (qwd b n (qsp b n p) = 7237492), sI M 8 (nI (qsp b n p))) := m_isW (hM.s8 hle) hs hn (c := 7237492) (by omega) (by omega)
  rw [decide_eq_false h] at iN
  have e0 : fl2 f_X12_fact_b2 (N + 1) 0 (sI M 8 (nI (qsp b n p))) = f_X12_compare (sI M 8 (nI (qsp b n p))) := by
    show f_X12_fact_b2 (fl2 f_X12_fact_b2 N) 0 (sI M 8 (nI (qsp b n p))) = _
    generalize fl2 f_X12_fact_b2 N = G
    unfold f_X12_fact_b2
    rw [if_pos rfl, ob2_eta]
  show f_X12_fact_b2 (fl2 f_X12_fact_b2 (N + 1)) 1 M = _
  rw [← e0]
  generalize fl2 f_X12_fact_b2 (N + 1) = G
  unfold f_X12_fact_b2 f_X12_fact_b72
  rw [if_neg (show ¬ (1 : Int32) = 0 by decide), m_see hM hn, ob2_s]
  dsimp only
  rw [iN, ob2_s]
  dsimp only
  rw [itF, if_neg h2]
theorem tA_s {N N1 N1' : Nat} {M M' : Sg} (h : fl2 f_X12_fact_b2 N1' 1 M = fl2 f_X12_fact_b2 N1 1 M') : tA N N1' M = tA N N1 M' := by
  unfold tA; rw [h]
theorem tA_F {N N1 : Nat} {M M' : Sg} (h : fl2 f_X12_fact_b2 N1 1 M = some (false, M')) : tA N N1 M = some (false, M') := by
  unfold tA; rw [h]; rfl
/-- no more words behind a TEST -/
theorem m_rsE (hn : n ≤ 400) {P : Nat} (hM : MqR b n M P) (hs : qsp b n P = P) (h1 : qwd b n P ≠ 6385252) (h2 : qwd b n P ≠ 28530) (N : Nat) : rs (N + 1) M = (ob1 (f_X12_isInside M) fun r113 => if (bI r113) = 0 then (ob1 (f_X12_settles M 1) fun M_136 => some (true, M_136)) else (f_X12_fails M (nI 0) (nI P))) := by
  have iA : f_X12_isWord M (6385252 : Int64) = some (decide (qwd b n P = 6385252), M) := m_isW hM hs hn (c := 6385252) (by omega) (by omega)
  have iO : f_X12_isWord M (28530 : Int64) = some (decide (qwd b n P = 28530), M) := m_isW hM hs hn (c := 28530) (by omega) (by omega)
  rw [decide_eq_false h1] at iA
  rw [decide_eq_false h2] at iO
  have e0 : fl2 f_X12_tested_b12 (N + 1) 0 M = (ob1 (f_X12_isInside M) fun r113 => if (bI r113) = 0 then (ob1 (f_X12_settles M 1) fun M_136 => some (true, M_136)) else (f_X12_fails M (nI 0) (nI P))) := by
    show f_X12_tested_b12 (fl2 f_X12_tested_b12 N) 0 M = _
    generalize fl2 f_X12_tested_b12 N = G
    unfold f_X12_tested_b12
    rw [if_pos rfl, m_see hM hn, ob2_s, hs, sI_se hM.2.2.1]
    dsimp only
    rw [hM.2.2.1, ob2_eta]
    rfl
  unfold rs
  rw [← e0]
  generalize fl2 f_X12_tested_b12 (N + 1) = G
  unfold f_X12_tested_b54
  rw [iA, ob2_s]
  dsimp only
  rw [itF, iO, ob2_s]
  dsimp only
  rw [itF, if_pos rfl]
end
section
variable {b : Nat → Int32} {n : Nat}
theorem rk_factE (hn : n ≤ 400) {dd : Nat} (rf rt : Sg → Sg → Int32 → Option (Sg × Sg)) : FactE b n dd (fun K Q p => f_X5_readFact_vopen rf rt K Q p) := by
  intro f K Q hf hQ hs
  have hw0 := x_wrd hQ
  rw [qwd_n, qwN_0] at hw0
  show Wp (f_X5_readFact_vopen rf rt K Q (nI dd)) _
  unfold f_X5_readFact_vopen f_X5_readFact_vopen_b17
  rw [hw0, ob1_s, if_neg (by decide), if_pos rfl, x_signHere hQ, ob1_s, qsg_n, if_neg (by decide)]
  exact x_cE hn hf hQ hs
theorem rk_factS (hn : n ≤ 400) (hB : ∀ i, i < n → isB (b i)) {t z : Nat} (ht : t < 6) {dd : Nat} (hd : dd ≤ 10) {rf : Sg → Sg → Int32 → Option (Sg × Sg)} (H : dd < 10 → FactOK b n t z (dd + 1) rf) : FactOK b n t z dd (fun K Q p => f_X5_readFact_vopen rf (f_X5_readTest_vopen rf) K Q p) := by
  intro N N1 S l vs a p M K Q hN hN1 hst hdS hR
  show Wp (f_X5_readFact_vopen rf (f_X5_readTest_vopen rf) K Q (nI dd)) _
  have hM := hR.1.1
  have hQ := hR.1.2
  have hge := qsp_ge (b := b) (n := n) p
  have hle := qsp_le (b := b) hM.2.2.2
  have hs := qsp_sp (b := b) (n := n) hM.2.2.2
  have hM1 := hM.s8 hle
  have hlen := hR.2.2.2.2.1
  have hz1 : rF3 t M (sI M 8 (nI (qsp b n p))) := rF3.s t _ (by omega) _
  have hst1 : stM S (sI M 8 (nI (qsp b n p))) := hst
  have h91 : (sI M 8 (nI (qsp b n p))).1 9 = 0 := hR.2.1
  have hsn : xSn K := cdX_s hR.2.2.1.2 (by omega)
  have hR1 := rk_at hR
  have hw0 := x_wrd hQ
  obtain ⟨N1, rfl⟩ : ∃ k, N1 = k + 1 + 1 := ⟨N1 - 2, by omega⟩
  have hdeep : ∀ (E : Option (Bool × Sg)), E = (ob2 (f_X12_fails (sI M 8 (nI (qsp b n p))) (nI 2) (nI (qsp b n p))) fun r M' => some (r, M')) → Wp (ob1 (f_X8_blame Q 2) fun Q_67 => some (K, Q_67)) (fun o => FQ b n t M K E o (FG b n t z S l vs p E o)) := by
    intro E hE
    rw [wp_ob1]
    refine wp_mono (x_blame hQ hn (c := 2) (by omega)) (fun Q' hQ' => wp_some.mpr ?_)
    rw [m_fails, h91, ob2_s] at hE
    have hf := qbm_ne (P := qsp b n p) (c := 2) (by omega) (by omega)
    exact ⟨_, hz1.tr (rF3.s t _ (by omega) _), kK.rf K, Or.inr ⟨hE, hf, hQ', hsn⟩⟩
  by_cases cN : qwd b n (qsp b n p) = 7237492
  · have hlt : qlt b n (qsp b n p) = true := qwd_nz (by rw [cN]; decide) hle
    have hPn := (qlt_c hlt).1
    have hte := qte_gt (b := b) (n := n) hPn
    have hqw := qte_w hlt
    have c16 : qwN (qwd b n (qsp b n p)) = 16 := (qwN_iff (j := 16) (by omega)).mpr cN
    obtain ⟨w1, w2⟩ := m_opens (M := sI M 8 (nI (qsp b n p))) (y := 11) (P := qsp b n p) hst1 (by omega) (Or.inl rfl) (by omega) rfl
    unfold f_X5_readFact_vopen f_X5_readFact_vopen_b17 f_X5_readFact_vopen_b56
    rw [hw0, c16, ob1_s, if_pos rfl, if_neg (show ¬ (1 : Int32) = 0 by decide)]
    by_cases c10 : dd < 10
    · obtain ⟨Q1, s1, s2⟩ := x_step hQ hPn
      rw [if_pos (show nI dd < 10 from nI_lt (b := 10) c10 (by omega)), s1, ob1_s, if_neg (show ¬ (1 : Int32) = 0 by decide), ← nI_succ, wp_ob2]
      have hst2 := stM_push (M := sI M 8 (nI (qsp b n p))) (y := 11) hst1 (by omega) (by omega) (d := nI (dep S + 1)) (by rw [dep_app, dep_y, if_pos (Or.inl rfl)])
      have hR2 := rk_adv hR1 (q := qte b n (qsp b n p)) hte.2 hte.1 s2
      have hR3 : RJ b n t z l l vs a (S ++ [11]).length (sI (sI (sA (sI (sI M 8 (nI (qsp b n p))) 13 (nI (dep S + 1))) 15 S.length (nI 11)) 16 (nI (S.length + 1))) 8 (nI (qte b n (qsp b n p)))) K Q1 (qte b n (qsp b n p)) := by
        rw [List.length_append]
        exact RJ_m hR2 rfl rfl rfl rfl rfl rfl rfl rfl
      have hz3 : rF3 t M (sI (sI (sA (sI (sI M 8 (nI (qsp b n p))) 13 (nI (dep S + 1))) 15 S.length (nI 11)) 16 (nI (S.length + 1))) 8 (nI (qte b n (qsp b n p)))) := (((hz1.tr (rF3.s t _ (by omega) _)).tr (rF3.a t _ _ _)).tr (rF3.s t _ (by omega) _)).tr (rF3.s t _ (by omega) _)
      have eT : tA N (N1 + 1 + 1) M = tA N (N1 + 1) (sI (sI (sA (sI (sI M 8 (nI (qsp b n p))) 13 (nI (dep S + 1))) 15 S.length (nI 11)) 16 (nI (S.length + 1))) 8 (nI (qte b n (qsp b n p)))) := by
        refine tA_s ?_
        rw [m_factN hn hM cN, w2 (by omega), ob2_s]
        dsimp only
        rw [itT, m_passWord (M := sI (sA (sI (sI M 8 (nI (qsp b n p))) 13 (nI (dep S + 1))) 15 S.length (nI 11)) 16 (nI (S.length + 1))) (p := qsp b n p) hM1 hn, ob1_s, ← hqw]
      rw [eT]
      have hst3 : stM (S ++ [11]) (sI (sI (sA (sI (sI M 8 (nI (qsp b n p))) 13 (nI (dep S + 1))) 15 S.length (nI 11)) 16 (nI (S.length + 1))) 8 (nI (qte b n (qsp b n p)))) := hst2
      refine wp_mono (H c10 N (N1 + 1) (S ++ [11]) l vs a _ _ K Q1 (by omega) (by omega) hst3 (by rw [dep_app, hdS]; rfl) hR3) ?_
      rintro ⟨K5, Q5⟩ ⟨M5, f1, f2, f3⟩
      dsimp only at f2 f3 ⊢
      rcases f3 with ⟨N6, N26, N36, d6, a6, p6, e1, e2, e3, e4, e5, hst6, hR6⟩ | ⟨e1, hb1, hb2, hb3⟩
      · have hlen6 := hR6.2.2.2.2.1
        have hpn6 := hR6.1.1.2.2.2
        rw [List.length_append (as := S)] at hlen6 e4
        have hlen7 : (l ++ d6).length + (S.length + 1) ≤ p6 := hlen6
        have e47 : S.length + 1 < N36 := e4
        obtain ⟨K6, k1, k2, k3⟩ := rk_x hR6 (y := 11) (by omega) (by omega)
        have k1' : f_X5_emit K5 100016 = some K6 := k1
        rw [List.length_append (as := S)] at k3
        obtain ⟨M6, m1, m2, m3, m4⟩ := rk_pop hn ht (s := 3) (e := S.length) k3 hst6 (Or.inl rfl) (by decide) ty_n k3.2.2.2.2.2.2.2
        obtain ⟨N36, rfl⟩ : ∃ k, N36 = k + 1 := ⟨N36 - 1, by omega⟩
        rw [k1', ob1_s, e1, tC_pop m1]
        refine wp_some.mpr ⟨M6, (hz3.tr f1).tr m3, f2.tr k2, Or.inl ⟨N6, N26, N36, d6 ++ [11], a6, p6, rfl, e2, e3, by omega, by omega, m2, ?_⟩⟩
        rw [← List.append_assoc]; exact m4
      · obtain ⟨K6, o1, o2, o3⟩ := x_emitE 100016 hb3
        rw [o1, ob1_s, e1]
        exact wp_some.mpr ⟨M5, hz3.tr f1, f2.tr o3, Or.inr ⟨rfl, hb1, hb2, o2⟩⟩
    · rw [if_neg (show ¬ nI dd < 10 from nI_nlt (b := 10) (by omega) (by omega))]
      refine hdeep _ ?_
      rw [m_fails, ob2_s]
      refine tA_F ?_
      rw [m_factN hn hM cN, w1 (by omega), m_fails, ob2_s]
      rfl
  · have c16 : ¬ qwN (qwd b n (qsp b n p)) = 16 := fun e => cN ((qwN_iff (j := 16) (by omega)).mp e)
    by_cases cB : qsg b n (qsp b n p) = 91
    · have c91 : qch b n (qsp b n p) = 91 := (ch_sg hB (c := 91) (by unfold sgC; omega)).mpr cB
      obtain ⟨hPn, _, hte⟩ := sg_in (c := 91) (by unfold sgC; omega) cB
      obtain ⟨w1, w2⟩ := m_opens (M := sI M 8 (nI (qsp b n p))) (y := 91) (P := qsp b n p) hst1 (by omega) (Or.inr rfl) (by omega) rfl
      unfold f_X5_readFact_vopen f_X5_readFact_vopen_b17 f_X5_readFact_vopen_b56
      rw [hw0, ob1_s, if_neg c16, if_pos rfl, x_signHere hQ, ob1_s, if_pos cB]
      by_cases c10 : dd < 10
      · obtain ⟨Q1, s1, s2⟩ := x_step hQ hPn
        rw [hte] at s2
        rw [if_pos (show nI dd < 10 from nI_lt (b := 10) c10 (by omega)), s1, ob1_s, if_pos rfl, ← nI_succ, wp_ob2]
        have hst2 := stM_push (M := sI M 8 (nI (qsp b n p))) (y := 91) hst1 (by omega) (by omega) (d := nI (dep S + 1)) (by rw [dep_app, dep_y, if_pos (Or.inr rfl)])
        have hR2 := rk_adv hR1 (q := qsp b n p + 1) (by omega) (by omega) s2
        have hR3 : RJ b n t z l l vs a (S ++ [91]).length (sI (sI (sA (sI (sI M 8 (nI (qsp b n p))) 13 (nI (dep S + 1))) 15 S.length (nI 91)) 16 (nI (S.length + 1))) 8 (nI (qsp b n p + 1))) K Q1 (qsp b n p + 1) := by
          rw [List.length_append]
          exact RJ_m hR2 rfl rfl rfl rfl rfl rfl rfl rfl
        have hz3 : rF3 t M (sI (sI (sA (sI (sI M 8 (nI (qsp b n p))) 13 (nI (dep S + 1))) 15 S.length (nI 91)) 16 (nI (S.length + 1))) 8 (nI (qsp b n p + 1))) := (((hz1.tr (rF3.s t _ (by omega) _)).tr (rF3.a t _ _ _)).tr (rF3.s t _ (by omega) _)).tr (rF3.s t _ (by omega) _)
        have eT : tA N (N1 + 1 + 1) M = tA N (N1 + 1) (sI (sI (sA (sI (sI M 8 (nI (qsp b n p))) 13 (nI (dep S + 1))) 15 S.length (nI 91)) 16 (nI (S.length + 1))) 8 (nI (qsp b n p + 1))) := by
          refine tA_s ?_
          rw [m_factB hn hM cN c91, w2 (by omega), ob2_s]
          dsimp only
          rw [itT]
          have e8 : (sI (sA (sI (sI M 8 (nI (qsp b n p))) 13 (nI (dep S + 1))) 15 S.length (nI 91)) 16 (nI (S.length + 1))).1 8 = nI (qsp b n p) := rfl
          rw [e8, ← nI_succ]
        rw [eT]
        have hst3 : stM (S ++ [91]) (sI (sI (sA (sI (sI M 8 (nI (qsp b n p))) 13 (nI (dep S + 1))) 15 S.length (nI 91)) 16 (nI (S.length + 1))) 8 (nI (qsp b n p + 1))) := hst2
        refine wp_mono (rk_test hn hB ht (H c10) N (N1 + 1) (S ++ [91]) l vs a _ _ K Q1 (by omega) (by omega) hst3 (by rw [dep_app, hdS]; rfl) (fun S' y e => by have := List.append_inj_right' e rfl; cases this; rfl) hR3) ?_
        rintro ⟨K5, Q5⟩ ⟨M5, f1, f2, f3⟩
        dsimp only at f2 f3 ⊢
        rcases f3 with ⟨N6, N26, o, w, d6, a6, p6, e1, e2, e3, e4, hst6, hR6, hA, hO⟩ | ⟨e1, hb1, hb2, hb3⟩
        · dsimp only at hR6
          have hM6 := hR6.1.1
          have hQ6 := hR6.1.2
          have hge6 := qsp_ge (b := b) (n := n) p6
          have hle6 := qsp_le (b := b) hM6.2.2.2
          have hs6 := qsp_sp (b := b) (n := n) hM6.2.2.2
          have hM7 := hM6.s8 hle6
          have hR7 := rk_at hR6
          have hst7 : stM (S ++ [91] ++ oL o w) (sI M5 8 (nI (qsp b n p6))) := hst6
          have hmem : 91 ∈ S ++ [91] ++ oL o w := by simp
          have hin := m_ins hst7
          rw [decide_eq_true hmem] at hin
          have hz7 : rF3 t M (sI M5 8 (nI (qsp b n p6))) := (hz3.tr f1).tr (rF3.s t _ (by omega) _)
          have hlen6 := hR6.2.2.2.2.1
          have e9 : (cL o w).length = (oL o w).length := by cases o <;> cases w <;> rfl
          obtain ⟨N6, rfl⟩ : ∃ k, N6 = k + 1 := ⟨N6 - 1, by omega⟩
          obtain ⟨N26, rfl⟩ : ∃ k, N26 = k + 1 := ⟨N26 - 1, by omega⟩
          rw [e1]
          by_cases c93 : qsg b n (qsp b n p6) = 93
          · obtain ⟨hPn6, _, hte6⟩ := sg_in (c := 93) (by unfold sgC; omega) c93
            have q93 : qch b n (qsp b n p6) = 93 := (ch_sg hB (c := 93) (by unfold sgC; omega)).mpr c93
            obtain ⟨⟨r7, Q7⟩, x1, x2, x3⟩ := x_tkYes hQ6 (c := 93) (by decide) c93
            dsimp only at x2 x3
            subst x2
            rw [hte6] at x3
            rw [x1, ob2_s]
            dsimp only
            rw [itT]
            obtain ⟨M8, g1, g2, g3, g4⟩ := rk_set1 hn ht (S := S ++ [91]) (fun S' y e => by have := List.append_inj_right' e rfl; cases this; rfl) hR7 hst7 (N := FU) (FU_lt (by omega))
            obtain ⟨t1, t2, t3⟩ := stM_top g2
            have e13 : M8.1 13 = nI (dep S + 1) := by rw [g2.2.2.1, dep_app]; rfl
            have e8 : M8.1 8 = nI (qsp b n p6) := g4.1.1.2.2.1
            have eB : tB (N6 + 1) (N26 + 1) M5 = tC (N6 + 1) N26 FU (sI (sI (sI M8 16 (nI S.length)) 13 (nI (dep S))) 8 (nI (qsp b n p6 + 1))) := by
              have e2 : fl1 f_X12_closes_b5 (N26 + 1) M5 = ob1 (f_X12_settles (sI (sI (sI M8 16 (nI S.length)) 13 (nI (dep S))) 8 (nI (qsp b n p6 + 1))) 3) fun M_58 => fl1 f_X12_closes_b5 N26 M_58 := by
                show f_X12_closes_b5 (fl1 f_X12_closes_b5 N26) M5 = _
                generalize fl1 f_X12_closes_b5 N26 = G
                have g1' : f_X12_settles (sI M5 8 (nI (qsp b n p6))) 1 = some M8 := g1
                unfold f_X12_closes_b5
                rw [m_see hM6 hn, ob2_s]
                dsimp only
                rw [if_pos q93, hin, ob1_s, itT, g1', ob1_s, bnd_eq, bnd_eq, bnd_eq, t1, show nI (S.length + 1) - 1 = nI S.length from nI_pred _]
                have u1 : (sI M8 16 (nI S.length)).1 13 = nI (dep S + 1) := e13
                rw [u1, show nI (dep S + 1) - 1 = nI (dep S) from nI_pred _]
                have u2 : (sI (sI M8 16 (nI S.length)) 13 (nI (dep S))).1 8 = nI (qsp b n p6) := e8
                rw [u2, ← nI_succ]
              unfold tB tC
              rw [e2]
              rfl
            have hR9 := rk_adv g4 (q := qsp b n p6 + 1) (by omega) (by omega) x3
            have hR10 : RJ b n t z (l ++ d6 ++ cL o w) (l ++ d6 ++ cL o w) (true :: vs) a6 S.length (sI (sI (sI M8 16 (nI S.length)) 13 (nI (dep S))) 8 (nI (qsp b n p6 + 1))) K5 Q7 (qsp b n p6 + 1) := by
              refine RJ_m (M := sI M8 8 (nI (qsp b n p6 + 1))) ?_ rfl rfl rfl rfl rfl rfl rfl rfl
              refine RJ_e hR9 ?_
              rw [List.length_append]; omega
            rw [eB]
            refine wp_some.mpr ⟨_, ((hz7.tr g3).tr (rF3.s t _ (by omega) _)).tr ((rF3.s t _ (by omega) _).tr (rF3.s t _ (by omega) _)), f2, Or.inl ⟨N6 + 1, N26, FU, d6 ++ cL o w, a6, qsp b n p6 + 1, rfl, by omega, by omega, FU_lt (by omega), by omega, stM_pop g2 rfl rfl rfl, ?_⟩⟩
            rw [← List.append_assoc]; exact hR10
          · have q93 : qch b n (qsp b n p6) ≠ 93 := ch_ne hB (c := 93) (by unfold sgC; omega) c93
            have h95 : (sI M5 8 (nI (qsp b n p6))).1 9 = 0 := hR6.2.1
            have eB : tB (N6 + 1) (N26 + 1) M5 = some (false, sI (sI M5 8 (nI (qsp b n p6))) 9 (qbm 0 (qsp b n p6) 0)) := by
              have e2 : fl1 f_X12_closes_b5 (N26 + 1) M5 = some (sI M5 8 (nI (qsp b n p6))) := m_clN hn hM6 q93 _
              unfold tB
              rw [e2, ob1_s, m_rsE hn hM7 hs6 hA hO, hin, ob1_s, itT, m_fails, h95]
            have hf := qbm_ne (P := qsp b n p6) (c := 0) (by omega) (by omega)
            rw [x_tkNo hQ6 (c := 93) (by decide) c93, ob2_s]
            dsimp only
            rw [itF, eB, wp_ob1]
            refine wp_mono (x_blame hQ6 hn (c := 0) (by omega)) (fun Q' hQ' => wp_some.mpr ?_)
            refine ⟨_, hz7.tr (rF3.s t _ (by omega) _), f2, Or.inr ⟨rfl, hf, hQ', cdX_s hR6.2.2.1.2 ?_⟩⟩
            have := hM6.2.2.2
            rw [List.length_append]; omega
        · dsimp only at hb2
          rw [e1, x_tkNo hb2 (c := 93) (by decide) (by rw [qsg_n]; decide), ob2_s]
          dsimp only
          rw [itF, wp_ob1]
          refine wp_mono (x_blame hb2 hn (c := 0) (by omega)) (fun Q' hQ' => wp_some.mpr ?_)
          rw [qbm_f hb1] at hQ'
          exact ⟨M5, hz3.tr f1, f2, Or.inr ⟨rfl, hb1, hQ', hb3⟩⟩
      · rw [if_neg (show ¬ nI dd < 10 from nI_nlt (b := 10) (by omega) (by omega))]
        refine hdeep _ ?_
        rw [m_fails, ob2_s]
        refine tA_F ?_
        rw [m_factB hn hM cN c91, w1 (by omega), m_fails, ob2_s]
        rfl
    · have c91 : qch b n (qsp b n p) ≠ 91 := ch_ne hB (c := 91) (by unfold sgC; omega) cB
      unfold f_X5_readFact_vopen f_X5_readFact_vopen_b17
      rw [hw0, ob1_s, if_neg c16, if_pos rfl, x_signHere hQ, ob1_s, if_neg cB]
      show Wp (xC K Q) _
      refine wp_mono (rk_cmp hn hB ht hR1) ?_
      rintro ⟨K5, Q5⟩ ⟨r, M5, q1, q2, q3, q4⟩
      dsimp only at q3 q4 ⊢
      have eF := m_factC hn hM cN c91 N1
      rw [q1] at eF
      rcases q4 with ⟨rfl, d, a', p', hp', hR5⟩ | ⟨rfl, hb⟩
      · exact ⟨M5, hz1.tr q2.r3, q3, Or.inl ⟨N, FU, FU, d, a', p', tA_C eF, by omega, FU_lt (by omega), FU_lt (by omega), by omega, stM_r2 hst1 q2, hR5⟩⟩
      · exact ⟨M5, hz1.tr q2.r3, q3, Or.inr ⟨tA_F eF, hb⟩⟩
theorem rk_factA (hn : n ≤ 400) (hB : ∀ i, i < n → isB (b i)) {t z : Nat} (ht : t < 6) : ∀ (L dd : Nat), dd + L = 12 → dd ≤ 10 → FactOK b n t z dd (rFact L) ∧ FactE b n dd (rFact L) := by
  intro L
  induction L with
  | zero => intro dd h1 h2; omega
  | succ L ih =>
    intro dd h1 h2
    exact ⟨rk_factS hn hB ht h2 (fun h => (ih (dd + 1) (by omega) (by omega)).1), rk_factE hn (rFact L) _⟩
theorem rk_testA (hn : n ≤ 400) (hB : ∀ i, i < n → isB (b i)) {t z : Nat} (ht : t < 6) : TestOK b n t z 0 f_X5_readTest ∧ FactE b n 0 f_X5_readTest := by
  obtain ⟨h1, h2⟩ := rk_factA hn hB (z := z) ht 12 0 (by omega) (by omega)
  exact ⟨rk_test hn hB ht h1, rk_testE h2⟩
end
