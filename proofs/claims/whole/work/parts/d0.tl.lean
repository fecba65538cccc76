/-! RULE: a TEST's loop -/
def FQ (b : Nat → Int32) (n t : Nat) (M0 K0 : Sg) (E : Option (Bool × Sg)) (o : Sg × Sg) (G : Sg → Prop) : Prop := ∃ M', rF3 t M0 M' ∧ kK K0 o.1 ∧ (G M' ∨ (E = some (false, M') ∧ Bad b n M' o))
def FG (b : Nat → Int32) (n t z : Nat) (S l : List Nat) (vs : List Bool) (p : Nat) (E : Option (Bool × Sg)) (o : Sg × Sg) (M' : Sg) : Prop := ∃ N N2 N3 d a' p', E = tC N N2 N3 M' ∧ n - p' < N ∧ n - p' < N2 ∧ S.length < N3 ∧ p < p' ∧ stM S M' ∧ RJ b n t z (l ++ d) (l ++ d) (true :: vs) a' S.length M' o.1 o.2 p'
def FactOK (b : Nat → Int32) (n t z dd : Nat) (rf : Sg → Sg → Int32 → Option (Sg × Sg)) : Prop := ∀ (N N1 : Nat) (S l : List Nat) (vs : List Bool) (a p : Nat) (M K Q : Sg), n - p < N → n - p + 1 < N1 → stM S M → dep S = dd → RJ b n t z l l vs a S.length M K Q p → Wp (rf K Q (nI dd)) (fun o => FQ b n t M K (tA N N1 M) o (FG b n t z S l vs p (tA N N1 M) o))
def FactE (b : Nat → Int32) (n dd : Nat) (rf : Sg → Sg → Int32 → Option (Sg × Sg)) : Prop := ∀ (f : Int32) (K Q : Sg), f ≠ 0 → TQ b n Q n f → xSn K → Wp (rf K Q (nI dd)) (fun o => TQ b n o.2 n f ∧ xSn o.1 ∧ kK K o.1)
def TeG (b : Nat → Int32) (n t z : Nat) (S l0 : List Nat) (vs : List Bool) (p0 : Nat) (E : Option (Bool × Sg)) (o' : Sg × Sg) (M' : Sg) : Prop := ∃ N N2 o w d a' p', E = tB N N2 M' ∧ n - p' < N ∧ n - p' < N2 ∧ p0 < p' ∧ stM (S ++ oL o w) M' ∧ RJ b n t z (l0 ++ d) (l0 ++ d ++ cL o w) (vO o w vs) a' (S.length + (oL o w).length) M' o'.1 o'.2 p' ∧ qwd b n (qsp b n p') ≠ 6385252 ∧ qwd b n (qsp b n p') ≠ 28530
section
variable {b : Nat → Int32} {n : Nat}
theorem rk_testEnd (hn : n ≤ 400) {t z dd : Nat} {rf : Sg → Sg → Int32 → Option (Sg × Sg)} {S l0 d : List Nat} {vs : List Bool} {p0 p a N N2 N4 : Nat} {o w : Bool} {M0 K0 M K Q : Sg} {x3 : Int32} {E : Option (Bool × Sg)} (hE : E = tB N N2 M) (h1 : qwd b n (qsp b n p) ≠ 6385252) (h2 : qwd b n (qsp b n p) ≠ 28530) (hN4 : 0 < N4) (hN : n - p < N) (hN2 : n - p < N2) (hp : p0 < p) (hst : stM (S ++ oL o w) M) (hR : RJ b n t z (l0 ++ d) (l0 ++ d ++ wAn w) (vO o w vs) a (S.length + (oL o w).length) M K Q p) (hz : rF3 t M0 M) (hK : kK K0 K) : Wp (fl4 (f_X5_readTest_vopen_b9 rf (nI dd)) N4 (bI o) x3 K Q) (fun o' => FQ b n t M0 K0 E o' (TeG b n t z S l0 vs p0 E o')) := by
  obtain ⟨N4, rfl⟩ : ∃ k, N4 = k + 1 := ⟨N4 - 1, by omega⟩
  show Wp (f_X5_readTest_vopen_b9 rf (nI dd) (fl4 (f_X5_readTest_vopen_b9 rf (nI dd)) N4) (bI o) x3 K Q) _
  rw [x_tb9N hR.1.2 h1 h2]
  unfold f_X5_readTest_vopen_b95
  cases o with
  | false =>
    rw [itF]
    refine wp_some.mpr ⟨M, hz, hK, Or.inl ⟨N, N2, false, w, d, a, p, hE, hN, hN2, hp, hst, ?_, h1, h2⟩⟩
    have e : cL false w = wAn w := by cases w <;> rfl
    rw [e]; exact hR
  | true =>
    have hlen := hR.2.2.2.2.1
    have hpn := hR.1.1.2.2.2
    have e9 : (oL true w).length = 1 + (wAn w).length := by cases w <;> rfl
    obtain ⟨K1, k1, k2, k3⟩ := rk_x hR (y := 13) (by rw [List.length_append]; omega) (by omega)
    have k1' : f_X5_emit K 100015 = some K1 := k1
    rw [itT, k1', ob1_s]
    refine wp_some.mpr ⟨M, hz, hK.tr k2, Or.inl ⟨N, N2, true, w, d, a, p, hE, hN, hN2, hp, hst, ?_, h1, h2⟩⟩
    have e : cL true w = wAn w ++ [13] := by cases w <;> rfl
    rw [e, ← List.append_assoc]; exact k3
theorem m_clN (hn : n ≤ 400) {M : Sg} {p : Nat} (hM : MqR b n M p) (h : qch b n (qsp b n p) ≠ 93) (k : Sg → Option Sg) : f_X12_closes_b5 k M = some (sI M 8 (nI (qsp b n p))) := by
  unfold f_X12_closes_b5
  rw [m_see hM hn, ob2_s]
  dsimp only
  rw [if_neg h]
theorem rk_testL (hn : n ≤ 400) (hB : ∀ i, i < n → isB (b i)) {t z : Nat} (ht : t < 6) {dd : Nat} {rf : Sg → Sg → Int32 → Option (Sg × Sg)} (HF : FactOK b n t z dd rf) {S l0 : List Nat} {vs : List Bool} {p0 : Nat} {M0 K0 : Sg} (hS : ∀ S' y, S = S' ++ [y] → y = 91) (hdS : dep S = dd) : ∀ (m N N2 N3 N4 j : Nat) (o w : Bool) (d : List Nat) (a p : Nat) (M K Q : Sg), n - p ≤ m → m < N4 → j ≤ p → n - p < N → n - p < N2 → (S ++ oL o w).length < N3 → p0 < p → stM (S ++ oL o w) M → RJ b n t z (l0 ++ d) (l0 ++ d ++ wAn w) (vO o w vs) a (S.length + (oL o w).length) M K Q p → rF3 t M0 M → kK K0 K → Wp (fl4 (f_X5_readTest_vopen_b9 rf (nI dd)) N4 (bI o) (nI j) K Q) (fun o' => FQ b n t M0 K0 (tC N N2 N3 M) o' (TeG b n t z S l0 vs p0 (tC N N2 N3 M) o')) := by
  have htB : ∀ (N N2 N3 : Nat) (o w : Bool) (M : Sg), 0 < N3 → stM (S ++ oL o w) M → tC N N2 N3 M = tB N N2 M := by
    intro N N2 N3 o w M h3 hst
    obtain ⟨N3, rfl⟩ : ∃ k, N3 = k + 1 := ⟨N3 - 1, by omega⟩
    refine tC_B (m_setN hst (by omega) (fun S' y e => ?_) _)
    rcases app_l e with ⟨_, e2⟩ | ⟨c', e2⟩
    · rw [hS S' y e2]; decide
    · exact oL_g e2
  intro m
  induction m with
  | zero =>
    intro N N2 N3 N4 j o w d a p M K Q hm hN4 hj hN hN2 hN3 hp hst hR hz hK
    have hM := hR.1.1
    have hge := qsp_ge (b := b) (n := n) p
    have hle := qsp_le (b := b) hM.2.2.2
    have hP : qsp b n p = n := by have := hM.2.2.2; omega
    exact rk_testEnd hn (htB N N2 N3 o w M (by omega) hst) (by rw [hP, qwd_n]; decide) (by rw [hP, qwd_n]; decide) (by omega) hN hN2 hp hst hR hz hK
  | succ m ih =>
    intro N N2 N3 N4 j o w d a p M K Q hm hN4 hj hN hN2 hN3 hp hst hR hz hK
    have hM := hR.1.1
    have hQ := hR.1.2
    have hge := qsp_ge (b := b) (n := n) p
    have hle := qsp_le (b := b) hM.2.2.2
    have hs := qsp_sp (b := b) (n := n) hM.2.2.2
    have hM1 := hM.s8 hle
    have hz1 : rF3 t M0 (sI M 8 (nI (qsp b n p))) := hz.tr (rF3.s t _ (by omega) _)
    have hst1 : stM (S ++ oL o w) (sI M 8 (nI (qsp b n p))) := hst
    have hlen := hR.2.2.2.2.1
    by_cases hA : qwd b n (qsp b n p) = 6385252 ∨ qwd b n (qsp b n p) = 28530
    · have hlt : qlt b n (qsp b n p) = true := qwd_nz (by rcases hA with e | e <;> (rw [e]; decide)) hle
      have hPn := (qlt_c hlt).1
      have hte := qte_gt (b := b) (n := n) hPn
      have hqw := qte_w hlt
      obtain ⟨N, rfl⟩ : ∃ k, N = k + 1 := ⟨N - 1, by omega⟩
      obtain ⟨N2, rfl⟩ : ∃ k, N2 = k + 1 := ⟨N2 - 1, by omega⟩
      obtain ⟨N4, rfl⟩ : ∃ k, N4 = k + 1 := ⟨N4 - 1, by omega⟩
      have c93 : qch b n (qsp b n p) ≠ 93 := ch_ne hB (c := 93) (by unfold sgC; omega) (by rw [qsg_l hlt]; decide)
      have iA : f_X12_isWord (sI M 8 (nI (qsp b n p))) (6385252 : Int64) = some (decide (qwd b n (qsp b n p) = 6385252), sI M 8 (nI (qsp b n p))) := m_isW hM1 hs hn (c := 6385252) (by omega) (by omega)
      have iO : f_X12_isWord (sI M 8 (nI (qsp b n p))) (28530 : Int64) = some (decide (qwd b n (qsp b n p) = 28530), sI M 8 (nI (qsp b n p))) := m_isW hM1 hs hn (c := 28530) (by omega) (by omega)
      have eB : tC (N + 1) (N2 + 1) N3 M = rs (N + 1) (sI M 8 (nI (qsp b n p))) := by
        rw [htB (N + 1) (N2 + 1) N3 o w M (by omega) hst]
        unfold tB
        have e2 : fl1 f_X12_closes_b5 (N2 + 1) M = some (sI M 8 (nI (qsp b n p))) := m_clN hn hM c93 _
        rw [e2, ob1_s]
      obtain ⟨Q1, s1, s2⟩ := x_step hQ hPn
      have hR1 := rk_at hR
      have hR2 := rk_adv hR1 (q := qte b n (qsp b n p)) hte.2 hte.1 s2
      have hst2 : stM (S ++ oL o w) (sI (sI M 8 (nI (qsp b n p))) 8 (nI (qte b n (qsp b n p)))) := hst
      have hx : S.length + (oL o w).length + 1 = (S.length + 1) + (oL o w).length := by omega
      rw [hx] at hR2
      have hz2 : rF3 t M0 (sI (sI M 8 (nI (qsp b n p))) 8 (nI (qte b n (qsp b n p)))) := hz1.tr (rF3.s t _ (by omega) _)
      show Wp (f_X5_readTest_vopen_b9 rf (nI dd) (fl4 (f_X5_readTest_vopen_b9 rf (nI dd)) N4) (bI o) (nI j) K Q) _
      by_cases cA : qwd b n (qsp b n p) = 6385252
      · rw [decide_eq_true cA] at iA
        obtain ⟨M3, g1, g2, g3, g4⟩ := rk_set2 hn ht hS hR2 hst2 (N := FU) (FU_lt (by omega))
        have hl3 : (S ++ oL o false).length < 400 := by
          have : (oL o false).length ≤ (oL o w).length := by cases o <;> cases w <;> decide
          rw [List.length_append]; omega
        have eT : tC (N + 1) (N2 + 1) N3 M = tA N FU (sI (sA M3 15 (S ++ oL o false).length (nI 12)) 16 (nI ((S ++ oL o false).length + 1))) := by
          rw [eB, ← tA_t, ← m_b76 hn hM1 (y := 12) (Or.inl rfl) (by rw [← hqw]; exact g1) g2 hl3 (fl2 f_X12_tested_b12 (N + 1))]
          unfold rs
          generalize fl2 f_X12_tested_b12 (N + 1) = G
          unfold f_X12_tested_b49 f_X12_tested_b54
          rw [iA, ob2_s]
          dsimp only
          rw [itT, if_neg (show ¬ (1 : Int32) = 0 by decide), iA, ob2_s]
          dsimp only
          rw [itT]
          rfl
        have hst4 := stM_p2 g2 hl3 (y := 12) (Or.inl rfl)
        have eo : S ++ oL o false ++ [12] = S ++ oL o true := by rw [List.append_assoc]; cases o <;> rfl
        rw [eo] at hst4
        have hR4 : RJ b n t z (l0 ++ d ++ wAn w) (l0 ++ d ++ wAn w) (vO o false vs) a (S ++ oL o true).length (sI (sA M3 15 (S ++ oL o false).length (nI 12)) 16 (nI ((S ++ oL o false).length + 1))) K Q1 (qte b n (qsp b n p)) := by
          refine RJ_m (M := M3) ?_ rfl rfl rfl rfl rfl rfl rfl rfl
          refine RJ_e g4 ?_
          rw [List.length_append]
          have : (oL o true).length = (oL o false).length + 1 := by cases o <;> rfl
          omega
        have hz4 : rF3 t M0 (sI (sA M3 15 (S ++ oL o false).length (nI 12)) 16 (nI ((S ++ oL o false).length + 1))) := ((hz2.tr g3).tr (rF3.a t _ _ _)).tr (rF3.s t _ (by omega) _)
        rw [x_tb9A hQ cA (by omega), eT]
        generalize hF : fl4 (f_X5_readTest_vopen_b9 rf (nI dd)) N4 = F
        unfold f_X5_readTest_vopen_b42 f_X5_readTest_vopen_b66 f_X5_readTest_vopen_b89
        rw [s1, ob1_s, if_neg (show ¬ nI 14 = (15 : Int32) by decide), wp_ob2]
        refine wp_mono (HF N FU (S ++ oL o true) _ _ a _ _ K Q1 (by omega) (FU_lt (by omega)) hst4 (by rw [dep_app, oL_d]; exact hdS) hR4) ?_
        rintro ⟨K5, Q5⟩ ⟨M5, f1, f2, f3⟩
        dsimp only at f2 f3 ⊢
        rw [if_pos (show nI 14 = (14 : Int32) from rfl)]
        rcases f3 with ⟨N6, N26, N36, d6, a6, p6, e1, e2, e3, e4, e5, hst6, hR6⟩ | ⟨e1, hb1, hb2, hb3⟩
        · have hlen6 := hR6.2.2.2.2.1
          have hpn6 := hR6.1.1.2.2.2
          rw [List.length_append (as := S)] at hlen6
          have : (oL o true).length = (oL o false).length + 1 := by cases o <;> rfl
          obtain ⟨K6, k1, k2, k3⟩ := rk_x hR6 (y := 12) (by omega) (by omega)
          have k1' : f_X5_emit K5 100014 = some K6 := k1
          rw [k1', ob1_s, wp_bnd, ← nI_succ, e1, ← hF]
          refine ih N6 N26 N36 N4 (j + 1) o true (d ++ (wAn w ++ d6)) a6 p6 M5 K6 Q5 (by omega) (by omega) (by omega) e2 e3 e4 (by omega) hst6 ?_ (hz4.tr f1) ((hK.tr f2).tr k2)
          have e7 : vO o true vs = true :: vO o false vs := by cases o <;> rfl
          rw [e7, ← List.append_assoc, ← List.append_assoc, ← List.length_append]
          exact k3
        · obtain ⟨K6, o1, o2, o3⟩ := x_emitE 100014 hb3
          rw [o1, ob1_s, wp_bnd, e1, ← hF]
          refine wp_mono (x_testLE (N := N4) hb2 o2 (by omega) rf (nI dd) _ _) ?_
          rintro ⟨K7, Q7⟩ ⟨u1, u2, u3⟩
          exact ⟨M5, hz4.tr f1, ((hK.tr f2).tr o3).tr u3, Or.inr ⟨rfl, hb1, u1, u2⟩⟩
      · have cO : qwd b n (qsp b n p) = 28530 := by rcases hA with e | e; exact absurd e cA; exact e
        rw [decide_eq_false cA] at iA
        rw [decide_eq_true cO] at iO
        obtain ⟨K1, k1, k2, hR2'⟩ : ∃ K1, (if (bI o) = 0 then some K else f_X5_emit K 100015) = some K1 ∧ kK K K1 ∧ RJ b n t z (l0 ++ d) (l0 ++ d ++ cL o w) (vO o w vs) a ((S.length + 1) + (oL o w).length) (sI (sI M 8 (nI (qsp b n p))) 8 (nI (qte b n (qsp b n p)))) K1 Q1 (qte b n (qsp b n p)) := by
          cases o with
          | false =>
            have e : cL false w = wAn w := by cases w <;> rfl
            exact ⟨K, rfl, kK.rf K, by rw [e]; exact hR2⟩
          | true =>
            have e9 : (oL true w).length = 1 + (wAn w).length := by cases w <;> rfl
            obtain ⟨K1, k1, k2, k3⟩ := rk_x hR2 (y := 13) (by rw [List.length_append]; omega) (by omega)
            have e : cL true w = wAn w ++ [13] := by cases w <;> rfl
            exact ⟨K1, k1, k2, by rw [e, ← List.append_assoc]; exact k3⟩
        obtain ⟨M3, g1, g2, g3, g4⟩ := rk_set1 hn ht hS hR2' hst2 (N := FU) (FU_lt (by omega))
        have hl3 : S.length < 400 := by omega
        have eT : tC (N + 1) (N2 + 1) N3 M = tA N FU (sI (sA M3 15 S.length (nI 13)) 16 (nI (S.length + 1))) := by
          rw [eB, ← tA_t, ← m_b76 hn hM1 (y := 13) (Or.inr rfl) (by rw [← hqw]; exact g1) g2 hl3 (fl2 f_X12_tested_b12 (N + 1))]
          unfold rs
          generalize fl2 f_X12_tested_b12 (N + 1) = G
          unfold f_X12_tested_b49 f_X12_tested_b54
          rw [iA, ob2_s]
          dsimp only
          rw [itF, iO, ob2_s]
          dsimp only
          rw [itT, if_neg (show ¬ (1 : Int32) = 0 by decide), iA, ob2_s]
          dsimp only
          rw [itF]
          rfl
        have hst4 := stM_p2 g2 hl3 (y := 13) (Or.inr rfl)
        have hR4 : RJ b n t z (l0 ++ d ++ cL o w) (l0 ++ d ++ cL o w) (true :: vs) a (S ++ [13]).length (sI (sA M3 15 S.length (nI 13)) 16 (nI (S.length + 1))) K1 Q1 (qte b n (qsp b n p)) := by
          refine RJ_m (M := M3) ?_ rfl rfl rfl rfl rfl rfl rfl rfl
          rw [List.length_append]
          exact g4
        have hz4 : rF3 t M0 (sI (sA M3 15 S.length (nI 13)) 16 (nI (S.length + 1))) := ((hz2.tr g3).tr (rF3.a t _ _ _)).tr (rF3.s t _ (by omega) _)
        rw [x_tb9O hQ cO (by omega), eT]
        generalize hF : fl4 (f_X5_readTest_vopen_b9 rf (nI dd)) N4 = F
        have eb42 : f_X5_readTest_vopen_b42 rf (nI dd) F (bI o) (nI j) (nI 15) K Q = f_X5_readTest_vopen_b66 rf (nI dd) F (bI o) (nI j) (nI 15) K1 Q1 := by
          unfold f_X5_readTest_vopen_b42
          rw [s1, ob1_s, if_pos (show nI 15 = (15 : Int32) from rfl)]
          by_cases c : bI o = 0
          · rw [if_pos c] at k1 ⊢; cases k1; rfl
          · rw [if_neg c] at k1 ⊢; rw [k1, ob1_s]
        rw [eb42]
        unfold f_X5_readTest_vopen_b66 f_X5_readTest_vopen_b89
        rw [wp_ob2]
        refine wp_mono (HF N FU (S ++ [13]) _ _ a _ _ K1 Q1 (by omega) (FU_lt (by omega)) hst4 (by rw [dep_app, hdS]; rfl) hR4) ?_
        rintro ⟨K5, Q5⟩ ⟨M5, f1, f2, f3⟩
        dsimp only at f2 f3 ⊢
        rw [if_neg (show ¬ nI 15 = (14 : Int32) by decide), wp_bnd, ← nI_succ]
        rcases f3 with ⟨N6, N26, N36, d6, a6, p6, e1, e2, e3, e4, e5, hst6, hR6⟩ | ⟨e1, hb1, hb2, hb3⟩
        · rw [e1, ← hF]
          refine ih N6 N26 N36 N4 (j + 1) true false (d ++ (cL o w ++ d6)) a6 p6 M5 K5 Q5 (by omega) (by omega) (by omega) e2 e3 e4 (by omega) hst6 ?_ (hz4.tr f1) ((hK.tr k2).tr f2)
          have ew : wAn false = [] := rfl
          rw [ew, List.append_nil, ← List.append_assoc, ← List.append_assoc]
          rw [List.length_append] at hR6
          exact hR6
        · rw [e1, ← hF]
          refine wp_mono (x_testLE (N := N4) hb2 hb3 (by omega) rf (nI dd) _ _) ?_
          rintro ⟨K7, Q7⟩ ⟨u1, u2, u3⟩
          exact ⟨M5, hz4.tr f1, ((hK.tr k2).tr f2).tr u3, Or.inr ⟨rfl, hb1, u1, u2⟩⟩
    · exact rk_testEnd hn (htB N N2 N3 o w M (by omega) hst) (fun e => hA (Or.inl e)) (fun e => hA (Or.inr e)) (by omega) hN hN2 hp hst hR hz hK
def TestOK (b : Nat → Int32) (n t z dd : Nat) (rt : Sg → Sg → Int32 → Option (Sg × Sg)) : Prop := ∀ (N N1 : Nat) (S l : List Nat) (vs : List Bool) (a p : Nat) (M K Q : Sg), n - p < N → n - p + 1 < N1 → stM S M → dep S = dd → (∀ S' y, S = S' ++ [y] → y = 91) → RJ b n t z l l vs a S.length M K Q p → Wp (rt K Q (nI dd)) (fun o => FQ b n t M K (tA N N1 M) o (TeG b n t z S l vs p (tA N N1 M) o))
theorem rk_test (hn : n ≤ 400) (hB : ∀ i, i < n → isB (b i)) {t z : Nat} (ht : t < 6) {dd : Nat} {rf : Sg → Sg → Int32 → Option (Sg × Sg)} (HF : FactOK b n t z dd rf) : TestOK b n t z dd (f_X5_readTest_vopen rf) := by
  intro N N1 S l vs a p M K Q hN hN1 hst hd hS hR
  unfold f_X5_readTest_vopen
  rw [wp_ob2]
  refine wp_mono (HF N N1 S l vs a p M K Q hN hN1 hst hd hR) ?_
  rintro ⟨K5, Q5⟩ ⟨M5, f1, f2, f3⟩
  dsimp only at f2 f3 ⊢
  rcases f3 with ⟨N6, N26, N36, d6, a6, p6, e1, e2, e3, e4, e5, hst6, hR6⟩ | ⟨e1, hb1, hb2, hb3⟩
  · rw [e1]
    have eo : S ++ oL false false = S := List.append_nil S
    refine rk_testL hn hB ht HF hS hd (n - p6) N6 N26 N36 FU 0 false false d6 a6 p6 M5 K5 Q5 (by omega) (FU_lt (by omega)) (by omega) e2 e3 (by rw [eo]; exact e4) e5 (by rw [eo]; exact hst6) ?_ f1 f2
    have ew : wAn false = [] := rfl
    rw [ew, List.append_nil]
    exact hR6
  · rw [e1]
    refine wp_mono (x_testLE hb2 hb3 (FU_lt (by omega)) rf (nI dd) 0 0) ?_
    rintro ⟨K7, Q7⟩ ⟨u1, u2, u3⟩
    exact ⟨M5, f1, f2.tr u3, Or.inr ⟨rfl, hb1, u1, u2⟩⟩
theorem rk_testE {dd : Nat} {rf : Sg → Sg → Int32 → Option (Sg × Sg)} (HE : FactE b n dd rf) : FactE b n dd (f_X5_readTest_vopen rf) := by
  intro f K Q hf hQ hs
  unfold f_X5_readTest_vopen
  rw [wp_ob2]
  refine wp_mono (HE f K Q hf hQ hs) ?_
  rintro ⟨K5, Q5⟩ ⟨u1, u2, u3⟩
  dsimp only at u1 u2 u3 ⊢
  refine wp_mono (x_testLE u1 u2 (FU_lt (by omega)) rf (nI dd) 0 0) ?_
  rintro ⟨K7, Q7⟩ ⟨w1, w2, w3⟩
  exact ⟨w1, w2, u3.tr w3⟩
end
