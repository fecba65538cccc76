/-! RULE: a value -/
theorem m_wordH {M : Sg} {v : Nat} (hW : ∀ j, j < 27 → f_X12_isWord M (Int64.ofNat (qWC.getD j 0)) = some (decide (v = qWC.getD j 0), M)) : (∃ w, w < 13 ∧ v = qWC.getD (cW w) 0 ∧ f_X12_wordHere M = some (nI w, M)) ∨ ((∀ w, w < 13 → v ≠ qWC.getD (cW w) 0) ∧ f_X12_wordHere M = some (-1, M)) := by
  have h0 : f_X12_isWord M (491394458994 : Int64) = some (decide (v = 491394458994), M) := hW 7 (by omega)
  have h1 : f_X12_isWord M (1684370292 : Int64) = some (decide (v = 1684370292), M) := hW 1 (by omega)
  have h2 : f_X12_isWord M (427070415720 : Int64) = some (decide (v = 427070415720), M) := hW 17 (by omega)
  have h3 : f_X12_isWord M (126879297138276 : Int64) = some (decide (v = 126879297138276), M) := hW 18 (by omega)
  have h4 : f_X12_isWord M (1818584692 : Int64) = some (decide (v = 1818584692), M) := hW 19 (by omega)
  have h5 : f_X12_isWord M (491394656372 : Int64) = some (decide (v = 491394656372), M) := hW 20 (by omega)
  have h6 : f_X12_isWord M (1852137842 : Int64) = some (decide (v = 1852137842), M) := hW 21 (by omega)
  have h7 : f_X12_isWord M (1751215220 : Int64) = some (decide (v = 1751215220), M) := hW 22 (by omega)
  have h8 : f_X12_isWord M (465725121651 : Int64) = some (decide (v = 465725121651), M) := hW 23 (by omega)
  have h9 : f_X12_isWord M (1885430629 : Int64) = some (decide (v = 1885430629), M) := hW 24 (by omega)
  have h10 : f_X12_isWord M (1718971500 : Int64) = some (decide (v = 1718971500), M) := hW 25 (by omega)
  have h11 : f_X12_isWord M (495622124659 : Int64) = some (decide (v = 495622124659), M) := hW 6 (by omega)
  have h12 : f_X12_isWord M (470021465444 : Int64) = some (decide (v = 470021465444), M) := hW 26 (by omega)
  unfold f_X12_wordHere
  rw [h0, ob2_s]
  dsimp only
  by_cases c0 : v = 491394458994
  · rw [decide_eq_true c0, itT]; exact Or.inl ⟨0, by omega, c0, rfl⟩
  rw [decide_eq_false c0, itF]
  rw [h1, ob2_s]
  dsimp only
  by_cases c1 : v = 1684370292
  · rw [decide_eq_true c1, itT]; exact Or.inl ⟨1, by omega, c1, rfl⟩
  rw [decide_eq_false c1, itF]
  rw [h2, ob2_s]
  dsimp only
  by_cases c2 : v = 427070415720
  · rw [decide_eq_true c2, itT]; exact Or.inl ⟨2, by omega, c2, rfl⟩
  rw [decide_eq_false c2, itF]
  rw [h3, ob2_s]
  dsimp only
  by_cases c3 : v = 126879297138276
  · rw [decide_eq_true c3, itT]; exact Or.inl ⟨3, by omega, c3, rfl⟩
  rw [decide_eq_false c3, itF]
  rw [h4, ob2_s]
  dsimp only
  by_cases c4 : v = 1818584692
  · rw [decide_eq_true c4, itT]; exact Or.inl ⟨4, by omega, c4, rfl⟩
  rw [decide_eq_false c4, itF]
  rw [h5, ob2_s]
  dsimp only
  by_cases c5 : v = 491394656372
  · rw [decide_eq_true c5, itT]; exact Or.inl ⟨5, by omega, c5, rfl⟩
  rw [decide_eq_false c5, itF]
  rw [h6, ob2_s]
  dsimp only
  by_cases c6 : v = 1852137842
  · rw [decide_eq_true c6, itT]; exact Or.inl ⟨6, by omega, c6, rfl⟩
  rw [decide_eq_false c6, itF]
  rw [h7, ob2_s]
  dsimp only
  by_cases c7 : v = 1751215220
  · rw [decide_eq_true c7, itT]; exact Or.inl ⟨7, by omega, c7, rfl⟩
  rw [decide_eq_false c7, itF]
  rw [h8, ob2_s]
  dsimp only
  by_cases c8 : v = 465725121651
  · rw [decide_eq_true c8, itT]; exact Or.inl ⟨8, by omega, c8, rfl⟩
  rw [decide_eq_false c8, itF]
  rw [h9, ob2_s]
  dsimp only
  by_cases c9 : v = 1885430629
  · rw [decide_eq_true c9, itT]; exact Or.inl ⟨9, by omega, c9, rfl⟩
  rw [decide_eq_false c9, itF]
  rw [h10, ob2_s]
  dsimp only
  by_cases c10 : v = 1718971500
  · rw [decide_eq_true c10, itT]; exact Or.inl ⟨10, by omega, c10, rfl⟩
  rw [decide_eq_false c10, itF]
  rw [h11, ob2_s]
  dsimp only
  by_cases c11 : v = 495622124659
  · rw [decide_eq_true c11, itT]; exact Or.inl ⟨11, by omega, c11, rfl⟩
  rw [decide_eq_false c11, itF]
  rw [h12, ob2_s]
  dsimp only
  by_cases c12 : v = 470021465444
  · rw [decide_eq_true c12, itT]; exact Or.inl ⟨12, by omega, c12, rfl⟩
  rw [decide_eq_false c12, itF]
  refine Or.inr ⟨fun w hw => ?_, rfl⟩
  have hc : w = 0 ∨ w = 1 ∨ w = 2 ∨ w = 3 ∨ w = 4 ∨ w = 5 ∨ w = 6 ∨ w = 7 ∨ w = 8 ∨ w = 9 ∨ w = 10 ∨ w = 11 ∨ w = 12 := by omega
  rcases hc with rfl | rfl | rfl | rfl | rfl | rfl | rfl | rfl | rfl | rfl | rfl | rfl | rfl
  · exact c0
  · exact c1
  · exact c2
  · exact c3
  · exact c4
  · exact c5
  · exact c6
  · exact c7
  · exact c8
  · exact c9
  · exact c10
  · exact c11
  · exact c12
theorem cW_w {w : Nat} (hw : w < 13) : cW w < 27 ∧ (17 ≤ cW w ∨ cW w = 1 ∨ cW w = 6 ∨ cW w = 7) := by
  have hc : w = 0 ∨ w = 1 ∨ w = 2 ∨ w = 3 ∨ w = 4 ∨ w = 5 ∨ w = 6 ∨ w = 7 ∨ w = 8 ∨ w = 9 ∨ w = 10 ∨ w = 11 ∨ w = 12 := by omega
  rcases hc with rfl | rfl | rfl | rfl | rfl | rfl | rfl | rfl | rfl | rfl | rfl | rfl | rfl <;> decide
theorem cW_o {j : Nat} (hj : j < 27) (h : 17 ≤ j ∨ j = 1 ∨ j = 6 ∨ j = 7) : ∃ w, w < 13 ∧ cW w = j := by
  have hc : j = 7 ∨ j = 1 ∨ j = 17 ∨ j = 18 ∨ j = 19 ∨ j = 20 ∨ j = 21 ∨ j = 22 ∨ j = 23 ∨ j = 24 ∨ j = 25 ∨ j = 6 ∨ j = 26 := by omega
  rcases hc with rfl | rfl | rfl | rfl | rfl | rfl | rfl | rfl | rfl | rfl | rfl | rfl | rfl
  · exact ⟨0, by omega, rfl⟩
  · exact ⟨1, by omega, rfl⟩
  · exact ⟨2, by omega, rfl⟩
  · exact ⟨3, by omega, rfl⟩
  · exact ⟨4, by omega, rfl⟩
  · exact ⟨5, by omega, rfl⟩
  · exact ⟨6, by omega, rfl⟩
  · exact ⟨7, by omega, rfl⟩
  · exact ⟨8, by omega, rfl⟩
  · exact ⟨9, by omega, rfl⟩
  · exact ⟨10, by omega, rfl⟩
  · exact ⟨11, by omega, rfl⟩
  · exact ⟨12, by omega, rfl⟩
theorem qwN_0 : qwN 0 = -1 := by decide
theorem x_rvw {K Q : Sg} {j : Nat} (hj : j < 27) (hw : f_X8_wordHere Q = some (nI j)) (hk : f_X8_isNumber Q = some false) (h : 17 ≤ j ∨ j = 1 ∨ j = 6 ∨ j = 7) : f_X5_readValue K Q = f_X5_readValue_b89 (nI j) K Q := by
  have e : f_X5_readValue_b31 (nI j) K Q = f_X5_readValue_b89 (nI j) K Q := by
    unfold f_X5_readValue_b31 f_X5_readValue_b36 f_X5_readValue_b60
    rw [hk, ob1_s, itF, if_neg (show ¬ (1 : Int32) = 0 by decide), ob1_s, itF]
  unfold f_X5_readValue
  rw [hw, ob1_s]
  by_cases c : 17 ≤ j
  · rw [if_pos (show (17 : Int32) ≤ nI j from nI_le (a := 17) c (by omega))]; exact e
  · rw [if_neg (show ¬ (17 : Int32) ≤ nI j from nI_ge (b := 17) (by omega) (by omega))]
    by_cases c1 : j = 1
    · rw [if_pos (show nI j = 1 by rw [c1]; rfl)]; exact e
    · rw [if_neg (show ¬ nI j = 1 by rw [show (1 : Int32) = nI 1 from rfl, nI_eq (by omega) (by omega)]; exact c1)]
      by_cases c6 : j = 6
      · rw [if_pos (show nI j = 6 by rw [c6]; rfl)]; exact e
      · rw [if_neg (show ¬ nI j = 6 by rw [show (6 : Int32) = nI 6 from rfl, nI_eq (by omega) (by omega)]; exact c6), if_pos (show nI j = 7 by rw [show j = 7 by omega]; rfl)]; exact e
theorem x_rvn {K Q : Sg} {x : Int32} (hw : f_X8_wordHere Q = some x) (h : x = -1 ∨ ∃ j, j < 17 ∧ x = nI j ∧ j ≠ 1 ∧ j ≠ 6 ∧ j ≠ 7) : f_X5_readValue K Q = f_X5_readValue_b36 x 0 K Q := by
  unfold f_X5_readValue
  rw [hw, ob1_s]
  rcases h with rfl | ⟨j, hj, rfl, h1, h6, h7⟩
  · rw [if_neg (by decide), if_neg (by decide), if_neg (by decide), if_neg (by decide)]
  · rw [if_neg (show ¬ (17 : Int32) ≤ nI j from nI_ge (b := 17) (by omega) (by omega)), if_neg (show ¬ nI j = 1 by rw [show (1 : Int32) = nI 1 from rfl, nI_eq (by omega) (by omega)]; exact h1), if_neg (show ¬ nI j = 6 by rw [show (6 : Int32) = nI 6 from rfl, nI_eq (by omega) (by omega)]; exact h6), if_neg (show ¬ nI j = 7 by rw [show (7 : Int32) = nI 7 from rfl, nI_eq (by omega) (by omega)]; exact h7)]
section
variable {b : Nat → Int32} {n : Nat}
/-- both fail alike -/
theorem rk_bl (hn : n ≤ 400) {t P : Nat} {M M2 K K2 Q : Sg} {c : Nat} {e : Option (Bool × Sg)} {G : Sg × Sg → Sg → Prop} (hc : c < 8) (hQ : TQ b n Q P 0) (h9 : M2.1 9 = 0) (hz : rF2 t M M2) (hK : kK K K2) (hs : xSn K2) (he : e = f_X12_fails M2 (nI c) (nI P)) : Wp (ob1 (f_X8_blame Q (nI c)) fun Q' => some (K2, Q')) (fun o => JG b n t M K e o (G o)) := by
  have hP := hQ.le
  rw [wp_ob1]
  refine wp_mono (x_blame hQ hn hc) (fun Q' hQ' => wp_some.mpr ?_)
  rw [he, m_fails, h9]
  have hf := qbm_ne (P := P) (c := c) (by omega) hc
  exact ⟨false, _, rfl, hz.tr (rF2.s t _ (Or.inr (Or.inl rfl)) _), hK, Or.inr ⟨rfl, hf, hQ', hs⟩⟩
/-- a value's cell is put by both -/
theorem rk_put (hn : n ≤ 400) {t z : Nat} (ht : t < 6) {l : List Nat} {vs : List Bool} {a e P p : Nat} {M M2 K Q : Sg} {y : Nat} {s v x1 : Int32} (hRJ : RJ b n t z l l vs a e M K Q p) (hP : P = qsp b n p) (hPn : P < n) (ha : a < 60) (hM2 : MqR b n M2 (qte b n P)) (h9 : M2.1 9 = 0) (h12 : M2.1 12 = nI (a + 1)) (hcd : cdM t l M2) (hz : rF2 t M M2) (hy : yOK y) (hy1 : y % 16 ≤ 1) (he : s + 16 * v = nI y) (hx : f_X5_readValue_b89 x1 K Q = f_X5_readValue_b142 (nI (cC y)) (sI K 7 (nI (a + 1))) Q) : Wp (f_X5_readValue_b89 x1 K Q) (fun o => JG b n t M K (ob1 (f_X12_puts M2 s v) fun M' => some (true, M')) o (fun M' => ∃ y p', p < p' ∧ RJ b n t z (l ++ [y]) (l ++ [y]) (false :: vs) (a + 1) e M' o.1 o.2 p')) := by
  obtain ⟨⟨hM, hQ⟩, h90, ⟨hcM, hcX⟩, ⟨a1, a2, a3⟩, hlen, hzl, hw, hvs⟩ := hRJ
  subst hP
  have hge := qsp_ge (b := b) (n := n) p
  have hte := qte_gt (b := b) (n := n) hPn
  have hl : l.length < 400 := by omega
  obtain ⟨M3, m1, m2, m3, m4⟩ := m_puts hcd ht hl hy he
  rw [hx, m1, ob1_s]
  unfold f_X5_readValue_b142
  obtain ⟨K2, k1, k2, k3, k4⟩ := x_emit (K := sI K 7 (nI (a + 1))) (y := y) ⟨hcX.1, hcX.2⟩ hl
  rw [k1, ob1_s, wp_ob1]
  refine wp_mono (x_step hQ hPn) (fun Q' hQ' => wp_some.mpr ?_)
  have e1 : M3.2.1 0 = M2.2.1 0 := m4.2.1 0 (by omega) (by omega)
  refine ⟨true, M3, rfl, hz.tr (m4.r2 m3), (kK.s7 K _).tr k3, Or.inl ⟨rfl, y, qte b n (qsp b n p), by omega, ⟨?_, hQ'⟩, ?_, ⟨m2, k2⟩, ⟨?_, k4, by omega⟩, ?_, ?_, ?_, ?_⟩⟩
  · unfold MqR; rw [m3, e1]; exact hM2
  · rw [m3]; exact h9
  · rw [m3]; exact h12
  · rw [List.length_append]; show l.length + 1 + e ≤ _; omega
  · rw [List.length_append]; omega
  · exact drop_1 hzl hw (ty_v hy1 (by omega))
  · show vs.length + 1 ≤ a + 1; omega
theorem rk_value (hn : n ≤ 400) {t z : Nat} (ht : t < 6) {l : List Nat} {vs : List Bool} {a e p : Nat} {M K Q : Sg} (hRJ : RJ b n t z l l vs a e M K Q p) : Wp (f_X5_readValue K Q) (fun o => JG b n t M K (f_X12_value M) o (fun M' => ∃ y p', p < p' ∧ RJ b n t z (l ++ [y]) (l ++ [y]) (false :: vs) (a + 1) e M' o.1 o.2 p')) := by
  have hRJ0 := hRJ
  obtain ⟨⟨hM, hQ⟩, h90, ⟨hcM, hcX⟩, ⟨a1, a2, a3⟩, hlen, hzl, hw, hvs⟩ := hRJ
  have hPle := hQ.le
  have hge := qsp_ge (b := b) (n := n) p
  have hs := qsp_sp (b := b) (n := n) hM.2.2.2
  have hM1 := hM.s8 hPle
  have hsn : xSn K := cdX_s hcX (by omega)
  have z1 : rF2 t M (sI M 8 (nI (qsp b n p))) := rF2.s t _ (Or.inl rfl) _
  have h91 : (sI M 8 (nI (qsp b n p))).1 9 = 0 := h90
  have h121 : (sI M 8 (nI (qsp b n p))).1 12 = nI a := a1
  have hc1 : cdM t l (sI M 8 (nI (qsp b n p))) := hcM
  have e8 : (sI M 8 (nI (qsp b n p))).1 8 = nI (qsp b n p) := rfl
  unfold f_X12_value
  rw [m_see hM hn, ob2_s, bnd_eq]
  dsimp only
  rw [e8, m_dig hM1 hn hPle, ob1_s]
  generalize hM1e : sI M 8 (nI (qsp b n p)) = M1 at hM1 z1 h91 h121 hc1 e8 ⊢
  generalize hP : qsp b n p = P at hM1 hQ hPle hs hge ⊢
  have hw0 := x_wrd hQ
  have hnum := x_isNumber hQ
  have hb89 : ∀ x1, f_X5_readValue_b89 x1 K Q = if a < 60 then (ob1 (f_X8_isNumber Q) fun r122 => if (bI r122) = 0 then (f_X5_readValue_b142 (200000 + x1) (sI K 7 (nI (a + 1))) Q) else (ob1 (f_X8_numberHere Q) fun r132 => f_X5_readValue_b142 r132 (sI K 7 (nI (a + 1))) Q)) else (ob1 (f_X8_blame Q 3) fun Q_103 => some (K, Q_103)) := by
    intro x1
    unfold f_X5_readValue_b89
    rw [a2, ← nI_succ, bnd_eq]
    by_cases c : a < 60
    · rw [if_pos c, if_pos (show nI a < 60 from nI_lt (b := 60) c (by omega))]
    · rw [if_neg c, if_neg (show ¬ nI a < 60 from nI_nlt (b := 60) (by omega) (by omega))]
  cases c : qdg b n P with
  | true =>
    have hk : qkd b n P = 1 := qkd_1.mpr c
    have hPn := (qdg_c c).1
    have hwd : qwd b n P = 0 := qwd_0 hPle (qdl c)
    rw [hk, decide_eq_true rfl] at hnum
    rw [hwd, qwN_0] at hw0
    rw [itT]
    have hrv : f_X5_readValue K Q = ob1 (some (qvl b n P)) fun r74 => if 0 ≤ r74 then (f_X5_readValue_b89 (-1) K Q) else (ob1 (f_X8_blame Q 1) fun Q_85 => some (K, Q_85)) := by
      rw [x_rvn hw0 (Or.inl rfl)]
      unfold f_X5_readValue_b36 f_X5_readValue_b60
      rw [hnum, ob1_s, itT, ob1_s, itT, x_numHere hQ]
    rw [hrv, ob1_s]
    obtain ⟨n1, n2⟩ := m_num hM1 hn 0 99999 (by decide)
    rw [hs] at n1 n2
    rcases qvl_n hk with ⟨v, hv, ev⟩ | ev
    · have g1 : (0 : Int32) ≤ qvl b n P := by rw [ev]; exact nI_pos' (by omega)
      have g2 : qvl b n P ≤ 99999 := by rw [ev]; exact nI_le (b := 99999) hv (by omega)
      rw [n1 ⟨hk, g1, g2⟩, ob2_s, if_pos g1]
      dsimp only
      rw [itT]
      have hM2 : MqR b n (sI (sI M1 8 (nI (qte b n P))) 10 (qvl b n P)) (qte b n P) := hM1.s8 (qte_gt hPn).2
      have z2 : rF2 t M (sI (sI M1 8 (nI (qte b n P))) 10 (qvl b n P)) := (z1.tr (rF2.s t _ (Or.inl rfl) _)).tr (rF2.s t _ (Or.inr (Or.inr (Or.inl rfl))) _)
      obtain ⟨k1, k2⟩ := m_makes (M := sI (sI M1 8 (nI (qte b n P))) 10 (qvl b n P)) (a := a) h121 a3 (nI P)
      by_cases ca : a < 60
      · rw [k2 ca, ob2_s]
        dsimp only
        rw [itT]
        have ey : cC (16 * v) = v := by unfold cC; rw [if_pos (by omega)]; omega
        refine rk_put hn ht hRJ0 hP.symm hPn ca (M2 := sI (sI (sI M1 8 (nI (qte b n P))) 10 (qvl b n P)) 12 (nI (a + 1))) hM2 h91 rfl hc1 (z2.tr (rF2.s t _ (Or.inr (Or.inr (Or.inr rfl))) _)) (y := 16 * v) (Or.inl ⟨by omega, by omega⟩) (by omega) ?_ ?_
        · show (0 : Int32) + 16 * qvl b n P = nI (16 * v)
          rw [ev, show (16 : Int32) = nI 16 from rfl, show (0 : Int32) = nI 0 from rfl, nI_mul, nI_add, Nat.zero_add]
        · rw [hb89, if_pos ca, hnum, ob1_s, itT, x_numHere hQ, ob1_s, ey, ev]
      · rw [k1 (by omega), m_fails (sI (sI M1 8 (nI (qte b n P))) 10 (qvl b n P)) 3 P, ob2_s]
        dsimp only
        rw [itF, hb89, if_neg ca]
        exact rk_bl hn (c := 3) (by omega) hQ (M2 := sI (sI M1 8 (nI (qte b n P))) 10 (qvl b n P)) h91 z2 (kK.rf K) hsn (m_fails _ _ _).symm
    · have g1 : ¬ (0 : Int32) ≤ qvl b n P := by rw [ev]; decide
      obtain ⟨⟨r, M3⟩, q1, q2, q3, q4⟩ := n2 (fun h => g1 h.2.1)
      dsimp only at q2 q3 q4
      subst q2
      rw [q1, ob2_s, if_neg g1]
      dsimp only
      rw [itF, wp_ob1]
      refine wp_mono (x_blame hQ hn (c := 1) (by omega)) (fun Q' hQ' => wp_some.mpr ?_)
      rw [h91, if_pos hk] at q4
      exact ⟨false, M3, rfl, z1.tr (q3.r2 t), kK.rf K, Or.inr ⟨rfl, by rw [q4]; exact qbm_ne (by omega) (by omega), by rw [q4]; exact hQ', hsn⟩⟩
  | false =>
    have hk : ¬ qkd b n P = 1 := by rw [qkd_1, c]; decide
    rw [decide_eq_false hk] at hnum
    rw [itF]
    have hWc : ∀ j, j < 27 → f_X12_isWord M1 (Int64.ofNat (qWC.getD j 0)) = some (decide (qwd b n P = qWC.getD j 0), M1) := by
      intro j hj
      have := qWC_pos ⟨j, hj⟩
      exact m_isW hM1 hs hn this.1 this.2
    rcases m_wordH hWc with ⟨w, hw13, ew, em⟩ | ⟨ew, em⟩
    · obtain ⟨hw27, hwv⟩ := cW_w hw13
      have hwq : f_X8_wordHere Q = some (nI (cW w)) := by
        rcases qwN_c (qwd b n P) with ⟨j, hj, e1, e2⟩ | ⟨e1, e2⟩
        · have hi := Fin.mk.inj (qWC_inj ⟨j, hj⟩ ⟨cW w, hw27⟩ (by rw [← e1]; exact ew))
          rw [hw0, e2, hi]
        · exact absurd ew (e1 _ hw27)
      have hlt : qlt b n P = true := qwd_nz (by rw [ew]; have := (qWC_pos ⟨cW w, hw27⟩).1; exact Nat.pos_iff_ne_zero.mp this) hPle
      have hPn := (qlt_c hlt).1
      rw [em, ob2_s]
      dsimp only
      rw [if_pos (show (0 : Int32) ≤ nI w from nI_pos' (by omega)), x_rvw hw27 hwq hnum hwv]
      obtain ⟨k1, k2⟩ := m_makes (M := M1) (a := a) h121 a3 (nI P)
      by_cases ca : a < 60
      · rw [k2 ca, ob2_s]
        dsimp only
        rw [itT, m_passWord (M := sI M1 12 (nI (a + 1))) (p := P) hM1 hn, ob1_s, ← qte_w hlt]
        have ey : cC (1 + 16 * w) = 200000 + cW w := by unfold cC; rw [if_neg (by omega), if_pos (by omega), show (1 + 16 * w) / 16 = w by omega]
        refine rk_put hn ht hRJ0 hP.symm hPn ca (M2 := sI (sI M1 12 (nI (a + 1))) 8 (nI (qte b n P))) (hM1.s8 (qte_gt hPn).2) h91 rfl hc1 ((z1.tr (rF2.s t _ (Or.inr (Or.inr (Or.inr rfl))) _)).tr (rF2.s t _ (Or.inl rfl) _)) (y := 1 + 16 * w) (Or.inr (Or.inl ⟨by omega, by omega⟩)) (by omega) ?_ ?_
        · rw [show (16 : Int32) = nI 16 from rfl, show (1 : Int32) = nI 1 from rfl, nI_mul, nI_add]
        · rw [hb89, if_pos ca, hnum, ob1_s, itF, ey, show (200000 : Int32) = nI 200000 from rfl, nI_add]
      · rw [k1 (by omega), m_fails M1 3 P, ob2_s]
        dsimp only
        rw [itF, hb89, if_neg ca]
        exact rk_bl hn (c := 3) (by omega) hQ (M2 := M1) h91 z1 (kK.rf K) hsn (m_fails _ _ _).symm
    · rw [em, ob2_s]
      dsimp only
      rw [if_neg (show ¬ (0 : Int32) ≤ -1 by decide), ob2_eta]
      have hx : qwN (qwd b n P) = -1 ∨ ∃ j, j < 17 ∧ qwN (qwd b n P) = nI j ∧ j ≠ 1 ∧ j ≠ 6 ∧ j ≠ 7 := by
        rcases qwN_c (qwd b n P) with ⟨j, hj, e1, e2⟩ | ⟨e1, e2⟩
        · have hno : ¬ (17 ≤ j ∨ j = 1 ∨ j = 6 ∨ j = 7) := by
            intro h
            obtain ⟨w, w1, w2⟩ := cW_o hj h
            exact ew w w1 (by rw [w2]; exact e1)
          exact Or.inr ⟨j, by omega, e2, by omega, by omega, by omega⟩
        · exact Or.inl e2
      rw [x_rvn hw0 hx]
      unfold f_X5_readValue_b36
      rw [hnum, ob1_s, itF, if_pos rfl]
      exact rk_bl hn (c := 0) (by omega) hQ (M2 := M1) h91 z1 (kK.rf K) hsn rfl
end
