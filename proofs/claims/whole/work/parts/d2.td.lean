/-! RULE: the TEST of a clause, and what a clause leaves -/
def rF4 (t : Nat) (M M' : Sg) : Prop := (M'.2.2 = M.2.2 ∧ (∀ k, k ≠ 3 → k ≠ 4 → k ≠ 5 → k ≠ 6 → k ≠ 15 → M'.2.1 k = M.2.1 k) ∧ (∀ i, i < 400 * t → M'.2.1 3 i = M.2.1 3 i) ∧ (∀ i, i < 60 * t → M'.2.1 5 i = M.2.1 5 i) ∧ (∀ i, i < t → M'.2.1 6 i = M.2.1 6 i)) ∧ ∀ k, k ≠ 8 → k ≠ 9 → k ≠ 10 → k ≠ 12 → k ≠ 13 → k ≠ 14 → k ≠ 16 → M'.1 k = M.1 k
theorem rF4.rf (t : Nat) (M : Sg) : rF4 t M M := ⟨⟨rfl, fun _ _ _ _ _ _ => rfl, fun _ _ => rfl, fun _ _ => rfl, fun _ _ => rfl⟩, fun _ _ _ _ _ _ _ _ => rfl⟩
theorem rF4.tr {t : Nat} {M M' M2 : Sg} (h : rF4 t M M') (h2 : rF4 t M' M2) : rF4 t M M2 := ⟨⟨h2.1.1.trans h.1.1, fun k a c d e f => (h2.1.2.1 k a c d e f).trans (h.1.2.1 k a c d e f), fun i a => (h2.1.2.2.1 i a).trans (h.1.2.2.1 i a), fun i a => (h2.1.2.2.2.1 i a).trans (h.1.2.2.2.1 i a), fun i a => (h2.1.2.2.2.2 i a).trans (h.1.2.2.2.2 i a)⟩, fun k a c d e f g x => (h2.2 k a c d e f g x).trans (h.2 k a c d e f g x)⟩
theorem rF3.r4 {t : Nat} {M M' : Sg} (h : rF3 t M M') : rF4 t M M' := ⟨⟨h.1.1, fun k a c _ _ f => h.1.2.1 k a c f, h.1.2.2, fun i _ => by rw [h.1.2.1 5 (by omega) (by omega) (by omega)], fun i _ => by rw [h.1.2.1 6 (by omega) (by omega) (by omega)]⟩, fun k a c d e f _ g => h.2 k a c d e f g⟩
theorem rF4.s (t : Nat) (M : Sg) {j : Nat} (hj : j = 8 ∨ j = 9 ∨ j = 10 ∨ j = 12 ∨ j = 13 ∨ j = 14 ∨ j = 16) (v : Int32) : rF4 t M (sI M j v) := ⟨⟨rfl, fun _ _ _ _ _ _ => rfl, fun _ _ => rfl, fun _ _ => rfl, fun _ _ => rfl⟩, fun k a c d e f g x => by show (if k = j then v else M.1 k) = M.1 k; rw [if_neg (by omega)]⟩
theorem rF4.a5 (t : Nat) (M : Sg) {j : Nat} (hj : 60 * t ≤ j) (v : Int32) : rF4 t M (sA M 5 j v) := ⟨⟨rfl, fun k _ _ d _ _ => sA_ne M j v d, fun i _ => rfl, fun i hi => by show (if i = j then v else M.2.1 5 i) = M.2.1 5 i; rw [if_neg (by omega)], fun i _ => rfl⟩, fun _ _ _ _ _ _ _ _ => rfl⟩
theorem rF4.a6 (t : Nat) (M : Sg) (v : Int32) : rF4 t M (sA M 6 t v) := ⟨⟨rfl, fun k _ _ _ d _ => sA_ne M t v d, fun i _ => rfl, fun i _ => rfl, fun i hi => by show (if i = t then v else M.2.1 6 i) = M.2.1 6 i; rw [if_neg (by omega)]⟩, fun _ _ _ _ _ _ _ _ => rfl⟩
def JTe (b : Nat → Int32) (n t : Nat) (M K : Sg) (e : Option (Bool × Sg)) (o : Sg × Sg) (G : Sg → Prop) : Prop := ∃ r M', e = some (r, M') ∧ rF3 t M M' ∧ kK K o.1 ∧ ((r = true ∧ G M') ∨ (r = false ∧ Bad b n M' o))
section
variable {b : Nat → Int32} {n : Nat}
theorem rk_tested (hn : n ≤ 400) (hB : ∀ i, i < n → isB (b i)) {t z : Nat} (ht : t < 6) {l : List Nat} {vs : List Bool} {a p : Nat} {M K Q : Sg} (hR : RJ b n t z l l vs a 0 M K Q p) : Wp (f_X5_readTest K Q 0) (fun o => JTe b n t M K (f_X12_tested M) o (CG b n t z l vs 0 p o)) := by
  have hst0 : stM [] (sI (sI M 16 0) 13 0) := ⟨by decide, rfl, rfl, fun i y h => by cases h⟩
  have hR0 : RJ b n t z l l vs a ([] : List Nat).length (sI (sI M 16 0) 13 0) K Q p := RJ_m hR rfl rfl rfl rfl rfl rfl rfl rfl
  have hz0 : rF3 t M (sI (sI M 16 0) 13 0) := (rF3.s t _ (by omega) _).tr (rF3.s t _ (by omega) _)
  have eT : f_X12_tested M = tA 4999 FU (sI (sI M 16 0) 13 0) := by
    rw [← tA_t]
    unfold f_X12_tested
    rw [bnd_eq, bnd_eq]
    rfl
  rw [eT]
  refine wp_mono ((rk_testA hn hB (z := z) ht).1 4999 FU [] l vs a p _ K Q (by omega) (FU_lt (by omega)) hst0 rfl (fun S' y e => by cases S' <;> cases e) hR0) ?_
  rintro ⟨K5, Q5⟩ ⟨M5, f1, f2, f3⟩
  dsimp only at f2 f3 ⊢
  rcases f3 with ⟨N6, N26, o, w, d6, a6, p6, e1, e2, e3, e4, hst6, hR6, hA, hO⟩ | ⟨e1, hb⟩
  · dsimp only at hR6
    have hM6 := hR6.1.1
    have hle6 := qsp_le (b := b) hM6.2.2.2
    have hge6 := qsp_ge (b := b) (n := n) p6
    have hs6 := qsp_sp (b := b) (n := n) hM6.2.2.2
    have hM7 := hM6.s8 hle6
    have hR7 := rk_at hR6
    have hst7 : stM ([] ++ oL o w) (sI M5 8 (nI (qsp b n p6))) := hst6
    have hmem : ¬ 91 ∈ [] ++ oL o w := by cases o <;> cases w <;> decide
    have hin := m_ins hst7
    rw [decide_eq_false hmem] at hin
    obtain ⟨N6, rfl⟩ : ∃ k, N6 = k + 1 := ⟨N6 - 1, by omega⟩
    obtain ⟨N26, rfl⟩ : ∃ k, N26 = k + 1 := ⟨N26 - 1, by omega⟩
    obtain ⟨M8, g1, g2, g3, g4⟩ := rk_set1 hn ht (S := []) (fun S' y e => by cases S' <;> cases e) hR7 hst7 (N := FU) (FU_lt (by omega))
    have g1' : f_X12_settles (sI M5 8 (nI (qsp b n p6))) 1 = some M8 := g1
    have eB : tB (N6 + 1) (N26 + 1) M5 = some (true, M8) := by
      have e2 : fl1 f_X12_closes_b5 (N26 + 1) M5 = some (sI M5 8 (nI (qsp b n p6))) := by
        show f_X12_closes_b5 (fl1 f_X12_closes_b5 N26) M5 = _
        generalize fl1 f_X12_closes_b5 N26 = G
        unfold f_X12_closes_b5
        rw [m_see hM6 hn, ob2_s]
        dsimp only
        by_cases c : qch b n (qsp b n p6) = 93
        · rw [if_pos c, hin, ob1_s, itF]
        · rw [if_neg c]
      unfold tB
      rw [e2, ob1_s, m_rsE hn hM7 hs6 hA hO, hin, ob1_s, itF, g1', ob1_s]
    rw [e1, eB]
    refine ⟨true, M8, rfl, ((hz0.tr f1).tr (rF3.s t _ (by omega) _)).tr g3, f2, Or.inl ⟨rfl, d6 ++ cL o w, a6, qsp b n p6, by omega, ?_⟩⟩
    rw [← List.append_assoc]; exact g4
  · rw [e1]
    exact ⟨false, M5, rfl, hz0.tr f1, f2, Or.inr ⟨rfl, hb⟩⟩
theorem RJ_z {t z : Nat} {l l' : List Nat} {vs : List Bool} {a e p : Nat} {M K Q : Sg} (h : RJ b n t z l l' vs a e M K Q p) : RJ b n t l.length l l' [] a e M K Q p := by
  obtain ⟨h1, h2, h3, h4, h5, h6, h7, h8⟩ := h
  refine ⟨h1, h2, h3, h4, h5, Nat.le_refl _, ?_, Nat.zero_le _⟩
  rw [List.drop_length]; rfl
theorem RJ_k {t z : Nat} {l l' : List Nat} {vs : List Bool} {a e p : Nat} {M K K' Q : Sg} (h : RJ b n t z l l' vs a e M K Q p) (e1 : K'.1 1 = K.1 1) (e7 : K'.1 7 = K.1 7) (g0 : K'.2.1 0 = K.2.1 0) : RJ b n t z l l' vs a e M K' Q p := by
  unfold RJ cdX
  rw [e1, e7, g0]
  exact h
end
theorem x_b111 {K : Sg} {c : Nat} (h5 : K.1 5 = nI c) (hc : c < 12) (Q : Sg) : f_X5_readClause_b111 K Q = some (sI (sA K 4 c (K.1 1)) 5 (nI (c + 1)), Q) := by
  have e5 : (sA K 4 c (K.1 1)).1 5 = nI c := h5
  unfold f_X5_readClause_b111
  rw [h5, ixd_nI hc (by omega), bnd_eq, bnd_eq, e5, ← nI_succ]
theorem m_b124 {M : Sg} {t X L c : Nat} (ht : t < 6) (hX : X + 4 < 360) (h11 : M.1 11 = nI t) (hL : M.2.1 4 t = nI L) (h6 : M.2.1 6 t = nI c) (p1 : Int32) : f_X12_isDoingHere_b124 p1 (nI X) M = some (true, sA (sA M 5 (X + 4) (nI L)) 6 t (nI (c + 1))) := by
  have e11 : (sA M 5 (X + 4) (nI L)).1 11 = nI t := h11
  have e6 : (sA M 5 (X + 4) (nI L)).2.1 6 t = nI c := h6
  unfold f_X12_isDoingHere_b124
  rw [h11, ixd_nI (by omega) (by omega), show nI X + 4 = nI (X + 4) from nI_add X 4, ixd_nI hX (by omega), hL, bnd_eq, e11, ixd_nI ht (by omega), ixd_nI ht (by omega), bnd_eq, e6, ← nI_succ]
section
variable {b : Nat → Int32} {n : Nat}
theorem m_b62 (hn : n ≤ 400) {M : Sg} {t X L p : Nat} (ht : t < 6) (hX : X + 4 < 360) (hM : MqR b n M p) (h11 : M.1 11 = nI t) (hL : M.2.1 4 t = nI L) (p1 : Int32) : (qwd b n (qsp b n p) ≠ 26982 → f_X12_isDoingHere_b62 p1 (nI X) M = f_X12_isDoingHere_b124 p1 (nI X) (sI (sA (sA M 5 (X + 2) (nI L)) 5 (X + 3) (-1)) 8 (nI (qsp b n p)))) ∧ (qwd b n (qsp b n p) = 26982 → f_X12_isDoingHere_b62 p1 (nI X) M = ob2 (f_X12_tested (sA (sI (sA (sA M 5 (X + 2) (nI L)) 5 (X + 3) (-1)) 8 (nI (qte b n (qsp b n p)))) 5 (X + 3) (nI L))) fun r116 M_116 => if (bI r116) = 0 then (some (false, M_116)) else (f_X12_isDoingHere_b124 p1 (nI X) M_116)) := by
  have hle := qsp_le (b := b) hM.2.2.2
  have hM2 : MqR b n (sA (sA M 5 (X + 2) (nI L)) 5 (X + 3) (-1)) p := hM
  have hs := qsp_sp (b := b) (n := n) hM.2.2.2
  have hM3 : MqR b n (sI (sA (sA M 5 (X + 2) (nI L)) 5 (X + 3) (-1)) 8 (nI (qsp b n p))) (qsp b n p) := hM2.s8 hle
  have iF : f_X12_isWord (sA (sA M 5 (X + 2) (nI L)) 5 (X + 3) (-1)) (26982 : Int64) = some (decide (qwd b n (qsp b n p) = 26982), sI (sA (sA M 5 (X + 2) (nI L)) 5 (X + 3) (-1)) 8 (nI (qsp b n p))) := m_isWord hM2 hn (c := 26982) (by omega) (by omega)
  have hb : f_X12_isDoingHere_b62 p1 (nI X) M = ob2 (f_X12_takesWord (sA (sA M 5 (X + 2) (nI L)) 5 (X + 3) (-1)) (26982 : Int64)) fun r92 M_92 => if (bI r92) = 0 then (f_X12_isDoingHere_b124 p1 (nI X) M_92) else (ixd (M_92.1 11) 7 fun i113 => ixd (nI X + 3) 360 fun i114 => bnd (sA M_92 5 i114 (M_92.2.1 4 i113)) fun M_114 => ob2 (f_X12_tested M_114) fun r116 M_116 => if (bI r116) = 0 then (some (false, M_116)) else (f_X12_isDoingHere_b124 p1 (nI X) M_116)) := by
    unfold f_X12_isDoingHere_b62
    rw [h11, ixd_nI (by omega) (by omega), show nI X + 2 = nI (X + 2) from nI_add X 2, ixd_nI (by omega) (by omega), hL, bnd_eq, show nI X + 3 = nI (X + 3) from nI_add X 3, ixd_nI (by omega) (by omega), bnd_eq]
  rw [hb]
  unfold f_X12_takesWord
  rw [iF, ob2_s]
  dsimp only
  refine ⟨fun h => ?_, fun h => ?_⟩
  · rw [decide_eq_false h, itF, ob2_s]
    dsimp only
    rw [itF]
  · have hlt : qlt b n (qsp b n p) = true := qwd_nz (by rw [h]; decide) hle
    rw [decide_eq_true h, itT, m_passWord hM3 hn, ob1_s, ob2_s, sI_sI, ← qte_w hlt]
    dsimp only
    have e11 : (sI (sA (sA M 5 (X + 2) (nI L)) 5 (X + 3) (-1)) 8 (nI (qte b n (qsp b n p)))).1 11 = nI t := h11
    have eL : (sI (sA (sA M 5 (X + 2) (nI L)) 5 (X + 3) (-1)) 8 (nI (qte b n (qsp b n p)))).2.1 4 t = nI L := hL
    rw [itT, e11, ixd_nI (by omega) (by omega), show nI X + 3 = nI (X + 3) from nI_add X 3, ixd_nI (by omega) (by omega), bnd_eq, eL]
theorem m_doing (hn : n ≤ 400) {M : Sg} {t c L P : Nat} (ht : t < 6) (hc : c < 12) (hM : MqR b n M P) (h11 : M.1 11 = nI t) (hL : M.2.1 4 t = nI L) (h6 : M.2.1 6 t = nI c) (hlt : qlt b n P = true) (kd : Int32) : f_X12_isDoingHere M kd = (if kd = 2 then (f_X12_isDoingHere_b62 kd (nI (60 * t + 5 * c)) (sA (sA (sI M 8 (nI (qte b n P))) 5 (60 * t + 5 * c) kd) 5 (60 * t + 5 * c + 1) (nI L))) else (ob2 (f_X12_sum (sA (sA (sI M 8 (nI (qte b n P))) 5 (60 * t + 5 * c) kd) 5 (60 * t + 5 * c + 1) (nI L))) fun r54 M_54 => if (bI r54) = 0 then (some (false, M_54)) else (f_X12_isDoingHere_b62 kd (nI (60 * t + 5 * c)) M_54))) := by
  have e11 : (sI M 8 (nI (qte b n P))).1 11 = nI t := h11
  have e6 : (sI M 8 (nI (qte b n P))).2.1 6 t = nI c := h6
  have ex : (60 : Int32) * nI t + 5 * nI c = nI (60 * t + 5 * c) := by
    rw [show (60 : Int32) = nI 60 from rfl, show (5 : Int32) = nI 5 from rfl, nI_mul, nI_mul, nI_add]
  have e11' : (sA (sI M 8 (nI (qte b n P))) 5 (60 * t + 5 * c) kd).1 11 = nI t := h11
  have eL : (sA (sI M 8 (nI (qte b n P))) 5 (60 * t + 5 * c) kd).2.1 4 t = nI L := hL
  unfold f_X12_isDoingHere
  rw [m_passWord hM hn, ob1_s, ← qte_w hlt, e11, ixd_nI ht (by omega), bnd_eq, e6, ex, ixd_nI (by omega) (by omega), bnd_eq, e11', ixd_nI (by omega) (by omega), show nI (60 * t + 5 * c) + 1 = nI (60 * t + 5 * c + 1) from nI_add _ 1, ixd_nI (by omega) (by omega), bnd_eq, eL]
end
