/-! RULE: St_rule -/
theorem gD {l : List Nat} {i : Nat} (hi : i < l.length) : l[i]? = some (l.getD i 0) := by
  rw [List.getElem?_eq_getElem hi, List.getD_eq_getElem?_getD, List.getElem?_eq_getElem hi]; rfl
theorem wfe_wfl {l : List Nat} : ∀ (k i : Nat) (st : List Bool), i + k ≤ l.length → wfe (fun i => l.getD i 0) k i st = wfl ((l.drop i).take k) st := by
  intro k
  induction k with
  | zero => intro i st _; rw [List.take_zero]; rfl
  | succ k ih =>
    intro i st h
    have hi : i < l.length := by omega
    have e : l.getD i 0 = l[i] := by
      have h1 := gD hi
      rw [List.getElem?_eq_getElem hi] at h1
      exact (Option.some.inj h1).symm
    rw [List.drop_eq_getElem_cons hi, List.take_succ_cons]
    show (match tyS (l.getD i 0) st with | none => none | some st' => wfe (fun i => l.getD i 0) k (i + 1) st') = (match tyS l[i] st with | none => none | some st' => wfl ((l.drop (i + 1)).take k) st')
    rw [e]
    cases tyS l[i] st with
    | none => rfl
    | some st' => exact ih (i + 1) st' (by omega)
theorem RlR_congr {U : Sg} {ln : Nat → Nat} {sg cl sg' cl' : Nat → Int32} {nc0 : Int32} (h : RlR U ln sg cl nc0) (hs : ∀ i, i < 400 → sg' i = sg i) (hc : ∀ i, i < 60 → cl' i = cl i) : RlR U ln sg' cl' nc0 := by
  obtain ⟨len, nc, y, kd, se, te, h1, h2, h3, h4, h5, h6⟩ := h
  refine ⟨len, nc, y, kd, se, te, h1, h2, h3, h4, fun i hi => ?_, fun c hcc => ?_⟩
  · rw [hs i (by omega)]; exact h5 i hi
  · rw [hc _ (by omega), hc _ (by omega), hc _ (by omega), hc _ (by omega), hc _ (by omega)]
    exact h6 c hcc
theorem RlR_new {t c : Nat} {l : List Nat} {kd se te : Nat → Nat} {M' K : Sg} (hl : l.length ≤ 400) (hc : c ≤ 12) (hM : cdM t l M') (hX : cdX l K) (h6 : M'.2.1 6 t = nI c) (hCK : ∀ k, k < c → CK t l kd se te k (M'.2.1 5) K) : RlR (ruS K) (rnU l.length c) (fun i => M'.2.1 3 (400 * t + i)) (fun i => M'.2.1 5 (60 * t + i)) (M'.2.1 6 t) := by
  refine ⟨l.length, c, fun i => l.getD i 0, kd, se, te, hl, hc, ⟨rfl, rfl, rfl, rfl⟩, h6, fun i hi => ?_, fun k hk => ?_⟩
  · have e := gD hi
    refine ⟨?_, (hM.2.2 i _ e).1, (hM.2.2 i _ e).2⟩
    show (if i < 400 then K.2.1 0 i else 0) = _
    rw [if_pos (by omega)]; exact hX.2 i _ e
  · obtain ⟨⟨v1, v2, v3, v4⟩, ⟨v5, v6, v7⟩, ⟨v8, v9, v10, v11, v12⟩, v13, v14⟩ := hCK k hk
    refine ⟨⟨v1, v2, v3, v4⟩, ⟨?_, ?_, ?_⟩, ⟨v8, v9, v10, v11, v12⟩, fun h => ?_, fun h => ?_⟩
    · show (if k < 12 then K.2.1 2 k else 0) = _
      rw [if_pos (by omega)]; exact v5
    · show (if k < 12 then K.2.1 3 k else 0) = _
      rw [if_pos (by omega)]; exact v6
    · show (if k < 12 then K.2.1 4 k else 0) = _
      rw [if_pos (by omega)]; exact v7
    · rw [wfe_wfl _ _ _ (by omega), ← List.drop_take]; exact v13 h
    · rw [wfe_wfl _ _ _ (by omega), ← List.drop_take]; exact v14 h
/-- both read a RULE -/
theorem rk_read {b : Nat → Int32} {n t : Nat} (hn : n ≤ 400) (hB : ∀ i, i < n → isB (b i)) (ht : t < 6) {M K Q : Sg} (hTL : TL b n Q) (h1 : M.1 1 = nI n) (hb : ∀ i, i < n → M.2.1 0 i = b i) (h11 : M.1 11 = nI t) (h6 : M.2.1 6 t = nI 0) : Wp (f_X5_read K Q) (fun o => RkA t (sI (sI (sI (sI (sA M 4 t 0) 14 0) 8 0) 9 0) 12 0) (f_X12_readsAll M) o) := by
  have er : f_X12_readsAll M = ob2 (f_X12_clauseHere (sI (sI (sI (sI (sA M 4 t 0) 14 0) 8 0) 9 0) 12 0)) fun r31 M_31 => fl2 (f_X12_readsAll_b35) FU (bI r31) M_31 := by
    unfold f_X12_readsAll
    rw [h11, ixd_nI (by omega) (by omega)]
    rfl
  rw [er]
  unfold f_X5_read
  rw [wp_bnd, wp_bnd, wp_bnd, wp_ob1]
  refine wp_mono (x_open hTL hn) (fun Q1 hQ1 => ?_)
  rw [wp_ob2]
  have hCS : CS b n t 0 [] (fun _ => 0) (fun _ => 0) (fun _ => 0) 0 (sI (sI (sI (sI (sA M 4 t 0) 14 0) 8 0) 9 0) 12 0) (sI (sI (sI K 1 0) 5 0) 7 0) Q1 0 := by
    refine ⟨⟨⟨⟨h1, hb, rfl, Nat.zero_le _⟩, hQ1⟩, rfl, ⟨⟨h11, ?_, fun i y h => by cases h⟩, ⟨rfl, fun i y h => by cases h⟩⟩, ⟨rfl, rfl, by omega⟩, Nat.le_refl _, Nat.le_refl _, rfl, Nat.le_refl _⟩, ⟨rfl, h6, rfl, by omega⟩, rfl, fun k hk => by omega⟩
    show (if t = t then (0 : Int32) else _) = nI 0
    rw [if_pos rfl]; rfl
  refine wp_mono (rk_clause hn hB ht hCS) ?_
  rintro ⟨K2, Q2⟩ ⟨r, M3, q1, q2, q3⟩
  dsimp only at q3 ⊢
  rw [q1, ob2_s]
  dsimp only
  rcases q3 with ⟨rfl, g1, l', kd', se', te', a', p', g2⟩ | ⟨rfl, g2, g3⟩
  · exact rk_all hn hB ht 12 FU FU 1 K2 Q2 M3 p' l' kd' se' te' a' (FU_lt (by omega)) (FU_lt (by omega)) (by omega) (by omega) (by omega) g2 q2
  · have e0 : fl2 f_X12_readsAll_b35 FU (bI false) M3 = some (false, sI M3 1 0) := m_readE g2 (FU_lt (by omega))
    rw [e0]
    refine wp_mono (x_rreadE (k := 1) g2 (FU_lt (by omega)) (by omega) g3) ?_
    rintro ⟨o1, o2, o3⟩ ⟨u1, u2⟩
    dsimp only at u1 u2
    subst u1
    exact ⟨_, rfl, q2.r5, u2.f2, fun h => by cases h⟩
theorem st_rule : St_rule RR := by
  intro s M hR
  have hR0 := hR
  obtain ⟨hTp, ⟨d, m, n, a, π, hW, hH⟩, hI, u1, u2, u3, u4⟩ := hR
  by_cases c6 : s.2.2.2 = 6
  · refine Or.inl ⟨M, by rw [u2, c6]; decide, ?_, hR0⟩
    unfold f_X12_rule
    rw [u3, c6, if_pos (show nI 6 = (6 : Int32) from rfl)]
  · have ht : s.2.2.2 < 6 := by omega
    refine Or.inr ?_
    obtain ⟨nb, hnb, q1, l1, htp⟩ := hTp
    have hB : ∀ i, i < nb → isB (M.2.1 0 i) := fun i hi => (htp i hi).2
    have er : f_X12_rule M = ob2 (f_X12_readsAll (sA (sI M 11 (nI s.2.2.2)) 6 s.2.2.2 0)) fun r30 M_30 => if (bI r30) = 0 then (some (((-2) - (M_30.1 9)), M_30)) else (bnd (sI M_30 2 ((M_30.1 2) + 1)) fun M_51 => some (((M_51.1 2) - 1), M_51)) := by
      have e11 : (sI M 11 (nI s.2.2.2)).1 11 = nI s.2.2.2 := rfl
      unfold f_X12_rule
      rw [u3, if_neg (show ¬ nI s.2.2.2 = 6 by rw [show (6 : Int32) = nI 6 from rfl, nI_eq (by omega) (by omega)]; exact c6), bnd_eq, e11, ixd_nI ht (by omega), bnd_eq]
    have e6 : (sA (sI M 11 (nI s.2.2.2)) 6 s.2.2.2 0).2.1 6 s.2.2.2 = nI 0 := by
      show (if s.2.2.2 = s.2.2.2 then (0 : Int32) else _) = nI 0
      rw [if_pos rfl]; rfl
    obtain ⟨⟨o1, oK, oQ⟩, k1, M', g1, g2, g3, g4⟩ := rk_read (b := M.2.1 0) (t := s.2.2.2) (M := sA (sI M 11 (nI s.2.2.2)) 6 s.2.2.2 0) (K := s.1 11) (Q := s.1 1) hnb hB ht ⟨q1, fun i hi => (htp i hi).1⟩ l1 (fun i hi => rfl) rfl e6
    dsimp only at g1 g3 g4
    rw [g1, ob2_s] at er
    dsimp only at er
    have i2 : M'.1 2 = M.1 2 := g2.2.1 2 (by omega) (by omega) (by omega) (by omega) (by omega) (by omega) (by omega) (by omega)
    have i21 : M'.1 21 = M.1 21 := g2.2.1 21 (by omega) (by omega) (by omega) (by omega) (by omega) (by omega) (by omega) (by omega)
    have i23 : M'.1 23 = M.1 23 := g2.2.1 23 (by omega) (by omega) (by omega) (by omega) (by omega) (by omega) (by omega) (by omega)
    have p20 : M'.2.1 20 = M.2.1 20 := g2.1.2.1 20 (by omega) (by omega) (by omega) (by omega) (by omega)
    have p22 : M'.2.1 22 = M.2.1 22 := g2.1.2.1 22 (by omega) (by omega) (by omega) (by omega) (by omega)
    have p36 : M'.2.1 36 = M.2.1 36 := g2.1.2.1 36 (by omega) (by omega) (by omega) (by omega) (by omega)
    have p37 : M'.2.1 37 = M.2.1 37 := g2.1.2.1 37 (by omega) (by omega) (by omega) (by omega) (by omega)
    have p38 : M'.2.1 38 = M.2.1 38 := g2.1.2.1 38 (by omega) (by omega) (by omega) (by omega) (by omega)
    have p3 : ∀ i, i < 400 * s.2.2.2 → M'.2.1 3 i = M.2.1 3 i := g2.1.2.2.1
    have p5 : ∀ i, i < 60 * s.2.2.2 → M'.2.1 5 i = M.2.1 5 i := g2.1.2.2.2.1
    have p6 : ∀ i, i < s.2.2.2 → M'.2.1 6 i = M.2.1 6 i := by
      intro i hi
      rw [g2.1.2.2.2.2 i hi]
      show (if i = s.2.2.2 then (0 : Int32) else M.2.1 6 i) = _
      rw [if_neg (by omega)]
    have hold : ∀ j, j < s.2.2.2 → RlR (s.2.1 5 j) (s.2.2.1 j) (fun i => M'.2.1 3 (400 * j + i)) (fun i => M'.2.1 5 (60 * j + i)) (M'.2.1 6 j) := by
      intro j hj
      rw [p6 j hj]
      exact RlR_congr (u4 j hj) (fun i hi => p3 _ (by omega)) (fun i hi => p5 _ (by omega))
    cases o1 with
    | false =>
      rw [itF, ← g3] at er
      refine Or.inl ⟨oK, oQ, M', by rw [u2]; exact nI_lt (b := 6) ht (by omega), k1, er, ?_⟩
      unfold RR
      rw [i2, i21, i23, p20, p22, p36, p37, p38]
      exact ⟨⟨0, by omega, rfl, g2.2.2, fun i hi => by omega⟩, ⟨d, m, n, a, π, hW, hH⟩, hI, u1, u2, u3, hold⟩
    | true =>
      obtain ⟨c, l, kd, se, te, h1, h2, h3, h4, h5, h6, h7⟩ := g4 rfl
      have e2 : (sI M' 2 (M'.1 2 + 1)).1 2 = nI (s.2.2.2 + 1) := by
        show M'.1 2 + 1 = _
        rw [i2, u3, ← nI_succ]
      rw [itT, bnd_eq, e2, show nI (s.2.2.2 + 1) - 1 = nI s.2.2.2 from nI_pred _] at er
      refine Or.inr ⟨oK, oQ, _, l.length, c, u2, ht, h2, h1, h4.1, h5, k1, er, ?_⟩
      have r2 : (sI M' 2 (M'.1 2 + 1)).2 = M'.2 := rfl
      have r1 : (sI M' 2 (M'.1 2 + 1)).1 1 = 0 := g2.2.2
      have r21 : (sI M' 2 (M'.1 2 + 1)).1 21 = M.1 21 := i21
      have r23 : (sI M' 2 (M'.1 2 + 1)).1 23 = M.1 23 := i23
      unfold RR
      rw [r2, r21, r23, p20, p22, p36, p37, p38, e2]
      refine ⟨⟨0, by omega, rfl, r1, fun i hi => by omega⟩, ⟨d, m, n, a, π, hW, hH⟩, hI, by show s.2.2.2 + 1 ≤ 6; omega, rfl, rfl, fun j hj => ?_⟩
      have hj' : j < s.2.2.2 + 1 := hj
      by_cases ej : j = s.2.2.2
      · subst ej
        have f1 : (sRu s oK (sI oQ 1 0) l.length c).2.1 5 s.2.2.2 = ruS oK := by
          show (if s.2.2.2 = s.2.2.2 then ruS oK else _) = _
          rw [if_pos rfl]
        have f2 : (sRu s oK (sI oQ 1 0) l.length c).2.2.1 s.2.2.2 = rnU l.length c := by
          show (if s.2.2.2 = s.2.2.2 then rnU l.length c else _) = _
          rw [if_pos rfl]
        rw [f1, f2]
        exact RlR_new h2 h1 h3 h4 h6 h7
      · have f1 : (sRu s oK (sI oQ 1 0) l.length c).2.1 5 j = s.2.1 5 j := by
          show (if j = s.2.2.2 then ruS oK else s.2.1 5 j) = _
          rw [if_neg ej]
        have f2 : (sRu s oK (sI oQ 1 0) l.length c).2.2.1 j = s.2.2.1 j := by
          show (if j = s.2.2.2 then rnU l.length c else s.2.2.1 j) = _
          rw [if_neg ej]
        rw [f1, f2]
        exact hold j (by omega)
