/-! LINE: DEST and TRAIN -/
section
variable {b : Nat → Int32} {n : Nat} {M Q : Sg} {p : Nat}
theorem x_destE (hn : n ≤ 400) {f : Int32} (hf : f ≠ 0) {nn : Nat} (h8 : nn ≤ 8) {O : Sg} : ∀ (m N i : Nat) (Q T : Sg), m < N → i + m = nn → T.1 0 = nI nn → TQ b n Q n f → Wp (fl4 (f_X1_readOther_b79 1) N (nI i) Q T O) (fun o => TQ b n o.1 n f) := by
  intro m
  induction m with
  | zero =>
    intro N i Q T hN hi hT hQ
    cases N with
    | zero => omega
    | succ N =>
      show Wp (f_X1_readOther_b79 1 (fl4 (f_X1_readOther_b79 1) N) (nI i) Q T O) _
      unfold f_X1_readOther_b79
      rw [hT, if_pos (nI_le (by omega) (by omega))]
      exact wp_some.mpr hQ
  | succ m ih =>
    intro N i Q T hN hi hT hQ
    cases N with
    | zero => omega
    | succ N =>
      show Wp (f_X1_readOther_b79 1 (fl4 (f_X1_readOther_b79 1) N) (nI i) Q T O) _
      unfold f_X1_readOther_b79
      obtain ⟨Q', e1, e2⟩ := x_tnE hn hQ hf 0 3
      rw [hT, if_neg (nI_ge (by omega) (by omega)), e1, ob2_s]
      dsimp only
      rw [ixd_nI (by omega) (by omega), wp_bnd, wp_bnd, ← nI_succ]
      exact ih N (i + 1) Q' _ (by omega) (by omega) hT e2
theorem lk_dest1 (hn : n ≤ 400) {nn st rd tb sh P : Nat} {O L M0 : Sg} (h0 : 0 < nn) : ∀ (m N N2 i : Nat) (Q T M : Sg) (p : Nat), m < N → m < N2 → i + m = nn → LnR nn st rd tb sh T O L (M.2.1 7) → kz M0 M → M.1 9 = 0 → TQ b n Q (qsp b n p) 0 → MqR b n M p → Wp (fl4 (f_X1_readOther_b79 1) N (nI i) Q T O) (fun o => Lk b n M0 (fl2 (f_X12_isDestHere_b32 (nI P)) N2 (nI i) M) o.1 (fun M' => LnR nn st rd tb sh o.2.1 o.2.2 L (M'.2.1 7))) := by
  intro m
  induction m with
  | zero =>
    intro N N2 i Q T M p hN hN2 hi hL hz h9 hQ hM
    cases N with
    | zero => omega
    | succ N =>
      cases N2 with
      | zero => omega
      | succ N2 =>
        show Wp (f_X1_readOther_b79 1 (fl4 (f_X1_readOther_b79 1) N) (nI i) Q T O) (fun o => Lk b n M0 (f_X12_isDestHere_b32 (nI P) (fl2 (f_X12_isDestHere_b32 (nI P)) N2) (nI i) M) o.1 _)
        have h8 := hL.1.2.2.1
        unfold f_X1_readOther_b79 f_X12_isDestHere_b32
        rw [hL.1.1.1, hL.1.2.1.1, if_pos (nI_le (by omega) (by omega)), if_pos (nI_le (by omega) (by omega))]
        exact wp_some.mpr ⟨true, M, rfl, hz, Or.inl ⟨rfl, h9, ⟨p, hM, hQ⟩, hL⟩⟩
  | succ m ih =>
    intro N N2 i Q T M p hN hN2 hi hL hz h9 hQ hM
    cases N with
    | zero => omega
    | succ N =>
      cases N2 with
      | zero => omega
      | succ N2 =>
        show Wp (f_X1_readOther_b79 1 (fl4 (f_X1_readOther_b79 1) N) (nI i) Q T O) (fun o => Lk b n M0 (f_X12_isDestHere_b32 (nI P) (fl2 (f_X12_isDestHere_b32 (nI P)) N2) (nI i) M) o.1 _)
        have h8 := hL.1.2.2.1
        unfold f_X1_readOther_b79 f_X12_isDestHere_b32
        rw [hL.1.1.1, hL.1.2.1.1, if_neg (nI_ge (by omega) (by omega)), if_neg (nI_ge (by omega) (by omega)), show (10 : Int32) = nI 10 from rfl, nI_add]
        rcases lk_cell hn hQ hM h9 (j := 10 + i) (by omega) 0 3 (by decide) with ⟨v, Q1, q, M2, a1, a2, a3, a4, a5, a6, a7, a8, a9⟩ | ⟨Q1, M2, a1, a2, a3, a4, a5⟩
        · obtain ⟨x, rfl, x1, x2⟩ := rg_nat (a := 0) (k := 3) (by omega) (by omega) a3 a4
          rw [a1, ob2_s, a2, ob2_s]
          dsimp only
          rw [itT, ixd_nI (by omega) (by omega), wp_bnd, wp_bnd, bnd_eq, ← nI_succ]
          refine ih N N2 (i + 1) Q1 _ M2 q (by omega) (by omega) (by omega) ?_ (hz.tr a8) a7 a5 a6
          obtain ⟨⟨⟨t0, t1, t2⟩, ⟨r0, r1, r2⟩, l8, l6, l66, l2, l0⟩, L2, ⟨L31, L32⟩, L4, L5⟩ := hL
          refine ⟨⟨⟨t0, t1, t2⟩, ⟨?_, ?_, ?_⟩, l8, l6, l66, l2, l0⟩, ?_, ⟨?_, fun c hc => ?_⟩, ?_, ?_⟩
          · rw [a9, if_neg (by omega)]; exact r0
          · rw [a9, if_neg (by omega)]; exact r1
          · rw [a9, if_neg (by omega)]; exact r2
          · exact Ln2_c (T := T) L2 (fun i h1 h2 => by rw [a9, if_neg (by omega)])
          · rw [a9, if_neg (by omega), a9, if_neg (by omega)]; exact L31
          · obtain ⟨⟨g1, g2, g3⟩, g4, g5⟩ := L32 c hc
            have u : (sA T 6 i (nI x)).2.1 6 c = if c = i then nI x else T.2.1 6 c := rfl
            rw [u]
            refine ⟨⟨?_, g2, g3⟩, fun hh => ⟨?_, ?_, fun h7 => ⟨?_, ?_⟩⟩, fun hh => absurd hh (by omega)⟩
            · by_cases cx : c = i
              · rw [if_pos cx]; exact ⟨x, rfl, by omega, x2⟩
              · rw [if_neg cx]; exact g1
            · rw [a9]
              by_cases cx : c = i
              · rw [if_pos cx, if_pos (by omega)]
              · rw [if_neg cx, if_neg (by omega)]; exact (g4 hh).1
            · rw [a9, if_neg (by omega)]; exact (g4 hh).2.1
            · rw [a9, if_neg (by omega)]; exact ((g4 hh).2.2 h7).1
            · rw [a9, if_neg (by omega)]; exact ((g4 hh).2.2 h7).2
          · exact Ln4_c (T := T) L4 l6 (fun i h1 h2 => by rw [a9, if_neg (by omega)])
          · exact Ln5_c (T := T) L5 (fun i h1 => by rw [a9, if_neg (by omega)])
        · rw [a1, ob2_s, a2, ob2_s]
          dsimp only
          rw [itF, ixd_nI (by omega) (by omega), wp_bnd, wp_bnd, ← nI_succ]
          refine wp_mono (x_destE (b := b) hn a4 h8 m N (i + 1) Q1 _ (by omega) (by omega) hL.1.1.1 a5) (fun o ho => ?_)
          exact ⟨false, M2, rfl, hz.tr a3, Or.inr ⟨rfl, a4, ho⟩⟩
theorem lk_dest (hn : n ≤ 400) {nn st rd tb sh P : Nat} {T O L : Sg} (hL : LnR nn st rd tb sh T O L (M.2.1 7)) (h0 : 0 < nn) (hb1 : tb.testBit 1 = false) {P0 : Nat} (hM0 : MqR b n M P0) (hp : qlE b n P0 = p) (hpn : p ≤ n) (h9 : M.1 9 = 0) (hQ : TQ b n Q (qsp b n p) 0) : Wp (f_X1_readOther Q T O 1) (fun o => Lk b n M (f_X12_isDestHere M (nI P)) o.1 (fun M' => LnR nn st rd (tb ||| 2 ^ 1) sh o.2.1 o.2.2 (sI L 2 (nI (tb ||| 2 ^ 1))) (M'.2.1 7))) := by
  have hL0 := hL
  obtain ⟨⟨⟨t0, t1, t2⟩, ⟨r0, r1, r2⟩, l8, l6, l66, l2, l0⟩, ⟨⟨i1, i2, i3⟩, i4, i5, i6, i7, i8⟩, L3, L4, L5⟩ := hL
  have ec : f_X1_readOther Q T O 1 = fl4 (f_X1_readOther_b79 1) FU (nI 0) Q T O := rfl
  have hMs : MqR b n (sA M 7 7 1) P0 := hM0
  have er : f_X12_isDestHere M (nI P) = fl2 (f_X12_isDestHere_b32 (nI P)) FU (nI 0) (sI (sA M 7 7 1) 8 (nI p)) := by
    unfold f_X12_isDestHere
    rw [i4, hb1, if_neg (by decide), bnd_eq, m_passWord hMs hn, ob1_s, hp]
    rfl
  rw [ec, er]
  have e : ∀ k, k ≠ 1 → (tb ||| 2 ^ 1).testBit k = tb.testBit k := by
    intro k hk; rw [tb_or, decide_eq_false (fun q => hk q.symm), Bool.or_false]
  have e3 : (tb ||| 2 ^ 1).testBit 1 = true := by rw [tb_or, decide_eq_true rfl, Bool.or_true]
  have mo : ∀ i, (sI (sA M 7 7 1) 8 (nI p)).2.1 7 i = if i = 7 then 1 else M.2.1 7 i := fun i => rfl
  refine lk_dest1 hn h0 nn FU FU 0 Q T _ p (FU_lt (by omega)) (FU_lt (by omega)) (by omega) ?_ ((kz.a _ _ _).tr (kz.s _ (Or.inl rfl) _)) h9 hQ (hMs.s8 hpn)
  refine ⟨⟨⟨t0, t1, t2⟩, ⟨?_, ?_, ?_⟩, l8, l6, l66, l2, l0⟩, ?_, ?_, ?_, ?_⟩
  · rw [mo, if_neg (by omega)]; exact r0
  · rw [mo, if_neg (by omega)]; exact r1
  · rw [mo, if_neg (by omega)]; exact r2
  · unfold Ln2
    have f7 : (sI (sA M 7 7 1) 8 (nI p)).2.1 7 7 = 1 := rfl
    have f4 : (sI (sA M 7 7 1) 8 (nI p)).2.1 7 4 = M.2.1 7 4 := rfl
    have f5 : (sI (sA M 7 7 1) 8 (nI p)).2.1 7 5 = M.2.1 7 5 := rfl
    rw [e 0 (by omega), e3, e 3 (by omega), e 9 (by omega), f7, f4, f5]
    exact ⟨⟨rfl, tb_lt (k := 10) i2 (by omega), i3⟩, rfl, i5, i6, i7, i8⟩
  · exact Ln3_c (T := T) L3 (fun i h1 => by rw [mo, if_neg (by omega)])
  · exact Ln4_c (T := T) L4 l6 (fun i h1 h2 => by rw [mo, if_neg (by omega)])
  · exact Ln5_c (T := T) L5 (fun i h1 => by rw [mo, if_neg (by omega)])
theorem m_train {M2 : Sg} {P : Nat} {q : Nat} (hM : MqR b n M2 q) (h9 : M2.1 9 = 0) : Wp (fl2 (f_X12_isTrainHere_b35 (nI P)) FU 0 M2) (fun o => o.1 = true ∧ kz M2 o.2 ∧ MqR b n o.2 q ∧ o.2.1 9 = 0 ∧ (∀ c, c < 8 → o.2.2.1 7 (10 + c) = 0 ∧ o.2.2.1 7 (44 + c) = 4) ∧ (∀ c, c < 7 → o.2.2.1 7 (30 + c) = 0 ∧ o.2.2.1 7 (37 + c) = 0) ∧ ∀ i, ¬ (10 ≤ i ∧ i ≤ 17) → ¬ (30 ≤ i ∧ i ≤ 51) → o.2.2.1 7 i = M2.2.1 7 i) := by
  refine wp_fl2 (fun j x Z => ∃ i, j = 8 - i ∧ x = nI i ∧ i ≤ 8 ∧ kz M2 Z ∧ MqR b n Z q ∧ Z.1 9 = 0 ∧ (∀ c, c < i → Z.2.1 7 (10 + c) = 0 ∧ Z.2.1 7 (44 + c) = 4) ∧ ∀ i, ¬ (10 ≤ i ∧ i ≤ 17) → ¬ (44 ≤ i ∧ i ≤ 51) → Z.2.1 7 i = M2.2.1 7 i) ?_ 8 (FU_lt (by omega)) _ _ ⟨0, rfl, rfl, by omega, kz.rf _, hM, h9, fun c hc => by omega, fun _ _ _ => rfl⟩
  rintro j K _ Z ⟨i, rfl, rfl, hi, hz, hq, h9z, hc, ho⟩ ih
  unfold f_X12_isTrainHere_b35
  by_cases c : 8 ≤ i
  · have e8 : i = 8 := by omega
    subst e8
    rw [if_pos (show (8 : Int32) ≤ nI 8 by decide)]
    refine wp_fl2 (fun j x Y => ∃ i, j = 7 - i ∧ x = nI i ∧ i ≤ 7 ∧ kz M2 Y ∧ MqR b n Y q ∧ Y.1 9 = 0 ∧ (∀ c, c < i → Y.2.1 7 (30 + c) = 0 ∧ Y.2.1 7 (37 + c) = 0) ∧ ∀ i, ¬ (30 ≤ i ∧ i ≤ 43) → Y.2.1 7 i = Z.2.1 7 i) ?_ 7 (FU_lt (by omega)) _ _ ⟨0, rfl, rfl, by omega, hz, hq, h9z, fun c hc => by omega, fun _ _ => rfl⟩
    rintro j K2 _ Y ⟨k, rfl, rfl, hk, yz, yq, y9, yc, yo⟩ ih2
    unfold f_X12_isTrainHere_b69
    by_cases c7 : 7 ≤ k
    · have e7 : k = 7 := by omega
      subst e7
      rw [if_pos (show (7 : Int32) ≤ nI 7 by decide)]
      refine wp_some.mpr ⟨rfl, yz, yq, y9, fun c h8 => ?_, fun c h7 => yc c h7, fun i h1 h2 => ?_⟩
      · dsimp only
        rw [yo _ (by omega), yo _ (by omega)]; exact hc c h8
      · dsimp only
        rw [yo _ (by omega)]; exact ho i h1 (by omega)
    · rw [if_neg (show ¬ (7 : Int32) ≤ nI k from nI_ge (b := 7) (by omega) (by omega)), show (30 : Int32) = nI 30 from rfl, show (37 : Int32) = nI 37 from rfl, nI_add, nI_add, ixd_nI (by omega) (by omega), wp_bnd, ixd_nI (by omega) (by omega), wp_bnd, wp_bnd, ← nI_succ]
      have mo : ∀ i, (sA (sA Y 7 (30 + k) 0) 7 (37 + k) 0).2.1 7 i = if i = 37 + k then 0 else if i = 30 + k then 0 else Y.2.1 7 i := fun i => rfl
      refine ih2 _ _ _ (by omega) ⟨k + 1, rfl, rfl, by omega, (yz.tr (kz.a _ _ _)).tr (kz.a _ _ _), yq, y9, fun c h => ?_, fun i h => ?_⟩
      · rw [mo, mo]
        by_cases cx : c = k
        · subst cx; rw [if_neg (by omega), if_pos rfl, if_pos rfl]; exact ⟨rfl, rfl⟩
        · have := yc c (by omega)
          refine ⟨?_, ?_⟩
          · by_cases c9 : 30 + c = 37 + k
            · rw [if_pos c9]
            · rw [if_neg c9, if_neg (by omega)]; exact this.1
          · rw [if_neg (by omega)]
            by_cases c9 : 37 + c = 30 + k
            · rw [if_pos c9]
            · rw [if_neg c9]; exact this.2
      · rw [mo, if_neg (by omega), if_neg (by omega)]; exact yo i h
  · rw [if_neg (show ¬ (8 : Int32) ≤ nI i from nI_ge (b := 8) (by omega) (by omega)), show (10 : Int32) = nI 10 from rfl, show (44 : Int32) = nI 44 from rfl, nI_add, nI_add, ixd_nI (by omega) (by omega), wp_bnd, ixd_nI (by omega) (by omega), wp_bnd, wp_bnd, ← nI_succ]
    have mo : ∀ k, (sA (sA Z 7 (10 + i) 0) 7 (44 + i) 4).2.1 7 k = if k = 44 + i then 4 else if k = 10 + i then 0 else Z.2.1 7 k := fun k => rfl
    refine ih _ _ _ (by omega) ⟨i + 1, rfl, rfl, by omega, (hz.tr (kz.a _ _ _)).tr (kz.a _ _ _), hq, h9z, fun c h => ?_, fun k h1 h2 => ?_⟩
    · rw [mo, mo, if_neg (by omega)]
      by_cases cx : c = i
      · subst cx; rw [if_pos rfl, if_pos rfl]; exact ⟨rfl, rfl⟩
      · rw [if_neg (by omega), if_neg (by omega), if_neg (by omega)]; exact hc c (by omega)
    · rw [mo, if_neg (by omega), if_neg (by omega)]; exact ho k h1 h2
theorem lk_train (hn : n ≤ 400) {st rd tb sh P : Nat} {T O L M1 : Sg} (hL : LnR 0 st rd tb sh T O L (M.2.1 7)) (hpw : f_X12_passWord M = some M1) (hk : kq M M1) (h9 : M1.1 9 = 0) (hQ : TQ b n Q (qsp b n p) 0) (hM : MqR b n M1 p) : Wp (f_X1_readOther Q T O 0) (fun o => Lk b n M (f_X12_isTrainHere M (nI P)) o.1 (fun M' => ∃ nn, 0 < nn ∧ LnR nn st rd (tb ||| 2 ^ 0) sh o.2.1 o.2.2 (sI L 2 (nI (tb ||| 2 ^ 0))) (M'.2.1 7))) := by
  obtain ⟨⟨⟨t0, t1, t2⟩, ⟨r0, r1, r2⟩, l8, l6, l66, l2, l0⟩, ⟨⟨i1, i2, i3⟩, i4, i5, i6, i7, i8⟩, ⟨⟨g1, g2, g3, g4, g5, g6⟩, g7⟩, L4, L5⟩ := hL
  have e7 : M1.2.1 7 = M.2.1 7 := by rw [hk.1]
  have ec : f_X1_readOther Q T O 0 = ob2 (f_X8_takeNumber Q 2 8) fun r68 Q_68 => bnd (sI T 0 r68) fun T_71 => some (Q_68, T_71, O) := rfl
  have er : f_X12_isTrainHere M (nI P) = ob2 (f_X12_cellHere M1 (nI 0) 2 8) fun r25 M_25 => if (bI r25) = 0 then (some (false, M_25)) else (fl2 (f_X12_isTrainHere_b35 (nI P)) FU 0 M_25) := by
    unfold f_X12_isTrainHere
    rw [r0, if_pos (show nI 0 ≤ 0 by decide), hpw, ob1_s]
    rfl
  rw [ec, er]
  rcases lk_cell hn hQ hM h9 (j := 0) (by omega) 2 8 (by decide) with ⟨v, Q1, q, M2, a1, a2, a3, a4, a5, a6, a7, a8, a9⟩ | ⟨Q1, M2, a1, a2, a3, a4, a5⟩
  · obtain ⟨x, rfl, x1, x2⟩ := rg_nat (a := 2) (k := 8) (by omega) (by omega) a3 a4
    obtain ⟨⟨r, M3⟩, c1, c2, c3, c4, c5, c6, c7, c8⟩ := m_train (P := P) a6 a7
    dsimp only at c2 c3 c4 c5 c6 c7 c8
    subst c2
    rw [a1, ob2_s, a2, ob2_s]
    dsimp only
    rw [itT, c1]
    have hsh := g4 rfl
    have mo : ∀ i, i ≠ 0 → ¬ (10 ≤ i ∧ i ≤ 17) → ¬ (30 ≤ i ∧ i ≤ 51) → M3.2.1 7 i = M.2.1 7 i := fun i h0 h1 h2 => by rw [c8 i h1 h2, a9, if_neg h0, e7]
    have e : ∀ k, k ≠ 0 → (tb ||| 2 ^ 0).testBit k = tb.testBit k := by
      intro k hk; rw [tb_or, decide_eq_false (fun q => hk q.symm), Bool.or_false]
    have e3 : (tb ||| 2 ^ 0).testBit 0 = true := by rw [tb_or, decide_eq_true rfl, Bool.or_true]
    refine wp_some.mpr ⟨true, M3, rfl, (hk.z.tr a8).tr c3, Or.inl ⟨rfl, c5, ⟨q, c4, a5⟩, x, by omega, ⟨⟨rfl, t1, t2⟩, ⟨?_, ?_, ?_⟩, by omega, l6, l66, fun _ => by omega, fun h => by omega⟩, ?_, ⟨⟨g1, g2, g3, fun h => by omega, ?_, ?_⟩, fun c hc => ?_⟩, ?_, ?_⟩⟩
    · rw [c8 0 (by omega) (by omega), a9, if_pos rfl]
    · rw [mo _ (by omega) (by omega) (by omega)]; exact r1
    · rw [mo _ (by omega) (by omega) (by omega)]; exact r2
    · unfold Ln2
      rw [e3, e 1 (by omega), e 3 (by omega), e 9 (by omega), mo 7 (by omega) (by omega) (by omega), mo 4 (by omega) (by omega) (by omega), mo 5 (by omega) (by omega) (by omega)]
      exact ⟨⟨rfl, tb_lt (k := 10) i2 (by omega), (decide_eq_true (by omega)).symm⟩, i4, i5, i6, i7, i8⟩
    · rw [mo _ (by omega) (by omega) (by omega)]; exact g5
    · rw [mo _ (by omega) (by omega) (by omega)]; exact g6
    · obtain ⟨y1, y2, y3⟩ := g7 c hc
      obtain ⟨z1, z2, z3⟩ := y3 rfl
      refine ⟨y1, fun hh => ⟨?_, ?_, fun h7 => ⟨?_, ?_⟩⟩, fun h => by omega⟩
      · rw [(c6 c hc).1]; exact z1.symm
      · rw [(c6 c hc).2]; exact z2.symm
      · rw [(c7 c h7).2]; exact z3.symm
      · rw [(c7 c h7).1, hsh, Nat.zero_testBit]; rfl
    · exact Ln4_c (T := T) L4 l6 (fun i h1 h2 => mo i (by omega) (by omega) (by omega))
    · have hrd := l0 rfl
      subst hrd
      exact ⟨fun r hr => by omega, L5.2⟩
  · rw [a1, ob2_s, a2, ob2_s]
    dsimp only
    rw [itF]
    exact wp_some.mpr ⟨false, M2, rfl, hk.z.tr a3, Or.inr ⟨rfl, a4, a5⟩⟩
end
