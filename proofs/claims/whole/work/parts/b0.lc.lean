/-! LINE: the other clauses -/
theorem nI_or (a c : Nat) : nI a ||| nI c = nI (a ||| c) := by
  apply Int32.toBitVec_inj.mp
  rw [Int32.toBitVec_or]
  apply BitVec.eq_of_toNat_eq
  show (a % 2 ^ 32) ||| (c % 2 ^ 32) = (a ||| c) % 2 ^ 32
  rw [Nat.or_mod_two_pow]
theorem sh9 : ∀ (w : Fin 10), (1 : Int32) <<< (nI w &&& 31) = nI (2 ^ w.val) := by decide +kernel
theorem tb_or (tb w k : Nat) : (tb ||| 2 ^ w).testBit k = (tb.testBit k || decide (w = k)) := by
  rw [Nat.testBit_or, Nat.testBit_two_pow]
theorem tb_lt {tb w k : Nat} (h : tb < 2 ^ k) (hw : w < k) : (tb ||| 2 ^ w) < 2 ^ k := Nat.or_lt_two_pow h (Nat.pow_lt_pow_right (by omega) hw)
theorem Ln2_bit {nn st tb : Nat} {T L : Sg} {f : Nat → Int32} (h : Ln2 nn st tb T L f) {w : Nat} (hw : w < 10) (h0 : w ≠ 0 ∧ w ≠ 1 ∧ w ≠ 3 ∧ w ≠ 9) : Ln2 nn st (tb ||| 2 ^ w) T (sI L 2 (nI (tb ||| 2 ^ w))) f := by
  obtain ⟨⟨h1, h2, h3⟩, h4, h5, h6, h7, h8⟩ := h
  have e : ∀ k, k ≠ w → (tb ||| 2 ^ w).testBit k = tb.testBit k := by
    intro k hk; rw [tb_or, decide_eq_false (fun q => hk q.symm), Bool.or_false]
  unfold Ln2
  rw [e 0 (by omega), e 1 (by omega), e 3 (by omega), e 9 (by omega)]
  exact ⟨⟨rfl, tb_lt (k := 10) h2 hw, h3⟩, h4, h5, h6, h7, h8⟩
section
variable {b : Nat → Int32} {n : Nat} {M Q : Sg} {p : Nat}
theorem lk_nm (hn : n ≤ 400) (hQ : TQ b n Q (qsp b n p) 0) (hM : MqR b n M p) (h9 : M.1 9 = 0) (lo hi : Int32) (hlo : 0 ≤ lo) : (∃ v Q' q M', f_X8_takeNumber Q lo hi = some (v, Q') ∧ f_X12_numberHere M lo hi = some (true, M') ∧ lo ≤ v ∧ v ≤ hi ∧ TQ b n Q' (qsp b n q) 0 ∧ MqR b n M' q ∧ M'.1 9 = 0 ∧ kz M M' ∧ M'.2.1 7 = M.2.1 7 ∧ M'.1 10 = v) ∨ (∃ Q' M', f_X8_takeNumber Q lo hi = some (lo, Q') ∧ f_X12_numberHere M lo hi = some (false, M') ∧ kz M M' ∧ M'.1 9 ≠ 0 ∧ TQ b n Q' n (M'.1 9)) := by
  rcases lk_num hn hQ hM h9 lo hi hlo with ⟨v, Q', q, a1, a2, a3, a4, a5, a6⟩ | ⟨Q', M', a1, a2, a3, a4, a5⟩
  · exact Or.inl ⟨v, Q', q, _, a1, a2, a3, a4, a5, ⟨hM.1, hM.2.1, rfl, a6⟩, h9, (kz.s _ (Or.inl rfl) _).tr (kz.s _ (Or.inr (Or.inr (Or.inl rfl))) _), rfl, rfl⟩
  · exact Or.inr ⟨Q', M', a1, a2, a3.z, a4, a5⟩
theorem lk_cell (hn : n ≤ 400) (hQ : TQ b n Q (qsp b n p) 0) (hM : MqR b n M p) (h9 : M.1 9 = 0) {j : Nat} (hj : j < 100) (lo hi : Int32) (hlo : 0 ≤ lo) : (∃ v Q' q M', f_X8_takeNumber Q lo hi = some (v, Q') ∧ f_X12_cellHere M (nI j) lo hi = some (true, M') ∧ lo ≤ v ∧ v ≤ hi ∧ TQ b n Q' (qsp b n q) 0 ∧ MqR b n M' q ∧ M'.1 9 = 0 ∧ kz M M' ∧ (∀ i, M'.2.1 7 i = if i = j then v else M.2.1 7 i)) ∨ (∃ Q' M', f_X8_takeNumber Q lo hi = some (lo, Q') ∧ f_X12_cellHere M (nI j) lo hi = some (false, M') ∧ kz M M' ∧ M'.1 9 ≠ 0 ∧ TQ b n Q' n (M'.1 9)) := by
  unfold f_X12_cellHere
  rcases lk_nm hn hQ hM h9 lo hi hlo with ⟨v, Q', q, M', a1, a2, a3, a4, a5, a6, a7, a8, a9, a10⟩ | ⟨Q', M', a1, a2, a3, a4, a5⟩
  · refine Or.inl ⟨v, Q', q, sA M' 7 j v, a1, ?_, a3, a4, a5, a6, a7, a8.tr (kz.a _ _ _), fun i => ?_⟩
    · rw [a2, ob2_s, itT, ixd_nI hj (by omega), bnd_eq, a10]
    · show upd (M'.2.1 7) j v i = _
      rw [upd_at, a9]
  · refine Or.inr ⟨Q', M', a1, ?_, a3, a4, a5⟩
    rw [a2, ob2_s, itF]
theorem x_rider {T O Q1 Q2 Q3 Q4 : Sg} {rd : Nat} {v1 v2 v3 v4 : Int32} (h2 : T.1 2 = nI rd) (h6 : rd < 6) (e1 : f_X8_takeNumber Q 0 (T.1 0 - 1) = some (v1, Q1)) (e2 : f_X8_takeNumber Q1 0 3 = some (v2, Q2)) (e3 : f_X8_takeNumber Q2 1 20 = some (v3, Q3)) (e4 : f_X8_takeNumber Q3 0 3 = some (v4, Q4)) : f_X1_readRider Q T O = some (Q4, sI (sA (sA (sA T 11 rd v2) 12 rd v3) 13 rd v4) 2 (nI (rd + 1)), sA O 2 rd v1) := by
  unfold f_X1_readRider
  have e5 : (sA (sA (sA T 11 rd v2) 12 rd v3) 13 rd v4).1 2 = nI rd := h2
  rw [h2, bnd_eq, e1, ob2_s]
  dsimp only
  rw [ixd_nI (by omega) (by omega), bnd_eq, e2, ob2_s]
  dsimp only
  rw [ixd_nI (by omega) (by omega), bnd_eq, e3, ob2_s]
  dsimp only
  rw [ixd_nI (by omega) (by omega), bnd_eq, e4, ob2_s]
  dsimp only
  rw [ixd_nI (by omega) (by omega), bnd_eq, e5, bnd_eq, ← nI_succ]
theorem lk_rider (hn : n ≤ 400) {nn st rd tb sh P : Nat} {T O L M1 : Sg} (hL : LnR nn st rd tb sh T O L (M.2.1 7)) (h6 : rd < 6) (h0 : 0 < nn) (hpw : f_X12_passWord M = some M1) (hk : kq M M1) (h9 : M1.1 9 = 0) (hQ : TQ b n Q (qsp b n p) 0) (hM : MqR b n M1 p) : Wp (f_X1_readRider Q T O) (fun o => Lk b n M (f_X12_isRiderHere M (nI P)) o.1 (fun M' => LnR nn st (rd + 1) tb sh o.2.1 o.2.2 L (M'.2.1 7))) := by
  obtain ⟨⟨⟨t0, t1, t2⟩, ⟨r0, r1, r2⟩, l8, l6, l66, l2, l0⟩, L2, L3, L4, L5⟩ := hL
  have e7 : M1.2.1 7 = M.2.1 7 := by rw [hk.1]
  have hn1 : nI nn - 1 = nI (nn - 1) := nI_sub (b := 1) (by omega)
  have href : f_X12_isRiderHere M (nI P) = ob2 (f_X12_cellHere M1 (nI (52 + 8 * rd)) 0 (nI nn - 1)) fun r46 M_46 => if (bI r46) = 0 then (f_X12_isRiderHere_b89 (nI P) M_46) else (ob2 (f_X12_cellHere M_46 (nI (52 + 8 * rd) + 1) 0 3) fun r58 M_58 => if (bI r58) = 0 then (f_X12_isRiderHere_b89 (nI P) M_58) else (ob2 (f_X12_cellHere M_58 (nI (52 + 8 * rd) + 2) 1 20) fun r71 M_71 => if (bI r71) = 0 then (f_X12_isRiderHere_b89 (nI P) M_71) else (ob2 (f_X12_cellHere M_71 (nI (52 + 8 * rd) + 3) 0 3) fun r83 M_83 => if (bI r83) = 0 then (f_X12_isRiderHere_b89 (nI P) M_83) else (ixd (nI (52 + 8 * rd) + 4) 100 fun i99 => bnd (sA M_83 7 i99 0) fun M_99 => ixd (nI (52 + 8 * rd) + 5) 100 fun i108 => bnd (sA M_99 7 i108 (-1)) fun M_108 => ixd (nI (52 + 8 * rd) + 6) 100 fun i118 => bnd (sA M_108 7 i118 (-1)) fun M_118 => ixd (nI (52 + 8 * rd) + 7) 100 fun i128 => bnd (sA M_118 7 i128 0) fun M_128 => bnd (sA M_128 7 2 ((M_128.2.1 7 2) + 1)) fun M_138 => some (true, M_138))))) := by
    unfold f_X12_isRiderHere
    rw [r2, if_neg (show ¬ nI rd = 6 by rw [show (6 : Int32) = nI 6 from rfl, nI_eq (by omega) (by omega)]; omega), hpw, ob1_s, e7, r2, r0, show (52 : Int32) = nI 52 from rfl, show (8 : Int32) = nI 8 from rfl, nI_mul, nI_add, bnd_eq]
  rw [href]
  unfold f_X12_isRiderHere_b89
  have a8 : (0 : Int32) ≤ 0 := by decide
  have a81 : (0 : Int32) ≤ 1 := by decide
  rw [show nI (52 + 8 * rd) + 1 = nI (52 + 8 * rd + 1) from (nI_succ _).symm, show nI (52 + 8 * rd) + 2 = nI (52 + 8 * rd + 2) from nI_add _ 2, show nI (52 + 8 * rd) + 3 = nI (52 + 8 * rd + 3) from nI_add _ 3, show nI (52 + 8 * rd) + 4 = nI (52 + 8 * rd + 4) from nI_add _ 4, show nI (52 + 8 * rd) + 5 = nI (52 + 8 * rd + 5) from nI_add _ 5, show nI (52 + 8 * rd) + 6 = nI (52 + 8 * rd + 6) from nI_add _ 6, show nI (52 + 8 * rd) + 7 = nI (52 + 8 * rd + 7) from nI_add _ 7]
  rcases lk_cell hn hQ hM h9 (j := 52 + 8 * rd) (by omega) 0 (nI nn - 1) a8 with ⟨v1, Q1, q1, M2, c1, c2, c3, c4, c5, c6, c7, c8, c9⟩ | ⟨Q1, M2, c1, c2, c3, c4, c5⟩
  · rcases lk_cell hn c5 c6 c7 (j := 52 + 8 * rd + 1) (by omega) 0 3 a8 with ⟨v2, Q2, q2, M3, d1, d2, d3, d4, d5, d6, d7, d8, d9⟩ | ⟨Q2, M3, d1, d2, d3, d4, d5⟩
    · rcases lk_cell hn d5 d6 d7 (j := 52 + 8 * rd + 2) (by omega) 1 20 a81 with ⟨v3, Q3, q3, M4, f1, f2, f3, f4, f5, f6, f7, f8, f9⟩ | ⟨Q3, M4, f1, f2, f3, f4, f5⟩
      · rcases lk_cell hn f5 f6 f7 (j := 52 + 8 * rd + 3) (by omega) 0 3 a8 with ⟨v4, Q4, q4, M5, g1, g2, g3, g4, g5, g6, g7, g8, g9⟩ | ⟨Q4, M5, g1, g2, g3, g4, g5⟩
        · refine ⟨_, x_rider t2 h6 (by rw [t0]; exact c1) d1 f1 g1, ?_⟩
          dsimp only
          rw [c2, ob2_s]; dsimp only; rw [itT, d2, ob2_s]; dsimp only; rw [itT, f2, ob2_s]; dsimp only; rw [itT, g2, ob2_s]; dsimp only
          rw [itT, ixd_nI (by omega) (by omega), bnd_eq, ixd_nI (by omega) (by omega), bnd_eq, ixd_nI (by omega) (by omega), bnd_eq, ixd_nI (by omega) (by omega), bnd_eq]
          generalize hM6 : sA (sA (sA (sA M5 7 (52 + 8 * rd + 4) 0) 7 (52 + 8 * rd + 5) (-1)) 7 (52 + 8 * rd + 6) (-1)) 7 (52 + 8 * rd + 7) 0 = M6
          have m6 : ∀ i, M6.2.1 7 i = if i = 52 + 8 * rd + 7 then 0 else if i = 52 + 8 * rd + 6 then -1 else if i = 52 + 8 * rd + 5 then -1 else if i = 52 + 8 * rd + 4 then 0 else if i = 52 + 8 * rd + 3 then v4 else if i = 52 + 8 * rd + 2 then v3 else if i = 52 + 8 * rd + 1 then v2 else if i = 52 + 8 * rd then v1 else M.2.1 7 i := by
            intro i
            rw [← e7, ← c9, ← d9, ← f9, ← g9, ← hM6]
            rfl
          have mo : ∀ i, ¬ (52 + 8 * rd ≤ i ∧ i ≤ 52 + 8 * rd + 7) → M6.2.1 7 i = M.2.1 7 i := by
            intro i hi
            rw [m6, if_neg (by omega), if_neg (by omega), if_neg (by omega), if_neg (by omega), if_neg (by omega), if_neg (by omega), if_neg (by omega), if_neg (by omega)]
          rw [mo 2 (by omega), r2, ← nI_succ, bnd_eq]
          have m7 : ∀ i, (sA M6 7 2 (nI (rd + 1))).2.1 7 i = if i = 2 then nI (rd + 1) else M6.2.1 7 i := fun i => rfl
          have k6 : kz M5 M6 := by rw [← hM6]; exact (((kz.a _ _ _).tr (kz.a _ _ _)).tr (kz.a _ _ _)).tr (kz.a _ _ _)
          have q6 : MqR b n M6 q4 := by rw [← hM6]; exact g6
          have z6 : M6.1 9 = 0 := by rw [← hM6]; exact g7
          obtain ⟨x1, rfl, x1a, x1b⟩ := rg_nat (a := 0) (k := nn - 1) (by omega) (by omega) c3 (by rw [← hn1]; exact c4)
          obtain ⟨x2, rfl, x2a, x2b⟩ := rg_nat (a := 0) (k := 3) (by omega) (by omega) d3 d4
          obtain ⟨x3, rfl, x3a, x3b⟩ := rg_nat (a := 1) (k := 20) (by omega) (by omega) f3 f4
          obtain ⟨x4, rfl, x4a, x4b⟩ := rg_nat (a := 0) (k := 3) (by omega) (by omega) g3 g4
          refine ⟨true, _, rfl, (((((hk.z.tr c8).tr d8).tr f8).tr g8).tr k6).tr (kz.a _ _ _), Or.inl ⟨rfl, z6, ⟨q4, q6, g5⟩, ?_⟩⟩
          refine ⟨⟨⟨t0, t1, rfl⟩, ⟨?_, ?_, ?_⟩, l8, l6, by omega, l2, by omega⟩, ?_, ?_, ?_, ?_⟩
          · rw [m7, if_neg (by omega), mo _ (by omega)]; exact r0
          · rw [m7, if_neg (by omega), mo _ (by omega)]; exact r1
          · rw [m7, if_pos rfl]
          · exact Ln2_c (T := T) L2 (fun i h1 h2 => by rw [m7, if_neg (by omega), mo _ (by omega)])
          · exact Ln3_c (T := T) L3 (fun i h1 => by rw [m7, if_neg (by omega), mo _ (by omega)])
          · exact Ln4_c (T := T) L4 l6 (fun i h1 h2 => by rw [m7, if_neg (by omega), mo _ (by omega)])
          · refine ⟨fun r hr => ?_, fun r hr => ?_⟩
            · have u1 : (sI (sA (sA (sA T 11 rd (nI x2)) 12 rd (nI x3)) 13 rd (nI x4)) 2 (nI (rd + 1))).2.1 11 r = if r = rd then nI x2 else T.2.1 11 r := rfl
              have u2 : (sI (sA (sA (sA T 11 rd (nI x2)) 12 rd (nI x3)) 13 rd (nI x4)) 2 (nI (rd + 1))).2.1 12 r = if r = rd then nI x3 else T.2.1 12 r := rfl
              have u3 : (sI (sA (sA (sA T 11 rd (nI x2)) 12 rd (nI x3)) 13 rd (nI x4)) 2 (nI (rd + 1))).2.1 13 r = if r = rd then nI x4 else T.2.1 13 r := rfl
              have u4 : (sI (sA (sA (sA T 11 rd (nI x2)) 12 rd (nI x3)) 13 rd (nI x4)) 2 (nI (rd + 1))).2.1 14 r = T.2.1 14 r := rfl
              have u5 : (sA O 2 rd (nI x1)).2.1 2 r = if r = rd then nI x1 else O.2.1 2 r := rfl
              have m7o : ∀ i, 52 ≤ i → (sA M6 7 2 (nI (rd + 1))).2.1 7 i = M6.2.1 7 i := fun i hi => by rw [m7, if_neg (by omega)]
              rw [u1, u2, u3, u4, u5, m7o _ (by omega), m7o _ (by omega), m7o _ (by omega), m7o _ (by omega), m7o _ (by omega), m7o _ (by omega), m7o _ (by omega), m7o _ (by omega)]
              by_cases c : r = rd
              · subst c
                have h14 := (L5.2 r h6).2 (Nat.le_refl _)
                have w0 : M6.2.1 7 (52 + 8 * r) = nI x1 := by rw [m6, if_neg (by omega), if_neg (by omega), if_neg (by omega), if_neg (by omega), if_neg (by omega), if_neg (by omega), if_neg (by omega), if_pos rfl]
                have w1 : M6.2.1 7 (52 + 8 * r + 1) = nI x2 := by rw [m6, if_neg (by omega), if_neg (by omega), if_neg (by omega), if_neg (by omega), if_neg (by omega), if_neg (by omega), if_pos rfl]
                have w2 : M6.2.1 7 (52 + 8 * r + 2) = nI x3 := by rw [m6, if_neg (by omega), if_neg (by omega), if_neg (by omega), if_neg (by omega), if_neg (by omega), if_pos rfl]
                have w3 : M6.2.1 7 (52 + 8 * r + 3) = nI x4 := by rw [m6, if_neg (by omega), if_neg (by omega), if_neg (by omega), if_neg (by omega), if_pos rfl]
                have w4 : M6.2.1 7 (52 + 8 * r + 4) = 0 := by rw [m6, if_neg (by omega), if_neg (by omega), if_neg (by omega), if_pos rfl]
                have w5 : M6.2.1 7 (52 + 8 * r + 5) = -1 := by rw [m6, if_neg (by omega), if_neg (by omega), if_pos rfl]
                have w6 : M6.2.1 7 (52 + 8 * r + 6) = -1 := by rw [m6, if_neg (by omega), if_pos rfl]
                have w7 : M6.2.1 7 (52 + 8 * r + 7) = 0 := by rw [m6, if_pos rfl]
                rw [w0, w1, w2, w3, w4, w5, w6, w7, if_pos rfl, if_pos rfl, if_pos rfl, if_pos rfl, h14]
                exact ⟨⟨⟨x1, rfl, by omega, x1b⟩, ⟨x2, rfl, by omega, x2b⟩, ⟨x3, rfl, x3a, x3b⟩, ⟨x4, rfl, by omega, x4b⟩, ⟨0, rfl, by omega, by omega⟩⟩, ⟨rfl, rfl, rfl, rfl, rfl⟩, rfl, rfl, rfl⟩
              · rw [if_neg c, if_neg c, if_neg c, if_neg c, mo _ (by omega), mo _ (by omega), mo _ (by omega), mo _ (by omega), mo _ (by omega), mo _ (by omega), mo _ (by omega), mo _ (by omega)]
                exact L5.1 r (by omega)
            · exact ⟨(L5.2 r hr).1, fun h => (L5.2 r hr).2 (by omega)⟩
        · refine ⟨_, x_rider t2 h6 (by rw [t0]; exact c1) d1 f1 g1, ?_⟩
          dsimp only
          rw [c2, ob2_s]; dsimp only; rw [itT, d2, ob2_s]; dsimp only; rw [itT, f2, ob2_s]; dsimp only; rw [itT, g2, ob2_s]; dsimp only; rw [itF]
          exact ⟨false, M5, rfl, (((hk.z.tr c8).tr d8).tr f8).tr g3, Or.inr ⟨rfl, g4, g5⟩⟩
      · obtain ⟨Q4, g1, g2⟩ := x_tnE hn f5 f4 0 3
        refine ⟨_, x_rider t2 h6 (by rw [t0]; exact c1) d1 f1 g1, ?_⟩
        dsimp only
        rw [c2, ob2_s]; dsimp only; rw [itT, d2, ob2_s]; dsimp only; rw [itT, f2, ob2_s]; dsimp only; rw [itF]
        exact ⟨false, M4, rfl, ((hk.z.tr c8).tr d8).tr f3, Or.inr ⟨rfl, f4, g2⟩⟩
    · obtain ⟨Q3, f1, f2⟩ := x_tnE hn d5 d4 1 20
      obtain ⟨Q4, g1, g2⟩ := x_tnE hn f2 d4 0 3
      refine ⟨_, x_rider t2 h6 (by rw [t0]; exact c1) d1 f1 g1, ?_⟩
      dsimp only
      rw [c2, ob2_s]; dsimp only; rw [itT, d2, ob2_s]; dsimp only; rw [itF]
      exact ⟨false, M3, rfl, (hk.z.tr c8).tr d3, Or.inr ⟨rfl, d4, g2⟩⟩
  · obtain ⟨Q2, d1, d2⟩ := x_tnE hn c5 c4 0 3
    obtain ⟨Q3, f1, f2⟩ := x_tnE hn d2 c4 1 20
    obtain ⟨Q4, g1, g2⟩ := x_tnE hn f2 c4 0 3
    refine ⟨_, x_rider t2 h6 (by rw [t0]; exact c1) d1 f1 g1, ?_⟩
    dsimp only
    rw [c2, ob2_s]; dsimp only; rw [itF]
    exact ⟨false, M2, rfl, hk.z.tr c3, Or.inr ⟨rfl, c4, g2⟩⟩
end
