/-! LINE: PARTING, PLATFORM, SHUT, TROLLEY, SEATS, TOLD -/
section
variable {b : Nat → Int32} {n : Nat} {M Q : Sg} {p : Nat}
theorem not_m1 {x : Nat} (hx : x < 2 ^ 31) : ¬ nI x ≤ nI 0 - 1 := by
  rw [Int32.le_iff_toInt_le, nI_toInt hx]
  have : (nI 0 - 1).toInt = -1 := by decide
  omega
theorem v_nat {v : Int32} (h : 0 ≤ v) : ∃ x, v = nI x ∧ x < 2 ^ 31 := by
  rw [Int32.le_iff_toInt_le] at h
  have h2 := Int32.toInt_lt v
  have h0 : (0 : Int32).toInt = 0 := by decide
  exact ⟨v.toInt.toNat, nI_to (by omega), by omega⟩
theorem le_dec {x m : Nat} (hm : m < 2 ^ 31) (hx : x < 2 ^ 31) (h : nI x ≤ nI m - 1) : x < m := by
  by_cases c : m = 0
  · subst c; exact absurd h (not_m1 hx)
  · rw [show nI m - 1 = nI (m - 1) from nI_sub (b := 1) (by omega), nI_leI hx (by omega)] at h
    omega
theorem lk_part (hn : n ≤ 400) {nn st rd tb sh P : Nat} {T O L M1 : Sg} (hL : LnR nn st rd tb sh T O L (M.2.1 7)) (hb3 : tb.testBit 3 = false) (hpw : f_X12_passWord M = some M1) (hk : kq M M1) (h9 : M1.1 9 = 0) (hQ : TQ b n Q (qsp b n p) 0) (hM : MqR b n M1 p) : Wp (f_X1_readOther Q T O 3) (fun o => Lk b n M (f_X12_isOnceHere M 4 (nI P) 0 (nI st - 1)) o.1 (fun M' => LnR nn st rd (tb ||| 2 ^ 3) sh o.2.1 o.2.2 (sI L 2 (nI (tb ||| 2 ^ 3))) (M'.2.1 7))) := by
  obtain ⟨⟨⟨t0, t1, t2⟩, ⟨r0, r1, r2⟩, l8, l6, l66, l2, l0⟩, ⟨⟨i1, i2, i3⟩, i4, i5, i6, i7, i8⟩, L3, L4, L5⟩ := hL
  have e7 : M1.2.1 7 = M.2.1 7 := by rw [hk.1]
  have ec : f_X1_readOther Q T O 3 = ob2 (f_X8_takeNumber Q 0 ((T.1 1) - 1)) fun r123 Q_123 => bnd (sI T 3 r123) fun T_126 => some (Q_123, T_126, O) := rfl
  have er : f_X12_isOnceHere M 4 (nI P) 0 (nI st - 1) = ob2 (f_X12_cellHere M1 (nI 4) 0 (nI st - 1)) fun r25 M_25 => some (r25, M_25) := by
    unfold f_X12_isOnceHere
    rw [show (4 : Int32) = nI 4 from rfl, ixd_nI (by omega) (by omega), i6 hb3, if_pos (by decide), hpw, ob1_s]
  rw [ec, er, t1]
  rcases lk_cell hn hQ hM h9 (j := 4) (by omega) 0 (nI st - 1) (by decide) with ⟨v, Q1, q, M2, a1, a2, a3, a4, a5, a6, a7, a8, a9⟩ | ⟨Q1, M2, a1, a2, a3, a4, a5⟩
  · rw [a1, ob2_s, a2, ob2_s]
    obtain ⟨x, rfl, hx⟩ := v_nat a3
    have hx2 := le_dec (m := st) (by omega) hx a4
    have mo : ∀ i, i ≠ 4 → M2.2.1 7 i = M.2.1 7 i := fun i hi => by rw [a9, if_neg hi, e7]
    have e : ∀ k, k ≠ 3 → (tb ||| 2 ^ 3).testBit k = tb.testBit k := by
      intro k hk; rw [tb_or, decide_eq_false (fun q => hk q.symm), Bool.or_false]
    have e3 : (tb ||| 2 ^ 3).testBit 3 = true := by rw [tb_or, decide_eq_true rfl, Bool.or_true]
    refine wp_some.mpr ⟨true, M2, rfl, hk.z.tr a8, Or.inl ⟨rfl, a7, ⟨q, a6, a5⟩, ⟨⟨t0, t1, t2⟩, ⟨?_, ?_, ?_⟩, l8, l6, l66, l2, l0⟩, ?_, ?_, ?_, ?_⟩⟩
    · rw [mo _ (by omega)]; exact r0
    · rw [mo _ (by omega)]; exact r1
    · rw [mo _ (by omega)]; exact r2
    · unfold Ln2
      rw [e 0 (by omega), e 1 (by omega), e3, e 9 (by omega), mo 7 (by omega), mo 5 (by omega)]
      exact ⟨⟨rfl, tb_lt (k := 10) i2 (by omega), i3⟩, i4, fun _ => ⟨x, rfl, by rw [a9, if_pos rfl], hx2⟩, (fun h => by cases h), i7, i8⟩
    · exact Ln3_c (T := T) L3 (fun i h1 => mo i (by omega))
    · exact Ln4_c (T := T) L4 l6 (fun i h1 h2 => mo i (by omega))
    · exact Ln5_c (T := T) L5 (fun i h1 => mo i (by omega))
  · rw [a1, ob2_s, a2, ob2_s]
    exact wp_some.mpr ⟨false, M2, rfl, hk.z.tr a3, Or.inr ⟨rfl, a4, a5⟩⟩
theorem lk_plat (hn : n ≤ 400) {nn st rd tb sh P : Nat} {T O L M1 : Sg} (hL : LnR nn st rd tb sh T O L (M.2.1 7)) (hb9 : tb.testBit 9 = false) (hpw : f_X12_passWord M = some M1) (hk : kq M M1) (h9 : M1.1 9 = 0) (hQ : TQ b n Q (qsp b n p) 0) (hM : MqR b n M1 p) : Wp (f_X1_readOther Q T O 9) (fun o => Lk b n M (f_X12_isOnceHere M 5 (nI P) 1 20) o.1 (fun M' => LnR nn st rd (tb ||| 2 ^ 9) sh o.2.1 o.2.2 (sI L 2 (nI (tb ||| 2 ^ 9))) (M'.2.1 7))) := by
  obtain ⟨⟨⟨t0, t1, t2⟩, ⟨r0, r1, r2⟩, l8, l6, l66, l2, l0⟩, ⟨⟨i1, i2, i3⟩, i4, i5, i6, i7, i8⟩, L3, L4, L5⟩ := hL
  have e7 : M1.2.1 7 = M.2.1 7 := by rw [hk.1]
  have ec : f_X1_readOther Q T O 9 = ob2 (f_X8_takeNumber Q 1 20) fun r282 Q_282 => bnd (sI T 5 r282) fun T_285 => some (Q_282, T_285, O) := rfl
  have er : f_X12_isOnceHere M 5 (nI P) 1 20 = ob2 (f_X12_cellHere M1 (nI 5) 1 20) fun r25 M_25 => some (r25, M_25) := by
    unfold f_X12_isOnceHere
    rw [show (5 : Int32) = nI 5 from rfl, ixd_nI (by omega) (by omega), (i8 hb9).2, if_pos (by decide), hpw, ob1_s]
  rw [ec, er]
  rcases lk_cell hn hQ hM h9 (j := 5) (by omega) 1 20 (by decide) with ⟨v, Q1, q, M2, a1, a2, a3, a4, a5, a6, a7, a8, a9⟩ | ⟨Q1, M2, a1, a2, a3, a4, a5⟩
  · rw [a1, ob2_s, a2, ob2_s]
    obtain ⟨x, rfl, x1, x2⟩ := rg_nat (a := 1) (k := 20) (by omega) (by omega) a3 a4
    have mo : ∀ i, i ≠ 5 → M2.2.1 7 i = M.2.1 7 i := fun i hi => by rw [a9, if_neg hi, e7]
    have e : ∀ k, k ≠ 9 → (tb ||| 2 ^ 9).testBit k = tb.testBit k := by
      intro k hk; rw [tb_or, decide_eq_false (fun q => hk q.symm), Bool.or_false]
    have e3 : (tb ||| 2 ^ 9).testBit 9 = true := by rw [tb_or, decide_eq_true rfl, Bool.or_true]
    refine wp_some.mpr ⟨true, M2, rfl, hk.z.tr a8, Or.inl ⟨rfl, a7, ⟨q, a6, a5⟩, ⟨⟨t0, t1, t2⟩, ⟨?_, ?_, ?_⟩, l8, l6, l66, l2, l0⟩, ?_, ?_, ?_, ?_⟩⟩
    · rw [mo _ (by omega)]; exact r0
    · rw [mo _ (by omega)]; exact r1
    · rw [mo _ (by omega)]; exact r2
    · unfold Ln2
      rw [e 0 (by omega), e 1 (by omega), e3, e 3 (by omega), mo 7 (by omega), mo 4 (by omega)]
      exact ⟨⟨rfl, tb_lt (k := 10) i2 (by omega), i3⟩, i4, i5, i6, fun _ => ⟨x, rfl, by rw [a9, if_pos rfl], x1, x2⟩, fun h => by cases h⟩
    · exact Ln3_c (T := T) L3 (fun i h1 => mo i (by omega))
    · exact Ln4_c (T := T) L4 l6 (fun i h1 h2 => mo i (by omega))
    · exact Ln5_c (T := T) L5 (fun i h1 => mo i (by omega))
  · rw [a1, ob2_s, a2, ob2_s]
    exact wp_some.mpr ⟨false, M2, rfl, hk.z.tr a3, Or.inr ⟨rfl, a4, a5⟩⟩
theorem lk_shut (hn : n ≤ 400) {nn st rd tb sh : Nat} {T O L M1 : Sg} (hL : LnR nn st rd tb sh T O L (M.2.1 7)) (h0 : 0 < nn) (hpw : f_X12_passWord M = some M1) (hk : kq M M1) (h9 : M1.1 9 = 0) (hQ : TQ b n Q (qsp b n p) 0) (hM : MqR b n M1 p) : Wp (f_X1_readOther Q T O 4) (fun o => Lk b n M (f_X12_isShutHere M) o.1 (fun M' => ∃ sh', LnR nn st rd tb sh' o.2.1 o.2.2 L (M'.2.1 7))) := by
  obtain ⟨⟨⟨t0, t1, t2⟩, ⟨r0, r1, r2⟩, l8, l6, l66, l2, l0⟩, L2, L3, L4, L5⟩ := hL
  have e7 : M1.2.1 7 = M.2.1 7 := by rw [hk.1]
  have hn2 := l2 h0
  have ec : f_X1_readOther Q T O 4 = ob2 (f_X8_takeNumber Q 0 ((T.1 0) - 2)) fun r155 Q_155 => bnd (sI O 1 ((O.1 1) ||| ((1 : Int32) <<< (r155 &&& 31)))) fun O_160 => some (Q_155, T, O_160) := rfl
  have er : f_X12_isShutHere M = ob2 (f_X12_numberHere M1 0 (nI nn - 2)) fun r14 M_14 => if (bI r14) = 0 then (some (false, M_14)) else (ixd (30 + (M_14.1 10)) 100 fun i34 => bnd (sA M_14 7 i34 1) fun M_34 => some (true, M_34)) := by
    unfold f_X12_isShutHere
    rw [hpw, ob1_s, e7, r0]
  have hs2 : nI nn - 2 = nI (nn - 2) := nI_sub (b := 2) (by omega)
  rw [ec, er, t0]
  rcases lk_nm hn hQ hM h9 0 (nI nn - 2) (by decide) with ⟨v, Q1, q, M2, a1, a2, a3, a4, a5, a6, a7, a8, a9, a10⟩ | ⟨Q1, M2, a1, a2, a3, a4, a5⟩
  · obtain ⟨x, rfl, x1, x2⟩ := rg_nat (a := 0) (k := nn - 2) (by omega) (by omega) a3 (by rw [← hs2]; exact a4)
    obtain ⟨⟨g1, g2, g3, g4, g5, g6⟩, g7⟩ := L3
    have hsw : (1 : Int32) <<< (nI x &&& 31) = nI (2 ^ x) := sh9 ⟨x, by omega⟩
    rw [a1, ob2_s, a2, ob2_s]
    dsimp only
    rw [itT, a10, show (30 : Int32) = nI 30 from rfl, nI_add, ixd_nI (by omega) (by omega), g2, hsw, nI_or]
    have mo : ∀ i, (sA M2 7 (30 + x) 1).2.1 7 i = if i = 30 + x then 1 else M.2.1 7 i := fun i => by
      show upd (M2.2.1 7) (30 + x) 1 i = _
      rw [upd_at, a9, e7]
    have e : ∀ k, (sh ||| 2 ^ x).testBit k = (sh.testBit k || decide (x = k)) := fun k => tb_or sh x k
    refine wp_some.mpr ⟨true, sA M2 7 (30 + x) 1, rfl, (hk.z.tr a8).tr (kz.a _ _ _), Or.inl ⟨rfl, a7, ⟨q, a6, a5⟩, sh ||| 2 ^ x, ⟨⟨t0, t1, t2⟩, ⟨?_, ?_, ?_⟩, l8, l6, l66, l2, l0⟩, ?_, ?_, ?_, ?_⟩⟩
    · rw [mo, if_neg (by omega)]; exact r0
    · rw [mo, if_neg (by omega)]; exact r1
    · rw [mo, if_neg (by omega)]; exact r2
    · exact Ln2_c (T := T) L2 (fun i h1 h2 => by rw [mo, if_neg (by omega)])
    · refine ⟨⟨g1, rfl, tb_lt (k := 7) g3 (by omega), by omega, ?_, ?_⟩, fun c hc => ?_⟩
      · rw [mo, if_neg (by omega)]; exact g5
      · rw [mo, if_neg (by omega)]; exact g6
      · obtain ⟨y1, y2, y3⟩ := g7 c hc
        refine ⟨y1, fun hh => ⟨?_, ?_, fun h7 => ⟨?_, ?_⟩⟩, y3⟩
        · rw [mo, if_neg (by omega)]; exact (y2 hh).1
        · rw [mo, if_neg (by omega)]; exact (y2 hh).2.1
        · rw [mo, if_neg (by omega)]; exact ((y2 hh).2.2 h7).1
        · rw [mo, e]
          by_cases cx : x = c
          · subst cx; rw [if_pos rfl, decide_eq_true rfl, Bool.or_true]; rfl
          · rw [if_neg (by omega), decide_eq_false cx, Bool.or_false]; exact ((y2 hh).2.2 h7).2
    · exact Ln4_c (T := T) L4 l6 (fun i h1 h2 => by rw [mo, if_neg (by omega)])
    · exact Ln5_c (T := T) L5 (fun i h1 => by rw [mo, if_neg (by omega)])
  · rw [a1, ob2_s, a2, ob2_s]
    dsimp only
    rw [itF]
    exact wp_some.mpr ⟨false, M2, rfl, hk.z.tr a3, Or.inr ⟨rfl, a4, a5⟩⟩
theorem lk_two (hn : n ≤ 400) {M1 : Sg} (hpw : f_X12_passWord M = some M1) (hk : kq M M1) (h9 : M1.1 9 = 0) (hQ : TQ b n Q (qsp b n p) 0) (hM : MqR b n M1 p) (w h1 lo hi : Int32) (hlo : 0 ≤ lo) (bs ml : Nat) (hw : w - 1 = h1) (hj : ∀ x, x < 2 ^ 31 → nI x ≤ h1 → bs + ml * x < 100) : (∃ x v Q1 Q2 q M', f_X8_takeNumber Q 0 h1 = some (nI x, Q1) ∧ f_X8_takeNumber Q1 lo hi = some (v, Q2) ∧ f_X12_isCellOfHere M w (nI bs) (nI ml) lo hi = some (true, M') ∧ (x < 2 ^ 31 ∧ nI x ≤ h1) ∧ lo ≤ v ∧ v ≤ hi ∧ TQ b n Q2 (qsp b n q) 0 ∧ MqR b n M' q ∧ M'.1 9 = 0 ∧ kz M M' ∧ (∀ i, M'.2.1 7 i = if i = bs + ml * x then v else M.2.1 7 i)) ∨ (∃ x v Q1 Q2 M', f_X8_takeNumber Q 0 h1 = some (nI x, Q1) ∧ f_X8_takeNumber Q1 lo hi = some (v, Q2) ∧ f_X12_isCellOfHere M w (nI bs) (nI ml) lo hi = some (false, M') ∧ (x = 0 ∨ x < 2 ^ 31 ∧ nI x ≤ h1) ∧ kz M M' ∧ M'.1 9 ≠ 0 ∧ TQ b n Q2 n (M'.1 9)) := by
  have e7 : M1.2.1 7 = M.2.1 7 := by rw [hk.1]
  have er : f_X12_isCellOfHere M w (nI bs) (nI ml) lo hi = ob2 (f_X12_numberHere M1 0 h1) fun r9 M_9 => if (bI r9) = 0 then (some (false, M_9)) else (ob2 (f_X12_cellHere M_9 (nI bs + (nI ml * (M_9.1 10))) lo hi) fun r30 M_30 => some (r30, M_30)) := by
    unfold f_X12_isCellOfHere
    rw [hpw, ob1_s, hw]
  rw [er]
  rcases lk_nm hn hQ hM h9 0 h1 (by decide) with ⟨v1, Q1, q1, M2, a1, a2, a3, a4, a5, a6, a7, a8, a9, a10⟩ | ⟨Q1, M2, a1, a2, a3, a4, a5⟩
  · obtain ⟨x, rfl, hx⟩ := v_nat a3
    have hjx := hj x hx a4
    rw [a2, ob2_s]
    dsimp only
    rw [itT, a10, nI_mul, nI_add]
    rcases lk_cell hn a5 a6 a7 (j := bs + ml * x) hjx lo hi hlo with ⟨v, Q2, q, M3, c1, c2, c3, c4, c5, c6, c7, c8, c9⟩ | ⟨Q2, M3, c1, c2, c3, c4, c5⟩
    · refine Or.inl ⟨x, v, Q1, Q2, q, M3, a1, c1, ?_, ⟨hx, a4⟩, c3, c4, c5, c6, c7, (hk.z.tr a8).tr c8, fun i => ?_⟩
      · rw [c2, ob2_s]
      · rw [c9, a9, e7]
    · refine Or.inr ⟨x, lo, Q1, Q2, M3, a1, c1, ?_, Or.inr ⟨hx, a4⟩, (hk.z.tr a8).tr c3, c4, c5⟩
      rw [c2, ob2_s]
  · obtain ⟨Q2, c1, c2⟩ := x_tnE hn a5 a4 lo hi
    refine Or.inr ⟨0, lo, Q1, Q2, M2, a1, c1, ?_, Or.inl rfl, hk.z.tr a3, a4, c2⟩
    rw [a2, ob2_s, itF]
theorem lk_trol (hn : n ≤ 400) {nn st rd tb sh : Nat} {T O L M1 : Sg} (hL : LnR nn st rd tb sh T O L (M.2.1 7)) (h0 : 0 < nn) (hpw : f_X12_passWord M = some M1) (hk : kq M M1) (h9 : M1.1 9 = 0) (hQ : TQ b n Q (qsp b n p) 0) (hM : MqR b n M1 p) : Wp (f_X1_readOther Q T O 5) (fun o => Lk b n M (f_X12_isCellOfHere M (nI nn - 1) 37 1 1 999) o.1 (fun M' => LnR nn st rd tb sh o.2.1 o.2.2 L (M'.2.1 7))) := by
  obtain ⟨⟨⟨t0, t1, t2⟩, ⟨r0, r1, r2⟩, l8, l6, l66, l2, l0⟩, L2, ⟨L31, L32⟩, L4, L5⟩ := hL
  have hn2 := l2 h0
  have ec : f_X1_readOther Q T O 5 = ob2 (f_X8_takeNumber Q 0 ((T.1 0) - 2)) fun r177 Q_177 => ob2 (f_X8_takeNumber Q_177 1 999) fun r194 Q_194 => ixd r177 8 fun i197 => bnd (sA T 8 i197 r194) fun T_197 => some (Q_194, T_197, O) := rfl
  have hs2 : nI nn - 2 = nI (nn - 2) := nI_sub (b := 2) (by omega)
  have hs1 : nI nn - 1 - 1 = nI (nn - 2) := by rw [show nI nn - 1 = nI (nn - 1) from nI_sub (b := 1) (by omega), show nI (nn - 1) - 1 = nI (nn - 1 - 1) from nI_sub (b := 1) (by omega)]; congr 1
  have hx8 : ∀ x, x < 2 ^ 31 → nI x ≤ nI (nn - 2) → x ≤ nn - 2 := fun x h1 h2 => by rw [nI_leI h1 (by omega)] at h2; exact h2
  rw [ec, t0, hs2]
  rcases lk_two hn hpw hk h9 hQ hM (nI nn - 1) (nI (nn - 2)) 1 999 (by decide) 37 1 hs1 (fun x h1 h2 => by have := hx8 x h1 h2; omega) with ⟨x, v, Q1, Q2, q, M2, a1, a2, a3, ⟨a4, a5⟩, a6, a7, a8, a9, a10, a11, a12⟩ | ⟨x, v, Q1, Q2, M2, a1, a2, a3, a4, a5, a6, a7⟩
  · have hx := hx8 x a4 a5
    obtain ⟨y, rfl, y1, y2⟩ := rg_nat (a := 1) (k := 999) (by omega) (by omega) a6 a7
    rw [a1, ob2_s]
    dsimp only
    rw [a2, ob2_s]
    dsimp only
    rw [ixd_nI (by omega) (by omega)]
    refine wp_some.mpr ⟨true, M2, a3, a11, Or.inl ⟨rfl, a10, ⟨q, a9, a8⟩, ⟨⟨t0, t1, t2⟩, ⟨?_, ?_, ?_⟩, l8, l6, l66, l2, l0⟩, ?_, ⟨?_, fun c hc => ?_⟩, ?_, ?_⟩⟩
    · rw [a12, if_neg (by omega)]; exact r0
    · rw [a12, if_neg (by omega)]; exact r1
    · rw [a12, if_neg (by omega)]; exact r2
    · exact Ln2_c (T := T) L2 (fun i h1 h2 => by rw [a12, if_neg (by omega)])
    · rw [a12, if_neg (by omega), a12, if_neg (by omega)]; exact L31
    · obtain ⟨⟨g1, g2, g3⟩, g4, g5⟩ := L32 c hc
      have u : (sA T 8 x (nI y)).2.1 8 c = if c = x then nI y else T.2.1 8 c := rfl
      rw [u]
      refine ⟨⟨g1, g2, ?_⟩, fun hh => ⟨?_, ?_, fun h7 => ⟨?_, ?_⟩⟩, fun hh => absurd hh (by omega)⟩
      · by_cases cx : c = x
        · rw [if_pos cx]; exact ⟨y, rfl, by omega, y2⟩
        · rw [if_neg cx]; exact g3
      · rw [a12, if_neg (by omega)]; exact (g4 hh).1
      · rw [a12, if_neg (by omega)]; exact (g4 hh).2.1
      · rw [a12]
        by_cases cx : c = x
        · rw [if_pos cx, if_pos (by omega)]
        · rw [if_neg cx, if_neg (by omega)]; exact ((g4 hh).2.2 h7).1
      · rw [a12, if_neg (by omega)]; exact ((g4 hh).2.2 h7).2
    · exact Ln4_c (T := T) L4 l6 (fun i h1 h2 => by rw [a12, if_neg (by omega)])
    · exact Ln5_c (T := T) L5 (fun i h1 => by rw [a12, if_neg (by omega)])
  · have hx : x < 8 := by
      rcases a4 with h | h
      · omega
      · have := hx8 x h.1 h.2; omega
    rw [a1, ob2_s]
    dsimp only
    rw [a2, ob2_s]
    dsimp only
    rw [ixd_nI hx (by omega)]
    exact wp_some.mpr ⟨false, M2, a3, a5, Or.inr ⟨rfl, a6, a7⟩⟩
theorem lk_seat (hn : n ≤ 400) {nn st rd tb sh : Nat} {T O L M1 : Sg} (hL : LnR nn st rd tb sh T O L (M.2.1 7)) (h0 : 0 < nn) (hpw : f_X12_passWord M = some M1) (hk : kq M M1) (h9 : M1.1 9 = 0) (hQ : TQ b n Q (qsp b n p) 0) (hM : MqR b n M1 p) : Wp (f_X1_readOther Q T O 6) (fun o => Lk b n M (f_X12_isCellOfHere M (nI nn) 44 1 0 9) o.1 (fun M' => LnR nn st rd tb sh o.2.1 o.2.2 L (M'.2.1 7))) := by
  obtain ⟨⟨⟨t0, t1, t2⟩, ⟨r0, r1, r2⟩, l8, l6, l66, l2, l0⟩, L2, ⟨L31, L32⟩, L4, L5⟩ := hL
  have hn2 := l2 h0
  have ec : f_X1_readOther Q T O 6 = ob2 (f_X8_takeNumber Q 0 ((T.1 0) - 1)) fun r212 Q_212 => ob2 (f_X8_takeNumber Q_212 0 9) fun r230 Q_230 => ixd r212 8 fun i233 => bnd (sA T 7 i233 r230) fun T_233 => some (Q_230, T_233, O) := rfl
  have hs2 : nI nn - 1 = nI (nn - 1) := nI_sub (b := 1) (by omega)
  have hx8 : ∀ x, x < 2 ^ 31 → nI x ≤ nI (nn - 1) → x ≤ nn - 1 := fun x h1 h2 => by rw [nI_leI h1 (by omega)] at h2; exact h2
  rw [ec, t0, hs2]
  rcases lk_two hn hpw hk h9 hQ hM (nI nn) (nI (nn - 1)) 0 9 (by decide) 44 1 hs2 (fun x h1 h2 => by have := hx8 x h1 h2; omega) with ⟨x, v, Q1, Q2, q, M2, a1, a2, a3, ⟨a4, a5⟩, a6, a7, a8, a9, a10, a11, a12⟩ | ⟨x, v, Q1, Q2, M2, a1, a2, a3, a4, a5, a6, a7⟩
  · have hx := hx8 x a4 a5
    obtain ⟨y, rfl, y1, y2⟩ := rg_nat (a := 0) (k := 9) (by omega) (by omega) a6 a7
    rw [a1, ob2_s]
    dsimp only
    rw [a2, ob2_s]
    dsimp only
    rw [ixd_nI (by omega) (by omega)]
    refine wp_some.mpr ⟨true, M2, a3, a11, Or.inl ⟨rfl, a10, ⟨q, a9, a8⟩, ⟨⟨t0, t1, t2⟩, ⟨?_, ?_, ?_⟩, l8, l6, l66, l2, l0⟩, ?_, ⟨?_, fun c hc => ?_⟩, ?_, ?_⟩⟩
    · rw [a12, if_neg (by omega)]; exact r0
    · rw [a12, if_neg (by omega)]; exact r1
    · rw [a12, if_neg (by omega)]; exact r2
    · exact Ln2_c (T := T) L2 (fun i h1 h2 => by rw [a12, if_neg (by omega)])
    · rw [a12, if_neg (by omega), a12, if_neg (by omega)]; exact L31
    · obtain ⟨⟨g1, g2, g3⟩, g4, g5⟩ := L32 c hc
      have u : (sA T 7 x (nI y)).2.1 7 c = if c = x then nI y else T.2.1 7 c := rfl
      rw [u]
      refine ⟨⟨g1, ?_, g3⟩, fun hh => ⟨?_, ?_, fun h7 => ⟨?_, ?_⟩⟩, fun hh => absurd hh (by omega)⟩
      · by_cases cx : c = x
        · rw [if_pos cx]; exact ⟨y, rfl, by omega, y2⟩
        · rw [if_neg cx]; exact g2
      · rw [a12, if_neg (by omega)]; exact (g4 hh).1
      · rw [a12]
        by_cases cx : c = x
        · rw [if_pos cx, if_pos (by omega)]
        · rw [if_neg cx, if_neg (by omega)]; exact (g4 hh).2.1
      · rw [a12, if_neg (by omega)]; exact ((g4 hh).2.2 h7).1
      · rw [a12, if_neg (by omega)]; exact ((g4 hh).2.2 h7).2
    · exact Ln4_c (T := T) L4 l6 (fun i h1 h2 => by rw [a12, if_neg (by omega)])
    · exact Ln5_c (T := T) L5 (fun i h1 => by rw [a12, if_neg (by omega)])
  · have hx : x < 8 := by
      rcases a4 with h | h
      · omega
      · have := hx8 x h.1 h.2; omega
    rw [a1, ob2_s]
    dsimp only
    rw [a2, ob2_s]
    dsimp only
    rw [ixd_nI hx (by omega)]
    exact wp_some.mpr ⟨false, M2, a3, a5, Or.inr ⟨rfl, a6, a7⟩⟩
theorem lk_told (hn : n ≤ 400) {nn st rd tb sh : Nat} {T O L M1 : Sg} (hL : LnR nn st rd tb sh T O L (M.2.1 7)) (hpw : f_X12_passWord M = some M1) (hk : kq M M1) (h9 : M1.1 9 = 0) (hQ : TQ b n Q (qsp b n p) 0) (hM : MqR b n M1 p) : Wp (f_X1_readOther Q T O 8) (fun o => Lk b n M (f_X12_isCellOfHere M (nI rd) 56 8 0 999) o.1 (fun M' => LnR nn st rd tb sh o.2.1 o.2.2 L (M'.2.1 7))) := by
  obtain ⟨⟨⟨t0, t1, t2⟩, ⟨r0, r1, r2⟩, l8, l6, l66, l2, l0⟩, L2, L3, L4, L51, L52⟩ := hL
  have ec : f_X1_readOther Q T O 8 = ob2 (f_X8_takeNumber Q 0 ((T.1 2) - 1)) fun r248 Q_248 => ob2 (f_X8_takeNumber Q_248 0 999) fun r267 Q_267 => ixd r248 6 fun i270 => bnd (sA T 14 i270 r267) fun T_270 => some (Q_267, T_270, O) := rfl
  have hx8 : ∀ x, x < 2 ^ 31 → nI x ≤ nI rd - 1 → x < rd := fun x h1 h2 => le_dec (by omega) h1 h2
  rw [ec, t2]
  rcases lk_two hn hpw hk h9 hQ hM (nI rd) (nI rd - 1) 0 999 (by decide) 56 8 rfl (fun x h1 h2 => by have := hx8 x h1 h2; omega) with ⟨x, v, Q1, Q2, q, M2, a1, a2, a3, ⟨a4, a5⟩, a6, a7, a8, a9, a10, a11, a12⟩ | ⟨x, v, Q1, Q2, M2, a1, a2, a3, a4, a5, a6, a7⟩
  · have hx := hx8 x a4 a5
    obtain ⟨y, rfl, y1, y2⟩ := rg_nat (a := 0) (k := 999) (by omega) (by omega) a6 a7
    rw [a1, ob2_s]
    dsimp only
    rw [a2, ob2_s]
    dsimp only
    rw [ixd_nI (by omega) (by omega)]
    refine wp_some.mpr ⟨true, M2, a3, a11, Or.inl ⟨rfl, a10, ⟨q, a9, a8⟩, ⟨⟨t0, t1, t2⟩, ⟨?_, ?_, ?_⟩, l8, l6, l66, l2, l0⟩, ?_, ?_, ?_, fun r hr => ?_, fun r hr => ⟨(L52 r hr).1, fun h => ?_⟩⟩⟩
    · rw [a12, if_neg (by omega)]; exact r0
    · rw [a12, if_neg (by omega)]; exact r1
    · rw [a12, if_neg (by omega)]; exact r2
    · exact Ln2_c (T := T) L2 (fun i h1 h2 => by rw [a12, if_neg (by omega)])
    · exact Ln3_c (T := T) L3 (fun i h1 => by rw [a12, if_neg (by omega)])
    · exact Ln4_c (T := T) L4 l6 (fun i h1 h2 => by rw [a12, if_neg (by omega)])
    · obtain ⟨⟨g1, g2, g3, g4, g5⟩, ⟨g6, g7, g8, g9, g10⟩, g11⟩ := L51 r hr
      have u : (sA T 14 x (nI y)).2.1 14 r = if r = x then nI y else T.2.1 14 r := rfl
      have mo : ∀ k, k < 8 → k ≠ 4 → M2.2.1 7 (52 + 8 * r + k) = M.2.1 7 (52 + 8 * r + k) := fun k h1 h2 => by rw [a12, if_neg (by omega)]
      have m0 : M2.2.1 7 (52 + 8 * r) = M.2.1 7 (52 + 8 * r) := mo 0 (by omega) (by omega)
      rw [u, m0, mo 1 (by omega) (by omega), mo 2 (by omega) (by omega), mo 3 (by omega) (by omega), mo 5 (by omega) (by omega), mo 6 (by omega) (by omega), mo 7 (by omega) (by omega), a12]
      by_cases cx : r = x
      · rw [if_pos cx, if_pos (by omega)]
        exact ⟨⟨g1, g2, g3, g4, ⟨y, rfl, by omega, y2⟩⟩, ⟨g6, g7, g8, g9, rfl⟩, g11⟩
      · rw [if_neg cx, if_neg (by omega)]
        exact ⟨⟨g1, g2, g3, g4, g5⟩, ⟨g6, g7, g8, g9, g10⟩, g11⟩
    · have u : (sA T 14 x (nI y)).2.1 14 r = if r = x then nI y else T.2.1 14 r := rfl
      rw [u, if_neg (by omega)]
      exact (L52 r hr).2 h
  · have hx : x < 6 := by
      rcases a4 with h | h
      · omega
      · have := hx8 x h.1 h.2; omega
    rw [a1, ob2_s]
    dsimp only
    rw [a2, ob2_s]
    dsimp only
    rw [ixd_nI hx (by omega)]
    exact wp_some.mpr ⟨false, M2, a3, a5, Or.inr ⟨rfl, a6, a7⟩⟩
end
