/-! LINE: class and reference alike -/
theorem lk_line {s : XS} {M : Sg} (hTp : TpR (s.1 1) (M.1 1) (M.2.1 0)) : ∃ M2 M' o1 oL oQ oT oO, f_X1_read (s.1 10) (s.1 1) (s.1 6) (s.1 7) = some (o1, oL, oQ, oT, oO) ∧ f_X12_line M = (if (bI o1) = 0 then (some (((-2) - (M'.1 9)), M')) else (fl2 (f_X12_line_b58) FU 0 M')) ∧ (∀ k, k ≠ 7 → k ≠ 4 → M'.2.1 k = M.2.1 k) ∧ M'.2.2 = M.2.2 ∧ (∀ k, k ≠ 1 → k ≠ 8 → k ≠ 9 → k ≠ 10 → k ≠ 14 → k ≠ 11 → k ≠ 12 → M'.1 k = M.1 k) ∧ M'.1 1 = 0 ∧ oQ.1 2 = M'.1 9 ∧ LkA (M.2.1 0) 0 M2 (some (o1, M')) (o1, oL, oQ, oT, oO) := by
  obtain ⟨nb, hnb, q1, l1, ht⟩ := hTp
  have hB : ∀ i, i < nb → isB (M.2.1 0 i) := fun i hi => (ht i hi).2
  obtain ⟨M1, m1, m2, m3, m4, m5⟩ := m_line0 10 FU 0 (sI M 11 6) (FU_lt (by omega)) (by omega) (fun k hk => by omega)
  have eM : f_X12_line M = lnRest M1 := by unfold f_X12_line; rw [bnd_eq]; exact m1
  generalize hM2 : sA (sA M1 7 4 (-1)) 7 5 (-1) = M2
  have hf : ∀ i, i < 10 → M2.2.1 7 i = if i = 4 ∨ i = 5 then -1 else 0 := by
    intro i hi
    rw [← hM2]
    show (if i = 5 then -1 else if i = 4 then -1 else M1.2.1 7 i) = _
    by_cases e5 : i = 5
    · rw [if_pos e5, if_pos (Or.inr e5)]
    · rw [if_neg e5]
      by_cases e4 : i = 4
      · rw [if_pos e4, if_pos (Or.inl e4)]
      · rw [if_neg e4, if_neg (by omega)]; exact m5 i hi
  have w1 : ∀ k, M2.1 k = if k = 11 then 6 else M.1 k := by
    intro k; rw [← hM2]; show M1.1 k = _; rw [m2]; rfl
  have w2 : ∀ k, k ≠ 7 → M2.2.1 k = M.2.1 k := by
    intro k hk; rw [← hM2, sA_ne _ _ _ hk, sA_ne _ _ _ hk, m4 k hk]; rfl
  have w3 : M2.2.2 = M.2.2 := by rw [← hM2]; show M1.2.2 = _; rw [m3]; rfl
  obtain ⟨T', O', c1, c2⟩ := x_clear (s.1 6) (s.1 7) (s.1 10) hf
  obtain ⟨⟨o1, oL, oQ, oT, oO⟩, k1, M', g1, g2, g3, g4⟩ := lk_read (b := M.2.1 0) hnb hB (M := M2) (Q := s.1 1) (L := s.1 10) ⟨q1, fun i hi => (ht i hi).1⟩ c2 (by rw [w1, if_neg (by omega)]; exact l1) (fun i hi => by rw [w2 0 (by omega)]) (by rw [w1, if_pos rfl]) rfl
  have er : f_X1_read (s.1 10) (s.1 1) (s.1 6) (s.1 7) = some (o1, oL, oQ, oT, oO) := by
    unfold f_X1_read
    rw [c1, ob2_s, bnd_eq]
    exact k1
  refine ⟨_, M', o1, oL, oQ, oT, oO, er, ?_, fun k h7 h4 => ?_, ?_, fun k a c d e f g h => ?_, g2.2.2.2, g3, M', rfl, g2, g3, g4⟩
  · rw [eM]
    unfold lnRest
    rw [bnd_eq, bnd_eq, hM2, g1, ob2_s]
  · rw [g2.1 k h7]
    show (sA M2 4 6 0).2.1 k = _
    rw [sA_ne _ _ _ h4]; exact w2 k h7
  · rw [g2.2.1]; exact w3
  · rw [g2.2.2.1 k a c d e f]
    show (if k = 12 then 0 else if k = 9 then 0 else if k = 8 then 0 else if k = 14 then 0 else M2.1 k) = _
    rw [if_neg h, if_neg d, if_neg c, if_neg f, w1, if_neg g]
