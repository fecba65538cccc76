/-! LINE: the end -/
theorem m_line1 {M : Sg} {ps pl : Nat} (hps : ps < 2 ^ 31) (hpl : pl < 2 ^ 31) (h4 : M.2.1 7 4 = -1 ∨ M.2.1 7 4 = nI ps) (h5 : M.2.1 7 5 = -1 ∨ M.2.1 7 5 = nI pl) : Wp (fl2 f_X12_line_b58 FU 0 M) (fun o => o.1 = M.2.1 7 2 ∧ (∀ k, k ≠ 23 → o.2.1 k = M.1 k) ∧ o.2.1 23 = 0 ∧ (∀ k, k ≠ 20 → o.2.2.1 k = M.2.1 k) ∧ o.2.2.2 = M.2.2 ∧ ∀ i, i < 137 → o.2.2.1 20 i = if i = 4 ∧ M.2.1 7 4 = -1 then M.2.1 7 1 - 1 else if i = 5 ∧ M.2.1 7 5 = -1 then 4 else if i < 100 then M.2.1 7 i else 0) := by
  refine wp_fl2 (fun j x Z => ∃ i, j = 137 - i ∧ x = nI i ∧ i ≤ 137 ∧ Z.1 = M.1 ∧ Z.2.2 = M.2.2 ∧ (∀ k, k ≠ 20 → Z.2.1 k = M.2.1 k) ∧ ∀ k, k < i → Z.2.1 20 k = if k < 100 then M.2.1 7 k else 0) ?_ 137 (FU_lt (by omega)) _ _ ⟨0, rfl, rfl, by omega, rfl, rfl, fun _ _ => rfl, fun k hk => by omega⟩
  rintro j K _ Z ⟨i, rfl, rfl, hi, z1, z2, z3, z4⟩ ih
  unfold f_X12_line_b58
  by_cases c : 137 ≤ i
  · have ei : i = 137 := by omega
    subst ei
    rw [if_pos (show (137 : Int32) ≤ nI 137 by decide)]
    have s4 : Z.2.1 20 4 = M.2.1 7 4 := by rw [z4 4 (by omega), if_pos (by omega)]
    have s1 : Z.2.1 20 1 = M.2.1 7 1 := by rw [z4 1 (by omega), if_pos (by omega)]
    have h116 : ∀ (Y : Sg), Y.1 = M.1 → Y.2.2 = M.2.2 → (∀ k, k ≠ 20 → Y.2.1 k = M.2.1 k) → (∀ k, k < 137 → Y.2.1 20 k = if k = 4 ∧ M.2.1 7 4 = -1 then M.2.1 7 1 - 1 else if k < 100 then M.2.1 7 k else 0) → Wp (f_X12_line_b116 Y) (fun o => o.1 = M.2.1 7 2 ∧ (∀ k, k ≠ 23 → o.2.1 k = M.1 k) ∧ o.2.1 23 = 0 ∧ (∀ k, k ≠ 20 → o.2.2.1 k = M.2.1 k) ∧ o.2.2.2 = M.2.2 ∧ ∀ i, i < 137 → o.2.2.1 20 i = if i = 4 ∧ M.2.1 7 4 = -1 then M.2.1 7 1 - 1 else if i = 5 ∧ M.2.1 7 5 = -1 then 4 else if i < 100 then M.2.1 7 i else 0) := by
      intro Y y1 y2 y3 y4
      have y5 : Y.2.1 20 5 = M.2.1 7 5 := by rw [y4 5 (by omega), if_neg (by omega), if_pos (by omega)]
      have y22 : Y.2.1 20 2 = M.2.1 7 2 := by rw [y4 2 (by omega), if_neg (by omega), if_pos (by omega)]
      unfold f_X12_line_b116 f_X12_line_b132
      rw [y5]
      rcases h5 with e5 | e5
      · rw [if_neg (show ¬ (0 : Int32) ≤ M.2.1 7 5 by rw [e5]; decide), bnd_eq, bnd_eq]
        refine wp_some.mpr ⟨y22, fun k hk => ?_, rfl, fun k hk => ?_, y2, fun k hk => ?_⟩
        · show (if k = 23 then 0 else Y.1 k) = M.1 k
          rw [if_neg hk, y1]
        · show (sA Y 20 5 4).2.1 k = M.2.1 k
          rw [sA_ne _ _ _ hk]; exact y3 k hk
        · show (if k = 5 then 4 else Y.2.1 20 k) = _
          by_cases k5 : k = 5
          · rw [if_pos k5, if_neg (by omega), if_pos ⟨k5, e5⟩]
          · rw [if_neg k5, y4 k hk, if_neg (show ¬ (k = 5 ∧ _) from fun h => k5 h.1)]
      · have n5 : ¬ M.2.1 7 5 = -1 := by rw [e5]; exact fun e => (eq_m1 hpl).mp e
        rw [if_pos (show (0 : Int32) ≤ M.2.1 7 5 by rw [e5]; exact nI_le (a := 0) (by omega) hpl), bnd_eq]
        refine wp_some.mpr ⟨y22, fun k hk => ?_, rfl, y3, y2, fun k hk => ?_⟩
        · show (if k = 23 then 0 else Y.1 k) = M.1 k
          rw [if_neg hk, y1]
        · show Y.2.1 20 k = _
          rw [y4 k hk, if_neg (show ¬ (k = 5 ∧ M.2.1 7 5 = -1) from fun h => n5 h.2)]
    rcases h4 with e4 | e4
    · rw [s4, if_neg (show ¬ (0 : Int32) ≤ M.2.1 7 4 by rw [e4]; decide), bnd_eq, s1]
      refine h116 _ z1 z2 (fun k hk => by rw [sA_ne _ _ _ hk]; exact z3 k hk) (fun k hk => ?_)
      show (if k = 4 then M.2.1 7 1 - 1 else Z.2.1 20 k) = _
      by_cases k4 : k = 4
      · rw [if_pos k4, if_pos ⟨k4, e4⟩]
      · rw [if_neg k4, if_neg (fun h => k4 h.1)]; exact z4 k hk
    · have n4 : ¬ M.2.1 7 4 = -1 := by rw [e4]; exact fun e => (eq_m1 hps).mp e
      rw [s4, if_pos (show (0 : Int32) ≤ M.2.1 7 4 by rw [e4]; exact nI_le (a := 0) (by omega) hps)]
      exact h116 Z z1 z2 z3 (fun k hk => by rw [if_neg (fun h => n4 h.2)]; exact z4 k hk)
  · rw [if_neg (show ¬ (137 : Int32) ≤ nI i from nI_ge (b := 137) (by omega) (by omega))]
    have h86 : ∀ v : Int32, v = (if i < 100 then M.2.1 7 i else 0) → Wp (f_X12_line_b86 K (nI i) (nI i) v Z) (fun o => o.1 = M.2.1 7 2 ∧ (∀ k, k ≠ 23 → o.2.1 k = M.1 k) ∧ o.2.1 23 = 0 ∧ (∀ k, k ≠ 20 → o.2.2.1 k = M.2.1 k) ∧ o.2.2.2 = M.2.2 ∧ ∀ i, i < 137 → o.2.2.1 20 i = if i = 4 ∧ M.2.1 7 4 = -1 then M.2.1 7 1 - 1 else if i = 5 ∧ M.2.1 7 5 = -1 then 4 else if i < 100 then M.2.1 7 i else 0) := by
      intro v hv
      unfold f_X12_line_b86
      rw [ixd_nI (by omega) (by omega), wp_bnd, wp_bnd, ← nI_succ]
      refine ih _ _ _ (by omega) ⟨i + 1, rfl, rfl, by omega, z1, z2, fun k hk => by rw [sA_ne _ _ _ hk]; exact z3 k hk, fun k hk => ?_⟩
      show (if k = i then v else Z.2.1 20 k) = _
      by_cases e : k = i
      · rw [if_pos e, hv, e]
      · rw [if_neg e]; exact z4 k (by omega)
    by_cases c2 : 100 ≤ i
    · rw [if_pos (show (100 : Int32) ≤ nI i from nI_le (a := 100) c2 (by omega))]
      exact h86 0 (by rw [if_neg (by omega)])
    · rw [if_neg (show ¬ (100 : Int32) ≤ nI i from nI_ge (b := 100) (by omega) (by omega)), ixd_nI (by omega) (by omega)]
      exact h86 _ (by rw [if_pos (by omega), z3 7 (by omega)])
