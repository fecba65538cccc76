/-! LINE: the begin -/
theorem x_clear (T O L : Sg) {f : Nat → Int32} (hf : ∀ i, i < 10 → f i = if i = 4 ∨ i = 5 then -1 else 0) : ∃ T' O', f_X10_clear T O = some (T', O') ∧ LnR 0 0 0 0 0 T' O' (sI L 2 0) f := by
  refine ⟨_, _, rfl, ⟨⟨rfl, rfl, rfl⟩, ⟨hf 0 (by omega), hf 1 (by omega), hf 2 (by omega)⟩, by omega, by omega, by omega, fun h => by omega, fun _ => rfl⟩, ⟨⟨rfl, by omega, rfl⟩, hf 7 (by omega), (fun h => by rw [Nat.zero_testBit] at h; cases h), fun _ => hf 4 (by omega), (fun h => by rw [Nat.zero_testBit] at h; cases h), fun _ => ⟨rfl, hf 5 (by omega)⟩⟩, ⟨⟨rfl, rfl, by omega, fun _ => rfl, hf 3 (by omega), hf 8 (by omega)⟩, fun c hc => ?_⟩, ⟨fun _ => 0, fun _ => 0, fun s hs => by omega, fun s hs => by omega⟩, fun r hr => by omega, fun r hr => ?_⟩
  · have e6 : fillf (T.2.1 6) 8 0 c = 0 := if_pos hc
    have e7 : fillf (T.2.1 7) 8 4 c = 4 := if_pos hc
    have e8 : fillf (T.2.1 8) 8 0 c = 0 := if_pos hc
    show (isN 0 3 (fillf (T.2.1 6) 8 0 c) ∧ isN 0 9 (fillf (T.2.1 7) 8 4 c) ∧ isN 0 999 (fillf (T.2.1 8) 8 0 c)) ∧ (0 < 0 → _) ∧ (0 = 0 → fillf (T.2.1 6) 8 0 c = 0 ∧ fillf (T.2.1 7) 8 4 c = 4 ∧ fillf (T.2.1 8) 8 0 c = 0)
    rw [e6, e7, e8]
    exact ⟨⟨⟨0, rfl, by omega, by omega⟩, ⟨4, rfl, by omega, by omega⟩, ⟨0, rfl, by omega, by omega⟩⟩, fun h => by omega, fun _ => ⟨rfl, rfl, rfl⟩⟩
  · exact ⟨⟨if_pos hr, if_pos hr, if_pos hr, if_pos hr⟩, fun _ => if_pos hr⟩
def lnRest (M : Sg) : Option (Int32 × Sg) := bnd (sA M 7 4 (-1)) fun M_33 => bnd (sA M_33 7 5 (-1)) fun M_40 => ob2 (f_X12_readsAll M_40) fun r42 M_42 => if (bI r42) = 0 then (some (((-2) - (M_42.1 9)), M_42)) else (fl2 (f_X12_line_b58) FU 0 M_42)
theorem m_line0 : ∀ (m N i : Nat) (M : Sg), m < N → i + m = 10 → (∀ k, k < i → M.2.1 7 k = 0) → ∃ M1, fl2 f_X12_line_b8 N (nI i) M = lnRest M1 ∧ M1.1 = M.1 ∧ M1.2.2 = M.2.2 ∧ (∀ k, k ≠ 7 → M1.2.1 k = M.2.1 k) ∧ ∀ k, k < 10 → M1.2.1 7 k = 0 := by
  intro m
  induction m with
  | zero =>
    intro N i M hN hi h
    cases N with
    | zero => omega
    | succ N =>
      refine ⟨M, ?_, rfl, rfl, fun _ _ => rfl, fun k hk => h k (by omega)⟩
      show f_X12_line_b8 (fl2 f_X12_line_b8 N) (nI i) M = _
      unfold f_X12_line_b8 lnRest
      rw [if_pos (show (10 : Int32) ≤ nI i from nI_le (a := 10) (by omega) (by omega))]
  | succ m ih =>
    intro N i M hN hi h
    cases N with
    | zero => omega
    | succ N =>
      obtain ⟨M1, a1, a2, a3, a4, a5⟩ := ih N (i + 1) (sA M 7 i 0) (by omega) (by omega) (fun k hk => by
        show (if k = i then 0 else M.2.1 7 k) = 0
        by_cases e : k = i
        · rw [if_pos e]
        · rw [if_neg e]; exact h k (by omega))
      refine ⟨M1, ?_, a2, a3, fun k hk => ?_, a5⟩
      · show f_X12_line_b8 (fl2 f_X12_line_b8 N) (nI i) M = _
        generalize hF : fl2 f_X12_line_b8 N = F at a1 ⊢
        unfold f_X12_line_b8
        rw [if_neg (show ¬ (10 : Int32) ≤ nI i from nI_ge (b := 10) (by omega) (by omega)), ixd_nI (by omega) (by omega), bnd_eq, bnd_eq, ← nI_succ]
        exact a1
      · rw [a4 k hk]; exact sA_ne M i 0 hk
