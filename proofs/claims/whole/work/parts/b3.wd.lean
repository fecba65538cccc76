/-! WORDS: class and reference alike -/
theorem qix_c (v : Nat) : ∀ (l : List Nat) (w : Nat), (∃ j, j < l.length ∧ v = l.getD j 0 ∧ qix v l w = nI (w + j)) ∨ ((∀ j, j < l.length → v ≠ l.getD j 0) ∧ qix v l w = -1) := by
  intro l
  induction l with
  | nil => intro w; exact Or.inr ⟨fun j hj => absurd hj (Nat.not_lt_zero _), rfl⟩
  | cons c cs ih =>
    intro w
    show (∃ j, j < cs.length + 1 ∧ v = (c :: cs).getD j 0 ∧ (if v = c then nI w else qix v cs (w + 1)) = nI (w + j)) ∨ ((∀ j, j < cs.length + 1 → v ≠ (c :: cs).getD j 0) ∧ (if v = c then nI w else qix v cs (w + 1)) = -1)
    by_cases h : v = c
    · rw [if_pos h]; exact Or.inl ⟨0, by omega, h, rfl⟩
    · rw [if_neg h]
      rcases ih (w + 1) with ⟨j, h1, h2, h3⟩ | ⟨h1, h2⟩
      · exact Or.inl ⟨j + 1, by omega, h2, by rw [h3]; congr 1; omega⟩
      · refine Or.inr ⟨fun j hj => ?_, h2⟩
        cases j with
        | zero => exact h
        | succ j => exact h1 j (by omega)
theorem qwN_c (v : Nat) : (∃ w, w < 27 ∧ v = qWC.getD w 0 ∧ qwN v = nI w) ∨ ((∀ w, w < 27 → v ≠ qWC.getD w 0) ∧ qwN v = -1) := by
  rcases qix_c v qWC 0 with ⟨j, h1, h2, h3⟩ | ⟨h1, h2⟩
  · exact Or.inl ⟨j, h1, h2, by unfold qwN; rw [h3, Nat.zero_add]⟩
  · exact Or.inr ⟨h1, h2⟩
theorem ob2_eta {α β : Type} (e : Option (α × β)) : (ob2 e fun r m => some (r, m)) = e := by cases e <;> rfl
section
variable {b : Nat → Int32} {n : Nat} {M Q : Sg} {P : Nat} {f : Int32}
theorem qdl (h : qdg b n P = true) : qlt b n P = false := by
  obtain ⟨_, c, e, c1, c2⟩ := qdg_c h
  cases h2 : qlt b n P with
  | false => rfl
  | true =>
    obtain ⟨_, d, g, d1, d2⟩ := qlt_c h2
    rw [e, nI_eq (by omega) (by omega)] at g
    omega
theorem qkd_2 : qkd b n P = 2 ↔ qlt b n P = true := by
  unfold qkd
  by_cases h : P < n
  · rw [if_pos h]
    by_cases h1 : qdg b n P = true
    · rw [if_pos h1, qdl h1]; simp
    · rw [if_neg h1]
      by_cases h2 : qlt b n P = true
      · rw [if_pos h2]; simp [h2]
      · rw [if_neg h2]; simp [h2]
  · rw [if_neg h, qlt_n b n P (by omega)]; simp
theorem qwd_0 (hP : P ≤ n) (h : qlt b n P = false) : qwd b n P = 0 := by
  unfold qwd
  rw [qlE_un hP (Nat.le_refl _) (fun i h1 h2 => by omega) h, Nat.sub_self]
  rfl
theorem qwd_nz (h : qwd b n P ≠ 0) (hP : P ≤ n) : qlt b n P = true := by
  cases h2 : qlt b n P with
  | true => rfl
  | false => exact absurd (qwd_0 hP h2) h
theorem x_wrd (h : TQ b n Q P f) : f_X8_wordHere Q = some (qwN (qwd b n P)) := by
  rw [x_wordHere h]
  by_cases c : qkd b n P = 2
  · have h1 := qkd_2.mp c
    have h2 : ¬ qdg b n P = true := fun e => by rw [qdl e] at h1; cases h1
    rw [if_pos c]
    unfold qvl
    rw [if_pos (qlt_c h1).1, if_neg h2, if_pos h1]
  · have h1 : qlt b n P = false := by
      cases e : qlt b n P with
      | false => rfl
      | true => exact absurd (qkd_2.mpr e) c
    rw [if_neg c, qwd_0 h.le h1]
    rfl
theorem qte_w (h : qlt b n P = true) : qte b n P = qlE b n P := by
  have h2 : ¬ qdg b n P = true := fun e => by rw [qdl e] at h; cases h
  unfold qte
  rw [if_pos (qlt_c h).1, if_neg h2, if_pos h]
theorem m_isW (h : MqR b n M P) (hs : qsp b n P = P) (hn : n ≤ 400) {c : Nat} (hc0 : 0 < c) (hc : c < 2 ^ 63) : f_X12_isWord M (Int64.ofNat c) = some (decide (qwd b n P = c), M) := by
  rw [m_isWord h hn hc0 hc, hs, sI_se h.2.2.1]
theorem m_lineWord {d0 d1 d2 d3 d4 d5 d6 d7 d8 d9 : Bool} (h0 : f_X12_isWord M (500135192942 : Int64) = some (d0, M)) (h1 : f_X12_isWord M (1684370292 : Int64) = some (d1, M)) (h2 : f_X12_isWord M (1937010544 : Int64) = some (d2, M)) (h3 : f_X12_isWord M (31632341598826087 : Int64) = some (d3, M)) (h4 : f_X12_isWord M (1936225652 : Int64) = some (d4, M)) (h5 : f_X12_isWord M (32776920184415609 : Int64) = some (d5, M)) (h6 : f_X12_isWord M (495622124659 : Int64) = some (d6, M)) (h7 : f_X12_isWord M (491394458994 : Int64) = some (d7, M)) (h8 : f_X12_isWord M (1953459300 : Int64) = some (d8, M)) (h9 : f_X12_isWord M (8100956982295360109 : Int64) = some (d9, M)) : f_X12_isLineWord M = some (d0 || (d1 || (d2 || (d3 || (d4 || (d5 || (d6 || (d7 || (d8 || (d9))))))))), M) := by
  unfold f_X12_isLineWord f_X12_isLineWord_b50
  rw [h0, ob2_s]
  cases d0 with
  | true => rfl
  | false =>
    dsimp only
    rw [itF]
    rw [h1, ob2_s]
    cases d1 with
    | true => rfl
    | false =>
      dsimp only
      rw [itF]
      rw [h2, ob2_s]
      cases d2 with
      | true => rfl
      | false =>
        dsimp only
        rw [itF]
        rw [h3, ob2_s]
        cases d3 with
        | true => rfl
        | false =>
          dsimp only
          rw [itF]
          rw [h4, ob2_s]
          cases d4 with
          | true => rfl
          | false =>
            dsimp only
            rw [itF]
            unfold f_X12_isLineWord_b55
            rw [if_pos (show (0 : Int32) = 0 from rfl)]
            rw [h5, ob2_s]
            cases d5 with
            | true => rfl
            | false =>
              dsimp only
              rw [itF]
              rw [h6, ob2_s]
              cases d6 with
              | true => rfl
              | false =>
                dsimp only
                rw [itF]
                rw [h7, ob2_s]
                cases d7 with
                | true => rfl
                | false =>
                  dsimp only
                  rw [itF]
                  rw [h8, ob2_s]
                  cases d8 with
                  | true => rfl
                  | false =>
                    dsimp only
                    rw [itF]
                    rw [h9, ob2_s]
                    cases d9 with
                    | true => rfl
                    | false =>
                      rfl
theorem m_ll0 {p1 : Int32} (h0 : f_X12_isWord M (500135192942 : Int64) = some (true, M)) : f_X12_lineLineHere M p1 = f_X12_isTrainHere M p1 := by
  unfold f_X12_lineLineHere
  rw [h0, ob2_s]
  dsimp only
  rw [itT, ob2_eta]
theorem m_ll1 {p1 : Int32} (hz : ¬ M.2.1 7 0 = 0) (h0 : f_X12_isWord M (500135192942 : Int64) = some (false, M)) (h1 : f_X12_isWord M (1684370292 : Int64) = some (true, M)) : f_X12_lineLineHere M p1 = f_X12_isDestHere M p1 := by
  unfold f_X12_lineLineHere
  rw [h0, ob2_s]
  dsimp only
  rw [itF]
  rw [if_neg hz]
  rw [h1, ob2_s]
  dsimp only
  rw [itT, ob2_eta]
theorem m_ll2 {p1 : Int32} (hz : ¬ M.2.1 7 0 = 0) (h0 : f_X12_isWord M (500135192942 : Int64) = some (false, M)) (h1 : f_X12_isWord M (1684370292 : Int64) = some (false, M)) (h2 : f_X12_isWord M (1937010544 : Int64) = some (true, M)) : f_X12_lineLineHere M p1 = f_X12_isStopHere M p1 := by
  unfold f_X12_lineLineHere
  rw [h0, ob2_s]
  dsimp only
  rw [itF]
  rw [if_neg hz]
  rw [h1, ob2_s]
  dsimp only
  rw [itF]
  rw [h2, ob2_s]
  dsimp only
  rw [itT, ob2_eta]
theorem m_ll3 {p1 : Int32} (hz : ¬ M.2.1 7 0 = 0) (h0 : f_X12_isWord M (500135192942 : Int64) = some (false, M)) (h1 : f_X12_isWord M (1684370292 : Int64) = some (false, M)) (h2 : f_X12_isWord M (1937010544 : Int64) = some (false, M)) (h3 : f_X12_isWord M (31632341598826087 : Int64) = some (true, M)) : f_X12_lineLineHere M p1 = f_X12_isOnceHere M 4 p1 0 ((M.2.1 7 1) - 1) := by
  unfold f_X12_lineLineHere
  rw [h0, ob2_s]
  dsimp only
  rw [itF]
  rw [if_neg hz]
  rw [h1, ob2_s]
  dsimp only
  rw [itF]
  rw [h2, ob2_s]
  dsimp only
  rw [itF]
  rw [h3, ob2_s]
  dsimp only
  rw [itT, ob2_eta]
theorem m_ll4 {p1 : Int32} (hz : ¬ M.2.1 7 0 = 0) (h0 : f_X12_isWord M (500135192942 : Int64) = some (false, M)) (h1 : f_X12_isWord M (1684370292 : Int64) = some (false, M)) (h2 : f_X12_isWord M (1937010544 : Int64) = some (false, M)) (h3 : f_X12_isWord M (31632341598826087 : Int64) = some (false, M)) (h4 : f_X12_isWord M (1936225652 : Int64) = some (true, M)) : f_X12_lineLineHere M p1 = f_X12_isShutHere M := by
  unfold f_X12_lineLineHere
  rw [h0, ob2_s]
  dsimp only
  rw [itF]
  rw [if_neg hz]
  rw [h1, ob2_s]
  dsimp only
  rw [itF]
  rw [h2, ob2_s]
  dsimp only
  rw [itF]
  rw [h3, ob2_s]
  dsimp only
  rw [itF]
  rw [h4, ob2_s]
  dsimp only
  rw [itT, ob2_eta]
theorem m_ll5 {p1 : Int32} (hz : ¬ M.2.1 7 0 = 0) (h0 : f_X12_isWord M (500135192942 : Int64) = some (false, M)) (h1 : f_X12_isWord M (1684370292 : Int64) = some (false, M)) (h2 : f_X12_isWord M (1937010544 : Int64) = some (false, M)) (h3 : f_X12_isWord M (31632341598826087 : Int64) = some (false, M)) (h4 : f_X12_isWord M (1936225652 : Int64) = some (false, M)) (h5 : f_X12_isWord M (32776920184415609 : Int64) = some (true, M)) : f_X12_lineLineHere M p1 = f_X12_isCellOfHere M ((M.2.1 7 0) - 1) 37 1 1 999 := by
  unfold f_X12_lineLineHere
  rw [h0, ob2_s]
  dsimp only
  rw [itF]
  rw [if_neg hz]
  rw [h1, ob2_s]
  dsimp only
  rw [itF]
  rw [h2, ob2_s]
  dsimp only
  rw [itF]
  rw [h3, ob2_s]
  dsimp only
  rw [itF]
  rw [h4, ob2_s]
  dsimp only
  rw [itF]
  rw [h5, ob2_s]
  dsimp only
  rw [itT, ob2_eta]
theorem m_ll6 {p1 : Int32} (hz : ¬ M.2.1 7 0 = 0) (h0 : f_X12_isWord M (500135192942 : Int64) = some (false, M)) (h1 : f_X12_isWord M (1684370292 : Int64) = some (false, M)) (h2 : f_X12_isWord M (1937010544 : Int64) = some (false, M)) (h3 : f_X12_isWord M (31632341598826087 : Int64) = some (false, M)) (h4 : f_X12_isWord M (1936225652 : Int64) = some (false, M)) (h5 : f_X12_isWord M (32776920184415609 : Int64) = some (false, M)) (h6 : f_X12_isWord M (495622124659 : Int64) = some (true, M)) : f_X12_lineLineHere M p1 = f_X12_isCellOfHere M (M.2.1 7 0) 44 1 0 9 := by
  unfold f_X12_lineLineHere
  rw [h0, ob2_s]
  dsimp only
  rw [itF]
  rw [if_neg hz]
  rw [h1, ob2_s]
  dsimp only
  rw [itF]
  rw [h2, ob2_s]
  dsimp only
  rw [itF]
  rw [h3, ob2_s]
  dsimp only
  rw [itF]
  rw [h4, ob2_s]
  dsimp only
  rw [itF]
  rw [h5, ob2_s]
  dsimp only
  rw [itF]
  rw [h6, ob2_s]
  dsimp only
  rw [itT, ob2_eta]
theorem m_ll7 {p1 : Int32} (hz : ¬ M.2.1 7 0 = 0) (h0 : f_X12_isWord M (500135192942 : Int64) = some (false, M)) (h1 : f_X12_isWord M (1684370292 : Int64) = some (false, M)) (h2 : f_X12_isWord M (1937010544 : Int64) = some (false, M)) (h3 : f_X12_isWord M (31632341598826087 : Int64) = some (false, M)) (h4 : f_X12_isWord M (1936225652 : Int64) = some (false, M)) (h5 : f_X12_isWord M (32776920184415609 : Int64) = some (false, M)) (h6 : f_X12_isWord M (495622124659 : Int64) = some (false, M)) (h7 : f_X12_isWord M (491394458994 : Int64) = some (true, M)) : f_X12_lineLineHere M p1 = f_X12_isRiderHere M p1 := by
  unfold f_X12_lineLineHere
  rw [h0, ob2_s]
  dsimp only
  rw [itF]
  rw [if_neg hz]
  rw [h1, ob2_s]
  dsimp only
  rw [itF]
  rw [h2, ob2_s]
  dsimp only
  rw [itF]
  rw [h3, ob2_s]
  dsimp only
  rw [itF]
  rw [h4, ob2_s]
  dsimp only
  rw [itF]
  rw [h5, ob2_s]
  dsimp only
  rw [itF]
  rw [h6, ob2_s]
  dsimp only
  rw [itF]
  rw [h7, ob2_s]
  dsimp only
  rw [itT, ob2_eta]
theorem m_ll8 {p1 : Int32} (hz : ¬ M.2.1 7 0 = 0) (h0 : f_X12_isWord M (500135192942 : Int64) = some (false, M)) (h1 : f_X12_isWord M (1684370292 : Int64) = some (false, M)) (h2 : f_X12_isWord M (1937010544 : Int64) = some (false, M)) (h3 : f_X12_isWord M (31632341598826087 : Int64) = some (false, M)) (h4 : f_X12_isWord M (1936225652 : Int64) = some (false, M)) (h5 : f_X12_isWord M (32776920184415609 : Int64) = some (false, M)) (h6 : f_X12_isWord M (495622124659 : Int64) = some (false, M)) (h7 : f_X12_isWord M (491394458994 : Int64) = some (false, M)) (h8 : f_X12_isWord M (1953459300 : Int64) = some (true, M)) : f_X12_lineLineHere M p1 = f_X12_isCellOfHere M (M.2.1 7 2) 56 8 0 999 := by
  unfold f_X12_lineLineHere
  rw [h0, ob2_s]
  dsimp only
  rw [itF]
  rw [if_neg hz]
  rw [h1, ob2_s]
  dsimp only
  rw [itF]
  rw [h2, ob2_s]
  dsimp only
  rw [itF]
  rw [h3, ob2_s]
  dsimp only
  rw [itF]
  rw [h4, ob2_s]
  dsimp only
  rw [itF]
  rw [h5, ob2_s]
  dsimp only
  rw [itF]
  rw [h6, ob2_s]
  dsimp only
  rw [itF]
  rw [h7, ob2_s]
  dsimp only
  rw [itF]
  rw [h8, ob2_s]
  dsimp only
  rw [itT, ob2_eta]
theorem m_ll9 {p1 : Int32} (hz : ¬ M.2.1 7 0 = 0) (h0 : f_X12_isWord M (500135192942 : Int64) = some (false, M)) (h1 : f_X12_isWord M (1684370292 : Int64) = some (false, M)) (h2 : f_X12_isWord M (1937010544 : Int64) = some (false, M)) (h3 : f_X12_isWord M (31632341598826087 : Int64) = some (false, M)) (h4 : f_X12_isWord M (1936225652 : Int64) = some (false, M)) (h5 : f_X12_isWord M (32776920184415609 : Int64) = some (false, M)) (h6 : f_X12_isWord M (495622124659 : Int64) = some (false, M)) (h7 : f_X12_isWord M (491394458994 : Int64) = some (false, M)) (h8 : f_X12_isWord M (1953459300 : Int64) = some (false, M)) : f_X12_lineLineHere M p1 = f_X12_isOnceHere M 5 p1 1 20 := by
  unfold f_X12_lineLineHere
  rw [h0, ob2_s]
  dsimp only
  rw [itF]
  rw [if_neg hz]
  rw [h1, ob2_s]
  dsimp only
  rw [itF]
  rw [h2, ob2_s]
  dsimp only
  rw [itF]
  rw [h3, ob2_s]
  dsimp only
  rw [itF]
  rw [h4, ob2_s]
  dsimp only
  rw [itF]
  rw [h5, ob2_s]
  dsimp only
  rw [itF]
  rw [h6, ob2_s]
  dsimp only
  rw [itF]
  rw [h7, ob2_s]
  dsimp only
  rw [itF]
  rw [h8, ob2_s]
  dsimp only
  rw [itF]
  rw [ob2_eta]
theorem m_llz {p1 : Int32} (hz : M.2.1 7 0 = 0) (h0 : f_X12_isWord M (500135192942 : Int64) = some (false, M)) : f_X12_lineLineHere M p1 = f_X12_fails M 4 p1 := by
  unfold f_X12_lineLineHere
  rw [h0, ob2_s]
  dsimp only
  rw [itF, if_pos hz, ob2_eta]
end
