/-! LINE: clause by clause -/
def kw (M M' : Sg) : Prop := (∀ k, k ≠ 7 → M'.2.1 k = M.2.1 k) ∧ M'.2.2 = M.2.2 ∧ ∀ k, k ≠ 8 → k ≠ 9 → k ≠ 10 → k ≠ 14 → M'.1 k = M.1 k
theorem kz.w {M M' : Sg} (h : kz M M') : kw M M' := ⟨h.1, h.2.1, fun k a c d _ => h.2.2 k a c d⟩
theorem kw.tr {M M' M2 : Sg} (h : kw M M') (h2 : kw M' M2) : kw M M2 := ⟨fun k hk => (h2.1 k hk).trans (h.1 k hk), h2.2.1.trans h.2.1, fun k a c d e => (h2.2.2 k a c d e).trans (h.2.2 k a c d e)⟩
theorem kw.s14 (M : Sg) (v : Int32) : kw M (sI M 14 v) := ⟨fun _ _ => rfl, rfl, fun k _ _ _ d => by show (if k = 14 then v else M.1 k) = M.1 k; rw [if_neg d]⟩
section
variable {b : Nat → Int32} {n : Nat} {M Q : Sg} {p : Nat}
def LkK (b : Nat → Int32) (n k : Nat) (M : Sg) (e : Option (Bool × Sg)) (o : Sg × Sg × Sg × Sg) : Prop := ∃ r M', e = some (r, M') ∧ kw M M' ∧ ((r = true ∧ M'.1 9 = 0 ∧ (∃ p', MqR b n M' p' ∧ TQ b n o.2.1 (qsp b n p') 0) ∧ M'.1 14 = nI (k + 1) ∧ k < 40 ∧ ∃ nn st rd tb sh, 0 < nn ∧ LnR nn st rd tb sh o.2.2.1 o.2.2.2 o.1 (M'.2.1 7)) ∨ (r = false ∧ M'.1 9 ≠ 0 ∧ TQ b n o.2.1 n (M'.1 9)))
theorem lk_clause (hn : n ≤ 400) {nn st rd tb sh k : Nat} {T O L : Sg} (hk : k ≤ 40) (hL : LnR nn st rd tb sh T O L (M.2.1 7)) (hk0 : k = 0 ↔ nn = 0) (hM : MqR b n M p) (h9 : M.1 9 = 0) (h11 : M.1 11 = 6) (h14 : M.1 14 = nI k) (hQ : TQ b n Q (qsp b n p) 0) : Wp (f_X1_readClause L Q T O (nI k)) (fun o => LkK b n k M (f_X12_clauseHere M) o) := by
  have hcl : f_X12_clauseHere M = f_X12_clauseHere_b24 (nI (qsp b n p)) 1 (sI M 8 (nI (qsp b n p))) := by
    unfold f_X12_clauseHere
    have e11 : (sI M 8 (nI (qsp b n p))).1 11 = 6 := h11
    rw [m_see hM hn, ob2_s, bnd_eq]
    dsimp only
    rw [if_pos e11]
    rfl
  rw [hcl]
  have hP := hQ.le
  have hs := qsp_sp (b := b) (n := n) hM.2.2.2
  have hM1 := hM.s8 hP
  have kz1 : kz M (sI M 8 (nI (qsp b n p))) := kz.s _ (Or.inl rfl) _
  have hL1 : LnR nn st rd tb sh T O L ((sI M 8 (nI (qsp b n p))).2.1 7) := hL
  have h91 : (sI M 8 (nI (qsp b n p))).1 9 = 0 := h9
  have h141 : (sI M 8 (nI (qsp b n p))).1 14 = nI k := h14
  generalize sI M 8 (nI (qsp b n p)) = M1 at hM1 kz1 hL1 h91 h141 ⊢
  generalize qsp b n p = P at hQ hP hs hM1 ⊢
  unfold f_X1_readClause f_X1_readClause_b18 f_X1_readClause_b42
  rw [x_wrd hQ, ob1_s]
  have hbl : ∀ (c : Nat) (M2 : Sg) (e : Option (Bool × Sg)), c < 8 → kw M M2 → M2.1 9 = 0 → e = f_X12_fails M2 (nI c) (nI P) → Wp (ob1 (f_X8_blame Q (nI c)) fun Q_23 => some (L, Q_23, T, O)) (fun o => LkK b n k M e o) := by
    intro c M2 e hc hz h92 he
    rw [wp_ob1]
    refine wp_mono (x_blame hQ hn hc) (fun Q' hQ' => wp_some.mpr ?_)
    rw [he, m_fails, h92]
    have hf := qbm_ne (P := P) (c := c) (by omega) hc
    exact ⟨false, _, rfl, hz.tr (kz.s _ (Or.inr (Or.inl rfl)) _).w, Or.inr ⟨rfl, hf, hQ'⟩⟩
  have hWc : ∀ j, j < 27 → f_X12_isWord M1 (Int64.ofNat (qWC.getD j 0)) = some (decide (qwd b n P = qWC.getD j 0), M1) := by
    intro j hj
    have := qWC_pos ⟨j, hj⟩
    exact m_isW hM1 hs hn this.1 this.2
  have hno : (∀ j, j < 10 → qwd b n P ≠ qWC.getD j 0) → f_X12_clauseHere_b24 (nI P) 1 M1 = f_X12_fails M1 (nI 0) (nI P) := by
    intro h
    have hW : ∀ j, j < 10 → f_X12_isWord M1 (Int64.ofNat (qWC.getD j 0)) = some (false, M1) := by
      intro j hj
      rw [hWc j (by omega), decide_eq_false (h j hj)]
    unfold f_X12_clauseHere_b24 f_X12_clauseHere_b69
    rw [if_neg (show ¬ (1 : Int32) = 0 by decide), m_lineWord (hW 0 (by omega)) (hW 1 (by omega)) (hW 2 (by omega)) (hW 3 (by omega)) (hW 4 (by omega)) (hW 5 (by omega)) (hW 6 (by omega)) (hW 7 (by omega)) (hW 8 (by omega)) (hW 9 (by omega)), ob2_s]
    dsimp only
    rw [show (false || (false || (false || (false || (false || (false || (false || (false || (false || false))))))))) = false from rfl, itF, ob2_eta]
    rfl
  rcases qwN_c (qwd b n P) with ⟨w, hw, hv, hN⟩ | ⟨hv, hN⟩
  · rw [hN, if_neg (show ¬ nI w < 0 from nI_nlt (b := 0) (by omega) (by omega))]
    by_cases w9 : w ≤ 9
    · rw [if_pos (show nI w ≤ 9 from nI_le (b := 9) w9 (by omega))]
      have hW : ∀ j, j < 10 → f_X12_isWord M1 (Int64.ofNat (qWC.getD j 0)) = some (decide (w = j), M1) := by
        intro j hj
        rw [hWc j (by omega), hv]
        have hi := qWC_inj ⟨w, by omega⟩ ⟨j, by omega⟩
        by_cases c : w = j
        · rw [decide_eq_true c, decide_eq_true (by rw [c])]
        · rw [decide_eq_false c, decide_eq_false (fun e => c (by have := hi e; exact Fin.mk.inj this))]
      have hlw : f_X12_isLineWord M1 = some (true, M1) := by
        have h := m_lineWord (hW 0 (by omega)) (hW 1 (by omega)) (hW 2 (by omega)) (hW 3 (by omega)) (hW 4 (by omega)) (hW 5 (by omega)) (hW 6 (by omega)) (hW 7 (by omega)) (hW 8 (by omega)) (hW 9 (by omega))
        rw [h]
        have hc : w = 0 ∨ w = 1 ∨ w = 2 ∨ w = 3 ∨ w = 4 ∨ w = 5 ∨ w = 6 ∨ w = 7 ∨ w = 8 ∨ w = 9 := by omega
        rcases hc with rfl | rfl | rfl | rfl | rfl | rfl | rfl | rfl | rfl | rfl <;> rfl
      have h24 : f_X12_clauseHere_b24 (nI P) 1 M1 = (if nI k = 40 then f_X12_fails M1 4 (nI P) else f_X12_lineLineHere (sI M1 14 (nI (k + 1))) (nI P)) := by
        unfold f_X12_clauseHere_b24 f_X12_clauseHere_b76 f_X12_clauseHere_b91
        rw [if_neg (show ¬ (1 : Int32) = 0 by decide), hlw, ob2_s]
        dsimp only
        rw [itT, if_neg (show ¬ (1 : Int32) = 0 by decide), h141, bnd_eq, if_neg (show ¬ (1 : Int32) = 0 by decide), ob2_eta, ob2_eta, ← nI_succ]
      rw [h24]
      by_cases k40 : k = 40
      · rw [if_pos (show (40 : Int32) ≤ nI k by rw [k40]; decide), if_pos (show nI k = 40 by rw [k40]; rfl)]
        exact hbl 4 M1 _ (by omega) kz1.w h91 rfl
      · rw [if_neg (show ¬ (40 : Int32) ≤ nI k from nI_ge (b := 40) (by omega) (by omega)), if_neg (show ¬ nI k = 40 by rw [show (40 : Int32) = nI 40 from rfl, nI_eq (by omega) (by omega)]; exact k40)]
        have hlt : qlt b n P = true := qwd_nz (by rw [hv]; have := (qWC_pos ⟨w, by omega⟩).1; exact Nat.pos_iff_ne_zero.mp this) hP
        obtain ⟨⟨t0, t1, t2⟩, ⟨r0, r1, r2⟩, l8, l6, l66, l2, l0⟩ := hL.1
        obtain ⟨⟨i1, i2, i3⟩, i4⟩ := hL.2.1
        obtain ⟨c1, c2⟩ := x_can (k := k) (w := w) i1 i2 t1 t2 l6 l66 hk (by omega)
        have hM2 : MqR b n (sI M1 14 (nI (k + 1))) P := hM1
        have hkw : kw M (sI M1 14 (nI (k + 1))) := kz1.w.tr (kw.s14 _ _)
        obtain ⟨Q1, s1, s2⟩ := x_step hQ (qlt_c hlt).1
        obtain ⟨g1, g2⟩ := lk_word (M := sI M1 14 (nI (k + 1))) hn (k := k) (w := w) (by omega) hL1 hk0 hM2 hs hv h91 s2
        by_cases cc : canC k w tb st rd
        · have hsw : (1 : Int32) <<< (nI w &&& 31) = nI (2 ^ w) := sh9 ⟨w, by omega⟩
          rw [c1 cc, ob1_s, itT, i1, hsw, nI_or, wp_bnd, s1, ob1_s]
          refine wp_mono (g2 cc) (fun o ho => ?_)
          obtain ⟨r, M', q1, q2, q3⟩ := ho
          refine ⟨r, M', q1, hkw.tr q2.w, ?_⟩
          rcases q3 with ⟨a1, a2, a3, a4⟩ | q3
          · exact Or.inl ⟨a1, a2, a3, by rw [q2.2.2 14 (by omega) (by omega) (by omega)]; rfl, by omega, a4⟩
          · exact Or.inr q3
        · rw [c2 cc, ob1_s, itF]
          exact hbl 4 _ _ (by omega) hkw h91 (g1 cc)
    · rw [if_neg (show ¬ nI w ≤ 9 from nI_ge (a := 9) (by omega) (by omega))]
      refine hbl 0 M1 _ (by omega) kz1.w h91 (hno (fun j hj e => ?_))
      have hi := qWC_inj ⟨w, by omega⟩ ⟨j, by omega⟩ (by rw [← hv]; exact e)
      have := Fin.mk.inj hi
      omega
  · rw [hN, if_pos (by decide)]
    exact hbl 0 M1 _ (by omega) kz1.w h91 (hno (fun j hj => hv j (by omega)))
end
