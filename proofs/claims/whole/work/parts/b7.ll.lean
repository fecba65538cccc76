/-! LINE: all clauses -/
section
variable {b : Nat → Int32} {n : Nat}
theorem TQ.f2 {Q : Sg} {P : Nat} {f : Int32} (h : TQ b n Q P f) : Q.1 2 = f := by
  obtain ⟨k, K, _, _, _, _, _, e, _⟩ := h
  exact e
theorem qsg_n : qsg b n n = 0 := by
  unfold qsg
  rw [if_neg (by rw [qkd_z.mpr (Nat.lt_irrefl n)]; omega)]
def kv (M M' : Sg) : Prop := (∀ k, k ≠ 7 → M'.2.1 k = M.2.1 k) ∧ M'.2.2 = M.2.2 ∧ (∀ k, k ≠ 1 → k ≠ 8 → k ≠ 9 → k ≠ 10 → k ≠ 14 → M'.1 k = M.1 k) ∧ M'.1 1 = 0
theorem kw.v {M M' : Sg} (h : kw M M') : kv M (sI M' 1 0) := ⟨h.1, h.2.1, fun k k1 a c d e => by show (if k = 1 then 0 else M'.1 k) = M.1 k; rw [if_neg k1]; exact h.2.2 k a c d e, rfl⟩
theorem x_readE (hn : n ≤ 400) {f : Int32} (hf : f ≠ 0) {k N : Nat} (hN : 0 < N) (hk : k ≤ 41) {L Q T O : Sg} (hQ : TQ b n Q n f) : Wp (fl5 f_X1_read_b26 N (nI k) L Q T O) (fun o => o.1 = false ∧ TQ b n o.2.2.1 n f) := by
  have h86 : ∀ Q', TQ b n Q' n f → Wp (f_X1_read_b86 L Q' T O) (fun o => o.1 = false ∧ TQ b n o.2.2.1 n f) := by
    intro Q' hQ'
    unfold f_X1_read_b86
    rw [hQ'.f2, if_neg hf]
    exact wp_some.mpr ⟨rfl, hQ'⟩
  have h55 : Wp (f_X1_read_b55 L Q T O) (fun o => o.1 = false ∧ TQ b n o.2.2.1 n f) := by
    unfold f_X1_read_b55 f_X1_read_b78
    rw [x_atEnd hQ, ob1_s, decide_eq_true rfl, itT]
    by_cases c : T.1 1 = 0
    · rw [if_pos c, wp_ob1]
      refine wp_mono (x_blame hQ hn (c := 0) (by omega)) (fun Q' hQ' => ?_)
      rw [qbm_f hf] at hQ'
      exact h86 Q' hQ'
    · rw [if_neg c]; exact h86 Q hQ
  cases N with
  | zero => omega
  | succ N =>
    show Wp (f_X1_read_b26 (fl5 f_X1_read_b26 N) (nI k) L Q T O) _
    generalize fl5 f_X1_read_b26 N = F
    unfold f_X1_read_b26
    by_cases c : 40 < k
    · rw [if_pos (show (40 : Int32) < nI k from nI_lt (a := 40) c (by omega))]; exact h55
    · rw [if_neg (show ¬ (40 : Int32) < nI k from nI_nlt (a := 40) (by omega) (by omega)), x_tkNo hQ (c := 59) (by decide) (by rw [qsg_n]; decide), ob2_s]
      dsimp only
      rw [itF]; exact h55
theorem m_readE {M : Sg} (h9 : M.1 9 ≠ 0) {N : Nat} (hN : 0 < N) : fl2 f_X12_readsAll_b35 N 0 M = some (false, sI M 1 0) := by
  have e9 : ¬ (sI M 1 0).1 9 = 0 := h9
  cases N with
  | zero => omega
  | succ N =>
    show f_X12_readsAll_b35 (fl2 f_X12_readsAll_b35 N) 0 M = _
    generalize fl2 f_X12_readsAll_b35 N = F
    unfold f_X12_readsAll_b35 f_X12_readsAll_b66 f_X12_readsAll_b88 f_X12_readsAll_b120
    rw [if_pos rfl, if_pos rfl, if_pos rfl, bnd_eq, if_neg e9]
/-- what comes out of both -/
def LkA (b : Nat → Int32) (n : Nat) (M : Sg) (e : Option (Bool × Sg)) (o : Bool × Sg × Sg × Sg × Sg) : Prop := ∃ M', e = some (o.1, M') ∧ kv M M' ∧ o.2.2.1.1 2 = M'.1 9 ∧ (o.1 = true → ∃ nn st rd tb sh ps pl T, 0 < nn ∧ LnR nn st rd tb sh T o.2.2.2.2 o.2.1 (M'.2.1 7) ∧ TrOK (dLn nn st rd ps pl T) ∧ TrC (dLn nn st rd ps pl T) o.2.2.2.1 ∧ ((M'.2.1 7 4 = -1 ∧ ps = st - 1) ∨ M'.2.1 7 4 = nI ps) ∧ ((M'.2.1 7 5 = -1 ∧ pl = 4) ∨ M'.2.1 7 5 = nI pl) ∧ o.2.2.2.1.1 2 = nI rd)
theorem lk_all (hn : n ≤ 400) (hB : ∀ i, i < n → isB (b i)) {M0 : Sg} : ∀ (m N N2 k : Nat) (L Q T O M : Sg) (p nn st rd tb sh : Nat), m < N → m < N2 → k + m = 41 → 1 ≤ k → k ≤ 40 → LnR nn st rd tb sh T O L (M.2.1 7) → 0 < nn → MqR b n M p → M.1 9 = 0 → M.1 11 = 6 → M.1 14 = nI k → TQ b n Q (qsp b n p) 0 → kw M0 M → Wp (fl5 f_X1_read_b26 N (nI k) L Q T O) (fun o => LkA b n M0 (fl2 f_X12_readsAll_b35 N2 1 M) o) := by
  intro m
  induction m with
  | zero => intro N N2 k L Q T O M p nn st rd tb sh hN hN2 hk h1 h40; omega
  | succ m ih =>
    intro N N2 k L Q T O M p nn st rd tb sh hN hN2 hk h1 h40 hL h0 hM h9 h11 h14 hQ hz
    cases N with
    | zero => omega
    | succ N =>
      cases N2 with
      | zero => omega
      | succ N2 =>
        show Wp (f_X1_read_b26 (fl5 f_X1_read_b26 N) (nI k) L Q T O) (fun o => LkA b n M0 (f_X12_readsAll_b35 (fl2 f_X12_readsAll_b35 N2) 1 M) o)
        have hP := hQ.le
        have hs := qsp_sp (b := b) (n := n) hM.2.2.2
        have hM1 := hM.s8 hP
        have hz1 : kw M0 (sI M 8 (nI (qsp b n p))) := hz.tr (kz.s _ (Or.inl rfl) _).w
        have hL1 : LnR nn st rd tb sh T O L ((sI M 8 (nI (qsp b n p))).2.1 7) := hL
        have h91 : (sI M 8 (nI (qsp b n p))).1 9 = 0 := h9
        have h111 : (sI M 8 (nI (qsp b n p))).1 11 = 6 := h11
        have h141 : (sI M 8 (nI (qsp b n p))).1 14 = nI k := h14
        generalize hF : fl5 f_X1_read_b26 N = F
        generalize hG : fl2 f_X12_readsAll_b35 N2 = G
        unfold f_X1_read_b26 f_X12_readsAll_b35
        rw [if_neg (show ¬ (40 : Int32) < nI k from nI_nlt (a := 40) h40 (by omega)), if_neg (show ¬ (1 : Int32) = 0 by decide), m_see hM hn, ob2_s]
        dsimp only
        generalize sI M 8 (nI (qsp b n p)) = M1 at hM1 hz1 hL1 h91 h111 h141 ⊢
        generalize qsp b n p = P at hQ hP hs hM1 ⊢
        have hsg : qch b n P = 59 ↔ qsg b n P = 59 := ch_sg (b := b) (n := n) (P := P) hB (c := 59) (by unfold sgC; omega)
        by_cases c : qsg b n P = 59
        · obtain ⟨s1, s2, s3⟩ := sg_in (c := 59) (by unfold sgC; omega) c
          obtain ⟨⟨r0, Q1⟩, a1, a2, a3⟩ := x_tkYes hQ (c := 59) (by decide) c
          dsimp only at a2 a3
          subst a2
          rw [a1, ob2_s]
          dsimp only
          rw [itT, if_pos (hsg.mpr c), bnd_eq, hM1.2.2.1, show nI P + 1 = nI (P + 1) from (nI_succ P).symm, wp_ob4]
          rw [s3] at a3
          have hM2 := hM1.s8 (q := P + 1) (by omega)
          refine wp_mono (lk_clause (M := sI M1 8 (nI (P + 1))) hn (k := k) h40 hL1 ⟨fun h => by omega, fun h => by omega⟩ hM2 h91 h111 h141 a3) ?_
          rintro ⟨L2, Q2, T2, O2⟩ ⟨r, M3, q1, q2, q3⟩
          dsimp only
          rw [q1, ob2_s, wp_bnd, show nI k + 1 = nI (k + 1) from (nI_succ k).symm]
          dsimp only
          have hz3 : kw M0 M3 := (hz1.tr (kz.s _ (Or.inl rfl) _).w).tr q2
          rcases q3 with ⟨rfl, g2, ⟨p', g3, g4⟩, g5, g6, nn', st', rd', tb', sh', g7, g8⟩ | ⟨rfl, g2, g3⟩
          · rw [← hF, ← hG]
            exact ih N N2 (k + 1) L2 Q2 T2 O2 M3 p' nn' st' rd' tb' sh' (by omega) (by omega) (by omega) (by omega) (by omega) g8 g7 g3 g2 (by rw [q2.2.2 11 (by omega) (by omega) (by omega) (by omega)]; exact h111) g5 g4 hz3
          · have e0 : fl2 f_X12_readsAll_b35 N2 (bI false) M3 = some (false, sI M3 1 0) := m_readE g2 (by omega)
            rw [← hF, ← hG, e0]
            refine wp_mono (x_readE (b := b) hn g2 (by omega) (by omega) g3) ?_
            rintro ⟨o1, o2, o3, o4, o5⟩ ⟨u1, u2⟩
            dsimp only at u1 u2
            subst u1
            exact ⟨_, rfl, hz3.v, u2.f2, fun h => by cases h⟩
        · have c2 : ¬ qch b n P = 59 := fun e => c (hsg.mp e)
          rw [x_tkNo hQ (c := 59) (by decide) c, ob2_s, if_neg c2]
          dsimp only
          rw [itF]
          unfold f_X1_read_b55 f_X1_read_b78 f_X12_readsAll_b66
          rw [x_atEnd hQ, ob1_s, if_neg (show ¬ (1 : Int32) = 0 by decide), m_see hM1 hn, ob2_s, hs, sI_se hM1.2.2.1]
          dsimp only
          have hm1 := ch_m1 (b := b) (n := n) (P := P) hB hP
          have hfa : ∀ (M4 : Sg) (Q' : Sg), kw M0 M4 → M4.1 9 = 0 → TQ b n Q' n (qbm 0 P 0) → Wp (f_X1_read_b86 L Q' T O) (fun o => LkA b n M0 (f_X12_readsAll_b120 (sI M4 9 (qbm 0 P 0))) o) := by
            intro M4 Q' hz4 h94 hQ'
            have hne := qbm_ne (P := P) (c := 0) (by have := hn; omega) (by omega)
            unfold f_X1_read_b86 f_X12_readsAll_b120
            have e9 : ¬ (sI (sI M4 9 (qbm 0 P 0)) 1 0).1 9 = 0 := hne
            rw [hQ'.f2, if_neg hne, bnd_eq, if_neg e9]
            exact wp_some.mpr ⟨_, rfl, (hz4.tr (kz.s _ (Or.inr (Or.inl rfl)) _).w).v, hQ'.f2, fun h => by cases h⟩
          by_cases cP : P = n
          · rw [decide_eq_true cP, itT, if_pos (hm1.mpr cP)]
            unfold f_X12_readsAll_b88
            rw [if_neg (show ¬ (1 : Int32) = 0 by decide), if_pos h111, hL.1.1.2.1, hL1.1.2.1.2.1]
            have l6 := hL.1.2.2.2.1
            by_cases c0 : st = 0
            · rw [if_pos (show nI st = 0 by rw [c0]; rfl), if_pos (show nI st = 0 by rw [c0]; rfl), wp_ob1, hM1.2.2.1]
              have hf : f_X12_fails M1 0 (nI P) = _ := m_fails M1 0 P
              rw [hf, ob2_s, h91]
              dsimp only
              exact wp_mono (x_blame hQ hn (c := 0) (by omega)) (fun Q' hQ' => hfa M1 Q' hz1 h91 hQ')
            · have cn : ¬ nI st = 0 := by rw [show (0 : Int32) = nI 0 from rfl, nI_eq (by omega) (by omega)]; exact c0
              rw [if_neg cn, if_neg cn]
              unfold f_X1_read_b86 f_X12_readsAll_b120
              have e9 : (sI M1 1 0).1 9 = 0 := h91
              rw [hQ.f2, if_pos rfl, bnd_eq, if_pos e9, wp_ob1]
              obtain ⟨T', ps, pl, f1, f2, f3, f4, f5, f6⟩ := x_finish hL1 h0 (by omega)
              refine ⟨T', f1, wp_some.mpr ⟨_, rfl, hz1.v, ?_, fun _ => ⟨nn, st, rd, tb, sh, ps, pl, T, h0, hL1, f2, f3, f4, f5, f6⟩⟩⟩
              show Q.1 2 = M1.1 9
              rw [hQ.f2, h91]
          · rw [decide_eq_false cP, itF, if_neg (fun e => cP (hm1.mp e)), hM1.2.2.1, wp_ob1]
            have hf : f_X12_fails M1 0 (nI P) = _ := m_fails M1 0 P
            rw [hf, ob2_s, h91]
            dsimp only
            unfold f_X12_readsAll_b88
            rw [if_pos (show bI false = 0 from rfl)]
            exact wp_mono (x_blame hQ hn (c := 0) (by omega)) (fun Q' hQ' => hfa M1 Q' hz1 h91 hQ')
end
