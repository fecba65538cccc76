/-! LINE: St_line -/
theorem ob5_s {α β γ δ ε ρ : Type} (x : α × β × γ × δ × ε) (f : α → β → γ → δ → ε → Option ρ) : ob5 (some x) f = f x.1 x.2.1 x.2.2.1 x.2.2.2.1 x.2.2.2.2 := rfl
theorem st_line : St_line RR := by
  intro s M hR
  have hR0 := hR; obtain ⟨hTp, ⟨d, m, n, a, π, ⟨hG, hT, hM, hm, hO, hN, hS, hX, hX0⟩, hH⟩, hI, hU⟩ := hR
  obtain ⟨M2, M', o1, oL, oQ, oT, oO, e1, e2, e3, e4, e5, e6, e7, M9, e8, e9, e10, e11⟩ := lk_line hTp
  have e9' : M9 = M' := by cases e8; rfl
  subst e9'
  have p0 := e3 0 (by omega) (by omega)
  have p3 := e3 3 (by omega) (by omega)
  have p5 := e3 5 (by omega) (by omega)
  have p6 := e3 6 (by omega) (by omega)
  have p20 := e3 20 (by omega) (by omega)
  have p22 := e3 22 (by omega) (by omega)
  have p36 := e3 36 (by omega) (by omega)
  have p37 := e3 37 (by omega) (by omega)
  have p38 := e3 38 (by omega) (by omega)
  have i2 := e5 2 (by omega) (by omega) (by omega) (by omega) (by omega) (by omega) (by omega)
  have i21 := e5 21 (by omega) (by omega) (by omega) (by omega) (by omega) (by omega) (by omega)
  have i23 := e5 23 (by omega) (by omega) (by omega) (by omega) (by omega) (by omega) (by omega)
  cases o1 with
  | false =>
    refine ⟨(-2) - (sI oQ 1 0).1 2, sI oQ 1 0, s.1 2, s.1 3, s.1 4, oT, oO, oL, s.1 14, M9, ?_, ?_, ?_⟩
    · unfold f_X11_line
      rw [e1]
      rfl
    · rw [e2, itF, ← e7]
      rfl
    · unfold RR
      rw [p0, p3, p5, p6, p20, p22, p36, p37, p38, i2, i21, i23]
      exact ⟨⟨0, by omega, rfl, e6, fun i hi => by omega⟩, ⟨d, m, n, a, π, ⟨hG, hT, hM, hm, hO, hN, hS, hX, hX0⟩, hH⟩, hI, hU⟩
  | true =>
    obtain ⟨nn, st, rd, tb, sh, ps, pl, T, g0, gL, gK, gT, g4, g5, g2⟩ := e11 rfl
    dsimp only at gL gT g2
    obtain ⟨T1, t1, t2, t3, t4⟩ := x_cpT (s.1 2) oT
    obtain ⟨O1, q1, q2, q3⟩ := x_cpO (s.1 3) oO
    obtain ⟨⟨⟨a0, a1, a2⟩, ⟨r0, r1, r2⟩, l8, l6, l66, l2, l0⟩, L2, ⟨⟨L31, L32, L33, L34, L35, L36⟩, L37⟩, ⟨hb, he, hh, hhr⟩, L5⟩ := gL
    have hK := gK
    have hps : ps < st := hK.pst
    have hpl := hK.plt
    have hpl2 : 1 ≤ pl ∧ pl ≤ 20 := hpl
    obtain ⟨⟨r9, M3⟩, n1, n2, n3, n4, n5, n6, n7⟩ := m_line1 (M := M9) (ps := ps) (pl := pl) (by omega) (by omega) (g4.elim (fun h => Or.inl h.1) Or.inr) (g5.elim (fun h => Or.inl h.1) Or.inr)
    dsimp only at n2 n3 n4 n5 n6 n7
    have v2 : r9 = nI rd := by rw [n2]; exact r2
    refine ⟨nI rd, sI oQ 1 0, T1, O1, sI (s.1 4) 0 0, oT, oO, oL, sI (s.1 14) 2 0, M3, ?_, ?_, ?_⟩
    · unfold f_X11_line
      rw [e1]
      rw [ob5_s]
      dsimp only
      rw [bnd_eq, itT, t1, ob1_s, q1, ob1_s, bnd_eq, bnd_eq, t2 2 (by omega), g2]
    · rw [e2, itT, n1, v2]
    · have cell : ∀ i, i < 137 → i ≠ 4 → i ≠ 5 → M3.2.1 20 i = if i < 100 then M9.2.1 7 i else 0 := by
        intro i hi h4 h5
        rw [n7 i hi, if_neg (fun h => h4 h.1), if_neg (fun h => h5 h.1)]
      have ce : ∀ i, i < 100 → i ≠ 4 → i ≠ 5 → M3.2.1 20 i = M9.2.1 7 i := fun i hi h4 h5 => by rw [cell i (by omega) h4 h5, if_pos hi]
      have c4 : M3.2.1 20 4 = nI ps := by
        rw [n7 4 (by omega)]
        rcases g4 with ⟨h, e⟩ | h
        · rw [if_pos ⟨rfl, h⟩, r1, e, show nI st - 1 = nI (st - 1) from nI_sub (b := 1) (by omega)]
        · rw [if_neg (fun q => (eq_m1 (k := ps) (by omega)).mp (by rw [← h]; exact q.2)), if_neg (by omega), if_pos (by omega)]; exact h
      have c5 : M3.2.1 20 5 = nI pl := by
        rw [n7 5 (by omega), if_neg (by omega)]
        rcases g5 with ⟨h, e⟩ | h
        · rw [if_pos ⟨rfl, h⟩, e]; rfl
        · rw [if_neg (fun q => (eq_m1 (k := pl) (by omega)).mp (by rw [← h]; exact q.2)), if_pos (by omega)]; exact h
      have hco : ∀ r, r < rd → oO.2.1 2 r = nI (zN (oO.2.1 2 r)) ∧ zN (oO.2.1 2 r) ≤ nn - 1 := fun r hr => ⟨(isN_z (by omega) (L5.1 r hr).1.1).1, (isN_z (by omega) (L5.1 r hr).1.1).2.2⟩
      refine ⟨⟨0, by omega, rfl, by rw [n3 1 (by omega)]; exact e6, fun i hi => by omega⟩, ⟨dLn nn st rd ps pl T, ((fun k => if k = 1 then sh else 0), (fun q i => if q = 0 then zN (oO.2.1 2 i) else 0), fun _ => false), 0, fun _ _ => 0, fun i => i, ⟨Or.inl gK, TrC_congr (Or.inl gK) gT t2 t3 t4, ?_, ?_, ?_, ?_, ?_, ?_, ?_⟩, ?_⟩, ?_, ?_⟩
      · refine ⟨⟨?_, ?_, ?_⟩, fun _ => ⟨c4, c5⟩, fun c hc => ?_, fun w hw => ?_, fun z hz => ?_, fun r hr => ?_⟩
        · rw [ce 0 (by omega) (by omega) (by omega)]; exact r0
        · rw [ce 1 (by omega) (by omega) (by omega)]; exact r1
        · rw [ce 2 (by omega) (by omega) (by omega)]; exact r2
        · have hc8 : c < nn := hc
          obtain ⟨y1, y2, y3⟩ := L37 c (by omega)
          rw [ce _ (by omega) (by omega) (by omega), ce _ (by omega) (by omega) (by omega), (y2 g0).1, (y2 g0).2.1]
          exact ⟨(isN_z (by omega) y1.1).1, (isN_z (by omega) y1.2.1).1⟩
        · have hc8 : w + 1 < nn := hw
          obtain ⟨y1, y2, y3⟩ := L37 w (by omega)
          rw [ce _ (by omega) (by omega) (by omega), ((y2 g0).2.2 (by omega)).1]
          exact (isN_z (by omega) y1.2.2).1
        · have hz6 : z < st := hz
          obtain ⟨⟨y1, y2⟩, ⟨y3, y4⟩, y5⟩ := hh z hz
          have b1 := (isN_z (k := 2 ^ 31 - 1) (a := 0) (v := T.2.1 9 z) (by omega) ⟨hb z, y1, by omega, by have : 159 * (z + 1) ≤ 159 * 6 := Nat.mul_le_mul_left _ (by omega); omega⟩).1
          have b2 := (isN_z (k := 2 ^ 31 - 1) (a := 0) (v := T.2.1 10 z) (by omega) ⟨he z, y2, by omega, by have : 159 * (z + 1) ≤ 159 * 6 := Nat.mul_le_mul_left _ (by omega); omega⟩).1
          rw [ce _ (by omega) (by omega) (by omega), ce _ (by omega) (by omega) (by omega), y3, y4, ← y1, ← y2]
          exact ⟨b1, b2⟩
        · have hr6 : r < rd := hr
          obtain ⟨⟨y1, y2, y3, y4, y5⟩, ⟨y6, y7, y8, y9, y10⟩, y11⟩ := L5.1 r hr
          rw [ce _ (by omega) (by omega) (by omega), ce _ (by omega) (by omega) (by omega), ce _ (by omega) (by omega) (by omega), ce _ (by omega) (by omega) (by omega), y7, y8, y9, y10]
          exact ⟨(isN_z (by omega) y2).1, (isN_z (by omega) y3).1, (isN_z (by omega) y4).1, (isN_z (by omega) y5).1⟩
      · refine ⟨by show 0 ≤ 999; omega, L33, by show 0 < 64; omega, fun r hr => ?_, fun r hr h => by cases h⟩
        have := (hco r hr).2
        show zN (oO.2.1 2 r) < nn
        omega
      · refine MoC_congr (Or.inl gK) (P := oO) ⟨⟨L31, L32⟩, fun r hr => ⟨(hco r hr).1, (L5.2 r (by have : r < rd := hr; omega)).1.1, (L5.2 r (by have : r < rd := hr; omega)).1.2.1, (L5.2 r (by have : r < rd := hr; omega)).1.2.2.1, (L5.2 r (by have : r < rd := hr; omega)).1.2.2.2⟩⟩ q2 q3
      · refine ⟨⟨?_, ?_⟩, fun w hw => ?_, fun r hr => ?_⟩
        · rw [ce 3 (by omega) (by omega) (by omega)]; exact L35
        · rw [ce 8 (by omega) (by omega) (by omega)]; exact L36
        · have hc8 : w + 1 < nn := hw
          obtain ⟨y1, y2, y3⟩ := L37 w (by omega)
          rw [ce _ (by omega) (by omega) (by omega), ((y2 g0).2.2 (by omega)).2]
          rfl
        · have hr6 : r < rd := hr
          obtain ⟨⟨y1, y2, y3, y4, y5⟩, ⟨y6, y7, y8, y9, y10⟩, y11, y12, y13⟩ := L5.1 r hr
          rw [ce _ (by omega) (by omega) (by omega), ce _ (by omega) (by omega) (by omega), ce _ (by omega) (by omega) (by omega), ce _ (by omega) (by omega) (by omega), y6, y11, y12, y13]
          exact ⟨(hco r hr).1, rfl, rfl, rfl⟩
      · exact ⟨by omega, by rw [cell 136 (by omega) (by omega) (by omega)]; rfl, rfl, fun k hk => by omega, fun k hk => by omega, fun i j h1 h2 => by omega, fun k hk => by omega⟩
      · rw [n3 21 (by omega), i21]; exact hX
      · rw [n3 21 (by omega), i21]; exact hX0
      · obtain ⟨nx, sz, ms, u1, u2, u3, u4, u5, u6⟩ := hH
        exact ⟨nx, 0, ms, u1, by omega, u3, rfl, n4, fun j hj => by omega⟩
      · rw [n5 36 (by omega), n5 37 (by omega), n5 38 (by omega), p36, p37, p38]; exact hI
      · rw [n3 2 (by omega), n5 3 (by omega), n5 5 (by omega), n5 6 (by omega), i2, p3, p5, p6]; exact hU
