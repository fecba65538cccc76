/-! LINE: read from its begin -/
section
variable {b : Nat → Int32} {n : Nat}
theorem lk_read (hn : n ≤ 400) (hB : ∀ i, i < n → isB (b i)) {M M2 L Q T O : Sg} (hTL : TL b n Q) (hL : LnR 0 0 0 0 0 T O (sI L 2 0) (M.2.1 7)) (h1 : M.1 1 = nI n) (ht : ∀ i, i < n → M.2.1 0 i = b i) (h11 : M.1 11 = 6) (hM2 : M2 = sI (sI (sI (sI (sA M 4 6 0) 14 0) 8 0) 9 0) 12 0) : Wp (ob1 (f_X8_open Q) fun Q_16 => ob4 (f_X1_readClause (sI L 2 0) Q_16 T O 0) fun L_21 Q_21 T_21 O_21 => fl5 (f_X1_read_b26) FU 1 L_21 Q_21 T_21 O_21) (fun o => LkA b n M2 (f_X12_readsAll M) o) := by
  have er : f_X12_readsAll M = ob2 (f_X12_clauseHere M2) fun r31 M_31 => fl2 (f_X12_readsAll_b35) FU (bI r31) M_31 := by
    unfold f_X12_readsAll
    rw [h11, show (6 : Int32) = nI 6 from rfl, ixd_nI (by omega) (by omega), hM2]
    rfl
  have hMq : MqR b n M2 0 := by rw [hM2]; exact ⟨h1, ht, rfl, by omega⟩
  have h9 : M2.1 9 = 0 := by rw [hM2]; rfl
  have h112 : M2.1 11 = 6 := by rw [hM2]; exact h11
  have h14 : M2.1 14 = nI 0 := by rw [hM2]; rfl
  have hL2 : LnR 0 0 0 0 0 T O (sI L 2 0) (M2.2.1 7) := by rw [hM2]; exact hL
  rw [er, wp_ob1]
  refine wp_mono (x_open hTL hn) (fun Q1 hQ1 => ?_)
  rw [wp_ob4]
  refine wp_mono (lk_clause (M := M2) hn (k := 0) (by omega) hL2 (by omega) hMq h9 h112 h14 hQ1) ?_
  rintro ⟨L2, Q2, T2, O2⟩ ⟨r, M3, q1, q2, q3⟩
  dsimp only
  rw [q1, ob2_s]
  dsimp only
  rcases q3 with ⟨rfl, g2, ⟨p', g3, g4⟩, g5, g6, nn', st', rd', tb', sh', g7, g8⟩ | ⟨rfl, g2, g3⟩
  · exact lk_all hn hB 40 FU FU 1 L2 Q2 T2 O2 M3 p' nn' st' rd' tb' sh' (FU_lt (by omega)) (FU_lt (by omega)) (by omega) (by omega) (by omega) g8 g7 g3 g2 (by rw [q2.2.2 11 (by omega) (by omega) (by omega) (by omega)]; exact h112) g5 g4 q2
  · have e0 : fl2 f_X12_readsAll_b35 FU (bI false) M3 = some (false, sI M3 1 0) := m_readE g2 (FU_lt (by omega))
    rw [e0]
    refine wp_mono (x_readE (b := b) hn g2 (k := 1) (FU_lt (by omega)) (by omega) g3) ?_
    rintro ⟨o1, o2, o3, o4, o5⟩ ⟨u1, u2⟩
    dsimp only at u1 u2
    subst u1
    exact ⟨_, rfl, q2.v, u2.f2, fun h => by cases h⟩
end
