/-! run -/
theorem tmM.tr {d : Tr} {m1 m2 : Mo} {M0 M1 M2 : Sg} (h : tmM d m1 M0 M1) (h2 : tmM d m2 M1 M2) : tmM d m2 M0 M2 := ⟨h2.1, h2.2.1, fun k hk => (h2.2.2.1 k hk).trans (h.2.2.1 k hk), h.2.2.2.tr h2.2.2.2⟩
section
variable {d : Tr} {m : Mo} {U : Sg} {M : Sg} {len nc t : Nat} {y kd se te : Nat → Nat}
theorem m_run1 (hd : TrOK d) (hM : TrM d (M.2.1 20)) (hm : MoOK d m) (hN : MoM d m (M.2.1 20)) (ht : t < 6) (hnc : M.2.1 6 t = nI nc) (hQ : RlQ U (fun i => M.2.1 3 (400 * t + i)) (fun i => M.2.1 5 (60 * t + i)) len nc y kd se te) {p2 : Int32} {i : Nat} {k50 : Int32 → Sg → Option (Int32 × Sg)} {Q : Int32 × Sg → Prop} (hs : m.sec + 1 ≤ 999) (hk : ∀ Z, tmM d (byM (ta d y kd se te nc d.rd 0 m) (m.sec + 1)) M Z → Wp (k50 (nI (i + 1)) Z) Q) : Wp (fl3 (f_X12_run_b58 (nI t) p2 k50) FU (nI i) 0 M) Q := by
  have h6 := hd.r6
  refine wp_fl3 (fun j x y' Z => ∃ r m', x = nI i ∧ y' = nI r ∧ r + j = d.rd ∧ MoOK d m' ∧ m'.sec = m.sec ∧ tmM d m' M Z ∧ ta d y kd se te nc j r m' = ta d y kd se te nc d.rd 0 m) ?_ d.rd (FU_lt (by omega)) _ _ _ ⟨0, m, rfl, rfl, by omega, hm, rfl, ⟨hM, hN, fun _ _ => rfl, fq.rf M⟩, rfl⟩
  rintro j K _ _ Z ⟨r, m', rfl, rfl, hrj, hm', hsec, hZ, hv0⟩ ih
  unfold f_X12_run_b58 f_X12_run_b101
  rw [hZ.1.1.2.2]
  cases j with
  | zero =>
    have e : r = d.rd := by omega
    subst e
    have hv2 : m' = ta d y kd se te nc d.rd 0 m := hv0
    obtain ⟨f, f1, f2, f3, f4⟩ := m_secondComes hd hZ.1 hm' hZ.2.1
    rw [if_pos (nI_le (Nat.le_refl _) (by omega)), f1, ob1_s, wp_bnd, ← nI_succ]
    refine hk _ ?_
    rw [← hv2, ← hsec]
    exact hZ.tr ⟨f2, f3, f4, fun _ _ => rfl, fun q hq => if_neg hq⟩
  | succ j =>
    have hr : r < d.rd := by omega
    have hs' := hm'.1
    have hkn := (hd.rr r hr).2.2.2
    have hv1 : ta d y kd se te nc j (r + 1) (if m'.gq r = false ∧ d.kn r ≤ m'.sec then tn d m' r y kd se te nc 0 else m') = ta d y kd se te nc d.rd 0 m := hv0
    rw [if_neg (nI_ge hr (by omega)), m_isGoing hd hm' hZ.2.1 hr, ob1_s]
    by_cases c2 : m'.gq r = true
    · rw [c2, itT, wp_bnd]
      rw [if_neg (fun h => by rw [c2] at h; cases h.1)] at hv1
      exact ih j _ _ _ (by omega) ⟨r + 1, m', rfl, (nI_succ r).symm, by omega, hm', hsec, hZ, hv1⟩
    · simp only [Bool.not_eq_true] at c2
      rw [c2, itF, show (4 : Int32) = nI 4 from rfl, m_riderOf (by omega) (by omega), ob1_s, (hZ.1.2.2.2.2.2 r hr).2.2.2, hZ.2.1.1.1]
      by_cases c1 : d.kn r ≤ m'.sec
      · rw [if_neg (nI_nlt c1 (by omega)), wp_ob1]
        rw [if_pos ⟨c2, c1⟩] at hv1
        have e3 := hZ.2.2.2.2 3 (by omega)
        have e5 := hZ.2.2.2.2 5 (by omega)
        have e6 := hZ.2.2.2.2 6 (by omega)
        refine wp_mono (m_asks hd hZ.1 hm' hZ.2.1 ht (by rw [e6]; exact hnc) (by rw [e3, e5]; exact hQ) hr) (fun o ho => ?_)
        rw [wp_bnd]
        have hok := tn_ok (y := y) (kd := kd) (se := se) (te := te) hd hm' hr nc 0
        exact ih j _ _ _ (by omega) ⟨r + 1, _, rfl, (nI_succ r).symm, by omega, hok.1, by rw [hok.2]; exact hsec, hZ.tr ho, hv1⟩
      · rw [if_pos (nI_lt (by omega) (by omega)), wp_bnd]
        rw [if_neg (fun h => c1 h.2)] at hv1
        exact ih j _ _ _ (by omega) ⟨r + 1, m', rfl, (nI_succ r).symm, by omega, hm', hsec, hZ, hv1⟩
theorem rn_ok (hd : TrOK d) (hm : MoOK d m) (hs : m.sec + 1 ≤ 999) : MoOK d (byM (ta d y kd se te nc d.rd 0 m) (m.sec + 1)) ∧ (byM (ta d y kd se te nc d.rd 0 m) (m.sec + 1)).sec = m.sec + 1 := ⟨byM_ok (ta_ok hd d.rd 0 m (by omega) hm).1 hs, rfl⟩
end
theorem st_run : St_run RR := by
  intro s M p1 p2 hR
  have hR0 := hR; obtain ⟨hTp, ⟨d, m, n, a, π, ⟨hG, hT, hM, hm, hO, hN, hS, hX, hX0⟩, hH⟩, hI, hU⟩ := hR
  obtain ⟨w1, w2, w3, w4⟩ := hU
  have hU0 : RuR ((s.1 0).1 7) (s.2.1 5) s.2.2.1 s.2.2.2 (M.1 2) (M.2.1 3) (M.2.1 5) (M.2.1 6) := ⟨w1, w2, w3, w4⟩
  have hiR : ∀ {p : Int32}, (∀ c, c < s.2.2.2 → p ≠ nI c) → f_X12_isRule M p = some false := by
    intro p hp
    unfold f_X12_isRule f_X12_isRule_b16
    rw [w3]
    rcases nI_out (by omega) hp with h | h
    · rw [if_pos h]
    · by_cases h0 : p < 0
      · rw [if_pos h0]
      · rw [if_neg h0, if_pos h]
  rcases csI p1 s.2.2.2 with ⟨j, hj, rfl⟩ | hno
  · left
    obtain ⟨len, nc, y, kd, se, te, q1, q2, ⟨l0, l1, l2, l3⟩, q4, q5, q6⟩ := w4 j hj
    have hQ : RlQ (s.2.1 5 j) (fun i => M.2.1 3 (400 * j + i)) (fun i => M.2.1 5 (60 * j + i)) len nc y kd se te := ⟨q1, q2, q5, q6⟩
    have hir : f_X12_isRule M (nI j) = some true := by
      unfold f_X12_isRule
      rw [w3, if_neg (nI_pos (by omega)), if_neg (nI_ge hj (by omega))]
    refine ⟨j, ?_⟩
    rw [l0, l1, l2, l3]
    unfold f_X11_run f_X12_run f_X11_run_b20 f_X12_run_b41
    rw [if_neg (nI_pos (by omega)), w2, if_neg (nI_ge hj (by omega)), m_isLine hG hM, ob1_s, hir, ob1_s, itT]
    rcases x_canGoBy hG hT hm hO p2 with ⟨k, rfl, h1, h2, h3, c0, h4⟩ | ⟨hno, h4⟩
    · have hd := hG.ok c0
      simp only [c0, decide_true]
      rw [itT, h4, ob1_s, itT, bnd_eq, m_inT (a := 1) (b := 99) (by decide) (by decide) h1 h2 (by omega), ob1_s, itT, hN.1.1, nI_add, show (999 : Int32) = nI 999 from rfl, if_pos (nI_le h3 (by omega)), bnd_eq]
      have kx : Wp (fl4 (f_X11_run_b32 len nc nc nc j (s.1 0) (s.1 2) (s.2.1 5 j) (nI j) (nI k)) FU 0 (s.1 3) (s.1 12) (sI (s.1 14) 2 0)) (fun o => ∃ O1 N1, o = (nI (rnM d y kd se te nc k m).sec, O1, N1, sI (s.1 14) 2 0) ∧ MoC d (rnM d y kd se te nc k m) O1) := by
        refine wp_fl4 (fun q x P _ H => ∃ i m', x = nI i ∧ H = sI (s.1 14) 2 0 ∧ i + q = k ∧ MoOK d m' ∧ MoC d m' P ∧ m'.sec = m.sec + i ∧ rnM d y kd se te nc q m' = rnM d y kd se te nc k m) ?_ k (FU_lt (by omega)) _ _ _ _ ⟨0, m, rfl, rfl, by omega, hm, hO, rfl, rfl⟩
        rintro q K _ P Nn _ ⟨i, m', rfl, rfl, hiq, hm', hO', hsec, hv⟩ ih
        unfold f_X11_run_b32
        cases q with
        | zero =>
          have e : i = k := by omega
          subst e
          have hv2 : m' = rnM d y kd se te nc i m := hv
          rw [if_pos (nI_le (Nat.le_refl _) (by omega)), ← hv2, hO'.1.1]
          exact wp_some.mpr ⟨P, Nn, rfl, hO'⟩
        | succ q =>
          have hv1 : rnM d y kd se te nc q (byM (ta d y kd se te nc d.rd 0 m') (m'.sec + 1)) = rnM d y kd se te nc k m := hv
          rw [if_neg (nI_ge (by omega) (by omega)), ixd_nI (by omega) (by omega)]
          unfold gE
          rw [if_pos rfl, wp_ob2]
          refine wp_mono (x_turns hd hT hm' hO' hQ) (fun o ho => ?_)
          have hta := ta_ok (y := y) (kd := kd) (se := se) (te := te) (nc := nc) hd d.rd 0 m' (by omega) hm'
          obtain ⟨O2, g1, g2⟩ := x_goBy (k := 1) (s := m'.sec + 1) hd hT hta.1 ho (by rw [hta.2]) (by omega)
          have g3 : f_X10_goBy (s.1 2) o.1 1 = some O2 := g1
          rw [g3, ob1_s, wp_bnd]
          have hok := rn_ok (y := y) (kd := kd) (se := se) (te := te) (nc := nc) hd hm' (show m'.sec + 1 ≤ 999 by omega)
          exact ih q _ _ _ _ (by omega) ⟨i + 1, _, (nI_succ i).symm, rfl, by omega, hok.1, g2, by rw [hok.2]; omega, hv1⟩
      have km : Wp (fl2 (f_X12_run_b50 (nI j) (nI k)) FU 0 (sI M 23 0)) (fun o => o.1 = nI (rnM d y kd se te nc k m).sec ∧ tmM d (rnM d y kd se te nc k m) (sI M 23 0) o.2 ∧ MoOK d (rnM d y kd se te nc k m)) := by
        refine wp_fl2 (fun q x Z => ∃ i m', x = nI i ∧ i + q = k ∧ MoOK d m' ∧ tmM d m' (sI M 23 0) Z ∧ m'.sec = m.sec + i ∧ rnM d y kd se te nc q m' = rnM d y kd se te nc k m) ?_ k (FU_lt (by omega)) _ _ ⟨0, m, rfl, by omega, hm, ⟨hM, hN, fun _ _ => rfl, fq.rf _⟩, rfl, rfl⟩
        rintro q K _ Z ⟨i, m', rfl, hiq, hm', hZ, hsec, hv⟩ ih
        unfold f_X12_run_b50
        cases q with
        | zero =>
          have e : i = k := by omega
          subst e
          have hv2 : m' = rnM d y kd se te nc i m := hv
          rw [if_pos (nI_le (Nat.le_refl _) (by omega)), ← hv2, hZ.2.1.1.1]
          exact wp_some.mpr ⟨rfl, hZ, hm'⟩
        | succ q =>
          have hv1 : rnM d y kd se te nc q (byM (ta d y kd se te nc d.rd 0 m') (m'.sec + 1)) = rnM d y kd se te nc k m := hv
          rw [if_neg (nI_ge (by omega) (by omega))]
          have e3 : Z.2.1 3 = M.2.1 3 := hZ.2.2.2.2 3 (by omega)
          have e5 : Z.2.1 5 = M.2.1 5 := hZ.2.2.2.2 5 (by omega)
          have e6 : Z.2.1 6 = M.2.1 6 := hZ.2.2.2.2 6 (by omega)
          have hok := rn_ok (y := y) (kd := kd) (se := se) (te := te) (nc := nc) hd hm' (show m'.sec + 1 ≤ 999 by omega)
          refine m_run1 (U := s.2.1 5 j) hd hZ.1 hm' hZ.2.1 (by omega) (by rw [e6]; exact q4) (by rw [e3, e5]; exact hQ) (by omega) (fun Z2 hZ2 => ?_)
          exact ih q _ _ (by omega) ⟨i + 1, _, rfl, by omega, hok.1, hZ.tr hZ2, by rw [hok.2]; omega, hv1⟩
      obtain ⟨x, x1, O1, N1, x2, x3⟩ := kx
      subst x2
      obtain ⟨⟨r, M1⟩, y1, y2, y3, y4⟩ := km
      simp only at y2 y3
      subst y2
      refine ⟨_, O1, N1, sI (s.1 14) 2 0, M1, hj, x1, y1, ?_⟩
      obtain ⟨z1, z2, z3, z4, z5⟩ := y3
      obtain ⟨nx, sz, ms, u1, u2, u3, u4, u5, u6⟩ := hH
      have f0 : M1.2.1 0 = M.2.1 0 := z5 0 (by omega)
      have f3 : M1.2.1 3 = M.2.1 3 := z5 3 (by omega)
      have f5 : M1.2.1 5 = M.2.1 5 := z5 5 (by omega)
      have f6 : M1.2.1 6 = M.2.1 6 := z5 6 (by omega)
      have f22 : M1.2.1 22 = M.2.1 22 := z5 22 (by omega)
      have f36 : M1.2.1 36 = M.2.1 36 := z5 36 (by omega)
      have f37 : M1.2.1 37 = M.2.1 37 := z5 37 (by omega)
      have f38 : M1.2.1 38 = M.2.1 38 := z5 38 (by omega)
      have g1 : M1.1 1 = M.1 1 := z4 1 (by omega)
      have g2 : M1.1 2 = M.1 2 := z4 2 (by omega)
      have g21 : M1.1 21 = M.1 21 := z4 21 (by omega)
      have g23 : M1.1 23 = nI 0 := z4 23 (by omega)
      unfold RR
      rw [f0, f3, f5, f6, f22, f36, f37, f38, g1, g2, g21, g23]
      exact ⟨hTp, ⟨d, _, n, a, π, ⟨hG, hT, z1, y4, x3, z2, SR_congr hS (fun q hq _ => z3 q hq), hX, hX0⟩, nx, 0, ms, u1, by omega, u3, rfl, rfl, fun j hj => by omega⟩, hI, hU0⟩
    · refine ⟨-1, s.1 3, s.1 12, s.1 14, M, hj, ?_, ?_, ?_⟩
      · rw [h4, ob1_s, itF]
      · by_cases c0 : 0 < d.n
        · simp only [c0, decide_true]
          rw [itT]
          exact m_cgb hG hM hm hN hno c0 _ _ _
        · simp only [c0, decide_false]
          rfl
      · have e : sC (sC (sC s 3 (s.1 3)) 12 (s.1 12)) 14 (s.1 14) = s := by
          unfold sC
          rw [va_up_se, va_up_se, va_up_se]
        rw [e]; exact hR0
  · right
    refine ⟨M, ?_, ?_, hR0⟩
    · rw [w2]; exact nI_out (by omega) hno
    · unfold f_X12_run f_X12_run_b41
      rw [m_isLine hG hM, ob1_s, hiR hno, ob1_s, itF]
      by_cases c0 : 0 < d.n
      · simp only [c0, decide_true]; rfl
      · simp only [c0, decide_false]; rfl
