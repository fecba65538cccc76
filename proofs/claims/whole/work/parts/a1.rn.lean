/-! the reference reckons -/
def hM (M : Sg) (h : Nat) (f : Nat → Int64) : Prop := M.1 18 = nI h ∧ ∀ i, i < h → M.2.2 17 i = f i
/-- but for the stack all is as it was -/
def kp (M M' : Sg) : Prop := M'.2.1 = M.2.1 ∧ M'.2.2 19 = M.2.2 19 ∧ ∀ k, k ≠ 18 → M'.1 k = M.1 k
theorem kp.rf (M : Sg) : kp M M := ⟨rfl, rfl, fun _ _ => rfl⟩
theorem kp.tr {M M' M2 : Sg} (h : kp M M') (h2 : kp M' M2) : kp M M2 := ⟨h2.1.trans h.1, h2.2.1.trans h.2.1, fun k hk => (h2.2.2 k hk).trans (h.2.2 k hk)⟩
theorem kp_pj {M M' : Sg} (h : kp M M') : pjM M' = pjM M := by
  unfold pjM
  rw [h.1, h.2.2 1 (by omega), h.2.2 2 (by omega), h.2.2 21 (by omega), h.2.2 23 (by omega)]
theorem m_pushJ {M : Sg} {h : Nat} {f : Nat → Int64} (hn : hM M h f) (hh : h < 64) (v : Int64) : ∃ M', f_X12_push M v = some M' ∧ hM M' (h + 1) (vp_updL f h v) ∧ kp M M' := by
  refine ⟨sI (sJ M 17 h v) 18 (nI (h + 1)), ?_, ⟨rfl, fun i hi => ?_⟩, rfl, rfl, fun k hk => if_neg hk⟩
  · unfold f_X12_push
    have e : (sJ M 17 h v).1 18 = nI h := hn.1
    rw [hn.1, ixd_nI hh (by omega), bnd_eq, e, bnd_eq, ← nI_succ]
  · show vp_updL (M.2.2 17) h v i = vp_updL f h v i
    unfold vp_updL
    by_cases e : i = h
    · rw [if_pos e, if_pos e]
    · rw [if_neg e, if_neg e]; exact hn.2 i (by omega)
theorem m_popJ {M : Sg} {h : Nat} {f : Nat → Int64} (hn : hM M (h + 1) f) (hh : h < 64) : ∃ M', f_X12_pop M = some (f h, M') ∧ hM M' h f ∧ kp M M' := by
  refine ⟨sI M 18 (nI h), ?_, ⟨rfl, fun i hi => hn.2 i (by omega)⟩, rfl, rfl, fun k hk => if_neg hk⟩
  unfold f_X12_pop
  have e : (sI M 18 (nI h)).1 18 = nI h := rfl
  rw [hn.1, nI_pred, bnd_eq, e, ixd_nI hh (by omega)]
  rw [show (sI M 18 (nI h)).2.2 17 h = M.2.2 17 h from rfl, hn.2 h (by omega)]
theorem not01 {a : Int64} (h : i01 a) : (1 : Int64) - a = (if a = 0 then 1 else 0) := by
  rcases h with rfl | rfl <;> decide
theorem m_reckon {M : Sg} {wf : Nat → Int32} {y : Nat → Nat} {lo hi len t : Nat} {b : Bool} (hW : ∀ w, w ≤ 12 → M.2.2 19 w = (wf w).toInt64) (ht : t < 6) (hU : ∀ i, i < len → M.2.1 3 (400 * t + i) = nI (y i) ∧ yOK (y i)) (hle : lo ≤ hi) (hhi : hi ≤ len) (hlen : len ≤ 400) (hw : wfe y (hi - lo) lo [] = some [b]) (f0 : Nat → Int64) : Wp (f_X12_reckons M (nI t) (nI lo) (nI hi)) (fun o => o.1 = evN wf y (hi - lo) lo [] f0 0 ∧ (b = true → i01 o.1) ∧ kp M o.2) := by
  unfold f_X12_reckons
  rw [bnd_eq]
  refine wp_fl2 (fun j x Z => ∃ i ts f, x = nI i ∧ i + j = hi ∧ lo ≤ i ∧ hM Z ts.length f ∧ kp M Z ∧ ts.length ≤ 60 ∧ tyO ts f ∧ wfe y j i ts = some [b] ∧ evN wf y j i ts f = evN wf y (hi - lo) lo [] f0) ?_ (hi - lo) (FU_lt (by omega)) _ _ ⟨lo, [], f0, rfl, by omega, Nat.le_refl _, ⟨rfl, fun i hi => absurd hi (by simp)⟩, ⟨rfl, rfl, fun k hk => if_neg hk⟩, by simp, trivial, hw, rfl⟩
  rintro j K _ Z ⟨i, ts, f, rfl, hij, hlo, hZ, hkp, hts, hty, hwf, hev⟩ ih
  unfold f_X12_reckons_b8 f_X12_reckons_b129
  cases j with
  | zero =>
    have e : i = hi := by omega
    subst e
    have e2 : ts = [b] := by
      have : some ts = some [b] := hwf
      cases this; rfl
    subst e2
    have hZ1 : hM Z (0 + 1) f := hZ
    obtain ⟨N', p1, p2, p3⟩ := m_popJ hZ1 (by omega)
    rw [if_pos (nI_le (Nat.le_refl _) (by omega)), p1, ob2_s]
    have hev2 : f = evN wf y (i - lo) lo [] f0 := hev
    refine wp_some.mpr ⟨?_, fun hb => hty.1 hb, hkp.tr p3⟩
    show f 0 = _; rw [← hev2]
  | succ j =>
    have hU1 := hU i (by omega)
    have hyb : y i < 2 ^ 31 ∧ y i % 16 < 16 := by have := hU1.2; unfold yOK at this; omega
    rw [wfe_s] at hwf
    cases h1 : tyS (y i) ts with
    | none => rw [h1] at hwf; cases hwf
    | some ts' =>
      rw [h1] at hwf
      simp only at hwf
      have hev2 : evN wf y j (i + 1) ts' (ev1 wf (y i) ts.length f) = evN wf y (hi - lo) lo [] f0 := by
        have : (match tyS (y i) ts with | none => f | some ts' => evN wf y j (i + 1) ts' (ev1 wf (y i) ts.length f)) = evN wf y (hi - lo) lo [] f0 := hev
        rw [h1] at this
        exact this
      have hok := ev1_ok (wf := wf) hU1.2 h1 hty
      have e3 : Z.2.1 3 (400 * t + i) = nI (y i) := by rw [hkp.1]; exact hU1.1
      have ea : nI (y i) &&& 15 = nI (y i % 16) := pk_andN (by omega) 4 (by decide)
      have es : nI (y i) >>> ((4 : Int32) &&& 31) = nI (y i / 16) := pk_shrN (by omega) _ 4 (by decide)
      rw [if_neg (nI_ge (by omega) (by omega)), show (400 : Int32) = nI 400 from rfl, nI_mul, nI_add, ixd_nI (by omega) (by omega), bnd_eq, ixd_nI (by omega) (by omega), bnd_eq, e3, ea, es]
      have hnext : ∀ Z', hM Z' ts'.length (ev1 wf (y i) ts.length f) → kp Z Z' → ts'.length ≤ 60 → Wp (bnd (nI i + 1) fun x5_129 => K x5_129 Z') (fun o => o.1 = evN wf y (hi - lo) lo [] f0 0 ∧ (b = true → i01 o.1) ∧ kp M o.2) := by
        intro Z' hZ' hk hl
        rw [wp_bnd]
        exact ih j _ _ (by omega) ⟨i + 1, ts', _, (nI_succ i).symm, by omega, by omega, hZ', hkp.tr hk, hl, hok, hwf, hev2⟩
      rcases tyS_c hU1.2 h1 with ⟨c1, c2, rfl⟩ | ⟨c1, q, rfl, rfl⟩ | ⟨c1, c2, c3, b1, b2, q, b3, rfl, rfl, c4, c5⟩
      · by_cases c3 : y i % 16 = 0
        · obtain ⟨N', p1, p2, p3⟩ := m_pushJ hZ (by omega) (nI (y i / 16)).toInt64
          rw [c3, if_pos (show nI 0 = (0 : Int32) from rfl), p1, ob1_s]
          refine hnext N' ?_ p3 (by simp only [List.length_cons]; omega)
          have ee : ev1 wf (y i) ts.length f = vp_updL f ts.length (nI (y i / 16)).toInt64 := by unfold ev1; rw [if_pos c3]
          rw [ee]; exact p2
        · have c4 : y i % 16 = 1 := by omega
          have ey : y i / 16 ≤ 12 := by have := hU1.2; unfold yOK at this; omega
          have ew : Z.2.2 19 (y i / 16) = (wf (y i / 16)).toInt64 := by rw [hkp.2.1]; exact hW _ ey
          obtain ⟨N', p1, p2, p3⟩ := m_pushJ hZ (by omega) (wf (y i / 16)).toInt64
          rw [c4, if_neg (show ¬ nI 1 = (0 : Int32) by decide), if_pos (show nI 1 = (1 : Int32) from rfl), ixd_nI (by omega) (by omega), ew, p1, ob1_s]
          refine hnext N' ?_ p3 (by simp only [List.length_cons]; omega)
          have ee : ev1 wf (y i) ts.length f = vp_updL f ts.length (wf (y i / 16)).toInt64 := by unfold ev1; rw [if_neg c3, if_pos c4]
          rw [ee]; exact p2
      · have hZ1 : hM Z (q.length + 1) f := hZ
        simp only [List.length_cons] at hts
        obtain ⟨N', p1, p2, p3⟩ := m_popJ hZ1 (by omega)
        have ee : ev1 wf (y i) (true :: q).length f = vp_updL f q.length (if f q.length = 0 then 1 else 0) := by
          unfold ev1; rw [if_neg (by omega), if_neg (by omega), if_pos c1]; rfl
        rw [ee] at hnext
        obtain ⟨N2, p4, p5, p6⟩ := m_pushJ p2 (by omega) (if f q.length = 0 then 1 else 0)
        have e11 : y i % 16 = 11 := by omega
        rw [e11, if_neg (show ¬ nI 11 = (0 : Int32) by decide), if_neg (show ¬ nI 11 = (1 : Int32) by decide), if_pos (show nI 11 = (11 : Int32) from rfl), p1, ob2_s]
        dsimp only
        rw [not01 (hty.1 rfl), p4, ob1_s]
        exact hnext N2 p5 (p3.tr p6) (by simp only [List.length_cons]; omega)
      · have hZ1 : hM Z (q.length + 1 + 1) f := hZ
        simp only [List.length_cons] at hts
        obtain ⟨N1, p1, p2, p3⟩ := m_popJ hZ1 (by omega)
        obtain ⟨N2, p4, p5, p6⟩ := m_popJ p2 (by omega)
        have ee : ev1 wf (y i) (b1 :: b2 :: q).length f = vp_updL f q.length (opv (y i) (f q.length) (f (q.length + 1))) := by
          unfold ev1; rw [if_neg (by omega), if_neg (by omega), if_neg c3]; rfl
        rw [ee] at hnext
        obtain ⟨N3, p7, p8, p9⟩ := m_pushJ p5 (by omega) (opv (y i) (f q.length) (f (q.length + 1)))
        have e14 : y i % 16 = y i := by omega
        have h01 : y i = 12 ∨ y i = 13 → i01 (f q.length) ∧ i01 (f (q.length + 1)) := by
          intro hq
          obtain ⟨g1, g2⟩ := c4 hq
          exact ⟨hty.2.1 g2, hty.1 g1⟩
        rw [e14, if_neg (by rw [show (0 : Int32) = nI 0 from rfl, nI_eq (by omega) (by omega)]; omega), if_neg (by rw [show (1 : Int32) = nI 1 from rfl, nI_eq (by omega) (by omega)]; omega), if_neg (by rw [show (11 : Int32) = nI 11 from rfl, nI_eq (by omega) (by omega)]; exact c3), p1, ob2_s, p4, ob2_s]
        dsimp only
        rw [m_one (y i) ⟨c1, c2, c3⟩ _ _ h01, ob1_s, p7, ob1_s]
        exact hnext N3 p8 ((p3.tr p6).tr p9) (by simp only [List.length_cons]; omega)
