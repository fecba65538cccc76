/-! the reference's turns; run -/
def fq (M M' : Sg) : Prop := (∀ k, k ≠ 18 → M'.1 k = M.1 k) ∧ ∀ q, q ≠ 20 → M'.2.1 q = M.2.1 q
theorem fq.rf (M : Sg) : fq M M := ⟨fun _ _ => rfl, fun _ _ => rfl⟩
theorem fq.tr {M M' M2 : Sg} (h : fq M M') (h2 : fq M' M2) : fq M M2 := ⟨fun k hk => (h2.1 k hk).trans (h.1 k hk), fun q hq => (h2.2 q hq).trans (h.2 q hq)⟩
theorem kp_fq {M M' : Sg} (h : kp M M') : fq M M' := ⟨h.2.2, fun q _ => by rw [h.1]⟩
/-- what a train and a moment of the reference come to -/
def tmM (d : Tr) (m : Mo) (M0 M : Sg) : Prop := TrM d (M.2.1 20) ∧ MoM d m (M.2.1 20) ∧ (∀ k, 100 ≤ k → M.2.1 20 k = M0.2.1 20 k) ∧ fq M0 M
section
variable {d : Tr} {m : Mo} {U : Sg} {M : Sg} {len nc t : Nat} {y kd se te : Nat → Nat}
theorem m_go1 (hd : TrOK d) (hM : TrM d (M.2.1 20)) (hm : MoOK d m) (hN : MoM d m (M.2.1 20)) {r b : Nat} {k : Bool} (hr : r < d.rd) (hb : b < d.n) : ∃ M', f_X12_goes M (nI r) (nI b) k = some M' ∧ tmM d (goM m r b (m.sec + (if k then d.ins r else sOu d r (m.co r) b)) k) M M' := by
  obtain ⟨f, f1, f2, f3, f4⟩ := m_goes (b := k) hd hM hm hN hr hb
  exact ⟨sF M 20 f, f1, f2, f3, f4, fun _ _ => rfl, fun q hq => if_neg hq⟩
theorem m_does (hd : TrOK d) (hM : TrM d (M.2.1 20)) (hm : MoOK d m) (hN : MoM d m (M.2.1 20)) (ht : t < 6) (hQ : RlQ U (fun i => M.2.1 3 (400 * t + i)) (fun i => M.2.1 5 (60 * t + i)) len nc y kd se te) {r c : Nat} (hr : r < d.rd) (hc : c < nc) (hW : ∀ w, w ≤ 12 → M.2.2 19 w = (wv d m r w).toInt64) : Wp (f_X12_doesBy M (nI t) (nI (60 * t + 5 * c)) (nI r)) (fun o => match dnM d m r y kd se te c with | none => o.1 = false ∧ kp M o.2 | some m' => o.1 = true ∧ tmM d m' M o.2) := by
  have hn := hd.n8
  have h6 := hd.r6
  have hco := hm.2.2.2.1 r hr
  obtain ⟨q1, q2, q3, q4⟩ := hQ
  obtain ⟨⟨a1, a2, a3, a4⟩, -, ⟨b0, b1, b2, b3, b4⟩, e1, e2⟩ := q4 c hc
  unfold f_X12_doesBy f_X12_doesBy_b70 f_X12_doesBy_b108 f_X12_doesBy_b151 f_X12_doesBy_b153 f_X12_doesBy_b171 dnM
  have b00 : M.2.1 5 (60 * t + 5 * c) = nI (kd c) := b0
  rw [ixd_nI (by omega) (by omega), b00]
  by_cases c1 : kd c = 2
  · rw [if_pos (by rw [c1]; rfl), if_pos c1]
    exact wp_some.mpr ⟨rfl, hM, hN, fun _ _ => rfl, fq.rf M⟩
  · have e5 : M.2.1 5 (60 * t + 5 * c + 1) = nI (bgC te c) := by rw [Nat.add_assoc]; exact b1
    have e6 : M.2.1 5 (60 * t + 5 * c + 2) = nI (se c) := by rw [Nat.add_assoc]; exact b2
    rw [if_neg (by rw [show (2 : Int32) = nI 2 from rfl, nI_eq (by omega) (by omega)]; exact c1), show (1 : Int32) = nI 1 from rfl, nI_add, ixd_nI (by omega) (by omega), show (2 : Int32) = nI 2 from rfl, nI_add, ixd_nI (by omega) (by omega), e5, e6, wp_ob2, if_neg c1]
    refine wp_mono (m_reckon hW ht (fun i hi => (q3 i hi).2) a2 (by omega) q1 (e1 (by omega)) (fun _ => 0)) (fun o ho => ?_)
    obtain ⟨o1, M2⟩ := o
    simp only at ho ⊢
    obtain ⟨v1, -, hk⟩ := ho
    have v3 : o1 = vl d m r y se te c := v1
    rw [← v3]
    have hM2 : TrM d (M2.2.1 20) := by rw [hk.1]; exact hM
    have hN2 : MoM d m (M2.2.1 20) := by rw [hk.1]; exact hN
    have h5 : M2.2.1 5 (60 * t + 5 * c) = nI (kd c) := by rw [hk.1]; exact b0
    have etm : ∀ m' M3, tmM d m' M2 M3 → tmM d m' M M3 := fun m' M3 h => ⟨h.1, h.2.1, fun k hk2 => by rw [h.2.2.1 k hk2, hk.1], (kp_fq hk).tr h.2.2.2⟩
    have el : nI d.n - 1 = nI (d.n - 1) := nI_sub (a := d.n) (b := 1) (by omega)
    have ell : lN d.n - lN 1 = lN (d.n - 1) := lN_sub (by omega)
    rw [m_rO0 (by omega), ob1_s, (hN2.2.2 r hr).1, hM2.1.1, nI_l (by omega), nI_l (by omega), show (1 : Int64) = lN 1 from rfl, ell, m_in, ob1_s]
    by_cases k0 : (0 : Int64) ≤ o1 ∧ o1 ≤ lN (d.n - 1)
    · simp only [k0, and_self, decide_true]
      rw [itT]
      have k1 : ¬ o1 < 0 := Int64.not_lt.mpr k0.1
      have k2 : ¬ lN d.n ≤ o1 := by
        intro h9
        obtain ⟨q, hq, rfl⟩ := pk_lOf k1
        have h8 := k0.2
        rw [pk_lLE hq (by omega)] at h8
        rw [pk_lLE (by omega) hq] at h9
        omega
      by_cases k3 : o1 = lN (m.co r)
      · rw [if_pos ((lg_eq _ _).mpr k3), if_pos (Or.inr (Or.inr k3))]
        exact wp_some.mpr ⟨rfl, hk⟩
      · have k4 : ¬ (o1 < 0 ∨ lN d.n ≤ o1 ∨ o1 = lN (m.co r)) := by
          intro q; rcases q with q | q | q
          · exact k1 q
          · exact k2 q
          · exact k3 q
        obtain ⟨b, t1, t2, t3, t4⟩ := vl_t (by omega) (by omega) k4
        rw [if_neg (fun q => k3 ((lg_eq _ _).mp q)), if_neg k4, t4, ixd_nI (by omega) (by omega), h5]
        unfold goT
        by_cases k5 : kd c = 1
        · rw [k5, if_pos (show nI 1 = nI 1 from rfl), if_pos (show (1 : Nat) = 1 from rfl), ixd_nI (by omega) (by omega), h5, k5, if_pos (show nI 1 = nI 1 from rfl), t3, lN_i, hN2.1.1, m_mayOutside hd hM2 hr hco t1 (by have := hm.1; omega), ob1_s]
          by_cases k6 : mOu d (sOu d r (m.co r) b) m.sec = true
          · obtain ⟨M3, g1, g2⟩ := m_go1 (k := false) hd hM2 hm hN2 hr t1
            rw [if_neg (by decide)] at g2
            rw [k6, itT, ixd_nI (by omega) (by omega), h5, k5, if_neg (show ¬ nI 1 = (0 : Int32) by decide), show (0 : Int32) = nI 0 from rfl, zb_0, g1, ob1_s, if_pos rfl]
            exact wp_some.mpr ⟨rfl, etm _ _ g2⟩
          · simp only [Bool.not_eq_true] at k6
            rw [k6, itF, if_neg (by decide)]
            exact wp_some.mpr ⟨rfl, hk⟩
        · have k7 : kd c = 0 := by omega
          have hb1 : bsd (m.co r) b < d.n := by unfold bsd; split <;> omega
          have hb2 : dist (m.co r) (bsd (m.co r) b) = 1 := by
            unfold bsd dist
            by_cases h9 : b < m.co r
            · rw [if_pos h9, if_neg (by omega)]; omega
            · rw [if_neg h9, if_pos (by omega)]; omega
          rw [k7, if_neg (show ¬ nI 0 = nI 1 by decide), if_neg (show ¬ (0 : Nat) = 1 by decide)]
          have both : ∀ z, z = nI (bsd (m.co r) b) → Wp (ixd (nI (60 * t + 5 * c)) 360 fun i115 => if M2.2.1 5 i115 = nI 1 then (ob1 (f_X12_mayOutside M2 (nI r) (nI (m.co r)) z (M2.2.1 20 3)) fun r132 => if bI r132 = 0 then some (false, M2) else ixd (nI (60 * t + 5 * c)) 360 fun i162 => if M2.2.1 5 i162 = 0 then zb (nI 1) fun b171 => ob1 (f_X12_goes M2 (nI r) z b171) fun M_171 => some (true, M_171) else zb 0 fun b171 => ob1 (f_X12_goes M2 (nI r) z b171) fun M_171 => some (true, M_171)) else (ob1 (f_X12_canInside M2 (nI r) z) fun r145 => if bI r145 = 0 then some (false, M2) else ixd (nI (60 * t + 5 * c)) 360 fun i162 => if M2.2.1 5 i162 = 0 then zb (nI 1) fun b171 => ob1 (f_X12_goes M2 (nI r) z b171) fun M_171 => some (true, M_171) else zb 0 fun b171 => ob1 (f_X12_goes M2 (nI r) z b171) fun M_171 => some (true, M_171))) (fun o => match (if (wfr d m (min (m.co r) (bsd (m.co r) b)) && mI d m r (m.co r) (bsd (m.co r) b) m.sec) = true then some (goM m r (bsd (m.co r) b) (m.sec + d.ins r) true) else none) with | none => o.1 = false ∧ kp M o.2 | some m' => o.1 = true ∧ tmM d m' M o.2) := by
            intro z hz
            subst hz
            rw [ixd_nI (by omega) (by omega), h5, k7, if_neg (show ¬ nI 0 = nI 1 by decide), m_canIn hd hM2 hm hN2 hr hb1 hb2, ob1_s]
            by_cases k6 : (wfr d m (min (m.co r) (bsd (m.co r) b)) && mI d m r (m.co r) (bsd (m.co r) b) m.sec) = true
            · obtain ⟨M3, g1, g2⟩ := m_go1 (k := true) hd hM2 hm hN2 hr hb1
              rw [if_pos rfl] at g2
              rw [k6, itT, ixd_nI (by omega) (by omega), h5, k7, if_pos (show nI 0 = (0 : Int32) from rfl), zb_1, g1, ob1_s, if_pos rfl]
              exact wp_some.mpr ⟨rfl, etm _ _ g2⟩
            · simp only [Bool.not_eq_true] at k6
              rw [k6, itF, if_neg (by decide)]
              exact wp_some.mpr ⟨rfl, hk⟩
          by_cases h9 : b < m.co r
          · have hx : ¬ 0 ≤ lg_cmp o1 (lN (m.co r)) := by
              intro h8
              have h7 := (lg_ge _ _).mp h8
              rw [t3, pk_lLE (by omega) (by omega)] at h7
              omega
            rw [if_neg hx]
            exact both _ (by unfold bsd; rw [if_pos h9, nI_sub (by omega)])
          · have hx : 0 ≤ lg_cmp o1 (lN (m.co r)) := (lg_ge _ _).mpr (by rw [t3, pk_lLE (by omega) (by omega)]; omega)
            rw [if_pos hx]
            exact both _ (by unfold bsd; rw [if_neg h9, nI_add])
    · have k9 : o1 < 0 ∨ lN d.n ≤ o1 ∨ o1 = lN (m.co r) := by
        by_cases k1 : o1 < 0
        · exact Or.inl k1
        · right; left
          obtain ⟨q, hq, rfl⟩ := pk_lOf k1
          by_cases k2 : lN q ≤ lN (d.n - 1)
          · exact absurd ⟨Int64.not_lt.mp k1, k2⟩ k0
          · rw [pk_lLE hq (by omega)] at k2
            rw [pk_lLE (by omega) hq]
            omega
      rw [if_pos k9]
      simp only [k0, decide_false]
      rw [itF]
      exact wp_some.mpr ⟨rfl, hk⟩
theorem m_asks (hd : TrOK d) (hM : TrM d (M.2.1 20)) (hm : MoOK d m) (hN : MoM d m (M.2.1 20)) (ht : t < 6) (hnc : M.2.1 6 t = nI nc) (hQ : RlQ U (fun i => M.2.1 3 (400 * t + i)) (fun i => M.2.1 5 (60 * t + i)) len nc y kd se te) {r : Nat} (hr : r < d.rd) : Wp (f_X12_asks M (nI t) (nI r)) (fun o => tmM d (tn d m r y kd se te nc 0) M o) := by
  have h12 := hQ.2.1
  obtain ⟨g, w1, w2⟩ := m_words hd hM hm hN hr
  unfold f_X12_asks
  rw [w1, ob1_s]
  have hfj : fq M (jM M g) := ⟨fun _ _ => rfl, fun _ _ => rfl⟩
  refine wp_fl2 (fun j x Z => ∃ c, x = nI c ∧ kp (jM M g) Z ∧ c + j = nc ∧ tn d m r y kd se te j c = tn d m r y kd se te nc 0) ?_ nc (FU_lt (by omega)) _ _ ⟨0, rfl, kp.rf _, by omega, rfl⟩
  rintro j K _ Z ⟨c, rfl, hk, hcj, hv0⟩ ih
  have eA : Z.2.1 = M.2.1 := hk.1
  have hMZ : TrM d (Z.2.1 20) := by rw [eA]; exact hM
  have hNZ : MoM d m (Z.2.1 20) := by rw [eA]; exact hN
  have hQZ : RlQ U (fun i => Z.2.1 3 (400 * t + i)) (fun i => Z.2.1 5 (60 * t + i)) len nc y kd se te := by rw [eA]; exact hQ
  have hWZ : ∀ w, w ≤ 12 → Z.2.2 19 w = (wv d m r w).toInt64 := fun w hw => by rw [hk.2.1]; exact w2 w hw
  have hnZ : Z.2.1 6 t = nI nc := by rw [eA]; exact hnc
  unfold f_X12_asks_b7 f_X12_asks_b67 f_X12_asks_b72 f_X12_asks_b91
  rw [ixd_nI ht (by omega), hnZ]
  cases j with
  | zero =>
    have e : c = nc := by omega
    subst e
    have hv2 : m = tn d m r y kd se te c 0 := hv0
    rw [if_pos (nI_le (Nat.le_refl _) (by omega)), ← hv2]
    exact wp_some.mpr ⟨hMZ, hNZ, fun k _ => by rw [eA], hfj.tr (kp_fq hk)⟩
  | succ j =>
    have hc : c < nc := by omega
    rw [tn_s] at hv0
    obtain ⟨q1, q2, q3, q4⟩ := hQZ
    obtain ⟨⟨a1, a2, a3, a4⟩, -, ⟨b0, b1, b2, b3, b4⟩, e1, e2⟩ := q4 c hc
    have e3 : Z.2.1 5 (60 * t + 5 * c + 3) = (if se c < te c then nI (se c) else -nI 1) := by rw [Nat.add_assoc]; exact b3
    have e4 : Z.2.1 5 (60 * t + 5 * c + 4) = nI (te c) := by rw [Nat.add_assoc]; exact b4
    have hdo : ∀ Z2, kp Z Z2 → hv d m r y se te c = true → Wp (ob2 (f_X12_doesBy Z2 (nI t) (nI (60 * t + 5 * c)) (nI r)) fun r84 M_84 => if bI r84 = 0 then bnd (nI c + 1) fun x3_91 => K x3_91 M_84 else some M_84) (fun o => tmM d (tn d m r y kd se te nc 0) M o) := by
      intro Z2 hk2 hh
      have eA2 : Z2.2.1 = M.2.1 := by rw [hk2.1]; exact eA
      rw [if_pos hh] at hv0
      rw [wp_ob2]
      refine wp_mono (m_does hd (by rw [eA2]; exact hM) hm (by rw [eA2]; exact hN) ht (by rw [eA2]; exact hQ) hr hc (fun w hw => by rw [hk2.2.1]; exact hWZ w hw)) (fun o ho => ?_)
      obtain ⟨o1, M3⟩ := o
      cases h1 : dnM d m r y kd se te c with
      | none =>
        rw [h1] at ho hv0
        simp only at ho hv0 ⊢
        obtain ⟨x1, x2⟩ := ho
        subst x1
        rw [itF, wp_bnd]
        exact ih j _ _ (by omega) ⟨c + 1, (nI_succ c).symm, (hk.tr hk2).tr x2, by omega, hv0⟩
      | some m' =>
        rw [h1] at ho hv0
        simp only at ho hv0 ⊢
        obtain ⟨x1, x2⟩ := ho
        subst x1
        rw [itT, ← hv0]
        refine wp_some.mpr ⟨x2.1, x2.2.1, fun k hk3 => by rw [x2.2.2.1 k hk3, eA2], ?_⟩
        exact (hfj.tr (kp_fq (hk.tr hk2))).tr x2.2.2.2
    have hno : ∀ Z2, kp Z Z2 → hv d m r y se te c = false → Wp (bnd (nI c + 1) fun x3_91 => K x3_91 Z2) (fun o => tmM d (tn d m r y kd se te nc 0) M o) := by
      intro Z2 hk2 hh
      rw [hh, if_neg (by decide)] at hv0
      rw [wp_bnd]
      exact ih j _ _ (by omega) ⟨c + 1, (nI_succ c).symm, hk.tr hk2, by omega, hv0⟩
    rw [if_neg (nI_ge hc (by omega)), show (60 : Int32) = nI 60 from rfl, nI_mul, show (5 : Int32) = nI 5 from rfl, nI_mul, nI_add, bnd_eq, show (3 : Int32) = nI 3 from rfl, nI_add, ixd_nI (by omega) (by omega), ixd_nI (by omega) (by omega), e3, show (4 : Int32) = nI 4 from rfl, nI_add, ixd_nI (by omega) (by omega), e4]
    by_cases c1 : se c < te c
    · rw [if_pos c1, if_neg (nI_pos (by omega)), wp_ob2]
      refine wp_mono (m_reckon hWZ ht (fun i hi => (q3 i hi).2) a3 a4 q1 (e2 c1) (fun _ => 0)) (fun o ho => ?_)
      obtain ⟨o1, M2⟩ := o
      obtain ⟨v1, v2, v3⟩ := ho
      have v1 : o1 = _ := v1
      have v2 : true = true → i01 o1 := v2
      have v3 : kp Z M2 := v3
      dsimp only
      have hhv : hv d m r y se te c = !(decide (o1 = 0)) := by unfold hv; rw [if_pos c1, v1]
      rcases v2 rfl with h9 | h9
      · rw [if_neg (fun q => by have := (lg_eq _ _).mp q; rw [h9] at this; exact absurd this (by decide)), if_pos (show (0 : Int32) = 0 from rfl)]
        exact hno M2 v3 (by rw [hhv, h9]; decide)
      · rw [if_pos ((lg_eq _ _).mpr h9), if_neg (show ¬ (1 : Int32) = 0 by decide)]
        exact hdo M2 v3 (by rw [hhv, h9]; decide)
    · rw [if_neg c1, if_pos (by decide), if_neg (show ¬ (1 : Int32) = 0 by decide)]
      exact hdo Z (kp.rf Z) (by unfold hv; rw [if_neg c1])
end
