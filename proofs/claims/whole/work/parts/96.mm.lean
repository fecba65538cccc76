/-! meet: the reference -/
def wM (M : Sg) (u v : Nat → Int32) : Sg := sF (sF M 33 u) 34 v
theorem wM_33 (M : Sg) (u v : Nat → Int32) (i : Nat) (x : Int32) : sA (wM M u v) 33 i x = wM M (upd u i x) v := by
  show (M.1, va_up (va_up (va_up M.2.1 33 u) 34 v) 33 (upd u i x), M.2.2) = (M.1, va_up (va_up M.2.1 33 (upd u i x)) 34 v, M.2.2)
  rw [va_up_cm _ _ _ (show (34 : Nat) ≠ 33 by decide), va_up_up]
theorem wM_34 (M : Sg) (u v : Nat → Int32) (i : Nat) (x : Int32) : sA (wM M u v) 34 i x = wM M u (upd v i x) := sA_sF _ 34 v i x
theorem wM_id (M : Sg) : wM M (M.2.1 33) (M.2.1 34) = M := by
  unfold wM
  rw [sF_self]
  exact sF_self M 34
section
variable {d : Tr} {m : Mo} {T O : Sg} {M : Sg}
theorem m_straight (hd : TrOK d) (hm : MoOK d m) (hM : TrM d (M.2.1 20)) (hN : MoM d m (M.2.1 20)) {r b base : Nat} {u0 v0 : Nat → Int32} (hr : r < d.rd) (hb : b < d.n) (hbase : base ≤ 7) : ∃ u v, f_X12_goesStraight (wM M u0 v0) (nI r) (nI b) (nI base) = some (wM M u v) ∧ (∀ w, w < 7 → u (base + w) = sN (wB d m r b w) ∧ (wB d m r b w ≤ 999 → v (base + w) = nI (wB d m r b w + d.ins r))) ∧ ∀ k, k < base ∨ base + 7 ≤ k → u k = u0 k ∧ v k = v0 k := by
  have hn := hd.n8
  have h6 := hd.r6
  have hin := hd.inr hr
  have hpl := plc_lt hm hr
  have hkn := (hd.rr r hr).2.2.2
  have hso := sof_le hm hr (show d.kn r ≤ 99999 by omega)
  have key : Wp (f_X12_goesStraight (wM M u0 v0) (nI r) (nI b) (nI base)) (fun o => ∃ u v, o = wM M u v ∧ (∀ w, w < 7 → u (base + w) = sN (wB d m r b w) ∧ (wB d m r b w ≤ 999 → v (base + w) = nI (wB d m r b w + d.ins r))) ∧ ∀ k, k < base ∨ base + 7 ≤ k → u k = u0 k ∧ v k = v0 k) := by
    unfold f_X12_goesStraight
    refine wp_fl2 (fun j x Z => ∃ i u, x = nI i ∧ Z = wM M u v0 ∧ i + j = 7 ∧ (∀ w, w < i → u (base + w) = -nI 1) ∧ ∀ k, k < base ∨ base + 7 ≤ k → u k = u0 k) ?_ 7 (FU_lt (by omega)) _ _ ⟨0, u0, rfl, rfl, by omega, fun w hw => by omega, fun k _ => rfl⟩
    rintro j K _ _ ⟨i, u, rfl, rfl, hij, hu, hu0⟩ ih
    unfold f_X12_goesStraight_b3
    cases j with
    | succ j =>
      rw [if_neg (by rw [show (7 : Int32) = nI 7 from rfl]; exact nI_ge (by omega) (by omega)), nI_add, ixd_nI (by omega) (by omega), bnd_eq, wM_33, wp_bnd]
      refine ih j _ _ (by omega) ⟨i + 1, _, (nI_succ i).symm, rfl, by omega, fun w hw => ?_, fun k hk => ?_⟩
      · rw [upd_at]
        by_cases e : w = i
        · rw [if_pos (by omega)]; rfl
        · rw [if_neg (by omega)]; exact hu w (by omega)
      · rw [upd_at, if_neg (by omega)]; exact hu0 k hk
    | zero =>
      have e : i = 7 := by omega
      subst e
      have hM' : TrM d ((wM M u v0).2.1 20) := hM
      have hN' : MoM d m ((wM M u v0).2.1 20) := hN
      rw [if_pos (by decide), m_whereOf hd hm hN' hr, ob1_s, show (4 : Int32) = nI 4 from rfl, m_riderOf (by omega) (by omega), ob1_s, (hM'.2.2.2.2.2 r hr).2.2.2, m_beginOf hd hm hN' hr (by omega), ob1_s]
      have hdl := dist_lt hpl hb
      refine wp_fl3 (fun j x y Z => ∃ a s B u v, x = nI a ∧ y = nI s ∧ Z = wM M u v ∧ j = dist a b ∧ a < d.n ∧ s ≤ 99999 ∧ (∀ w, w < 7 → u (base + w) = sN (B w) ∧ (B w ≤ 999 → v (base + w) = nI (B w + d.ins r))) ∧ (∀ k, k < base ∨ base + 7 ≤ k → u k = u0 k ∧ v k = v0 k) ∧ wk d m r b j a s B = wB d m r b) ?_ (dist (plc m r) b) (FU_lt (by omega)) _ _ _ ⟨plc m r, sof m r (d.kn r), fun _ => 1000000, u, v0, rfl, rfl, rfl, rfl, hpl, hso, fun w hw => ⟨by rw [hu w hw]; rfl, fun h => absurd (show (1000000 : Nat) ≤ 999 from h) (by decide)⟩, fun k hk => ⟨hu0 k hk, rfl⟩, rfl⟩
      rintro j K2 _ _ _ ⟨a, s, B, u, v, rfl, rfl, rfl, hj, ha, hs, hB, hfr, hv⟩ ih2
      have hM2 : TrM d ((wM M u v).2.1 20) := hM
      have hN2 : MoM d m ((wM M u v).2.1 20) := hN
      unfold f_X12_goesStraight_b46
      cases j with
      | zero =>
        have e : a = b := by unfold dist at hj; split at hj <;> omega
        subst e
        rw [if_pos rfl]
        have hv2 : B = wB d m r a := hv
        rw [← hv2]
        exact wp_some.mpr ⟨u, v, rfl, hB, hfr⟩
      | succ j =>
        have e : a ≠ b := by intro e; subst e; unfold dist at hj; rw [if_pos (Nat.le_refl _)] at hj; omega
        have ht : (if a < b then a + 1 else a - 1) < d.n := by split <;> omega
        have hdt : dist a (if a < b then a + 1 else a - 1) = 1 := by
          by_cases c : a < b
          · rw [if_pos c]; unfold dist; rw [if_pos (by omega)]; omega
          · rw [if_neg c]; unfold dist; rw [if_neg (by omega)]; omega
        rw [wk_s] at hv
        have hjj : ∀ t, (if a < b then a + 1 else a - 1) = t → j = dist t b := by
          intro t hT2
          rw [← hT2]; unfold dist at hj ⊢; split <;> split <;> split at hj <;> omega
        have e1 : (if nI a = nI b then some (wM M u v) else if nI a ≤ nI b then f_X12_goesStraight_b69 (nI r) (nI b) (nI base) K2 (nI a) (nI s) (nI a + 1) (wM M u v) else f_X12_goesStraight_b69 (nI r) (nI b) (nI base) K2 (nI a) (nI s) (nI a - 1) (wM M u v)) = f_X12_goesStraight_b69 (nI r) (nI b) (nI base) K2 (nI a) (nI s) (nI (if a < b then a + 1 else a - 1)) (wM M u v) := by
          rw [if_neg (by rw [nI_eq (by omega) (by omega)]; exact e)]
          by_cases c : a < b
          · rw [if_pos (nI_le (by omega) (by omega)), if_pos c, ← nI_succ]
          · rw [if_neg (nI_ge (by omega) (by omega)), if_neg c, show (1 : Int32) = nI 1 from rfl, nI_sub (by omega)]
        rw [e1]
        generalize hT2 : (if a < b then a + 1 else a - 1) = t at ht hdt hv
        have e2 : f_X12_goesStraight_b69 (nI r) (nI b) (nI base) K2 (nI a) (nI s) (nI t) (wM M u v) = f_X12_goesStraight_b94 (nI r) (nI b) (nI base) K2 (nI a) (nI t) (oM (sIF d m r a t s)) (wM M u v) := by
          unfold f_X12_goesStraight_b69
          by_cases c : s ≤ 999
          · rw [if_pos (by rw [show (999 : Int32) = nI 999 from rfl]; exact nI_le c (by omega)), m_insideFrom hd hM2 hN2 hr ha ht hdt (by omega), ob1_s]
          · rw [if_neg (by rw [show (999 : Int32) = nI 999 from rfl]; exact nI_ge (by omega) (by omega))]
            have h9 : sIF d m r a t s = none := by
              cases h8 : sIF d m r a t s with
              | none => rfl
              | some q => obtain ⟨-, q1, q2⟩ := sIF_bd hd h8; omega
            rw [h9]; rfl
        rw [e2]
        unfold f_X12_goesStraight_b94
        cases h9 : sIF d m r a t s with
        | none =>
          rw [h9] at hv
          simp only at hv
          rw [if_neg (by decide), ← hv]
          exact wp_some.mpr ⟨u, v, rfl, hB, hfr⟩
        | some q =>
          obtain ⟨-, q1, q2⟩ := sIF_bd hd h9
          rw [h9] at hv
          simp only at hv
          have e3 : (oM (some q) : Int32) = nI q := rfl
          have hmt : min a t < 7 := by unfold dist at hdt; split at hdt <;> omega
          rw [e3, if_pos (by rw [show (0 : Int32) = nI 0 from rfl]; exact nI_le (by omega) (by omega)), m_timeI hd hM2 _ _ hr, ob1_s, nI_add, bnd_eq, m_wayOf (by omega) (by omega), ob1_s, nI_add, ixd_nI (by omega) (by omega), bnd_eq, wM_33, ob1_s, nI_add, ixd_nI (by omega) (by omega), bnd_eq, wM_34]
          refine ih2 j _ _ _ (by omega) ⟨t, q + d.ins r, (fun w => if w = min a t then q else B w), _, _, rfl, rfl, rfl, hjj t hT2, ht, by omega, fun w hw => ?_, fun k hk => ?_, hv⟩
          · rw [upd_at, upd_at]
            by_cases e5 : w = min a t
            · rw [if_pos (by omega), if_pos (by omega)]
              simp only [if_pos e5]
              exact ⟨by rw [sN_f (by omega)], fun _ => trivial⟩
            · rw [if_neg (by omega), if_neg (by omega)]
              simp only [if_neg e5]
              exact hB w hw
          · rw [upd_at, upd_at, if_neg (by omega), if_neg (by omega)]; exact hfr k hk
  obtain ⟨x, h1, u, v, h2, h3, h4⟩ := key
  exact ⟨u, v, by rw [h1, h2], h3, h4⟩
/-- whether two are in a way at one time -/
def ovW (d : Tr) (m : Mo) (r1 r2 w : Nat) : Bool := decide (wB d m r1 (plc m r2) w ≤ 999 ∧ wB d m r2 (plc m r1) w ≤ 999 ∧ max (wB d m r1 (plc m r2) w) (wB d m r2 (plc m r1) w) < min (wB d m r1 (plc m r2) w + d.ins r1) (wB d m r2 (plc m r1) w + d.ins r2))
theorem ov_uniq (hd : TrOK d) (hm : MoOK d m) {r1 r2 w w' : Nat} (h1 : r1 < d.rd) (h2 : r2 < d.rd) (hw : ovW d m r1 r2 w = true) (hw' : ovW d m r1 r2 w' = true) : w = w' := by
  have key : ∀ x y, x < y → ovW d m r1 r2 x = true → ovW d m r1 r2 y = true → False := by
    intro x y hxy hx hy
    unfold ovW at hx hy
    simp only [decide_eq_true_eq] at hx hy
    by_cases c1 : plc m r1 < plc m r2
    · have a1 := (wB_up (m := m) hd h1 (plc_lt hm h2) c1).1 x y hxy hx.1 hy.1
      have a2 := (wB_dn hd hm h2 c1).1 x y hxy hx.2.1 hy.2.1
      omega
    · by_cases c2 : plc m r2 < plc m r1
      · have a1 := (wB_up (m := m) hd h2 (plc_lt hm h1) c2).1 x y hxy hx.2.1 hy.2.1
        have a2 := (wB_dn hd hm h1 c2).1 x y hxy hx.1 hy.1
        omega
      · have := wB_eq (d := d) (m := m) (r := r1) (b := plc m r2) (by omega) x
        omega
  by_cases e : w < w'
  · exact (key w w' e hw hw').elim
  · by_cases e2 : w' < w
    · exact (key w' w e2 hw' hw).elim
    · omega
theorem ov_lt (hd : TrOK d) (hm : MoOK d m) {r1 r2 w : Nat} (h1 : r1 < d.rd) (h2 : r2 < d.rd) (hw : ovW d m r1 r2 w = true) : w < d.n - 1 := by
  unfold ovW at hw
  simp only [decide_eq_true_eq] at hw
  have := (wB_or hd hm h1 (plc_lt hm h2)).2 w hw.1
  omega
theorem x_meetW (hd : TrOK d) (hT : TrC d T) (hm : MoOK d m) (hO : MoC d m O) {S : Sg} {r1 r2 : Nat} (h1 : r1 < d.rd) (h2 : r2 < d.rd) : ∃ S', f_X6_meetingWay S T O (nI r1) (nI r2) = some (oM (fnd (ovW d m r1 r2) (d.n - 1) 0), S') ∧ ∀ w, w < 8 → S'.2.1 4 w = nI (wB d m r1 (plc m r2) w) ∧ S'.2.1 5 w = nI (wB d m r2 (plc m r1) w) := by
  have hn := hd.n8
  have h6 := hd.r6
  have i1 := hd.inr h1
  have i2 := hd.inr h2
  obtain ⟨g1, a1, a2⟩ := x_walk1 hd hT hm hO (S := S) h1 (plc_lt hm h2)
  obtain ⟨g2, b1, b2⟩ := x_walk2 hd hT hm hO (S := sF S 4 g1) h2 (plc_lt hm h1)
  have o1 := (wB_or hd hm h1 (plc_lt hm h2)).1
  have o2 := (wB_or hd hm h2 (plc_lt hm h1)).1
  refine ⟨sF (sF S 4 g1) 5 g2, ?_, fun w hw => ⟨a2 w hw, b2 w hw⟩⟩
  unfold f_X6_meetingWay
  rw [x_placeOf hd hm hO h2, ob1_s, a1, ob1_s, x_placeOf hd hm hO h1, ob1_s, b1, ob1_s, ixd_nI (by omega) (by omega), bnd_eq, ixd_nI (by omega) (by omega), bnd_eq, (hT.2.2.2.2.2.2 r1 h1).2.2.2.2.1, (hT.2.2.2.2.2.2 r2 h2).2.2.2.2.1]
  have e4 : (sF (sF S 4 g1) 5 g2).2.1 4 = g1 := rfl
  have e5 : (sF (sF S 4 g1) 5 g2).2.1 5 = g2 := rfl
  refine wp_val.mp (wp_fl4 (fun j x y z Z => ∃ w, x = nI (d.ins r1) ∧ y = nI (d.ins r2) ∧ z = nI w ∧ Z = sF (sF S 4 g1) 5 g2 ∧ w + j = d.n - 1 ∧ fnd (ovW d m r1 r2) j w = fnd (ovW d m r1 r2) (d.n - 1) 0) ?_ (d.n - 1) (FU_lt (by omega)) _ _ _ _ ⟨0, rfl, rfl, rfl, rfl, by omega, rfl⟩)
  rintro j K _ _ _ _ ⟨w, rfl, rfl, rfl, rfl, hwj, hv⟩ ih
  unfold f_X6_meetingWay_b64 f_X6_meetingWay_b109 f_X6_meetingWay_b110 f_X6_meetingWay_b155
  rw [hT.1.1, show (1 : Int32) = nI 1 from rfl, nI_sub (by omega)]
  cases j with
  | zero =>
    have e : w = d.n - 1 := by omega
    have hv2 : none = fnd (ovW d m r1 r2) (d.n - 1) 0 := hv
    rw [if_pos (nI_le (by omega) (by omega)), wp_some, ← hv2]
    rfl
  | succ j =>
    have q1 := o1 w
    have q2 := o2 w
    have w1 := a2 w (by omega)
    have w2 := b2 w (by omega)
    rw [fnd_s] at hv
    have hnext : ovW d m r1 r2 w = false → Wp (bnd (nI w + nI 1) fun x5_155 => K (nI (d.ins r1)) (nI (d.ins r2)) x5_155 (sF (sF S 4 g1) 5 g2)) (fun o => o = (oM (fnd (ovW d m r1 r2) (d.n - 1) 0), sF (sF S 4 g1) 5 g2)) := by
      intro h9
      rw [h9, if_neg (by decide)] at hv
      rw [wp_bnd, nI_add]
      exact ih j _ _ _ _ (by omega) ⟨w + 1, rfl, rfl, rfl, rfl, by omega, hv⟩
    have hms : f_X6_meetingSecond (sF (sF S 4 g1) 5 g2) (nI w) = some (nI (max (wB d m r1 (plc m r2) w) (wB d m r2 (plc m r1) w))) := by
      unfold f_X6_meetingSecond
      rw [ixd_nI (by omega) (by omega), ixd_nI (by omega) (by omega), e4, e5, w1, w2, nI_max (by omega) (by omega)]
    rw [if_neg (nI_ge (by omega) (by omega)), hms, show (1000000 : Int32) = nI 1000000 from rfl]
    simp (disch := omega) only [ixd_nI, e4, e5, w1, w2, nI_add, nI_min, bnd_eq, ob1_s]
    rw [nI_add] at hnext
    simp only [bnd_eq] at hnext
    by_cases c1 : wB d m r1 (plc m r2) w = 1000000
    · rw [if_pos (by rw [c1]), if_pos trivial]
      exact hnext (by unfold ovW; simp; omega)
    · rw [if_neg (by rw [nI_eq (by omega) (by omega)]; exact c1)]
      by_cases c2 : wB d m r2 (plc m r1) w = 1000000
      · rw [if_pos (by rw [c2]), if_pos trivial]
        exact hnext (by unfold ovW; simp; omega)
      · rw [if_neg (by rw [nI_eq (by omega) (by omega)]; exact c2), if_neg (show ¬ nI 1 = (0 : Int32) by decide)]
        by_cases c3 : min (wB d m r1 (plc m r2) w + d.ins r1) (wB d m r2 (plc m r1) w + d.ins r2) ≤ max (wB d m r1 (plc m r2) w) (wB d m r2 (plc m r1) w)
        · rw [if_pos (nI_le c3 (by omega))]
          exact hnext (by unfold ovW; simp; omega)
        · rw [if_neg (nI_ge (by omega) (by omega))]
          have h9 : ovW d m r1 r2 w = true := by unfold ovW; simp; omega
          rw [h9, if_pos rfl] at hv
          rw [wp_some, ← hv]
          rfl
end
theorem st_meet : St_meet RR := by
  intro s M p1 p2 p3 hR
  have hR0 := hR; obtain ⟨hTp, ⟨d, m, n, a, π, ⟨hG, hT, hM, hm, hO, hN, hS, hX, hX0⟩, hH⟩, hI, hU⟩ := hR
  unfold f_X11_meet f_X12_meet f_X11_meet_b36 f_X12_meet_b31
  have hbad : ∀ {A B : Option (Int32 × Sg)}, A = some (-1, s.1 13) → B = some (-1, M) → ∃ r S1 M1, A = some (r, S1) ∧ B = some (r, M1) ∧ RR (sC s 13 S1) M1 := fun h1 h2 => ⟨_, _, _, h1, h2, RR_sc hR0 _ rfl⟩
  rcases csI p1 d.rd with ⟨r1, h1, rfl⟩ | hno
  · have hd := hG.okr h1
    have h6 := hd.r6
    have hn := hd.n8
    rw [x_hasRider hG hT h1, m_isRider hG hM h1, ob1_s, ob1_s, itT, itT]
    rcases csI p2 d.rd with ⟨r2, h2, rfl⟩ | hno2
    · have i1 := hd.inr h1
      have i2 := hd.inr h2
      rw [x_hasRider hG hT h2, m_isRider hG hM h2, ob1_s, ob1_s, itT, itT]
      by_cases e12 : nI r1 = nI r2
      · rw [if_pos e12, if_pos e12]; exact hbad rfl rfl
      · rw [if_neg e12, if_neg e12]
        rcases csI p3 2 with ⟨e, he, rfl⟩ | hno3
        · rw [in_ok (b := 1) (by decide) (by omega) (by omega), ob1_s, itT, if_neg (nI_pos (by omega)), if_pos (by rw [show (1 : Int32) = nI 1 from rfl]; exact nI_le (by omega) (by omega))]
          obtain ⟨S1, x1, x2⟩ := x_meetW hd hT hm hO (S := s.1 13) h1 h2
          obtain ⟨u1, v1, a1, a2, a3⟩ := m_straight hd hm hM hN (u0 := M.2.1 33) (v0 := M.2.1 34) (base := 0) h1 (plc_lt hm h2) (by omega)
          rw [wM_id] at a1
          obtain ⟨u2, v2, b1, b2, b3⟩ := m_straight hd hm hM hN (u0 := u1) (v0 := v1) (base := 7) h2 (plc_lt hm h1) (by omega)
          have hN1 : MoM d m ((wM M u1 v1).2.1 20) := hN
          have o1 := (wB_or hd hm h1 (plc_lt hm h2)).1
          have o2' := (wB_or hd hm h2 (plc_lt hm h1)).1
          rw [x1, ob2_s, m_whereOf hd hm hN h2, ob1_s, show (0 : Int32) = nI 0 from rfl, a1, ob1_s, m_whereOf hd hm hN1 h1, ob1_s, show (7 : Int32) = nI 7 from rfl, b1, ob1_s]
          dsimp only
          have e33 : (wM M u2 v2).2.1 33 = u2 := rfl
          have e34 : (wM M u2 v2).2.1 34 = v2 := rfl
          have km : Wp (fl4 (f_X12_meet_b67 (nI r1) (nI r2) (nI e)) FU (-2) (-2) (nI 0) (wM M u2 v2)) (fun o => o.2 = wM M u2 v2 ∧ o.1 = (if nI e = 0 then o2 (fnd (ovW d m r1 r2) (d.n - 1) 0) else o2 ((fnd (ovW d m r1 r2) (d.n - 1) 0).map (fun w => max (wB d m r1 (plc m r2) w) (wB d m r2 (plc m r1) w))))) := by
            refine wp_fl4 (fun j x y z Z => ∃ w o, x = o2 o ∧ y = o2 (o.map (fun w => max (wB d m r1 (plc m r2) w) (wB d m r2 (plc m r1) w))) ∧ z = nI w ∧ Z = wM M u2 v2 ∧ w + j = 7 ∧ (match o with | none => ∀ k, k < w → ovW d m r1 r2 k = false | some b => b < w ∧ ovW d m r1 r2 b = true)) ?_ 7 (FU_lt (by omega)) _ _ _ _ ⟨0, none, rfl, rfl, rfl, rfl, by omega, fun k hk => by omega⟩
            rintro j K _ _ _ _ ⟨w, o, rfl, rfl, rfl, rfl, hwj, ho⟩ ih
            unfold f_X12_meet_b67 f_X12_meet_b140 f_X12_meet_b182 f_X12_meet_b206 f_X12_meet_b214
            cases j with
            | zero =>
              have e7 : w = 7 := by omega
              subst e7
              rw [if_pos (by decide)]
              have hoo : o = fnd (ovW d m r1 r2) (d.n - 1) 0 := by
                cases hf : fnd (ovW d m r1 r2) (d.n - 1) 0 with
                | none =>
                  cases o with
                  | none => rfl
                  | some b =>
                    have := fnd_none hf b (by omega) (by have := ov_lt hd hm h1 h2 ho.2; omega)
                    rw [ho.2] at this; cases this
                | some b =>
                  obtain ⟨g1, g2, g3, g4⟩ := fnd_some hf
                  cases o with
                  | none => have := ho b (by omega); rw [g1] at this; cases this
                  | some b' => rw [ov_uniq hd hm h1 h2 ho.2 g1]
              rw [← hoo]
              by_cases q0 : nI e = 0
              · rw [if_pos q0]; exact wp_some.mpr ⟨rfl, by rw [if_pos q0]⟩
              · rw [if_neg q0]; exact wp_some.mpr ⟨rfl, by rw [if_neg q0]⟩
            | succ j =>
              have q1 := o1 w
              have q2 := o2' w
              have w1 := a2 w (by omega)
              rw [Nat.zero_add] at w1
              have w2 := b2 w (by omega)
              have w3 := b3 w (Or.inl (by omega))
              have hnext : ovW d m r1 r2 w = false → Wp (bnd (nI w + 1) fun x6_214 => K (o2 o) (o2 (o.map (fun w => max (wB d m r1 (plc m r2) w) (wB d m r2 (plc m r1) w)))) x6_214 (wM M u2 v2)) (fun o => o.2 = wM M u2 v2 ∧ o.1 = (if nI e = 0 then o2 (fnd (ovW d m r1 r2) (d.n - 1) 0) else o2 ((fnd (ovW d m r1 r2) (d.n - 1) 0).map (fun w => max (wB d m r1 (plc m r2) w) (wB d m r2 (plc m r1) w))))) := by
                intro h9
                rw [wp_bnd]
                refine ih j _ _ _ _ (by omega) ⟨w + 1, o, rfl, rfl, (nI_succ w).symm, rfl, by omega, ?_⟩
                cases o with
                | none =>
                  intro k hk
                  by_cases e5 : k = w
                  · subst e5; exact h9
                  · exact ho k (by omega)
                | some b => exact ⟨by have := ho.1; omega, ho.2⟩
              rw [if_neg (by rw [show (7 : Int32) = nI 7 from rfl]; exact nI_ge (by omega) (by omega)), show (7 : Int32) = nI 7 from rfl, nI_add, ixd_nI (by omega) (by omega), e33, e34, w3.1, w1.1]
              by_cases c1 : wB d m r1 (plc m r2) w ≤ 999
              · rw [sN_f c1, if_neg (nI_pos (by omega)), ixd_nI (by omega) (by omega), w2.1]
                by_cases c2 : wB d m r2 (plc m r1) w ≤ 999
                · rw [sN_f c2, if_pos (by rw [show (0 : Int32) = nI 0 from rfl]; exact nI_le (by omega) (by omega))]
                  have t1 := w1.2 c1
                  have t2 := w2.2 c2
                  have hv2w : v2 w = nI (wB d m r1 (plc m r2) w + d.ins r1) := by rw [w3.2]; exact t1
                  have hmain : ∀ bg, bg = max (wB d m r1 (plc m r2) w) (wB d m r2 (plc m r1) w) → Wp (ixd (nI w) 14 fun i148 => ixd (nI (7 + w)) 14 fun i158 => if v2 i158 ≤ v2 i148 then ixd (nI (7 + w)) 14 fun i181 => (if v2 i181 ≤ nI bg then bnd (nI w + 1) fun x6_214 => K (o2 o) (o2 (o.map (fun w => max (wB d m r1 (plc m r2) w) (wB d m r2 (plc m r1) w)))) x6_214 (wM M u2 v2) else if o2 o < 0 then bnd (nI w + 1) fun x6_214 => K (nI w) (nI bg) x6_214 (wM M u2 v2) else if nI bg < o2 (o.map (fun w => max (wB d m r1 (plc m r2) w) (wB d m r2 (plc m r1) w))) then bnd (nI w + 1) fun x6_214 => K (nI w) (nI bg) x6_214 (wM M u2 v2) else bnd (nI w + 1) fun x6_214 => K (o2 o) (o2 (o.map (fun w => max (wB d m r1 (plc m r2) w) (wB d m r2 (plc m r1) w)))) x6_214 (wM M u2 v2)) else ixd (nI w) 14 fun i168 => (if v2 i168 ≤ nI bg then bnd (nI w + 1) fun x6_214 => K (o2 o) (o2 (o.map (fun w => max (wB d m r1 (plc m r2) w) (wB d m r2 (plc m r1) w)))) x6_214 (wM M u2 v2) else if o2 o < 0 then bnd (nI w + 1) fun x6_214 => K (nI w) (nI bg) x6_214 (wM M u2 v2) else if nI bg < o2 (o.map (fun w => max (wB d m r1 (plc m r2) w) (wB d m r2 (plc m r1) w))) then bnd (nI w + 1) fun x6_214 => K (nI w) (nI bg) x6_214 (wM M u2 v2) else bnd (nI w + 1) fun x6_214 => K (o2 o) (o2 (o.map (fun w => max (wB d m r1 (plc m r2) w) (wB d m r2 (plc m r1) w)))) x6_214 (wM M u2 v2))) (fun o => o.2 = wM M u2 v2 ∧ o.1 = (if nI e = 0 then o2 (fnd (ovW d m r1 r2) (d.n - 1) 0) else o2 ((fnd (ovW d m r1 r2) (d.n - 1) 0).map (fun w => max (wB d m r1 (plc m r2) w) (wB d m r2 (plc m r1) w))))) := by
                    intro bg hbg
                    have hfin : ∀ en, en = min (wB d m r1 (plc m r2) w + d.ins r1) (wB d m r2 (plc m r1) w + d.ins r2) → Wp (if nI en ≤ nI bg then bnd (nI w + 1) fun x6_214 => K (o2 o) (o2 (o.map (fun w => max (wB d m r1 (plc m r2) w) (wB d m r2 (plc m r1) w)))) x6_214 (wM M u2 v2) else if o2 o < 0 then bnd (nI w + 1) fun x6_214 => K (nI w) (nI bg) x6_214 (wM M u2 v2) else if nI bg < o2 (o.map (fun w => max (wB d m r1 (plc m r2) w) (wB d m r2 (plc m r1) w))) then bnd (nI w + 1) fun x6_214 => K (nI w) (nI bg) x6_214 (wM M u2 v2) else bnd (nI w + 1) fun x6_214 => K (o2 o) (o2 (o.map (fun w => max (wB d m r1 (plc m r2) w) (wB d m r2 (plc m r1) w)))) x6_214 (wM M u2 v2)) (fun o => o.2 = wM M u2 v2 ∧ o.1 = (if nI e = 0 then o2 (fnd (ovW d m r1 r2) (d.n - 1) 0) else o2 ((fnd (ovW d m r1 r2) (d.n - 1) 0).map (fun w => max (wB d m r1 (plc m r2) w) (wB d m r2 (plc m r1) w))))) := by
                      intro en hen
                      by_cases c3 : en ≤ bg
                      · rw [if_pos (nI_le c3 (by omega))]
                        exact hnext (by unfold ovW; simp; omega)
                      · rw [if_neg (nI_ge (by omega) (by omega))]
                        have h9 : ovW d m r1 r2 w = true := by unfold ovW; simp; omega
                        cases o with
                        | none =>
                          have e5 : (o2 none : Int32) < 0 := by decide
                          rw [if_pos e5, wp_bnd]
                          exact ih j _ _ _ _ (by omega) ⟨w + 1, some w, rfl, by rw [hbg]; rfl, (nI_succ w).symm, rfl, by omega, by omega, h9⟩
                        | some b =>
                          have := ov_uniq hd hm h1 h2 ho.2 h9
                          have := ho.1
                          omega
                    rw [ixd_nI (by omega) (by omega), ixd_nI (by omega) (by omega), t2, hv2w]
                    by_cases c4 : wB d m r2 (plc m r1) w + d.ins r2 ≤ wB d m r1 (plc m r2) w + d.ins r1
                    · rw [if_pos (nI_le c4 (by omega)), ixd_nI (by omega) (by omega), t2]
                      exact hfin _ (by omega)
                    · rw [if_neg (nI_ge (by omega) (by omega)), ixd_nI (by omega) (by omega), hv2w]
                      exact hfin _ (by omega)
                  rw [ixd_nI (by omega) (by omega), ixd_nI (by omega) (by omega), w3.1, w1.1, w2.1, sN_f c1, sN_f c2]
                  by_cases c5 : wB d m r1 (plc m r2) w ≤ wB d m r2 (plc m r1) w
                  · rw [if_pos (nI_le c5 (by omega)), ixd_nI (by omega) (by omega), w2.1, sN_f c2]
                    exact hmain _ (by omega)
                  · rw [if_neg (nI_ge (by omega) (by omega)), ixd_nI (by omega) (by omega), w3.1, w1.1, sN_f c1]
                    exact hmain _ (by omega)
                · rw [sN_i c2, if_neg (by decide)]
                  exact hnext (by unfold ovW; simp; omega)
              · rw [sN_i c1, if_pos (by decide)]
                exact hnext (by unfold ovW; simp; omega)
          obtain ⟨⟨r', M1⟩, k1, k2, k3⟩ := km
          simp only at k2 k3
          subst k2 k3
          rw [k1]
          have hsc : pjM (wM M u2 v2) = pjM M := rfl
          cases hf : fnd (ovW d m r1 r2) (d.n - 1) 0 with
          | none =>
            have e5 : (oM none : Int32) = -1 := rfl
            rw [e5, if_pos rfl]
            refine ⟨-2, S1, wM M u2 v2, rfl, ?_, RR_sc hR0 _ hsc⟩
            by_cases q0 : nI e = 0
            · rw [if_pos q0]; rfl
            · rw [if_neg q0]; rfl
          | some w =>
            have hw := fnd_lt hf
            have e5 : (oM (some w) : Int32) = nI w := rfl
            have q1 := o1 w
            have q2 := o2' w
            rw [e5, if_neg (pos_m1 (by omega))]
            by_cases q0 : nI e = 0
            · rw [if_pos q0, if_pos (show nI e = nI 0 from q0)]
              exact ⟨nI w, S1, wM M u2 v2, rfl, rfl, RR_sc hR0 _ hsc⟩
            · rw [if_neg q0, if_neg (show ¬ nI e = nI 0 from q0)]
              unfold f_X6_meetingSecond
              rw [ixd_nI (by omega) (by omega), ixd_nI (by omega) (by omega), (x2 w (by omega)).1, (x2 w (by omega)).2, nI_max (by omega) (by omega), ob1_s]
              exact ⟨_, S1, wM M u2 v2, rfl, rfl, RR_sc hR0 _ hsc⟩
        · rw [in_no (b := 1) (by decide) (fun k hk => hno3 k (by omega)), ob1_s, itF]
          by_cases q0 : p3 < 0
          · rw [if_pos q0]; exact hbad rfl rfl
          · rw [if_neg q0]
            rcases nI_out (by omega) hno3 with h | h
            · exact absurd h q0
            · have q1 : ¬ p3 ≤ 1 := by
                intro h2
                have h3 : nI 2 ≤ 1 := Int32.le_trans h h2
                exact absurd h3 (by decide)
              rw [if_neg q1]; exact hbad rfl rfl
    · rw [x_hasRiderN hG hT hno2, m_isRiderN hG hM hno2, ob1_s, ob1_s, itF, itF]
      exact hbad rfl rfl
  · rw [x_hasRiderN hG hT hno, m_isRiderN hG hM hno, ob1_s, ob1_s, itF, itF]
    exact hbad rfl rfl
