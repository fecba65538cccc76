/-! soonest, latest, lost, voice, voices -/
theorem mnr_or {p : Nat → Bool} {f : Nat → Nat} {k : Nat} (h : ∀ c, c < k → p c = true → f c ≤ 999 ∨ f c = 1000000) : mnr p f k ≤ 999 ∨ mnr p f k = 1000000 := by
  induction k with
  | zero => exact Or.inr rfl
  | succ k ih =>
    rw [mnr_s]
    have h1 := ih (fun c hc => h c (by omega))
    by_cases hp : p k = true
    · rw [if_pos hp]; have h2 := h k (by omega) hp; omega
    · rw [if_neg hp]; exact h1
noncomputable def lostP (d : Tr) (m : Mo) (r kn : Nat) : Bool := !(decide (d.g (plc m r) = d.ds r)) && decide (d.pa < rt d m r (plc m r) (sof m r kn))
noncomputable def vcP (d : Tr) (m : Mo) (c : Nat) : Nat → Bool := fun r => decide (plc m r = c) && !(decide (d.g c = d.ds r)) && decide (0 < vB d m r d.pa c)
noncomputable def vcM (d : Tr) (m : Mo) (c k : Nat) : Nat := mnr (vcP d m c) (fun r => vB d m r d.pa c - 1) k
theorem pj_sM (M : Sg) (g h : Nat → Int32) : pjM (sM M g h) = pjM M := rfl
section
variable {d : Tr} {m : Mo} {T O : Sg} {M : Sg}
theorem rt_or (hd : TrOK d) (hM : TrM d (M.2.1 20)) (hN : MoM d m (M.2.1 20)) {r a s : Nat} (hr : r < d.rd) (ha : a < d.n) : rt d m r a s ≤ 999 ∨ rt d m r a s = 1000000 := by
  rw [rt_snv]
  exact mnr_or (fun c hc _ => snv_le hd hM hN hr ha hc)
theorem x_isLost (hd : TrOK d) (hT : TrC d T) (hm : MoOK d m) (hO : MoC d m O) {r kn : Nat} (hr : r < d.rd) (hv : rt d m r (plc m r) (sof m r kn) ≤ 1000000) : f_X6_isLost T O (nI r) (nI (rt d m r (plc m r) (sof m r kn))) = some (lostP d m r kn) := by
  have hp := hd.pa9
  have hn := hd.n8
  unfold f_X6_isLost f_X6_isLost_b37 lostP
  generalize rt d m r (plc m r) (sof m r kn) = v at hv ⊢
  rw [x_placeOf hd hm hO hr, ob1_s, x_isRight hd hT hr (plc_lt hm hr), ob1_s, (hT.2.1 (by omega)).2.1]
  by_cases c1 : d.g (plc m r) = d.ds r
  · simp only [c1, decide_true, Bool.not_true, Bool.false_and]; rfl
  · simp only [c1, decide_false, Bool.not_false, Bool.true_and]
    rw [if_pos (by decide)]
    by_cases c2 : v ≤ d.pa
    · rw [if_pos (nI_le c2 (by omega))]; simp; omega
    · rw [if_neg (nI_ge (by omega) (by omega))]; simp; omega
theorem m_isLost (hd : TrOK d) (hm : MoOK d m) (hM : TrM d (M.2.1 20)) (hN : MoM d m (M.2.1 20)) {r kn : Nat} (hr : r < d.rd) (hk : kn ≤ 99999) : ∃ g h, f_X12_isLost M (nI r) (nI kn) = some (lostP d m r kn, sM M g h) := by
  have hp := hd.pa9
  have hpl := plc_lt hm hr
  have hso := sof_le hm hr hk
  unfold f_X12_isLost f_X12_isLost_b44 f_X12_isLost_b60 lostP
  rw [m_whereOf hd hm hN hr, ob1_s, m_isRight hd hM hr hpl, ob1_s]
  by_cases c1 : d.g (plc m r) = d.ds r
  · simp only [c1, decide_true, Bool.not_true, Bool.false_and]
    exact ⟨M.2.1 24, M.2.1 25, by rw [sM_id]; rfl⟩
  · simp only [c1, decide_false, Bool.not_false, Bool.true_and]
    rw [if_pos (by decide), m_beginOf hd hm hN hr hk, ob1_s]
    by_cases c3 : sof m r kn ≤ 999
    · rw [if_pos (by rw [lit]; exact nI_le c3 (by omega)), ob1_s]
      obtain ⟨g, h, h1⟩ := m_rightFrom hd hM hN hr hpl c3
      have hM' : TrM d ((sM M g h).2.1 20) := hM
      refine ⟨g, h, ?_⟩
      rw [h1, ob2_s]
      dsimp only
      have h9 := rt_or hd hM hN (s := sof m r kn) hr hpl
      rw [m_parting hd hM', ob1_s]
      rcases h9 with h9 | h9
      · rw [sN_f h9, if_neg (nI_pos (by omega))]
        by_cases c2 : rt d m r (plc m r) (sof m r kn) ≤ d.pa
        · rw [if_pos (nI_le c2 (by omega))]; simp; omega
        · rw [if_neg (nI_ge (by omega) (by omega))]; simp; omega
      · rw [sN_i (by omega), if_pos (by decide)]; simp; omega
    · rw [if_neg (by rw [lit]; exact nI_ge (by omega) (by omega)), if_pos (by decide)]
      refine ⟨M.2.1 24, M.2.1 25, ?_⟩
      rw [sM_id]
      unfold rt
      rw [if_neg c3]
      simp; omega
theorem x_voiceIn (hd : TrOK d) (hT : TrC d T) (hm : MoOK d m) (hO : MoC d m O) (hM : TrM d (M.2.1 20)) (hN : MoM d m (M.2.1 20)) {S : Sg} {c : Nat} (hc : c < d.n) : ∃ g, f_X6_voiceIn S T O (nI c) = some (nI (vcM d m c d.rd), sF S 2 g) := by
  have hn := hd.n8
  have hr6 := hd.r6
  have hp := hd.pa9
  have key : Wp (f_X6_voiceIn S T O (nI c)) (fun o => ∃ g, o = (nI (vcM d m c d.rd), sF S 2 g)) := by
    unfold f_X6_voiceIn
    refine wp_fl3 (fun j x y Z => ∃ k g, x = nI (vcM d m c k) ∧ y = nI k ∧ Z = sF S 2 g ∧ k + j = d.rd) ?_ d.rd (FU_lt (by omega)) _ _ _ ⟨0, S.2.1 2, rfl, rfl, (sF_self S 2).symm, by omega⟩
    rintro j K _ _ _ ⟨k, g, rfl, rfl, rfl, hkj⟩ ih
    unfold f_X6_voiceIn_b5 f_X6_voiceIn_b63
    cases j with
    | zero =>
      have e : k = d.rd := by omega
      subst e
      rw [hT.1.2.2, if_pos (nI_le (Nat.le_refl _) (by omega))]
      exact wp_some.mpr ⟨g, rfl⟩
    | succ j =>
      have hk : k < d.rd := by omega
      have hpl := plc_lt hm hk
      rw [hT.1.2.2, if_neg (nI_ge hk (by omega)), x_placeOf hd hm hO hk, ob1_s]
      have hst : vcM d m c (k + 1) = if vcP d m c k then min (vcM d m c k) (vB d m k d.pa c - 1) else vcM d m c k := rfl
      by_cases c1 : plc m k = c
      · rw [if_pos (by rw [c1]), x_isRight hd hT hk hc, ob1_s]
        by_cases c2 : d.g c = d.ds k
        · simp only [c2, decide_true]
          rw [if_neg (by decide), wp_bnd]
          have hpf : vcP d m c k = false := by unfold vcP; simp [c2]
          exact ih j _ _ _ (by omega) ⟨k + 1, g, by rw [hst, hpf]; rfl, (nI_succ k).symm, rfl, by omega⟩
        · simp only [c2, decide_false]
          obtain ⟨g2, h2⟩ := x_latestOf hd hT hm hO hM hN (S := sF S 2 g) hk
          rw [if_pos (by decide), h2, ob2_s, c1, sF_sF]
          dsimp only
          have hle := @vB_le d m k d.pa c
          have h8 : vcM d m c k ≤ 1000000 := mnr_le9
          by_cases c3 : vB d m k d.pa c = 0
          · rw [if_pos (by rw [c3]; rfl), wp_bnd]
            have hpf : vcP d m c k = false := by unfold vcP; simp [c3]
            exact ih j _ _ _ (by omega) ⟨k + 1, g2, by rw [hst, hpf]; rfl, (nI_succ k).symm, rfl, by omega⟩
          · have e9 : uN (vB d m k d.pa c) = nI (vB d m k d.pa c - 1) := by unfold uN; rw [if_neg c3]
            rw [if_neg (by rw [show (-1 : Int32) = uN 0 from rfl, uN_eq (by omega) (by omega)]; exact c3), e9, nI_min (by omega) (by omega), wp_bnd, wp_bnd]
            have hpf : vcP d m c k = true := by unfold vcP; simp [c1, c2]; omega
            exact ih j _ _ _ (by omega) ⟨k + 1, g2, by rw [hst, hpf]; rfl, (nI_succ k).symm, rfl, by omega⟩
      · rw [if_neg (by rw [nI_eq (by omega) (by omega)]; exact c1), wp_bnd]
        have hpf : vcP d m c k = false := by unfold vcP; simp [c1]
        exact ih j _ _ _ (by omega) ⟨k + 1, g, by rw [hst, hpf]; rfl, (nI_succ k).symm, rfl, by omega⟩
  obtain ⟨x, h1, g, h2⟩ := key
  exact ⟨g, by rw [h1, h2]⟩
theorem vcM_or (hd : TrOK d) {c k : Nat} : vcM d m c k ≤ 999 ∨ vcM d m c k = 1000000 := by
  have hp := hd.pa9
  exact mnr_or (fun r _ _ => by have := @vB_le d m r d.pa c; left; omega)
theorem m_voiceIn (hd : TrOK d) (hm : MoOK d m) (hM : TrM d (M.2.1 20)) (hN : MoM d m (M.2.1 20)) {c : Nat} (hc : c < d.n) : ∃ g h, f_X12_voiceIn M (nI c) = some (sN (vcM d m c d.rd), sM M g h) := by
  have hn := hd.n8
  have hr6 := hd.r6
  have hp := hd.pa9
  have key : Wp (f_X12_voiceIn M (nI c)) (fun o => ∃ g h, o = (sN (vcM d m c d.rd), sM M g h)) := by
    unfold f_X12_voiceIn
    refine wp_fl3 (fun j x y Z => ∃ k g h, x = sN (vcM d m c k) ∧ y = nI k ∧ Z = sM M g h ∧ k + j = d.rd) ?_ d.rd (FU_lt (by omega)) _ _ _ ⟨0, M.2.1 24, M.2.1 25, rfl, rfl, (sM_id M).symm, by omega⟩
    rintro j K _ _ _ ⟨k, g, h, rfl, rfl, rfl, hkj⟩ ih
    have hM' : TrM d ((sM M g h).2.1 20) := hM
    have hN' : MoM d m ((sM M g h).2.1 20) := hN
    unfold f_X12_voiceIn_b4 f_X12_voiceIn_b57 f_X12_voiceIn_b60
    cases j with
    | zero =>
      have e : k = d.rd := by omega
      subst e
      rw [hM'.1.2.2, if_pos (nI_le (Nat.le_refl _) (by omega))]
      exact wp_some.mpr ⟨g, h, rfl⟩
    | succ j =>
      have hk : k < d.rd := by omega
      have hpl := plc_lt hm hk
      rw [hM'.1.2.2, if_neg (nI_ge hk (by omega)), m_whereOf hd hm hN' hk, ob1_s]
      have hst : vcM d m c (k + 1) = if vcP d m c k then min (vcM d m c k) (vB d m k d.pa c - 1) else vcM d m c k := rfl
      by_cases c1 : plc m k = c
      · rw [if_pos (by rw [c1]), m_isRight hd hM' hk hc, ob1_s]
        by_cases c2 : d.g c = d.ds k
        · simp only [c2, decide_true]
          rw [if_neg (by decide), wp_bnd]
          have hpf : vcP d m c k = false := by unfold vcP; simp [c2]
          exact ih j _ _ _ (by omega) ⟨k + 1, g, h, by rw [hst, hpf]; rfl, (nI_succ k).symm, rfl, by omega⟩
        · simp only [c2, decide_false]
          obtain ⟨g2, h2, e2⟩ := m_latestOf hd hm hM' hN' hk
          rw [if_pos (by decide), e2, ob2_s, c1, sM_sM]
          dsimp only
          have hle := @vB_le d m k d.pa c
          have h8 := @vcM_or d m hd c k
          by_cases c3 : vB d m k d.pa c = 0
          · rw [c3, uN_0, if_pos (by decide), wp_bnd]
            have hpf : vcP d m c k = false := by unfold vcP; simp [c3]
            exact ih j _ _ _ (by omega) ⟨k + 1, g2, h2, by rw [hst, hpf]; rfl, (nI_succ k).symm, rfl, by omega⟩
          · have e9 : uN (vB d m k d.pa c) = nI (vB d m k d.pa c - 1) := by unfold uN; rw [if_neg c3]
            have hpf : vcP d m c k = true := by unfold vcP; simp [c1, c2]; omega
            have e8 : vcM d m c (k + 1) = min (vcM d m c k) (vB d m k d.pa c - 1) := by rw [hst, hpf]; rfl
            rw [e9, if_neg (nI_pos (by omega))]
            rcases h8 with h8 | h8
            · rw [sN_f h8, if_neg (nI_pos (by omega))]
              by_cases c4 : vcM d m c k ≤ vB d m k d.pa c - 1
              · rw [if_pos (nI_le c4 (by omega)), wp_bnd]
                exact ih j _ _ _ (by omega) ⟨k + 1, g2, h2, by rw [e8, show min (vcM d m c k) (vB d m k d.pa c - 1) = vcM d m c k by omega, sN_f h8], (nI_succ k).symm, rfl, by omega⟩
              · rw [if_neg (nI_ge (by omega) (by omega)), wp_bnd]
                exact ih j _ _ _ (by omega) ⟨k + 1, g2, h2, by rw [e8, show min (vcM d m c k) (vB d m k d.pa c - 1) = vB d m k d.pa c - 1 by omega, sN_f (by omega)], (nI_succ k).symm, rfl, by omega⟩
            · rw [sN_i (by omega), if_pos (by decide), wp_bnd]
              exact ih j _ _ _ (by omega) ⟨k + 1, g2, h2, by rw [e8, show min (vcM d m c k) (vB d m k d.pa c - 1) = vB d m k d.pa c - 1 by omega, sN_f (by omega)], (nI_succ k).symm, rfl, by omega⟩
      · rw [if_neg (by rw [nI_eq (by omega) (by omega)]; exact c1), wp_bnd]
        have hpf : vcP d m c k = false := by unfold vcP; simp [c1]
        exact ih j _ _ _ (by omega) ⟨k + 1, g, h, by rw [hst, hpf]; rfl, (nI_succ k).symm, rfl, by omega⟩
  obtain ⟨x, h1, g, h, h2⟩ := key
  exact ⟨g, h, by rw [h1, h2]⟩
end
theorem st_soonest : St_soonest RR := by
  intro s M p1 hR
  have hR0 := hR; obtain ⟨hTp, ⟨d, m, n, a, π, ⟨hG, hT, hM, hm, hO, hN, hS, hX, hX0⟩, hH⟩, hI, hU⟩ := hR
  unfold f_X11_soonest f_X12_soonest
  rcases csI p1 d.rd with ⟨r, hr, rfl⟩ | hno
  · have hd := hG.okr hr
    have h6 := hd.r6
    have hk := (hd.rr r hr).2.2.2
    obtain ⟨g, h1⟩ := x_soonestOf hd hT hm hO hM hN (S := s.1 13) (kn := d.kn r) hr (by omega)
    obtain ⟨g2, h2, e2⟩ := m_rt hd hm hM hN hr
    rw [x_hasRider hG hT hr, m_isRider hG hM hr, ob1_s, ob1_s, if_neg (by decide), if_neg (by decide), ixd_nI (by omega) (by omega), (hT.2.2.2.2.2.2 r hr).2.2.2.1, h1, e2, ob2_s, ob2_s]
    dsimp only
    rcases rt_or hd hM hN (s := sof m r (d.kn r)) hr (plc_lt hm hr) with h9 | h9
    · rw [sN_f h9, if_neg (by rw [lit, nI_eq (by omega) (by omega)]; omega), if_pos (by rw [lit, nI_leI (by omega) (by omega)]; omega)]
      exact ⟨_, _, _, rfl, rfl, RR_sc hR0 _ rfl⟩
    · rw [sN_i (by omega), if_pos (by rw [h9]; rfl), if_neg (by decide)]
      exact ⟨_, _, _, rfl, rfl, RR_sc hR0 _ rfl⟩
  · rw [x_hasRiderN hG hT hno, m_isRiderN hG hM hno, ob1_s, ob1_s, if_pos (by decide), if_pos (by decide)]
    exact ⟨_, _, _, rfl, rfl, RR_sc hR0 _ rfl⟩
theorem st_latest : St_latest RR := by
  intro s M p1 hR
  have hR0 := hR; obtain ⟨hTp, ⟨d, m, n, a, π, ⟨hG, hT, hM, hm, hO, hN, hS, hX, hX0⟩, hH⟩, hI, hU⟩ := hR
  unfold f_X11_latest f_X12_latest
  rcases csI p1 d.rd with ⟨r, hr, rfl⟩ | hno
  · have hd := hG.okr hr
    obtain ⟨g, h1⟩ := x_latestOf hd hT hm hO hM hN (S := s.1 13) hr
    obtain ⟨g2, h2, e2⟩ := m_latestOf hd hm hM hN hr
    rw [x_hasRider hG hT hr, m_isRider hG hM hr, ob1_s, ob1_s, if_neg (by decide), if_neg (by decide), h1, e2, ob2_s, ob2_s]
    dsimp only
    by_cases c : 0 ≤ uN (vB d m r d.pa (plc m r))
    · rw [if_pos c, if_pos c]; exact ⟨_, _, _, rfl, rfl, RR_sc hR0 _ rfl⟩
    · rw [if_neg c, if_neg c]; exact ⟨_, _, _, rfl, rfl, RR_sc hR0 _ rfl⟩
  · rw [x_hasRiderN hG hT hno, m_isRiderN hG hM hno, ob1_s, ob1_s, if_pos (by decide), if_pos (by decide)]
    exact ⟨_, _, _, rfl, rfl, RR_sc hR0 _ rfl⟩
theorem st_voice : St_voice RR := by
  intro s M p1 hR
  have hR0 := hR; obtain ⟨hTp, ⟨d, m, n, a, π, ⟨hG, hT, hM, hm, hO, hN, hS, hX, hX0⟩, hH⟩, hI, hU⟩ := hR
  unfold f_X11_voice f_X12_voice
  rcases csI p1 d.n with ⟨c, hc, rfl⟩ | hno
  · have hd := hG.ok (by omega)
    obtain ⟨g, h1⟩ := x_voiceIn hd hT hm hO hM hN (S := s.1 13) hc
    obtain ⟨g2, h2, e2⟩ := m_voiceIn hd hm hM hN hc
    rw [x_hasCoach hG hT hc, m_isCoach hG hM hc, ob1_s, ob1_s, if_neg (by decide), if_neg (by decide), h1, e2, ob2_s, ob2_s]
    dsimp only
    rcases @vcM_or d m hd c d.rd with h9 | h9
    · rw [sN_f h9, if_neg (by rw [lit, nI_eq (by omega) (by omega)]; omega), if_pos (by rw [lit, nI_leI (by omega) (by omega)]; omega)]
      exact ⟨_, _, _, rfl, rfl, RR_sc hR0 _ rfl⟩
    · rw [sN_i (by omega), if_pos (by rw [h9]; rfl), if_neg (by decide)]
      exact ⟨_, _, _, rfl, rfl, RR_sc hR0 _ rfl⟩
  · rw [x_hasCoachN hG hT hno, m_isCoachN hG hM hno, ob1_s, ob1_s, if_pos (by decide), if_pos (by decide)]
    exact ⟨_, _, _, rfl, rfl, RR_sc hR0 _ rfl⟩
theorem or_0 (x : Int32) : x ||| 0 = x := by
  apply Int32.toBitVec_inj.mp
  simp
theorem st_lost : St_lost RR := by
  intro s M hR
  have hR0 := hR; obtain ⟨hTp, ⟨d, m, n, a, π, ⟨hG, hT, hM, hm, hO, hN, hS, hX, hX0⟩, hH⟩, hI, hU⟩ := hR
  unfold f_X11_lost f_X12_lost
  rw [x_hasLine hG hT, m_isLine hG hM, ob1_s, ob1_s]
  by_cases c0 : 0 < d.n
  · have hd := hG.ok c0
    have hr6 := hd.r6
    simp only [c0, decide_true]
    rw [if_neg (by decide), if_neg (by decide)]
    have kx : Wp (fl3 (f_X11_lost_b16 (s.1 2) (s.1 3)) FU 0 0 (s.1 13)) (fun o => o.1 = bset (fun r => lostP d m r (d.kn r)) d.rd 0 0) := by
      refine wp_fl3 (fun j x y _ => ∃ k, y = nI k ∧ k + j = d.rd ∧ bset (fun r => lostP d m r (d.kn r)) j k x = bset (fun r => lostP d m r (d.kn r)) d.rd 0 0) ?_ d.rd (FU_lt (by omega)) _ _ _ ⟨0, rfl, by omega, rfl⟩
      rintro j K x _ Z ⟨k, rfl, hkj, hb⟩ ih
      unfold f_X11_lost_b16 f_X11_lost_b67
      cases j with
      | zero =>
        have e : k = d.rd := by omega
        subst e
        rw [hT.1.2.2, if_pos (nI_le (Nat.le_refl _) (by omega))]
        exact wp_some.mpr hb
      | succ j =>
        have hk : k < d.rd := by omega
        have hkn := (hd.rr k hk).2.2.2
        rw [bset_s] at hb
        obtain ⟨g, h1⟩ := x_soonestOf hd hT hm hO hM hN (S := Z) (kn := d.kn k) hk (by omega)
        rw [hT.1.2.2, if_neg (nI_ge hk (by omega)), ixd_nI (by omega) (by omega), (hT.2.2.2.2.2.2 k hk).2.2.2.1, h1, ob2_s, x_isLost hd hT hm hO hk (by rcases rt_or hd hM hN (s := sof m k (d.kn k)) hk (plc_lt hm hk) with h | h <;> omega), ob1_s]
        by_cases c1 : lostP d m k (d.kn k) = true
        · rw [c1, if_neg (by decide), wp_bnd, wp_bnd]
          simp only [c1, if_true] at hb
          exact ih j _ _ _ (by omega) ⟨k + 1, (nI_succ k).symm, by omega, hb⟩
        · simp only [Bool.not_eq_true] at c1
          rw [c1, if_pos (by decide), wp_bnd]
          simp only [c1, Bool.false_eq_true, if_false] at hb
          exact ih j _ _ _ (by omega) ⟨k + 1, (nI_succ k).symm, by omega, hb⟩
    have km : Wp (fl3 (f_X12_lost_b13) FU 0 0 M) (fun o => o.1 = bset (fun r => lostP d m r (d.kn r)) d.rd 0 0 ∧ pjM o.2 = pjM M) := by
      refine wp_fl3 (fun j x y Z => ∃ k g h, y = nI k ∧ Z = sM M g h ∧ k + j = d.rd ∧ bset (fun r => lostP d m r (d.kn r)) j k x = bset (fun r => lostP d m r (d.kn r)) d.rd 0 0) ?_ d.rd (FU_lt (by omega)) _ _ _ ⟨0, M.2.1 24, M.2.1 25, rfl, (sM_id M).symm, by omega, rfl⟩
      rintro j K x _ _ ⟨k, g, h, rfl, rfl, hkj, hb⟩ ih
      have hM' : TrM d ((sM M g h).2.1 20) := hM
      have hN' : MoM d m ((sM M g h).2.1 20) := hN
      unfold f_X12_lost_b13 f_X12_lost_b45
      cases j with
      | zero =>
        have e : k = d.rd := by omega
        subst e
        rw [hM'.1.2.2, if_pos (nI_le (Nat.le_refl _) (by omega))]
        exact wp_some.mpr ⟨hb, rfl⟩
      | succ j =>
        have hk : k < d.rd := by omega
        have hkn := (hd.rr k hk).2.2.2
        rw [bset_s] at hb
        obtain ⟨g2, h2, e2⟩ := m_isLost hd hm hM' hN' (kn := d.kn k) hk (by omega)
        rw [hM'.1.2.2, if_neg (nI_ge hk (by omega)), show (4 : Int32) = nI 4 from rfl, m_riderOf (by omega) (by omega), ob1_s, (hM'.2.2.2.2.2 k hk).2.2.2, e2, ob2_s, sM_sM]
        dsimp only
        by_cases c1 : lostP d m k (d.kn k) = true
        · rw [c1, if_neg (by decide), wp_bnd, wp_bnd]
          simp only [c1, if_true] at hb
          exact ih j _ _ _ (by omega) ⟨k + 1, g2, h2, (nI_succ k).symm, rfl, by omega, hb⟩
        · simp only [Bool.not_eq_true] at c1
          rw [c1, if_pos (by decide), wp_bnd, wp_bnd, or_0]
          simp only [c1, Bool.false_eq_true, if_false] at hb
          exact ih j _ _ _ (by omega) ⟨k + 1, g2, h2, (nI_succ k).symm, rfl, by omega, hb⟩
    obtain ⟨⟨r1, S1⟩, h1, h2⟩ := kx
    obtain ⟨⟨r2, M1⟩, h3, h4, h5⟩ := km
    simp only at h2 h4 h5
    subst h2 h4
    exact ⟨_, S1, M1, h1, h3, RR_sc hR0 _ h5⟩
  · simp only [c0, decide_false]
    rw [if_pos (by decide), if_pos (by decide)]
    exact ⟨_, _, _, rfl, rfl, RR_sc hR0 _ rfl⟩
theorem st_voices : St_voices RR := by
  intro s M hR
  have hR0 := hR; obtain ⟨hTp, ⟨d, m, n, a, π, ⟨hG, hT, hM, hm, hO, hN, hS, hX, hX0⟩, hH⟩, hI, hU⟩ := hR
  unfold f_X11_voices f_X12_voices
  rw [x_hasLine hG hT, m_isLine hG hM, ob1_s, ob1_s]
  by_cases c0 : 0 < d.n
  · have hd := hG.ok c0
    have hr6 := hd.n8
    simp only [c0, decide_true]
    rw [if_neg (by decide), if_neg (by decide)]
    have kx : Wp (fl3 (f_X11_voices_b16 (s.1 2) (s.1 3)) FU 0 0 (s.1 13)) (fun o => o.1 = bset (fun c => decide (vcM d m c d.rd ≤ 999)) d.n 0 0) := by
      refine wp_fl3 (fun j x y _ => ∃ k, y = nI k ∧ k + j = d.n ∧ bset (fun c => decide (vcM d m c d.rd ≤ 999)) j k x = bset (fun c => decide (vcM d m c d.rd ≤ 999)) d.n 0 0) ?_ d.n (FU_lt (by omega)) _ _ _ ⟨0, rfl, by omega, rfl⟩
      rintro j K x _ Z ⟨k, rfl, hkj, hb⟩ ih
      unfold f_X11_voices_b16 f_X11_voices_b49
      cases j with
      | zero =>
        have e : k = d.n := by omega
        subst e
        rw [hT.1.1, if_pos (nI_le (Nat.le_refl _) (by omega))]
        exact wp_some.mpr hb
      | succ j =>
        have hk : k < d.n := by omega
        rw [bset_s] at hb
        obtain ⟨g, h1⟩ := x_voiceIn hd hT hm hO hM hN (S := Z) hk
        rw [hT.1.1, if_neg (nI_ge hk (by omega)), h1, ob2_s]
        dsimp only
        rcases @vcM_or d m hd k d.rd with h9 | h9
        · rw [if_neg (by rw [lit, nI_eq (by omega) (by omega)]; omega), wp_bnd, wp_bnd]
          simp only [h9, decide_true, if_true] at hb
          exact ih j _ _ _ (by omega) ⟨k + 1, (nI_succ k).symm, by omega, hb⟩
        · have h8 : ¬ vcM d m k d.rd ≤ 999 := by omega
          rw [if_pos (by rw [h9]; rfl), wp_bnd]
          simp only [h8, decide_false, Bool.false_eq_true, if_false] at hb
          exact ih j _ _ _ (by omega) ⟨k + 1, (nI_succ k).symm, by omega, hb⟩
    have km : Wp (fl3 (f_X12_voices_b13) FU 0 0 M) (fun o => o.1 = bset (fun c => decide (vcM d m c d.rd ≤ 999)) d.n 0 0 ∧ pjM o.2 = pjM M) := by
      refine wp_fl3 (fun j x y Z => ∃ k g h, y = nI k ∧ Z = sM M g h ∧ k + j = d.n ∧ bset (fun c => decide (vcM d m c d.rd ≤ 999)) j k x = bset (fun c => decide (vcM d m c d.rd ≤ 999)) d.n 0 0) ?_ d.n (FU_lt (by omega)) _ _ _ ⟨0, M.2.1 24, M.2.1 25, rfl, (sM_id M).symm, by omega, rfl⟩
      rintro j K x _ _ ⟨k, g, h, rfl, rfl, hkj, hb⟩ ih
      have hM' : TrM d ((sM M g h).2.1 20) := hM
      have hN' : MoM d m ((sM M g h).2.1 20) := hN
      unfold f_X12_voices_b13 f_X12_voices_b39
      cases j with
      | zero =>
        have e : k = d.n := by omega
        subst e
        rw [hM'.1.1, if_pos (nI_le (Nat.le_refl _) (by omega))]
        exact wp_some.mpr ⟨hb, rfl⟩
      | succ j =>
        have hk : k < d.n := by omega
        rw [bset_s] at hb
        obtain ⟨g2, h2, e2⟩ := m_voiceIn hd hm hM' hN' hk
        rw [hM'.1.1, if_neg (nI_ge hk (by omega)), e2, ob2_s, sM_sM]
        dsimp only
        rcases @vcM_or d m hd k d.rd with h9 | h9
        · rw [sN_f h9, if_neg (nI_pos (by omega)), wp_bnd, wp_bnd]
          simp only [h9, decide_true, if_true] at hb
          exact ih j _ _ _ (by omega) ⟨k + 1, g2, h2, (nI_succ k).symm, rfl, by omega, hb⟩
        · have h8 : ¬ vcM d m k d.rd ≤ 999 := by omega
          rw [sN_i h8, if_pos (by decide), wp_bnd, wp_bnd, or_0]
          simp only [h8, decide_false, Bool.false_eq_true, if_false] at hb
          exact ih j _ _ _ (by omega) ⟨k + 1, g2, h2, (nI_succ k).symm, rfl, by omega, hb⟩
    obtain ⟨⟨r1, S1⟩, h1, h2⟩ := kx
    obtain ⟨⟨r2, M1⟩, h3, h4, h5⟩ := km
    simp only at h2 h4 h5
    subst h2 h4
    exact ⟨_, S1, M1, h1, h3, RR_sc hR0 _ h5⟩
  · simp only [c0, decide_false]
    rw [if_pos (by decide), if_pos (by decide)]
    exact ⟨_, _, _, rfl, rfl, RR_sc hR0 _ rfl⟩
