/-! the reference fills in who can be where soonest -/
def mnr (p : Nat → Bool) (f : Nat → Nat) : Nat → Nat
  | 0 => 1000000
  | k + 1 => if p k then min (mnr p f k) (f k) else mnr p f k
theorem mnr_s (p : Nat → Bool) (f : Nat → Nat) (k : Nat) : mnr p f (k + 1) = if p k then min (mnr p f k) (f k) else mnr p f k := rfl
section
variable {d : Tr} {m : Mo} {M : Sg}
theorem rlx_s {E : Nat → Nat → Nat → Nat} {c k : Nat} {B : Nat → Nat} (hc : k ≠ c) : ∀ t, rlx E c (k + 1) B t = if t = k then min (B k) (E c k (B c)) else rlx E c k B t := by
  intro t
  unfold rlx
  by_cases e : t = k
  · subst e; rw [if_pos ⟨by omega, hc⟩, if_pos rfl]
  · rw [if_neg e]
    by_cases e2 : t < k ∧ t ≠ c
    · rw [if_pos ⟨by omega, e2.2⟩, if_pos e2]
    · rw [if_neg (by omega), if_neg e2]
theorem rlx_same {E : Nat → Nat → Nat → Nat} {c : Nat} {B : Nat → Nat} : ∀ t, rlx E c (c + 1) B t = rlx E c c B t := by
  intro t
  unfold rlx
  by_cases e : t < c + 1 ∧ t ≠ c
  · rw [if_pos e, if_pos ⟨by omega, e.2⟩]
  · rw [if_neg e, if_neg (by omega)]
theorem m_eI (hd : TrOK d) (hM : TrM d (M.2.1 20)) (hN : MoM d m (M.2.1 20)) {g h : Nat → Int32} {r c t s : Nat} (hr : r < d.rd) (hc : c < d.n) (ht : t < d.n) (hs : s ≤ 999) (hgc : g c = nI s) {p2 p3 : Int32} {k45 : Int32 → Sg → Option Sg} {k61 : Int32 → Int32 → Sg → Option Sg} (hct : c ≠ t) : (if nI t = nI c - 1 then f_X12_fillsSoon_b100 (nI r) p2 p3 k45 k61 (nI c) (nI t) (sM M g h) else (if nI t = nI c + 1 then f_X12_fillsSoon_b100 (nI r) p2 p3 k45 k61 (nI c) (nI t) (sM M g h) else f_X12_fillsSoon_b120 (nI r) p2 p3 k45 k61 (nI c) (nI t) (-1) (sM M g h))) = f_X12_fillsSoon_b147 (nI r) p2 p3 k45 k61 (nI c) (nI t) (nI t) (sN (eI d m r c t s)) (sM M g h) := by
  have hn := hd.n8
  have hin := hd.inr hr
  have hM' : TrM d ((sM M g h).2.1 20) := hM
  have hN' : MoM d m ((sM M g h).2.1 20) := hN
  have h100 : dist c t = 1 → f_X12_fillsSoon_b100 (nI r) p2 p3 k45 k61 (nI c) (nI t) (sM M g h) = f_X12_fillsSoon_b147 (nI r) p2 p3 k45 k61 (nI c) (nI t) (nI t) (sN (eI d m r c t s)) (sM M g h) := by
    intro h1
    unfold f_X12_fillsSoon_b100 f_X12_fillsSoon_b120 eI
    rw [if_pos h1]
    simp (disch := omega) only [sM_24, hgc, ixd_nI]
    rw [m_insideFrom hd hM' hN' hr hc ht h1 (by omega), ob1_s]
    cases h2 : sIF d m r c t s with
    | none =>
      have e3 : (oM none : Int32) = -nI 1 := rfl
      simp (disch := omega) only [e3, lit, nI_add, nI_mul, nI_ltI, nI_leI, nI_eq, nI_sub, m1_lt, lt_m1, m1_le, le_m1, m1_eq, eq_m1, ixd_nI, nI_addm, bnd_eq, ob1_s, ob2_s, bI_0, bI_t, bI_f, if_true, if_false, ite_true, ite_false, reduceCtorEq, not_true_eq_false, not_false_eq_true, true_and, and_true, false_and, and_false, or_true, true_or, or_false, false_or]
      rfl
    | some q =>
      have e3 : (oM (some q) : Int32) = nI q := rfl
      have hq : q + d.ins r ≤ 999 := by
        unfold sIF at h2
        cases h3 : sIB d m r c t s with
        | none => rw [h3] at h2; cases h2
        | some q' =>
          rw [h3] at h2
          simp only at h2
          split at h2
          · cases h2; assumption
          · cases h2
      rw [m_timeI hd hM' _ _ hr]
      simp (disch := omega) only [e3, lit, nI_add, nI_mul, nI_ltI, nI_leI, nI_eq, nI_sub, m1_lt, lt_m1, m1_le, le_m1, m1_eq, eq_m1, ixd_nI, nI_addm, bnd_eq, ob1_s, ob2_s, bI_0, bI_t, bI_f, if_true, if_false, ite_true, ite_false, reduceCtorEq, not_true_eq_false, not_false_eq_true, true_and, and_true, false_and, and_false, or_true, true_or, or_false, false_or]
      rw [if_pos (by omega), sN_f hq]
  have hz : nI 1 = (1 : Int32) := rfl
  by_cases c1 : t + 1 = c
  · have e : nI t = nI c - 1 := by rw [← c1]; exact (nI_pred t).symm
    rw [if_pos e]
    exact h100 (by unfold dist; split <;> omega)
  · have e : ¬ nI t = nI c - 1 := by
      intro h1
      by_cases h0 : c = 0
      · subst h0
        have h2 : nI 0 - 1 = -nI 1 := by decide
        rw [h2] at h1
        exact ((eq_m1 (by omega)).mp h1)
      · rw [← hz, nI_sub (by omega), nI_eq (by omega) (by omega)] at h1
        omega
    rw [if_neg e]
    by_cases c2 : t = c + 1
    · have e : nI t = nI c + 1 := by rw [c2]; exact nI_succ c
      rw [if_pos e]
      exact h100 (by unfold dist; split <;> omega)
    · rw [if_neg (by rw [← hz, nI_add, nI_eq (by omega) (by omega)]; exact c2)]
      have h1 : ¬ dist c t = 1 := by unfold dist; split <;> omega
      unfold f_X12_fillsSoon_b120 eI
      rw [if_neg h1, sN_i (by omega)]
      rw [if_neg (by decide)]
      rfl
theorem eO_or (hd : TrOK d) {r c t s : Nat} : (eO d r c t s ≤ 999 ∨ eO d r c t s = 1000000) := by
  unfold eO
  cases h : sOB d (sOu d r c t) s with
  | none => exact Or.inr rfl
  | some q => have := sOB_bd hd h; left; simp only; omega
theorem m_fsIn (hd : TrOK d) (hM : TrM d (M.2.1 20)) (hN : MoM d m (M.2.1 20)) {r c : Nat} {p2 p3 : Int32} {k45 : Int32 → Sg → Option Sg} {Q : Sg → Prop} (hr : r < d.rd) (hc : c < d.n) {B : Nat → Nat} {g h : Nat → Int32} {D : Nat → Bool} (hB : B c ≤ 999) (hg : ∀ t, t < d.n → g t = sN (B t)) (hh : ∀ t, t < d.n → h t = bI (D t)) (hk : ∀ g' o, (∀ t, t < d.n → g' t = sN (rlx (eE d m r) c d.n B t)) → nxS (rlx (eE d m r) c d.n B) D d.n o → Wp (k45 (oM o) (sM M g' h)) Q) : Wp (fl3 (f_X12_fillsSoon_b61 (nI r) p2 p3 k45) FU (nI c) 0 (sM M g h)) Q := by
  have hn := hd.n8
  refine wp_fl3 (fun j x y Z => ∃ k g', x = nI c ∧ y = nI k ∧ Z = sM M g' h ∧ k + j = d.n ∧ ∀ t, t < d.n → g' t = sN (rlx (eE d m r) c k B t)) ?_ d.n (FU_lt (by omega)) _ _ _ ⟨0, g, rfl, rfl, rfl, by omega, fun t ht => by rw [hg t ht]; unfold rlx; rw [if_neg (by omega)]⟩
  rintro j K _ _ _ ⟨k, g', rfl, rfl, rfl, hkj, hg'⟩ ih
  have hM' : ∀ g2, TrM d ((sM M g2 h).2.1 20) := fun _ => hM
  cases j with
  | zero =>
    have e : k = d.n := by omega
    subst e
    unfold f_X12_fillsSoon_b61
    rw [sM_20, hM.1.1, if_pos (nI_le (Nat.le_refl _) (by omega))]
    obtain ⟨o, h1, h2⟩ := m_nextSoon hd (hM' g') (B := rlx (eE d m r) c d.n B) (D := D) hg' hh
    rw [h1, ob1_s]
    exact hk g' o hg' h2
  | succ j =>
    have hkn : k < d.n := by omega
    unfold f_X12_fillsSoon_b61
    rw [sM_20, hM.1.1, if_neg (nI_ge hkn (by omega))]
    by_cases e : k = c
    · subst e
      rw [if_pos rfl]
      unfold f_X12_fillsSoon_b196
      rw [wp_bnd]
      exact ih j _ _ _ (by omega) ⟨k + 1, g', rfl, (nI_succ k).symm, rfl, by omega, fun t ht => by rw [hg' t ht, rlx_same]⟩
    · rw [if_neg (by rw [nI_eq (by omega) (by omega)]; exact e)]
      have hBc : rlx (eE d m r) c k B c = B c := by unfold rlx; rw [if_neg (by omega)]
      have hgc : g' c = nI (B c) := by rw [hg' c hc, hBc, sN_f hB]
      rw [m_eI hd hM hN hr hc hkn hB hgc (fun e2 => e e2.symm)]
      unfold f_X12_fillsSoon_b147
      obtain ⟨g2, q1, q2⟩ := m_comesAt (M := M) (h := h) (n := d.n) (v := eI d m r c k (B c)) hn.2 hkn hg'
      rw [q1, ob1_s]
      have hBk : rlx (eE d m r) c k B k = B k := by unfold rlx; rw [if_neg (by omega)]
      have hgc2 : g2 c = nI (B c) := by rw [q2 c hc, if_neg (fun e2 => e e2.symm), hBc, sN_f hB]
      simp (disch := omega) only [sM_24, hgc2, ixd_nI]
      rw [m_outsideFrom hd (hM' g2) hr hc hkn (by omega), ob1_s, m_timeO hd (hM' g2) hr hc hkn]
      have e9 : (if 0 ≤ oM (sOB d (sOu d r c k) (B c)) then ob1 (some (nI (sOu d r c k))) (fun r189 => f_X12_fillsSoon_b193 (nI r) p2 p3 k45 K (nI c) (nI k) (nI k) (oM (sOB d (sOu d r c k) (B c)) + r189) (sM M g2 h)) else f_X12_fillsSoon_b193 (nI r) p2 p3 k45 K (nI c) (nI k) (nI k) (-1) (sM M g2 h)) = f_X12_fillsSoon_b193 (nI r) p2 p3 k45 K (nI c) (nI k) (nI k) (sN (eO d r c k (B c))) (sM M g2 h) := by
        unfold eO
        cases h2 : sOB d (sOu d r c k) (B c) with
        | none =>
          rw [if_neg (by decide)]; simp only; rw [sN_i (by omega)]; rfl
        | some q =>
          have hq := sOB_bd hd h2
          have e3 : (oM (some q) : Int32) = nI q := rfl
          rw [e3, if_pos (by rw [lit, nI_leI (by omega) (by omega)]; omega), ob1_s, nI_add]
          simp only
          rw [sN_f (by omega)]
      rw [e9]
      unfold f_X12_fillsSoon_b193 f_X12_fillsSoon_b196
      obtain ⟨g3, q3, q4⟩ := m_comesAt (M := M) (h := h) (n := d.n) (v := eO d r c k (B c)) hn.2 hkn q2
      rw [q3, ob1_s, wp_bnd]
      refine ih j _ _ _ (by omega) ⟨k + 1, g3, rfl, (nI_succ k).symm, rfl, by omega, fun t ht => ?_⟩
      rw [q4 t ht, rlx_s e t]
      by_cases e2 : t = k
      · subst e2
        rw [if_pos rfl, if_pos rfl, if_pos rfl, hBk, eE_min hd]
        congr 1
        omega
      · rw [if_neg e2, if_neg e2, if_neg e2]
theorem m_fillsSoon (hd : TrOK d) (hM : TrM d (M.2.1 20)) (hN : MoM d m (M.2.1 20)) {r a s : Nat} (hr : r < d.rd) (ha : a < d.n) (hs : s ≤ 999) : ∃ g h B, f_X12_fillsSoon M (nI r) (nI a) (nI s) = some (sM M g h) ∧ Sn d.n (eE d m r) a s B ∧ ∀ t, t < d.n → g t = sN (B t) := by
  have hn := hd.n8
  have hEP := eE_EP (m := m) hd hr
  have key : Wp (f_X12_fillsSoon M (nI r) (nI a) (nI s)) (fun M' => ∃ g h B, M' = sM M g h ∧ Sn d.n (eE d m r) a s B ∧ ∀ t, t < d.n → g t = sN (B t)) := by
    unfold f_X12_fillsSoon
    refine wp_fl2 (fun j x Z => ∃ k g h, x = nI k ∧ Z = sM M g h ∧ k + j = 8 ∧ ∀ c, c < k → g c = -nI 1 ∧ h c = bI false) ?_ 8 (FU_lt (by omega)) _ _ ⟨0, M.2.1 24, M.2.1 25, rfl, (sM_id M).symm, by omega, fun c hc => by omega⟩
    rintro j K _ _ ⟨k, g, h, rfl, rfl, hkj, hgh⟩ ih
    cases j with
    | zero =>
      have e : k = 8 := by omega
      subst e
      unfold f_X12_fillsSoon_b3
      rw [if_pos (by decide)]
      simp (disch := omega) only [ixd_nI, sA_24, bnd_eq, ob1_s, ob2_s, bI_0, bI_t, bI_f]
      have hg0 : ∀ t, t < d.n → upd g a (nI s) t = sN (if t = a then s else 1000000) := by
        intro t ht
        rw [upd_at]
        by_cases e : t = a
        · rw [if_pos e, if_pos e, sN_f hs]
        · rw [if_neg e, if_neg e, sN_i (by omega)]; exact (hgh t (by omega)).1
      have hh0 : ∀ t, t < d.n → h t = bI false := fun t ht => (hgh t (by omega)).2
      have hM' : ∀ g2 h2, TrM d ((sM M g2 h2).2.1 20) := fun _ _ => hM
      obtain ⟨o, h1, h2⟩ := m_nextSoon hd (hM' (upd g a (nI s)) h) (B := fun t => if t = a then s else 1000000) (D := fun _ => false) hg0 hh0
      rw [h1, ob1_s]
      refine wp_fl2 (fun j x Z => ∃ g h B D o, x = oM o ∧ Z = sM M g h ∧ (∀ t, t < d.n → g t = sN (B t)) ∧ (∀ t, t < d.n → h t = bI (D t)) ∧ DJ d.n (eE d m r) a s B D ∧ nxS B D d.n o ∧ cN D d.n + j = d.n) ?_ (d.n - cN (fun _ => false) d.n) (FU_lt (by omega)) _ _ ⟨_, h, _, _, o, rfl, rfl, hg0, hh0, ⟨by simp, ?_, ?_, ?_, ?_⟩, h2, by have := cN_le (fun _ => false) d.n; omega⟩
      · rintro j K _ _ ⟨g, h, B, D, o, rfl, rfl, hg, hh, hDJ, ho, hj⟩ ih
        cases o with
        | none =>
          unfold f_X12_fillsSoon_b45
          rw [if_pos (by decide)]
          exact wp_some.mpr ⟨g, h, B, rfl, dj_end hDJ ho, hg⟩
        | some b =>
          have e3 : (oM (some b) : Int32) = nI b := rfl
          have hb := ho.1.1
          unfold f_X12_fillsSoon_b45
          rw [e3, if_neg (nI_pos (by omega))]
          simp (disch := omega) only [ixd_nI, sA_25, bnd_eq, ob1_s, ob2_s, bI_0, bI_t, bI_f, nar_b1]
          refine m_fsIn hd hM hN hr hb (B := B) (D := fun t => if t = b then true else D t) ho.1.2.1 hg ?_ ?_
          · intro t ht
            rw [upd_at]
            by_cases e : t = b
            · rw [if_pos e, if_pos e]; rfl
            · rw [if_neg e, if_neg e]; exact hh t ht
          · intro g' o' hg' ho'
            have hlt : cN D d.n < cN (fun t => if t = b then true else D t) d.n := by
              refine cN_lt (c0 := b) ?_ hb ?_ ho.1.2.2
              · intro c _ hc; show (if c = b then true else D c) = true; split
                · rfl
                · exact hc
              · simp
            have hle := cN_le (fun t => if t = b then true else D t) d.n
            refine ih (d.n - cN (fun t => if t = b then true else D t) d.n) _ _ (by omega) ⟨g', _, _, _, o', rfl, rfl, hg', ?_, dj_step hEP ha hDJ ho, ho', by omega⟩
            intro t ht
            rw [upd_at]
            by_cases e : t = b
            · rw [if_pos e, if_pos e]; rfl
            · rw [if_neg e, if_neg e]; exact hh t ht
      · intro c hc
        simp only
        split <;> omega
      · intro c t _ _ _ hD; cases hD
      · intro t ht hB
        left
        by_cases e : t = a
        · exact e
        · simp only [if_neg e] at hB; omega
      · intro c t _ _ hD; cases hD
    | succ j =>
      unfold f_X12_fillsSoon_b3
      rw [if_neg (by rw [lit, nI_leI (by omega) (by omega)]; omega)]
      simp (disch := omega) only [ixd_nI, sA_24, sA_25, bnd_eq, ob1_s, ob2_s, bI_0, bI_t, bI_f, nar_b0]
      refine ih j _ _ (by omega) ⟨k + 1, _, _, (nI_succ k).symm, rfl, by omega, fun c hc => ?_⟩
      rw [upd_at, upd_at]
      by_cases e : c = k
      · rw [if_pos e, if_pos e]; exact ⟨rfl, rfl⟩
      · rw [if_neg e, if_neg e]; exact hgh c (by omega)
  obtain ⟨x, h1, g, h, B, h2, h3, h4⟩ := key
  exact ⟨g, h, B, by rw [h1, h2], h3, h4⟩
theorem sn_ok (hd : TrOK d) (hM : TrM d (M.2.1 20)) (hN : MoM d m (M.2.1 20)) {r a s : Nat} (hr : r < d.rd) (ha : a < d.n) (hs : s ≤ 999) : Sn d.n (eE d m r) a s (sn d m r a s) := by
  obtain ⟨g, h, B, -, h2, -⟩ := m_fillsSoon hd hM hN hr ha hs
  exact sn_of ⟨B, h2⟩
theorem m_fs (hd : TrOK d) (hM : TrM d (M.2.1 20)) (hN : MoM d m (M.2.1 20)) {r a s : Nat} (hr : r < d.rd) (ha : a < d.n) (hs : s ≤ 999) : ∃ g h, f_X12_fillsSoon M (nI r) (nI a) (nI s) = some (sM M g h) ∧ ∀ t, t < d.n → g t = sN (sn d m r a s t) := by
  obtain ⟨g, h, B, h1, h2, h3⟩ := m_fillsSoon hd hM hN hr ha hs
  have h4 := sn_uniq (eE_EP hd hr) h2 (sn_ok hd hM hN hr ha hs)
  exact ⟨g, h, h1, fun t ht => by rw [h3 t ht, h4 t ht]⟩
/-- soonest in a right coach -/
noncomputable def rt (d : Tr) (m : Mo) (r a s : Nat) : Nat := if s ≤ 999 then mnr (fun c => decide (d.g c = d.ds r)) (sn d m r a s) d.n else 1000000
theorem m_rightFrom (hd : TrOK d) (hM : TrM d (M.2.1 20)) (hN : MoM d m (M.2.1 20)) {r a s : Nat} (hr : r < d.rd) (ha : a < d.n) (hs : s ≤ 999) : ∃ g h, f_X12_rightFrom M (nI r) (nI a) (nI s) = some (sN (rt d m r a s), sM M g h) := by
  have hn := hd.n8
  obtain ⟨g, h, h1, h2⟩ := m_fs hd hM hN hr ha hs
  refine ⟨g, h, ?_⟩
  unfold f_X12_rightFrom rt
  rw [h1, ob1_s, if_pos hs]
  have hM' : TrM d ((sM M g h).2.1 20) := hM
  refine wp_val.mp (wp_fl3 (fun j x y Z => ∃ k, x = sN (mnr (fun c => decide (d.g c = d.ds r)) (sn d m r a s) k) ∧ y = nI k ∧ Z = sM M g h ∧ k + j = d.n) ?_ d.n (FU_lt (by omega)) _ _ _ ⟨0, rfl, rfl, rfl, by omega⟩)
  rintro j K _ _ _ ⟨k, rfl, rfl, rfl, hkj⟩ ih
  cases j with
  | zero =>
    have e : k = d.n := by omega
    subst e
    unfold f_X12_rightFrom_b13
    rw [sM_20, hM.1.1, if_pos (nI_le (Nat.le_refl _) (by omega)), wp_some]
  | succ j =>
    have hkn : k < d.n := by omega
    have e1 := h2 k hkn
    unfold f_X12_rightFrom_b13 f_X12_rightFrom_b61 f_X12_rightFrom_b70
    rw [sM_20, hM.1.1, if_neg (nI_ge hkn (by omega)), m_isRight hd hM' hr hkn, ob1_s]
    have hih : ∀ v, v = mnr (fun c => decide (d.g c = d.ds r)) (sn d m r a s) (k + 1) → Wp (K (sN v) (nI (k + 1)) (sM M g h)) (fun o => o = (sN (mnr (fun c => decide (d.g c = d.ds r)) (sn d m r a s) d.n), sM M g h)) := fun v hv => ih j _ _ _ (by omega) ⟨k + 1, by rw [hv], rfl, rfl, by omega⟩
    rw [mnr_s] at hih
    generalize mnr (fun c => decide (d.g c = d.ds r)) (sn d m r a s) k = v0 at hih ⊢
    generalize sn d m r a s k = v1 at e1 hih ⊢
    by_cases c1 : d.g k = d.ds r
    · simp only [c1, decide_true, if_true] at hih ⊢
      rw [if_neg (by decide)]
      simp (disch := omega) only [ixd_nI, sM_24, e1, bnd_eq]
      by_cases c2 : v1 ≤ 999
      · rw [sN_f c2, if_neg (nI_pos (by omega))]
        by_cases c3 : v0 ≤ 999
        · rw [sN_f c3, if_neg (nI_pos (by omega))]
          by_cases c4 : v0 ≤ v1
          · rw [if_pos (nI_le c4 (by omega)), ← nI_succ, ← sN_f c3]; exact hih _ (by omega)
          · rw [if_neg (nI_ge (by omega) (by omega)), ← nI_succ, ← sN_f c2]; exact hih _ (by omega)
        · rw [sN_i c3, if_pos (by decide), ← nI_succ, ← sN_f c2]; exact hih _ (by omega)
      · rw [sN_i c2, if_pos (by decide), ← nI_succ]
        by_cases c3 : v0 ≤ 999
        · exact hih _ (by omega)
        · have e5 : sN v0 = sN (min v0 v1) := by rw [sN_i c3, sN_i (by omega)]
          rw [e5]; exact hih _ rfl
    · simp only [c1, decide_false, Bool.false_eq_true, if_false] at hih ⊢
      rw [if_pos (by decide), wp_bnd, ← nI_succ]
      exact hih _ rfl
end
