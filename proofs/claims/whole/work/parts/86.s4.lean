/-! family -/
def mxr (p : Nat → Bool) (f : Nat → Nat) : Nat → Nat
  | 0 => 0
  | k + 1 => if p k then max (mxr p f k) (f k) else mxr p f k
theorem mxr_s (p : Nat → Bool) (f : Nat → Nat) (k : Nat) : mxr p f (k + 1) = if p k then max (mxr p f k) (f k) else mxr p f k := rfl
theorem mxr_mono {p : Nat → Bool} {f : Nat → Nat} {k k' : Nat} (h : k ≤ k') : mxr p f k ≤ mxr p f k' := by
  induction k' with
  | zero => have : k = 0 := by omega
            subst this; exact Nat.le_refl _
  | succ k' ih =>
    by_cases e : k = k' + 1
    · subst e; exact Nat.le_refl _
    · have := ih (by omega)
      rw [mxr_s]; split <;> omega
theorem mxr_or {p : Nat → Bool} {f : Nat → Nat} {k : Nat} (h : ∀ c, c < k → f c ≤ 999 ∨ f c = 1000000) : mxr p f k ≤ 999 ∨ mxr p f k = 1000000 := by
  induction k with
  | zero => left; show 0 ≤ 999; omega
  | succ k ih =>
    rw [mxr_s]
    have h1 := ih (fun c hc => h c (by omega))
    have h2 := h k (by omega)
    split <;> omega
noncomputable def fW (d : Tr) (m : Mo) (v c k : Nat) : Nat := mxr (fun r => v.testBit r) (fun r => snv d m r (plc m r) (sof m r (d.kn r)) c) k
theorem fW_s (d : Tr) (m : Mo) (v c k : Nat) : fW d m v c (k + 1) = if v.testBit k then max (fW d m v c k) (snv d m k (plc m k) (sof m k (d.kn k)) c) else fW d m v c k := rfl
noncomputable def bfr (d : Tr) (m : Mo) (v l : Nat) : Nat → Nat → Option Nat × Nat → Option Nat × Nat
  | 0, _, t => t
  | j + 1, c, t => if d.g c = d.ds l ∧ fW d m v c d.rd < t.2 then bfr d m v l j (c + 1) (some c, fW d m v c d.rd) else bfr d m v l j (c + 1) t
theorem bfr_s (d : Tr) (m : Mo) (v l j c : Nat) (t : Option Nat × Nat) : bfr d m v l (j + 1) c t = if d.g c = d.ds l ∧ fW d m v c d.rd < t.2 then bfr d m v l j (c + 1) (some c, fW d m v c d.rd) else bfr d m v l j (c + 1) t := rfl
/-- the least of a set, of those below a number -/
def lsO (v k : Nat) (o : Option Nat) : Prop := match o with
  | none => ∀ r, r < k → v.testBit r = false
  | some l => l < k ∧ v.testBit l = true ∧ ∀ r, r < l → v.testBit r = false
def bOK (d : Tr) (m : Mo) (v : Nat) (t : Option Nat × Nat) : Prop := match t.1 with
  | none => t.2 = d.pa + 1
  | some c => c < d.n ∧ t.2 = fW d m v c d.rd ∧ t.2 ≤ d.pa
theorem m_isOf {v k : Nat} (hv : v < 64) (hk : k < 6) : f_X12_isOf (nI v) (nI k) = some (v.testBit k) := by
  have h := ib_bit ⟨v, hv⟩ ⟨k, hk⟩
  simp only at h
  unfold f_X12_isOf
  by_cases e : v.testBit k = true
  · rw [if_pos (h.mpr e), e]
  · rw [if_neg (fun h2 => e (h.mp h2))]
    simp only [Bool.not_eq_true] at e
    rw [e]
theorem x_bitS {v k : Nat} (hv : v < 64) (hk : k < 6) : (nI v &&& ((1 : Int32) <<< (nI k &&& 31)) = 0) ↔ v.testBit k = false := sh_bit ⟨v, by omega⟩ ⟨k, by omega⟩
section
variable {d : Tr} {m : Mo} {T O : Sg} {M : Sg}
theorem fW_or (hd : TrOK d) (hm : MoOK d m) (hM : TrM d (M.2.1 20)) (hN : MoM d m (M.2.1 20)) {v c k : Nat} (hc : c < d.n) (hk : k ≤ d.rd) : fW d m v c k ≤ 999 ∨ fW d m v c k = 1000000 := mxr_or (fun r hr => snv_le hd hM hN (by omega) (plc_lt hm (by omega)) hc)
theorem x_bestFor (hd : TrOK d) (hT : TrC d T) (hm : MoOK d m) (hM : TrM d (M.2.1 20)) (hN : MoM d m (M.2.1 20)) {S : Sg} {v l : Nat} (hl : l < d.rd) (hS : ∀ c, c < d.n → S.2.1 3 c = nI (fW d m v c d.rd)) : f_X6_bestFor S T (nI l) = some (oM (bfr d m v l d.n 0 (none, d.pa + 1)).1) := by
  have hn := hd.n8
  have hp := hd.pa9
  unfold f_X6_bestFor
  rw [bnd_eq, (hT.2.1 (by omega)).2.1, show nI d.pa + 1 = nI (d.pa + 1) from nI_add _ 1]
  refine wp_val.mp (wp_fl3 (fun j x y z => ∃ c t, x = oM t.1 ∧ y = nI t.2 ∧ z = nI c ∧ c + j = d.n ∧ t.2 ≤ 1000000 ∧ bfr d m v l j c t = bfr d m v l d.n 0 (none, d.pa + 1)) ?_ d.n (FU_lt (by omega)) _ _ _ ⟨0, (none, d.pa + 1), rfl, rfl, rfl, by omega, by show d.pa + 1 ≤ 1000000; omega, rfl⟩)
  rintro j K _ _ _ ⟨c, t, rfl, rfl, rfl, hcj, ht, hv⟩ ih
  unfold f_X6_bestFor_b18 f_X6_bestFor_b68
  cases j with
  | zero =>
    have e : c = d.n := by omega
    subst e
    have hv2 : t = bfr d m v l d.n 0 (none, d.pa + 1) := hv
    rw [hT.1.1, if_pos (nI_le (Nat.le_refl _) (by omega)), wp_some, ← hv2]
  | succ j =>
    have hc : c < d.n := by omega
    have hw := fW_or hd hm hM hN (v := v) hc (Nat.le_refl _)
    rw [bfr_s] at hv
    rw [hT.1.1, if_neg (nI_ge hc (by omega)), x_isRight hd hT hl hc, ob1_s]
    by_cases c1 : d.g c = d.ds l
    · simp only [c1, decide_true]
      rw [itT, ixd_nI (by omega) (by omega), ixd_nI (by omega) (by omega), hS c hc]
      by_cases c2 : t.2 ≤ fW d m v c d.rd
      · rw [if_pos (nI_le c2 (by omega)), wp_bnd]
        rw [if_neg (by omega)] at hv
        exact ih j _ _ _ (by omega) ⟨c + 1, t, rfl, rfl, (nI_succ c).symm, by omega, ht, hv⟩
      · rw [if_neg (nI_ge (by omega) (by omega)), wp_bnd, wp_bnd]
        rw [if_pos ⟨c1, by omega⟩] at hv
        exact ih j _ _ _ (by omega) ⟨c + 1, (some c, fW d m v c d.rd), rfl, rfl, (nI_succ c).symm, by omega, by show fW d m v c d.rd ≤ 1000000; omega, hv⟩
    · simp only [c1, decide_false]
      rw [itF, wp_bnd]
      rw [if_neg (fun h => c1 h.1)] at hv
      exact ih j _ _ _ (by omega) ⟨c + 1, t, rfl, rfl, (nI_succ c).symm, by omega, ht, hv⟩
theorem bfr_ok (hd : TrOK d) (hm : MoOK d m) (hM : TrM d (M.2.1 20)) (hN : MoM d m (M.2.1 20)) {v l : Nat} : ∀ j c t, c + j = d.n → bOK d m v t → bOK d m v (bfr d m v l j c t) := by
  intro j
  induction j with
  | zero => intro c t _ h; exact h
  | succ j ih =>
    intro c t hc h
    rw [bfr_s]
    by_cases e : d.g c = d.ds l ∧ fW d m v c d.rd < t.2
    · rw [if_pos e]
      refine ih (c + 1) _ (by omega) ⟨by omega, rfl, ?_⟩
      show fW d m v c d.rd ≤ d.pa
      unfold bOK at h
      cases h1 : t.1 with
      | none => rw [h1] at h; simp only at h; omega
      | some c0 => rw [h1] at h; simp only at h; omega
    · rw [if_neg e]; exact ih (c + 1) t (by omega) h
theorem x_family (hd : TrOK d) (hT : TrC d T) (hm : MoOK d m) (hO : MoC d m O) (hM : TrM d (M.2.1 20)) (hN : MoM d m (M.2.1 20)) {S : Sg} {v l : Nat} (hv : v < 64) (hl : lsO v d.rd (some l)) : Wp (f_X6_familyCoach S T O (nI v)) (fun o => o.1 = oM (bfr d m v l d.n 0 (none, d.pa + 1)).1 ∧ ∀ c, c < d.n → o.2.2.1 3 c = nI (fW d m v c d.rd)) := by
  have hn := hd.n8
  have hr6 := hd.r6
  unfold f_X6_familyCoach
  rw [bnd_eq]
  refine wp_fl3 (fun j x y Z => ∃ k o, x = oM o ∧ y = nI k ∧ k + j = d.rd ∧ lsO v k o ∧ ∀ c, c < d.n → Z.2.1 3 c = nI (fW d m v c k)) ?_ d.rd (FU_lt (by omega)) _ _ _ ⟨0, none, rfl, rfl, by omega, fun r hr => by omega, fun c hc => by rw [sF_at]; unfold fillf; rw [if_pos (by omega)]; rfl⟩
  rintro j K _ _ Z ⟨k, o, rfl, rfl, hkj, ho, hZ⟩ ih
  unfold f_X6_familyCoach_b12 f_X6_familyCoach_b123 f_X6_familyCoach_b44
  cases j with
  | zero =>
    have e : k = d.rd := by omega
    subst e
    rw [hT.1.2.2, if_pos (nI_le (Nat.le_refl _) (by omega))]
    cases o with
    | none => exact absurd (ho l hl.1) (by rw [hl.2.1]; decide)
    | some l' =>
      have e2 : l' = l := by
        by_cases h1 : l' < l
        · have := hl.2.2 l' h1; rw [ho.2.1] at this; cases this
        · by_cases h2 : l < l'
          · have := ho.2.2 l h2; rw [hl.2.1] at this; cases this
          · omega
      subst e2
      have e3 : (oM (some l') : Int32) = nI l' := rfl
      have hlt := hl.1
      rw [e3, if_neg (by rw [show (-1 : Int32) = -nI 1 from rfl]; exact fun h => (eq_m1 (by omega)).mp h), x_bestFor hd hT hm hM hN hl.1 hZ, ob1_s]
      exact wp_some.mpr ⟨rfl, hZ⟩
  | succ j =>
    have hk : k < d.rd := by omega
    have hkn := (hd.rr k hk).2.2.2
    have hb := x_bitS hv (show k < 6 by omega)
    rw [hT.1.2.2, if_neg (nI_ge hk (by omega))]
    by_cases c1 : v.testBit k = true
    · rw [if_neg (fun h => by rw [hb.mp h] at c1; cases c1)]
      obtain ⟨g, h1, h2⟩ := x_spread hd hT hm hO hM hN (S := Z) (s := sof m k (d.kn k)) hk (plc_lt hm hk) (sof_le hm hk (by omega))
      have body : ∀ o', lsO v (k + 1) o' → Wp (ob1 (f_X10_placeOf O (nI k)) fun r52 => ixd (nI k) 6 fun i68 => ob1 (f_X6_startOf O (nI k) (T.2.1 14 i68)) fun r69 => ob1 (f_X6_spread Z T O (nI k) r52 r69) fun S_72 => fl4 (f_X6_familyCoach_b78 T O (nI v) K) FU (oM o') (nI k) 0 S_72) (fun o => o.1 = oM (bfr d m v l d.n 0 (none, d.pa + 1)).1 ∧ ∀ c, c < d.n → o.2.2.1 3 c = nI (fW d m v c d.rd)) := by
        intro o' ho'
        rw [x_placeOf hd hm hO hk, ob1_s, ixd_nI (by omega) (by omega), (hT.2.2.2.2.2.2 k hk).2.2.2.1, x_startOf hd hm hO hk (by omega), ob1_s, h1, ob1_s]
        refine wp_fl4 (fun q x y z Y => ∃ c h, x = oM o' ∧ y = nI k ∧ z = nI c ∧ Y = sF (sF Z 1 g) 3 h ∧ c + q = d.n ∧ ∀ t, t < d.n → h t = nI (if t < c then fW d m v t (k + 1) else fW d m v t k)) ?_ d.n (FU_lt (by omega)) _ _ _ _ ⟨0, Z.2.1 3, rfl, rfl, rfl, (sF_self (sF Z 1 g) 3).symm, by omega, fun t ht => by rw [if_neg (by omega)]; exact hZ t ht⟩
        rintro q K2 _ _ _ _ ⟨c, h, rfl, rfl, rfl, rfl, hcq, hh⟩ ih2
        unfold f_X6_familyCoach_b78 f_X6_familyCoach_b123
        cases q with
        | zero =>
          have e : c = d.n := by omega
          subst e
          rw [hT.1.1, if_pos (nI_le (Nat.le_refl _) (by omega)), wp_bnd]
          exact ih j _ _ _ (by omega) ⟨k + 1, o', rfl, (nI_succ k).symm, by omega, ho', fun t ht => by rw [sF_at, hh t ht, if_pos ht]⟩
        | succ q =>
          have hc : c < d.n := by omega
          have a1 := hh c hc
          rw [if_neg (by omega)] at a1
          have e1 : (sF (sF Z 1 g) 3 h).2.1 1 = g := rfl
          have b1 := fW_or hd hm hM hN (v := v) hc (show k ≤ d.rd by omega)
          have b2 := snv_le hd hM hN (s := sof m k (d.kn k)) hk (plc_lt hm hk) hc
          rw [hT.1.1, if_neg (nI_ge hc (by omega)), ixd_nI (by omega) (by omega), ixd_nI (by omega) (by omega), ixd_nI (by omega) (by omega), sF_at, e1, a1, h2 c hc, nI_max (by omega) (by omega), bnd_eq, sA_sF, wp_bnd]
          refine ih2 q _ _ _ _ (by omega) ⟨c + 1, _, rfl, rfl, (nI_succ c).symm, rfl, by omega, fun t ht => ?_⟩
          rw [upd_at]
          by_cases e : t = c
          · subst e
            rw [if_pos rfl, if_pos (by omega), fW_s, if_pos c1]
          · rw [if_neg e, hh t ht]
            by_cases e2 : t < c
            · rw [if_pos e2, if_pos (by omega)]
            · rw [if_neg e2, if_neg (by omega)]
      cases o with
      | none =>
        have e3 : (oM none : Int32) = -1 := rfl
        rw [e3, if_pos rfl]
        exact body (some k) ⟨by omega, c1, ho⟩
      | some l' =>
        have e3 : (oM (some l') : Int32) = nI l' := rfl
        have hl' := ho.1
        rw [e3, if_neg (by rw [show (-1 : Int32) = -nI 1 from rfl]; exact fun h => (eq_m1 (by omega)).mp h)]
        exact body (some l') ⟨by omega, ho.2⟩
    · simp only [Bool.not_eq_true] at c1
      rw [if_pos (hb.mpr c1), wp_bnd]
      refine ih j _ _ _ (by omega) ⟨k + 1, o, rfl, (nI_succ k).symm, by omega, ?_, fun c hc => by rw [hZ c hc, fW_s, c1]; rfl⟩
      cases o with
      | none =>
        intro r hr
        by_cases e : r = k
        · subst e; exact c1
        · exact ho r (by omega)
      | some l' => exact ⟨by have := ho.1; omega, ho.2⟩
theorem m_allIn (hd : TrOK d) (hm : MoOK d m) (hM : TrM d (M.2.1 20)) (hN : MoM d m (M.2.1 20)) {v c : Nat} (hv : v < 64) (hc : c < d.n) : ∃ g h, f_X12_allIn M (nI v) (nI c) = some (sN (fW d m v c d.rd), sM M g h) := by
  have hn := hd.n8
  have hr6 := hd.r6
  have key : Wp (f_X12_allIn M (nI v) (nI c)) (fun o => ∃ g h, o = (sN (fW d m v c d.rd), sM M g h)) := by
    unfold f_X12_allIn
    refine wp_fl3 (fun j x y Z => ∃ k g h, x = nI (fW d m v c k) ∧ y = nI k ∧ Z = sM M g h ∧ k + j = d.rd ∧ fW d m v c k ≤ 999) ?_ d.rd (FU_lt (by omega)) _ _ _ ⟨0, M.2.1 24, M.2.1 25, rfl, rfl, (sM_id M).symm, by omega, by show 0 ≤ 999; omega⟩
    rintro j K _ _ _ ⟨k, g, h, rfl, rfl, rfl, hkj, hw⟩ ih
    have hM' : TrM d ((sM M g h).2.1 20) := hM
    have hN' : MoM d m ((sM M g h).2.1 20) := hN
    unfold f_X12_allIn_b5 f_X12_allIn_b98 f_X12_allIn_b99
    cases j with
    | zero =>
      have e : k = d.rd := by omega
      subst e
      rw [hM'.1.2.2, if_pos (nI_le (Nat.le_refl _) (by omega))]
      exact wp_some.mpr ⟨g, h, by rw [sN_f hw]⟩
    | succ j =>
      have hk : k < d.rd := by omega
      have hkn := (hd.rr k hk).2.2.2
      have hpl := plc_lt hm hk
      have hso := sof_le hm hk (show d.kn k ≤ 99999 by omega)
      rw [hM'.1.2.2, if_neg (nI_ge hk (by omega)), m_isOf hv (by omega), ob1_s]
      by_cases c1 : v.testBit k = true
      · rw [c1, itT, show (4 : Int32) = nI 4 from rfl, m_riderOf (by omega) (by omega), ob1_s, (hM'.2.2.2.2.2 k hk).2.2.2, m_beginOf hd hm hN' hk (by omega), ob1_s]
        have hst := fW_s d m v c k
        rw [if_pos c1] at hst
        have hbad : snv d m k (plc m k) (sof m k (d.kn k)) c = 1000000 → fW d m v c d.rd = 1000000 := by
          intro h9
          have h8 := mxr_mono (p := fun r => v.testBit r) (f := fun r => snv d m r (plc m r) (sof m r (d.kn r)) c) (show k + 1 ≤ d.rd by omega)
          have h7 := fW_or hd hm hM hN (v := v) hc (Nat.le_refl d.rd)
          have h6 : fW d m v c (k + 1) ≤ fW d m v c d.rd := h8
          omega
        by_cases c2 : sof m k (d.kn k) ≤ 999
        · obtain ⟨g2, h2, e2, e3⟩ := m_fs hd hM' hN' hk hpl c2
          have e4 : snv d m k (plc m k) (sof m k (d.kn k)) c = sn d m k (plc m k) (sof m k (d.kn k)) c := by unfold snv; rw [if_pos c2]
          rw [if_pos (by rw [lit]; exact nI_le c2 (by omega)), m_whereOf hd hm hN' hk, ob1_s, e2, ob1_s, ixd_nI (by omega) (by omega), ixd_nI (by omega) (by omega), ixd_nI (by omega) (by omega), sM_24, e3 c hc, sM_sM, ← e4]
          rcases snv_le hd hM hN (s := sof m k (d.kn k)) hk hpl hc with h9 | h9
          · rw [sN_f h9, if_pos (by rw [lit]; exact nI_le (by omega) (by omega))]
            by_cases c3 : snv d m k (plc m k) (sof m k (d.kn k)) c ≤ fW d m v c k
            · rw [if_pos (nI_le c3 (by omega)), wp_bnd]
              exact ih j _ _ _ (by omega) ⟨k + 1, g2, h2, by rw [hst, show max (fW d m v c k) (snv d m k (plc m k) (sof m k (d.kn k)) c) = fW d m v c k by omega], (nI_succ k).symm, rfl, by omega, by omega⟩
            · rw [if_neg (nI_ge (by omega) (by omega)), wp_bnd]
              exact ih j _ _ _ (by omega) ⟨k + 1, g2, h2, by rw [hst, show max (fW d m v c k) (snv d m k (plc m k) (sof m k (d.kn k)) c) = snv d m k (plc m k) (sof m k (d.kn k)) c by omega], (nI_succ k).symm, rfl, by omega, by omega⟩
          · rw [sN_i (by omega), if_neg (by decide)]
            exact wp_some.mpr ⟨g2, h2, by rw [hbad h9, sN_i (by omega)]; rfl⟩
        · have h9 : snv d m k (plc m k) (sof m k (d.kn k)) c = 1000000 := by unfold snv; rw [if_neg c2]
          rw [if_neg (by rw [lit]; exact nI_ge (by omega) (by omega))]
          exact wp_some.mpr ⟨g, h, by rw [hbad h9, sN_i (by omega)]; rfl⟩
      · simp only [Bool.not_eq_true] at c1
        rw [c1, itF, wp_bnd]
        have hst : fW d m v c (k + 1) = fW d m v c k := by rw [fW_s, c1]; rfl
        exact ih j _ _ _ (by omega) ⟨k + 1, g, h, by rw [hst], (nI_succ k).symm, rfl, by omega, by omega⟩
  obtain ⟨x, h1, g, h, h2⟩ := key
  exact ⟨g, h, by rw [h1, h2]⟩
/-- what stands in for one that isn't -/
def o2 (o : Option Nat) : Int32 := match o with | none => -2 | some k => nI k
def w2 (t : Option Nat × Nat) : Int32 := match t.1 with | none => -2 | some _ => nI t.2
theorem m_famL (hd : TrOK d) (hm : MoOK d m) (hM : TrM d (M.2.1 20)) (hN : MoM d m (M.2.1 20)) {v l : Nat} {p2 : Int32} (hv : v < 64) (hl : lsO v d.rd (some l)) : Wp (fl5 (f_X12_family_b63 (nI v) p2) FU (nI l) (-2) (-2) 0 M) (fun o => o.1 = (if p2 = 0 then o2 (bfr d m v l d.n 0 (none, d.pa + 1)).1 else w2 (bfr d m v l d.n 0 (none, d.pa + 1))) ∧ pjM o.2 = pjM M) := by
  have hn := hd.n8
  have hp := hd.pa9
  have hlr := hl.1
  refine wp_fl5 (fun j x y z w Z => ∃ c t g h, x = nI l ∧ y = o2 t.1 ∧ z = w2 t ∧ w = nI c ∧ Z = sM M g h ∧ c + j = d.n ∧ bOK d m v t ∧ bfr d m v l j c t = bfr d m v l d.n 0 (none, d.pa + 1)) ?_ d.n (FU_lt (by omega)) _ _ _ _ _ ⟨0, (none, d.pa + 1), M.2.1 24, M.2.1 25, rfl, rfl, rfl, rfl, (sM_id M).symm, by omega, rfl, rfl⟩
  rintro j K _ _ _ _ _ ⟨c, t, g, h, rfl, rfl, rfl, rfl, rfl, hcj, ht, hw⟩ ih
  have hM' : TrM d ((sM M g h).2.1 20) := hM
  have hN' : MoM d m ((sM M g h).2.1 20) := hN
  unfold f_X12_family_b63 f_X12_family_b125 f_X12_family_b133
  cases j with
  | zero =>
    have e : c = d.n := by omega
    subst e
    have hv2 : t = bfr d m v l d.n 0 (none, d.pa + 1) := hw
    rw [hM'.1.1, if_pos (nI_le (Nat.le_refl _) (by omega)), ← hv2]
    by_cases c : p2 = 0
    · rw [if_pos c]; exact wp_some.mpr ⟨by rw [if_pos c], rfl⟩
    · rw [if_neg c]; exact wp_some.mpr ⟨by rw [if_neg c], rfl⟩
  | succ j =>
    have hc : c < d.n := by omega
    rw [bfr_s] at hw
    rw [hM'.1.1, if_neg (nI_ge hc (by omega)), m_isRight hd hM' hlr hc, ob1_s]
    by_cases c1 : d.g c = d.ds l
    · simp only [c1, decide_true]
      obtain ⟨g2, h2, e2⟩ := m_allIn hd hm hM' hN' hv hc
      have hM2 : TrM d ((sM M g2 h2).2.1 20) := hM
      rw [itT, e2, ob2_s, sM_sM]
      dsimp only
      have hno : ¬ fW d m v c d.rd < t.2 → Wp (K (nI l) (o2 t.1) (w2 t) (nI c + 1) (sM M g2 h2)) (fun o => o.1 = (if p2 = 0 then o2 (bfr d m v l d.n 0 (none, d.pa + 1)).1 else w2 (bfr d m v l d.n 0 (none, d.pa + 1))) ∧ pjM o.2 = pjM M) := by
        intro hx
        rw [if_neg (fun h => hx h.2)] at hw
        exact ih j _ _ _ _ _ (by omega) ⟨c + 1, t, g2, h2, rfl, rfl, rfl, (nI_succ c).symm, rfl, by omega, ht, hw⟩
      have hyes : fW d m v c d.rd < t.2 → fW d m v c d.rd ≤ d.pa → Wp (K (nI l) (nI c) (nI (fW d m v c d.rd)) (nI c + 1) (sM M g2 h2)) (fun o => o.1 = (if p2 = 0 then o2 (bfr d m v l d.n 0 (none, d.pa + 1)).1 else w2 (bfr d m v l d.n 0 (none, d.pa + 1))) ∧ pjM o.2 = pjM M) := by
        intro hx hx2
        rw [if_pos ⟨c1, hx⟩] at hw
        exact ih j _ _ _ _ _ (by omega) ⟨c + 1, (some c, fW d m v c d.rd), g2, h2, rfl, rfl, rfl, (nI_succ c).symm, rfl, by omega, ⟨hc, rfl, hx2⟩, hw⟩
      have hb : t.2 ≤ d.pa + 1 := by
        unfold bOK at ht
        cases h1 : t.1 with
        | none => rw [h1] at ht; simp only at ht; omega
        | some c0 => rw [h1] at ht; simp only at ht; omega
      rcases fW_or hd hm hM hN (v := v) hc (Nat.le_refl _) with h9 | h9
      · rw [sN_f h9, if_neg (nI_pos (by omega)), m_parting hd hM2, ob1_s]
        by_cases c2 : d.pa < fW d m v c d.rd
        · rw [if_pos (nI_lt c2 (by omega)), wp_bnd]; exact hno (by omega)
        · rw [if_neg (nI_nlt (by omega) (by omega))]
          cases h1 : t.1 with
          | none =>
            have e5 : (o2 none : Int32) = -2 := rfl
            unfold bOK at ht
            rw [h1] at ht
            simp only at ht
            rw [e5, if_pos (by decide), wp_bnd]
            exact hyes (by omega) (by omega)
          | some c0 =>
            have e5 : (o2 (some c0) : Int32) = nI c0 := rfl
            have ht2 := ht
            unfold bOK at ht2
            rw [h1] at ht2
            simp only at ht2
            have e6 : w2 t = nI t.2 := by unfold w2; rw [h1]
            rw [e5, if_neg (nI_pos (by omega)), e6]
            by_cases c3 : fW d m v c d.rd < t.2
            · rw [if_pos (nI_lt c3 (by omega)), wp_bnd]; exact hyes c3 (by omega)
            · rw [if_neg (nI_nlt (by omega) (by omega)), wp_bnd]
              have := hno c3
              rw [h1, e5, e6] at this
              exact this
      · rw [sN_i (by omega), if_pos (by decide), wp_bnd]; exact hno (by omega)
    · simp only [c1, decide_false]
      rw [itF, wp_bnd]
      rw [if_neg (fun h => c1 h.1)] at hw
      exact ih j _ _ _ _ _ (by omega) ⟨c + 1, t, g, h, rfl, rfl, rfl, (nI_succ c).symm, rfl, by omega, ht, hw⟩
end
theorem sh1 {k : Nat} (h : k ≤ 6) : (1 : Int32) <<< (nI k &&& 31) = nI (2 ^ k) := by
  have h2 : k = 0 ∨ k = 1 ∨ k = 2 ∨ k = 3 ∨ k = 4 ∨ k = 5 ∨ k = 6 := by omega
  rcases h2 with rfl | rfl | rfl | rfl | rfl | rfl | rfl <;> decide
theorem ls_ex {v k : Nat} (hv : 0 < v) (hk : v < 2 ^ k) : ∃ l, lsO v k (some l) := by
  have key : ∀ n, (∃ l, lsO v n (some l)) ∨ lsO v n none := by
    intro n
    induction n with
    | zero => right; intro r hr; omega
    | succ n ih =>
      rcases ih with ⟨l, h⟩ | h
      · exact Or.inl ⟨l, by have := h.1; omega, h.2⟩
      · by_cases e : v.testBit n = true
        · exact Or.inl ⟨n, by omega, e, h⟩
        · simp only [Bool.not_eq_true] at e
          right
          intro r hr
          by_cases e2 : r = n
          · subst e2; exact e
          · exact h r (by omega)
  rcases key k with h | h
  · exact h
  · exfalso
    have : v = 0 := by
      apply Nat.eq_of_testBit_eq
      intro i
      rw [Nat.zero_testBit]
      by_cases e : i < k
      · exact h i e
      · exact Nat.testBit_lt_two_pow (Nat.lt_of_lt_of_le hk (Nat.pow_le_pow_right (by decide) (by omega)))
    omega
theorem st_family : St_family RR := by
  intro s M p1 p2 hR
  have hR0 := hR; obtain ⟨hTp, ⟨d, m, n, a, π, ⟨hG, hT, hM, hm, hO, hN, hS, hX, hX0⟩, hH⟩, hI, hU⟩ := hR
  have hb := hG.b
  unfold f_X11_family f_X12_family f_X11_family_b24 f_X11_family_b25 f_X11_family_b39 f_X12_family_b34
  have hbad : ∀ {A B : Option (Int32 × Sg)}, A = some (-1, s.1 13) → B = some (-1, M) → ∃ r S1 M1, A = some (r, S1) ∧ B = some (r, M1) ∧ RR (sC s 13 S1) M1 := fun h1 h2 => ⟨_, _, _, h1, h2, RR_sc hR0 _ rfl⟩
  rw [hT.1.2.2, hM.1.2.2, sh1 (by omega), m_isLine hG hM, ob1_s, if_pos (show (0 : Int32) = 0 from rfl)]
  by_cases k1 : p1 ≤ 0
  · rw [if_pos k1]
    have k2 : p1 < 1 := Int32.lt_of_le_of_lt k1 (by decide)
    rw [if_pos k2]
    by_cases c0 : 0 < d.n
    · simp only [c0, decide_true]; exact hbad rfl rfl
    · simp only [c0, decide_false]; exact hbad rfl rfl
  · rw [if_neg k1]
    have k0 : ¬ p1 < 0 := fun h => k1 (Int32.le_of_lt h)
    obtain ⟨v, hv1, rfl⟩ := nI_of k0
    have hv0 : 0 < v := by
      by_cases e : v = 0
      · subst e; exact absurd (by decide) k1
      · omega
    have h2p : 2 ^ d.rd ≤ 64 := by
      have : 2 ^ d.rd ≤ 2 ^ 6 := Nat.pow_le_pow_right (by decide) hb.2.2
      omega
    rw [if_neg (show ¬ nI v < 1 by rw [show (1 : Int32) = nI 1 from rfl, nI_ltI (by omega) (by omega)]; omega)]
    by_cases k3 : 2 ^ d.rd ≤ v
    · rw [if_pos (nI_le k3 (by omega)), if_pos (nI_le k3 (by omega))]
      by_cases c0 : 0 < d.n
      · simp only [c0, decide_true]; exact hbad rfl rfl
      · simp only [c0, decide_false]; exact hbad rfl rfl
    · rw [if_neg (nI_ge (by omega) (by omega)), if_neg (nI_ge (by omega) (by omega))]
      have c0 : 0 < d.n := by
        rcases hG with hd | ⟨h1, h2, h3⟩
        · have := hd.n8; omega
        · rw [h3] at k3; omega
      have hd := hG.ok c0
      simp only [c0, decide_true]
      rw [itT, if_neg (show ¬ (1 : Int32) = 0 by decide)]
      obtain ⟨l, hl⟩ := ls_ex hv0 (show v < 2 ^ d.rd by omega)
      rcases csI p2 2 with ⟨e, he, rfl⟩ | hno
      · rw [in_ok (b := 1) (by decide) (by omega) (by omega), ob1_s, itT, if_neg (nI_pos (by omega)), if_pos (by rw [lit]; exact nI_le (by omega) (by omega))]
        obtain ⟨⟨r1, S1⟩, h1, h2, h3⟩ := x_family hd hT hm hO hM hN (S := s.1 13) (v := v) (by omega) hl
        have km : Wp (fl2 (f_X12_family_b38 (nI v) (nI e)) FU 0 M) (fun o => o.1 = (if nI e = 0 then o2 (bfr d m v l d.n 0 (none, d.pa + 1)).1 else w2 (bfr d m v l d.n 0 (none, d.pa + 1))) ∧ pjM o.2 = pjM M) := by
          have hlr := hl.1
          refine wp_fl2 (fun j x Z => ∃ k, x = nI k ∧ Z = M ∧ k + j = l) ?_ l (FU_lt (by omega)) _ _ ⟨0, rfl, rfl, by omega⟩
          rintro j K _ Z ⟨k, rfl, rfl, hkj⟩ ih
          unfold f_X12_family_b38
          rw [m_isOf (by omega) (by omega), ob1_s]
          cases j with
          | zero =>
            have e2 : k = l := by omega
            subst e2
            rw [hl.2.1, itT]
            exact m_famL hd hm hM hN (by omega) hl
          | succ j =>
            rw [hl.2.2 k (by omega), itF, wp_bnd]
            exact ih j _ _ (by omega) ⟨k + 1, (nI_succ k).symm, rfl, by omega⟩
        obtain ⟨⟨r2, M1⟩, h4, h5, h6⟩ := km
        simp only at h2 h3 h5 h6
        have hok := bfr_ok hd hm hM hN (v := v) (l := l) d.n 0 (none, d.pa + 1) (by omega) rfl
        generalize bfr d m v l d.n 0 (none, d.pa + 1) = t at h2 h5 hok
        rw [h1, ob2_s, h4, h2, h5]
        dsimp only
        cases h7 : t.1 with
        | none =>
          have e5 : (oM none : Int32) = -1 := rfl
          have e6 : w2 t = -2 := by unfold w2; rw [h7]
          rw [e5, if_pos rfl, e6]
          refine ⟨-2, S1, M1, rfl, ?_, RR_sc hR0 _ h6⟩
          by_cases c : nI e = 0
          · rw [if_pos c]; rfl
          · rw [if_neg c]
        | some c0' =>
          have e5 : (oM (some c0') : Int32) = nI c0' := rfl
          have e6 : w2 t = nI t.2 := by unfold w2; rw [h7]
          unfold bOK at hok
          rw [h7] at hok
          simp only at hok
          have hn8 := hd.n8
          rw [e5, if_neg (by rw [show (-1 : Int32) = -nI 1 from rfl]; exact fun h => (eq_m1 (by omega)).mp h), e6]
          by_cases c : nI e = 0
          · rw [if_pos c, if_pos c]; exact ⟨_, _, _, rfl, rfl, RR_sc hR0 _ h6⟩
          · rw [if_neg c, if_neg c, ixd_nI (by omega) (by omega), h3 c0' hok.1, hok.2.1]; exact ⟨_, _, _, rfl, rfl, RR_sc hR0 _ h6⟩
      · rw [in_no (b := 1) (by decide) (fun k hk => hno k (by omega)), ob1_s, itF]
        by_cases q0 : p2 < 0
        · rw [if_pos q0]; exact hbad rfl rfl
        · rw [if_neg q0]
          rcases nI_out (by omega) hno with h | h
          · exact absurd h q0
          · have q1 : ¬ p2 ≤ 1 := by
              intro h2
              have h3 : nI 2 ≤ 1 := Int32.le_trans h h2
              exact absurd h3 (by decide)
            rw [if_neg q1]; exact hbad rfl rfl
