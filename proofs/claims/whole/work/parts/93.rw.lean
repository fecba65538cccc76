/-! row -/
abbrev ST : Type := Bool × Nat × Nat × Nat
noncomputable def okI (d : Tr) (m : Mo) (r u a s t : Nat) : Option ST := match sIB d m r a t s with
  | none => none
  | some b => if b + d.ins r < vB d m r u t then some (false, t, b, b + d.ins r) else none
noncomputable def okO (d : Tr) (m : Mo) (r u a s t : Nat) : Option ST := match sOB d (sOu d r a t) s with
  | none => none
  | some b => if b + sOu d r a t < vB d m r u t then some (true, t, b, b + sOu d r a t) else none
noncomputable def stO (d : Tr) (m : Mo) (r u a s : Nat) : Nat → Nat → Option ST
  | 0, _ => none
  | j + 1, t => if t = a then stO d m r u a s j (t + 1) else match okO d m r u a s t with | some z => some z | none => stO d m r u a s j (t + 1)
theorem stO_s (d : Tr) (m : Mo) (r u a s j t : Nat) : stO d m r u a s (j + 1) t = if t = a then stO d m r u a s j (t + 1) else match okO d m r u a s t with | some z => some z | none => stO d m r u a s j (t + 1) := rfl
noncomputable def stp (d : Tr) (m : Mo) (r u a s : Nat) : Option ST := match (if 1 ≤ a then okI d m r u a s (a - 1) else none) with
  | some z => some z
  | none => match (if a + 1 < d.n then okI d m r u a s (a + 1) else none) with
    | some z => some z
    | none => stO d m r u a s d.n 0
/-- the k-th going of a row -/
noncomputable def goK (d : Tr) (m : Mo) (r u : Nat) : Nat → Nat → Nat → Option ST
  | 0, a, s => if d.g a = d.ds r then none else stp d m r u a s
  | k + 1, a, s => if d.g a = d.ds r then none else match stp d m r u a s with | none => none | some z => goK d m r u k z.2.1 z.2.2.2
def stOK (d : Tr) (u s : Nat) (z : ST) : Prop := z.2.1 < d.n ∧ s ≤ z.2.2.1 ∧ s < z.2.2.2 ∧ z.2.2.2 ≤ u
section
variable {d : Tr} {m : Mo} {T O : Sg} {M : Sg}
theorem okI_ok (hd : TrOK d) {r u a s t : Nat} {z : ST} (hr : r < d.rd) (ht : t < d.n) (h : okI d m r u a s t = some z) : stOK d u s z := by
  have hin := hd.inr hr
  unfold okI at h
  cases h1 : sIB d m r a t s with
  | none => rw [h1] at h; cases h
  | some b =>
    rw [h1] at h
    simp only at h
    have hb := sIB_bd h1
    have hv := @vB_le d m r u t
    by_cases c : b + d.ins r < vB d m r u t
    · rw [if_pos c] at h; cases h
      exact ⟨ht, hb, by show s < b + d.ins r; omega, by show b + d.ins r ≤ u; omega⟩
    · rw [if_neg c] at h; cases h
theorem okO_ok (hd : TrOK d) {r u a s t : Nat} {z : ST} (hr : r < d.rd) (ht : t < d.n) (hat : a ≠ t) (h : okO d m r u a s t = some z) : stOK d u s z := by
  have hin := sOu_pos hd hr hat
  unfold okO at h
  cases h1 : sOB d (sOu d r a t) s with
  | none => rw [h1] at h; cases h
  | some b =>
    rw [h1] at h
    simp only at h
    have hb := sOB_bd hd h1
    have hv := @vB_le d m r u t
    by_cases c : b + sOu d r a t < vB d m r u t
    · rw [if_pos c] at h; cases h
      exact ⟨ht, hb.2, by show s < b + sOu d r a t; omega, by show b + sOu d r a t ≤ u; omega⟩
    · rw [if_neg c] at h; cases h
theorem stO_ok (hd : TrOK d) {r u a s : Nat} {z : ST} (hr : r < d.rd) : ∀ j t, t + j = d.n → stO d m r u a s j t = some z → stOK d u s z := by
  intro j
  induction j with
  | zero => intro t _ h; cases h
  | succ j ih =>
    intro t ht h
    rw [stO_s] at h
    by_cases e : t = a
    · rw [if_pos e] at h; exact ih (t + 1) (by omega) h
    · rw [if_neg e] at h
      cases h1 : okO d m r u a s t with
      | none => rw [h1] at h; exact ih (t + 1) (by omega) h
      | some z' => rw [h1] at h; cases h; exact okO_ok hd hr (by omega) (fun e2 => e e2.symm) h1
theorem stp_ok (hd : TrOK d) {r u a s : Nat} {z : ST} (hr : r < d.rd) (ha : a < d.n) (h : stp d m r u a s = some z) : stOK d u s z := by
  unfold stp at h
  by_cases c1 : 1 ≤ a
  · rw [if_pos c1] at h
    cases h1 : okI d m r u a s (a - 1) with
    | some z' => rw [h1] at h; cases h; exact okI_ok hd hr (by omega) h1
    | none =>
      rw [h1] at h
      simp only at h
      by_cases c2 : a + 1 < d.n
      · rw [if_pos c2] at h
        cases h2 : okI d m r u a s (a + 1) with
        | some z' => rw [h2] at h; cases h; exact okI_ok hd hr (by omega) h2
        | none => rw [h2] at h; exact stO_ok hd hr d.n 0 (by omega) h
      · rw [if_neg c2] at h; exact stO_ok hd hr d.n 0 (by omega) h
  · rw [if_neg c1] at h
    simp only at h
    by_cases c2 : a + 1 < d.n
    · rw [if_pos c2] at h
      cases h2 : okI d m r u a s (a + 1) with
      | some z' => rw [h2] at h; cases h; exact okI_ok hd hr (by omega) h2
      | none => rw [h2] at h; exact stO_ok hd hr d.n 0 (by omega) h
    · rw [if_neg c2] at h; exact stO_ok hd hr d.n 0 (by omega) h
theorem goK_far (hd : TrOK d) {r u : Nat} (hr : r < d.rd) : ∀ k a s, a < d.n → u < s + k + 1 → goK d m r u k a s = none := by
  intro k
  induction k with
  | zero =>
    intro a s ha h
    unfold goK
    by_cases c : d.g a = d.ds r
    · rw [if_pos c]
    · rw [if_neg c]
      cases h1 : stp d m r u a s with
      | none => rfl
      | some z => have := stp_ok hd hr ha h1; unfold stOK at this; omega
  | succ k ih =>
    intro a s ha h
    unfold goK
    by_cases c : d.g a = d.ds r
    · rw [if_pos c]
    · rw [if_neg c]
      cases h1 : stp d m r u a s with
      | none => rfl
      | some z =>
        have h2 := stp_ok hd hr ha h1
        unfold stOK at h2
        exact ih z.2.1 z.2.2.2 h2.1 (by omega)
/-! the class -/
def tk (S : Sg) (z : ST) : Sg := sI (sI (sI (sI S 8 (bI z.1)) 9 (nI z.2.1)) 10 (nI z.2.2.1)) 11 (nI z.2.2.2)
theorem nI_uN {x w : Nat} (hx : x < 2 ^ 29) (hw : w < 2 ^ 29) : (nI x ≤ uN w ↔ x < w) ∧ (uN w < nI x ↔ ¬ x < w) := by
  have e : nI x = uN (x + 1) := rfl
  rw [e, uN_le (by omega) (by omega), uN_lt (by omega) (by omega)]
  omega
theorem x_inTime (hd : TrOK d) (hT : TrC d T) (hm : MoOK d m) (hO : MoC d m O) {S : Sg} {r u a s t : Nat} (hr : r < d.rd) (ha : a < d.n) (ht : t < d.n) (hat : dist a t = 1) (hs : s ≤ 99999) (hu : u ≤ 999) (hS : ∀ c, c < d.n → S.2.1 2 c = uN (vB d m r u c)) : f_X6_isInTimeInside S T O (nI r) (nI a) (nI t) (nI s) = (match okI d m r u a s t with | none => some (false, S) | some z => some (true, tk S z)) := by
  have hn := hd.n8
  have h6 := hd.r6
  have hin := hd.inr hr
  have hv := @vB_le d m r u t
  have hG : TrG d := Or.inl hd
  have hw : min a t + 1 < d.n := by unfold dist at hat; split at hat <;> omega
  have htr := hd.tr9 _ hw
  unfold f_X6_isInTimeInside okI
  rw [x_hasCoach hG hT ht, ob1_s, itT, x_insideBegin hd hT hm hO hr ha ht hat (by omega), ob1_s, ixd_nI (by omega) (by omega), (hT.2.2.2.2.2.2 r hr).2.2.2.2.1, nI_add, bnd_eq, ixd_nI (by omega) (by omega), hS t ht]
  rcases oC_cases (sIB d m r a t s) with ⟨h2, h3⟩ | ⟨b, h2, h3⟩
  · rw [h3]; simp only [h2]
    rw [if_neg (fun h => by have := (nI_uN (by omega) (by omega)).1.mp h; omega)]
  · rw [h3]; simp only [h2]
    have hb : b ≤ 999999 := by
      unfold sIB at h2
      split at h2
      · cases h2
      · split at h2
        · cases h2
        · cases h2; omega
    by_cases c : b + d.ins r < vB d m r u t
    · rw [if_pos ((nI_uN (by omega) (by omega)).1.mpr c), if_pos c]
      rfl
    · rw [if_neg (fun h => c ((nI_uN (by omega) (by omega)).1.mp h)), if_neg c]
theorem x_findFirst (hd : TrOK d) (hT : TrC d T) (hm : MoOK d m) (hO : MoC d m O) {S : Sg} {r u a s : Nat} (hr : r < d.rd) (ha : a < d.n) (hs : s ≤ 99999) (hu : u ≤ 999) (hS : ∀ c, c < d.n → S.2.1 2 c = uN (vB d m r u c)) : f_X6_findFirst S T O (nI r) (nI a) (nI s) = (match stp d m r u a s with | none => some (false, S) | some z => some (true, tk S z)) := by
  have hn := hd.n8
  have hG : TrG d := Or.inl hd
  have hz : nI 1 = (1 : Int32) := rfl
  have hout : fl2 (f_X6_findFirst_b31 T O (nI r) (nI a) (nI s)) FU 0 S = (match stO d m r u a s d.n 0 with | none => some (false, S) | some z => some (true, tk S z)) := by
    have key : Wp (fl2 (f_X6_findFirst_b31 T O (nI r) (nI a) (nI s)) FU 0 S) (fun o => some o = (match stO d m r u a s d.n 0 with | none => some (false, S) | some z => some (true, tk S z))) := by
      refine wp_fl2 (fun j x Z => ∃ t, x = nI t ∧ Z = S ∧ t + j = d.n ∧ stO d m r u a s j t = stO d m r u a s d.n 0) ?_ d.n (FU_lt (by omega)) _ _ ⟨0, rfl, rfl, by omega, rfl⟩
      rintro j K _ _ ⟨t, rfl, rfl, htj, hv⟩ ih
      unfold f_X6_findFirst_b31 f_X6_findFirst_b109
      cases j with
      | zero =>
        have e : t = d.n := by omega
        subst e
        have hv2 : none = stO d m r u a s d.n 0 := hv
        rw [hT.1.1, if_pos (nI_le (Nat.le_refl _) (by omega)), wp_some, ← hv2]
      | succ j =>
        have ht : t < d.n := by omega
        have hvl := @vB_le d m r u t
        have hx := sOu_le hd hr ha ht
        rw [stO_s] at hv
        rw [hT.1.1, if_neg (nI_ge ht (by omega))]
        by_cases e : t = a
        · subst e
          rw [if_pos rfl, wp_bnd]
          rw [if_pos rfl] at hv
          exact ih j _ _ (by omega) ⟨t + 1, (nI_succ t).symm, rfl, by omega, hv⟩
        · rw [if_neg (by rw [nI_eq (by omega) (by omega)]; exact e), x_outsideSeconds hd hT hr ha ht, ob1_s, x_outsideBegin hd hT (by omega) (by omega), ob1_s, nI_add, bnd_eq, ixd_nI (by omega) (by omega), hS t ht]
          rw [if_neg e] at hv
          unfold okO at hv
          rcases oC_cases (sOB d (sOu d r a t) s) with ⟨h2, h3⟩ | ⟨b, h2, h3⟩
          · rw [h3]; simp only [h2] at hv
            rw [if_pos ((nI_uN (by omega) (by omega)).2.mpr (by omega)), wp_bnd]
            exact ih j _ _ (by omega) ⟨t + 1, (nI_succ t).symm, rfl, by omega, hv⟩
          · rw [h3]; simp only [h2] at hv
            have hb := sOB_bd hd h2
            by_cases c : b + sOu d r a t < vB d m r u t
            · rw [if_neg (fun h => (nI_uN (by omega) (by omega)).2.mp h c)]
              simp only [if_pos c] at hv
              rw [← hv]
              exact wp_some.mpr rfl
            · rw [if_pos ((nI_uN (by omega) (by omega)).2.mpr c), wp_bnd]
              simp only [if_neg c] at hv
              exact ih j _ _ (by omega) ⟨t + 1, (nI_succ t).symm, rfl, by omega, hv⟩
    obtain ⟨x, h1, h2⟩ := key
    rw [h1, h2]
  unfold f_X6_findFirst f_X6_findFirst_b26 stp
  have hA : f_X6_isInTimeInside S T O (nI r) (nI a) (nI a - 1) (nI s) = (match (if 1 ≤ a then okI d m r u a s (a - 1) else none) with | none => some (false, S) | some z => some (true, tk S z)) := by
    by_cases c1 : 1 ≤ a
    · rw [if_pos c1, ← hz, nI_sub c1]
      exact x_inTime hd hT hm hO hr ha (by omega) (by unfold dist; split <;> omega) hs hu hS
    · rw [if_neg c1]
      have e : a = 0 := by omega
      subst e
      unfold f_X6_isInTimeInside
      rw [x_hasCoachN hG hT (fun c hc h => by
        rw [show nI 0 - 1 = -nI 1 from rfl] at h
        exact (m1_eq (by omega)).mp h), ob1_s, itF]
  have hB : f_X6_isInTimeInside S T O (nI r) (nI a) (nI a + 1) (nI s) = (match (if a + 1 < d.n then okI d m r u a s (a + 1) else none) with | none => some (false, S) | some z => some (true, tk S z)) := by
    rw [← nI_succ]
    by_cases c1 : a + 1 < d.n
    · rw [if_pos c1]
      exact x_inTime hd hT hm hO hr ha c1 (by unfold dist; split <;> omega) hs hu hS
    · rw [if_neg c1]
      unfold f_X6_isInTimeInside
      rw [x_hasCoachN hG hT (fun c hc h => by
        rw [nI_eq (by omega) (by omega)] at h
        omega), ob1_s, itF]
  rw [hA]
  cases h1 : (if 1 ≤ a then okI d m r u a s (a - 1) else none) with
  | some z => rfl
  | none =>
    simp only
    rw [ob2_s]
    dsimp only
    rw [itF, hB]
    cases h2 : (if a + 1 < d.n then okI d m r u a s (a + 1) else none) with
    | some z => rfl
    | none =>
      simp only
      rw [ob2_s]
      dsimp only
      rw [itF]
      exact hout
theorem x_findG (hd : TrOK d) (hT : TrC d T) (hm : MoOK d m) (hO : MoC d m O) {S : Sg} {r u a s K : Nat} (hr : r < d.rd) (ha : a < d.n) (hs : s ≤ 99999) (hu : u ≤ 999) (hK : K < 2 ^ 31) (hsu : s ≤ u) (hS : ∀ c, c < d.n → S.2.1 2 c = uN (vB d m r u c)) : Wp (fl4 (f_X6_findGoing_b64 T O (nI r) (nI K)) FU (nI a) (nI s) 0 S) (fun o => match goK d m r u K a s with | none => o.1 = false | some z => o.1 = true ∧ o.2.1 8 = bI z.1 ∧ o.2.1 9 = nI z.2.1 ∧ o.2.1 10 = nI z.2.2.1) := by
  have hn := hd.n8
  refine wp_fl4 (fun j x y w Z => ∃ i a' s', x = nI a' ∧ y = nI s' ∧ w = nI i ∧ i + j = 1000 ∧ i ≤ K ∧ a' < d.n ∧ s' ≤ u ∧ s + i ≤ s' ∧ (∀ c, c < d.n → Z.2.1 2 c = uN (vB d m r u c)) ∧ goK d m r u (K - i) a' s' = goK d m r u K a s) ?_ 1000 (FU_lt (by omega)) _ _ _ _ ⟨0, a, s, rfl, rfl, rfl, by omega, by omega, ha, hsu, by omega, hS, rfl⟩
  rintro j Kk _ _ _ Z ⟨i, a', s', rfl, rfl, rfl, hij, hiK, ha', hs', hsi, hZ, hv⟩ ih
  unfold f_X6_findGoing_b64 f_X6_findGoing_b97
  cases j with
  | zero =>
    have e : i = 1000 := by omega
    subst e
    rw [if_pos (by decide)]
    exact absurd hsi (by omega)
  | succ j =>
    rw [if_neg (by rw [show (999 : Int32) = nI 999 from rfl]; exact nI_nlt (by omega) (by omega)), x_isRight hd hT hr ha', ob1_s]
    by_cases c1 : d.g a' = d.ds r
    · simp only [c1, decide_true]
      rw [itT]
      have hv2 : goK d m r u (K - i) a' s' = none := by
        cases h9 : K - i with
        | zero => unfold goK; rw [if_pos c1]
        | succ q => unfold goK; rw [if_pos c1]
      rw [← hv, hv2]
      exact wp_some.mpr rfl
    · simp only [c1, decide_false]
      rw [itF, x_findFirst hd hT hm hO hr ha' (by omega) hu hZ]
      cases h1 : stp d m r u a' s' with
      | none =>
        simp only
        rw [ob2_s]
        dsimp only
        rw [itF]
        have hv2 : goK d m r u (K - i) a' s' = none := by
          cases h9 : K - i with
          | zero => unfold goK; rw [if_neg c1, h1]
          | succ q => unfold goK; rw [if_neg c1, h1]
        rw [← hv, hv2]
        exact wp_some.mpr rfl
      | some z =>
        simp only
        rw [ob2_s]
        dsimp only
        rw [itT]
        have hz := stp_ok hd hr ha' h1
        unfold stOK at hz
        by_cases c2 : i = K
        · rw [if_pos (by rw [c2])]
          have hv2 : goK d m r u (K - i) a' s' = some z := by
            rw [c2, Nat.sub_self]; unfold goK; rw [if_neg c1, h1]
          rw [← hv, hv2]
          exact wp_some.mpr ⟨rfl, rfl, rfl, rfl⟩
        · rw [if_neg (by rw [nI_eq (by omega) (by omega)]; exact c2), wp_bnd, wp_bnd, wp_bnd]
          refine ih j _ _ _ _ (by omega) ⟨i + 1, z.2.1, z.2.2.2, rfl, rfl, (nI_succ i).symm, by omega, by omega, hz.1, hz.2.2.2, by omega, hZ, ?_⟩
          rw [← hv]
          have e9 : K - i = (K - (i + 1)) + 1 := by omega
          rw [e9]
          show _ = (if d.g a' = d.ds r then none else match stp d m r u a' s' with | none => none | some z => goK d m r u (K - (i + 1)) z.2.1 z.2.2.2)
          rw [if_neg c1, h1]
end
