/-! the reference's row -/
def RowS (M M' : Sg) : Prop := pjM M' = pjM M ∧ M'.1 29 = M.1 29 ∧ M'.2.1 26 = M.2.1 26 ∧ M'.2.1 27 = M.2.1 27 ∧ M'.2.1 28 = M.2.1 28
def RowP (M M' : Sg) (i : Nat) (z : ST) : Prop := pjM M' = pjM M ∧ M'.1 29 = nI (i + 1) ∧ M'.2.1 26 = upd (M.2.1 26) i (bI z.1) ∧ M'.2.1 27 = upd (M.2.1 27) i (nI z.2.1) ∧ M'.2.1 28 = upd (M.2.1 28) i (nI z.2.2.1)
theorem RowS.tr {M M' M2 : Sg} (h : RowS M M') (h2 : RowS M' M2) : RowS M M2 := ⟨h2.1.trans h.1, h2.2.1.trans h.2.1, h2.2.2.1.trans h.2.2.1, h2.2.2.2.1.trans h.2.2.2.1, h2.2.2.2.2.trans h.2.2.2.2⟩
theorem RowP.tr {M M' M2 : Sg} {i : Nat} {z : ST} (h : RowS M M') (h2 : RowP M' M2 i z) : RowP M M2 i z := by
  obtain ⟨a1, a2, a3, a4, a5⟩ := h
  obtain ⟨b1, b2, b3, b4, b5⟩ := h2
  rw [a3] at b3
  rw [a4] at b4
  rw [a5] at b5
  exact ⟨b1.trans a1, b2, b3, b4, b5⟩
theorem RowS.rf (M : Sg) : RowS M M := ⟨rfl, rfl, rfl, rfl, rfl⟩
/-- what a try at a going comes to -/
def Tri (M : Sg) (i : Nat) (z : Option ST) (o : Bool × Sg) : Prop := match z with
  | none => o.1 = false ∧ RowS M o.2
  | some z => o.1 = true ∧ RowP M o.2 i z
section
variable {d : Tr} {m : Mo} {M : Sg}
theorem m_push (hr9 : True) {p1 p2 p4 p6 : Int32} {p5 : Bool} {i t b e : Nat} {k : Bool} {N : Sg} (hN : RowS M N) (hi : M.1 29 = nI i) (hi9 : i < 1000) : Wp (f_X12_goesOn_b97 p1 p2 (nI t) p4 p5 p6 (nI b) (N.1 29) (bI k) N) (Tri M i (some (k, t, b, e))) := by
  have h1 : N.1 29 = nI i := by rw [hN.2.1]; exact hi
  unfold f_X12_goesOn_b97
  have e1 : ∀ x, (sA N 26 i x).1 29 = nI i := fun x => h1
  have e2 : ∀ x y, (sA (sA N 26 i x) 27 i y).1 29 = nI i := fun x y => h1
  have e3 : ∀ x y z, (sA (sA (sA N 26 i x) 27 i y) 28 i z).1 29 = nI i := fun x y z => h1
  rw [h1, ixd_nI hi9 (by omega), bnd_eq, e1, ixd_nI hi9 (by omega), bnd_eq, e2, ixd_nI hi9 (by omega), bnd_eq, e3, bnd_eq, ← nI_succ]
  refine wp_some.mpr ⟨rfl, hN.1, rfl, ?_, ?_, ?_⟩
  · show upd (N.2.1 26) i (bI k) = upd (M.2.1 26) i (bI k); rw [hN.2.2.1]
  · show upd (N.2.1 27) i (nI t) = upd (M.2.1 27) i (nI t); rw [hN.2.2.2.1]
  · show upd (N.2.1 28) i (nI b) = upd (M.2.1 28) i (nI b); rw [hN.2.2.2.2]
theorem m_goesOnI (hd : TrOK d) (hM : TrM d (M.2.1 20)) (hN : MoM d m (M.2.1 20)) {r u a s t i : Nat} (hr : r < d.rd) (ha : a < d.n) (ht : t < d.n) (hat : dist a t = 1) (hs : s ≤ 999) (hu : u ≤ 999) (hi : M.1 29 = nI i) (hi9 : i < 1000) : Wp (f_X12_goesOn M (nI r) (nI a) (nI t) (nI s) true (nI u)) (Tri M i (okI d m r u a s t)) := by
  have hn := hd.n8
  have hin := hd.inr hr
  have hv := @vB_le d m r u t
  have hG : TrG d := Or.inl hd
  unfold f_X12_goesOn f_X12_goesOn_b36 f_X12_goesOn_b77 okI
  rw [m_isCoach hG hM ht, ob1_s, itT, itT, m_insideFrom hd hM hN hr ha ht hat (by omega), ob1_s]
  unfold sIF
  cases h1 : sIB d m r a t s with
  | none =>
    simp only
    rw [if_neg (by decide)]
    exact wp_some.mpr ⟨rfl, RowS.rf M⟩
  | some b =>
    simp only
    by_cases c : b + d.ins r ≤ 999
    · rw [if_pos c]
      have e3 : (oM (some b) : Int32) = nI b := rfl
      obtain ⟨g, h, e2⟩ := m_rightFrom hd hM hN hr ht c
      rw [e3, if_pos (by rw [show (0 : Int32) = nI 0 from rfl]; exact nI_le (by omega) (by omega)), m_timeI hd hM _ _ hr, ob1_s, nI_add, e2, ob2_s]
      dsimp only
      have hiff := vB_iff hd hM hN (s := b + d.ins r) (u := u) hr ht hu
      have hrs : RowS M (sM M g h) := ⟨rfl, rfl, rfl, rfl, rfl⟩
      by_cases c2 : b + d.ins r < vB d m r u t
      · have h9 := hiff.mp c2
        rw [sN_f (by omega), if_neg (nI_pos (by omega)), if_pos (nI_le h9 (by omega)), itT, if_pos c2]
        exact m_push trivial (k := false) hrs hi hi9
      · have h9 : ¬ rt d m r t (b + d.ins r) ≤ u := fun h => c2 (hiff.mpr h)
        rw [if_neg c2]
        rcases rt_or hd hM hN (s := b + d.ins r) hr ht with h8 | h8
        · rw [sN_f h8, if_neg (nI_pos (by omega)), if_neg (nI_ge (by omega) (by omega))]
          exact wp_some.mpr ⟨rfl, hrs⟩
        · rw [sN_i (by omega), if_pos (by decide)]
          exact wp_some.mpr ⟨rfl, hrs⟩
    · rw [if_neg c, if_neg (show ¬ (0 : Int32) ≤ oM none by decide), if_neg (show ¬ b + d.ins r < vB d m r u t by omega)]
      exact wp_some.mpr ⟨rfl, RowS.rf M⟩
theorem m_goesOnO (hd : TrOK d) (hM : TrM d (M.2.1 20)) (hN : MoM d m (M.2.1 20)) {r u a s t i : Nat} (hr : r < d.rd) (ha : a < d.n) (ht : t < d.n) (hs : s ≤ 999) (hu : u ≤ 999) (hi : M.1 29 = nI i) (hi9 : i < 1000) : Wp (f_X12_goesOn M (nI r) (nI a) (nI t) (nI s) false (nI u)) (Tri M i (okO d m r u a s t)) := by
  have hn := hd.n8
  have hG : TrG d := Or.inl hd
  unfold f_X12_goesOn f_X12_goesOn_b36 f_X12_goesOn_b77 okO
  rw [m_isCoach hG hM ht, ob1_s, itT, itF, m_outsideFrom hd hM hr ha ht (by omega), ob1_s]
  cases h1 : sOB d (sOu d r a t) s with
  | none =>
    simp only
    rw [if_neg (by decide)]
    exact wp_some.mpr ⟨rfl, RowS.rf M⟩
  | some b =>
    simp only
    have hb := sOB_bd hd h1
    have e3 : (oM (some b) : Int32) = nI b := rfl
    obtain ⟨g, h, e2⟩ := m_rightFrom hd hM hN hr ht (s := b + sOu d r a t) (by omega)
    rw [e3, if_pos (by rw [show (0 : Int32) = nI 0 from rfl]; exact nI_le (by omega) (by omega)), m_timeO hd hM hr ha ht, ob1_s, nI_add, e2, ob2_s]
    dsimp only
    have hiff := vB_iff hd hM hN (s := b + sOu d r a t) (u := u) hr ht hu
    have hrs : RowS M (sM M g h) := ⟨rfl, rfl, rfl, rfl, rfl⟩
    by_cases c2 : b + sOu d r a t < vB d m r u t
    · have h9 := hiff.mp c2
      rw [sN_f (by omega), if_neg (nI_pos (by omega)), if_pos (nI_le h9 (by omega)), itF, if_pos c2]
      exact m_push trivial (k := true) hrs hi hi9
    · have h9 : ¬ rt d m r t (b + sOu d r a t) ≤ u := fun h => c2 (hiff.mpr h)
      rw [if_neg c2]
      rcases rt_or hd hM hN (s := b + sOu d r a t) hr ht with h8 | h8
      · rw [sN_f h8, if_neg (nI_pos (by omega)), if_neg (nI_ge (by omega) (by omega))]
        exact wp_some.mpr ⟨rfl, hrs⟩
      · rw [sN_i (by omega), if_pos (by decide)]
        exact wp_some.mpr ⟨rfl, hrs⟩
theorem RowS.tm {M' : Sg} (h : RowS M M') (hM : TrM d (M.2.1 20)) (hN : MoM d m (M.2.1 20)) : TrM d (M'.2.1 20) ∧ MoM d m (M'.2.1 20) := by
  rw [pj20 h.1]; exact ⟨hM, hN⟩
theorem m_steps (hd : TrOK d) (hM : TrM d (M.2.1 20)) (hN : MoM d m (M.2.1 20)) {r u a s i : Nat} (hr : r < d.rd) (ha : a < d.n) (hs : s ≤ 999) (hu : u ≤ 999) (hi : M.1 29 = nI i) (hi9 : i < 1000) : Wp (f_X12_steps M (nI r) (nI a) (nI s) (nI u)) (Tri M i (stp d m r u a s)) := by
  have hn := hd.n8
  have hG : TrG d := Or.inl hd
  have hz : nI 1 = (1 : Int32) := rfl
  have hA : Wp (f_X12_goesOn M (nI r) (nI a) (nI a - 1) (nI s) true (nI u)) (Tri M i (if 1 ≤ a then okI d m r u a s (a - 1) else none)) := by
    by_cases c1 : 1 ≤ a
    · rw [if_pos c1, ← hz, nI_sub c1]
      exact m_goesOnI hd hM hN hr ha (by omega) (by unfold dist; split <;> omega) hs hu hi hi9
    · rw [if_neg c1]
      have e : a = 0 := by omega
      subst e
      unfold f_X12_goesOn
      rw [m_isCoachN hG hM (fun c hc h => by
        rw [show nI 0 - 1 = -nI 1 from rfl] at h
        exact (m1_eq (by omega)).mp h), ob1_s, itF]
      exact wp_some.mpr ⟨rfl, RowS.rf M⟩
  have hB : ∀ M', RowS M M' → Wp (f_X12_goesOn M' (nI r) (nI a) (nI a + 1) (nI s) true (nI u)) (Tri M' i (if a + 1 < d.n then okI d m r u a s (a + 1) else none)) := by
    intro M' hrs
    obtain ⟨hM', hN'⟩ := hrs.tm hM hN
    have hi' : M'.1 29 = nI i := by rw [hrs.2.1]; exact hi
    rw [← nI_succ]
    by_cases c1 : a + 1 < d.n
    · rw [if_pos c1]
      exact m_goesOnI hd hM' hN' hr ha c1 (by unfold dist; split <;> omega) hs hu hi' hi9
    · rw [if_neg c1]
      unfold f_X12_goesOn
      rw [m_isCoachN hG hM' (fun c hc h => by
        rw [nI_eq (by omega) (by omega)] at h
        omega), ob1_s, itF]
      exact wp_some.mpr ⟨rfl, RowS.rf M'⟩
  have hC : ∀ M', RowS M M' → Wp (fl2 (f_X12_steps_b37 (nI r) (nI a) (nI s) (nI u)) FU 0 M') (Tri M i (stO d m r u a s d.n 0)) := by
    intro M' hrs0
    refine wp_fl2 (fun j x Z => ∃ t, x = nI t ∧ RowS M Z ∧ t + j = d.n ∧ stO d m r u a s j t = stO d m r u a s d.n 0) ?_ d.n (FU_lt (by omega)) _ _ ⟨0, rfl, hrs0, by omega, rfl⟩
    rintro j K _ Z ⟨t, rfl, hrs, htj, hv⟩ ih
    obtain ⟨hM', hN'⟩ := hrs.tm hM hN
    have hi' : Z.1 29 = nI i := by rw [hrs.2.1]; exact hi
    unfold f_X12_steps_b37 f_X12_steps_b71
    cases j with
    | zero =>
      have e : t = d.n := by omega
      subst e
      have hv2 : none = stO d m r u a s d.n 0 := hv
      rw [hM'.1.1, if_pos (nI_le (Nat.le_refl _) (by omega)), ← hv2]
      exact wp_some.mpr ⟨rfl, hrs⟩
    | succ j =>
      have ht : t < d.n := by omega
      rw [stO_s] at hv
      rw [hM'.1.1, if_neg (nI_ge ht (by omega))]
      by_cases e : t = a
      · subst e
        rw [if_pos rfl, wp_bnd]
        rw [if_pos rfl] at hv
        exact ih j _ _ (by omega) ⟨t + 1, (nI_succ t).symm, hrs, by omega, hv⟩
      · rw [if_neg (by rw [nI_eq (by omega) (by omega)]; exact e), wp_ob2]
        rw [if_neg e] at hv
        refine wp_mono (m_goesOnO hd hM' hN' hr ha ht hs hu hi' hi9) (fun o ho => ?_)
        obtain ⟨o1, o2⟩ := o
        cases h1 : okO d m r u a s t with
        | none =>
          rw [h1] at ho hv
          simp only at hv
          obtain ⟨q1, q2⟩ := ho
          simp only at q1
          subst q1
          show Wp (if bI false = 0 then _ else _) _
          rw [itF, wp_bnd]
          exact ih j _ _ (by omega) ⟨t + 1, (nI_succ t).symm, hrs.tr q2, by omega, hv⟩
        | some z =>
          rw [h1] at ho hv
          simp only at hv
          obtain ⟨q1, q2⟩ := ho
          simp only at q1
          subst q1
          show Wp (if bI true = 0 then _ else _) _
          rw [itT, ← hv]
          exact wp_some.mpr ⟨rfl, RowP.tr hrs q2⟩
  unfold f_X12_steps f_X12_steps_b32 stp
  rw [wp_ob2]
  refine wp_mono hA (fun o ho => ?_)
  obtain ⟨o1, o2⟩ := o
  cases h1 : (if 1 ≤ a then okI d m r u a s (a - 1) else none) with
  | some z =>
    rw [h1] at ho
    obtain ⟨q1, q2⟩ := ho
    simp only at q1
    subst q1
    show Wp (if bI true = 0 then _ else _) _
    rw [itT]
    exact wp_some.mpr ⟨rfl, q2⟩
  | none =>
    rw [h1] at ho
    obtain ⟨q1, q2⟩ := ho
    simp only at q1 q2
    subst q1
    show Wp (if bI false = 0 then _ else _) _
    rw [itF, wp_ob2]
    refine wp_mono (hB _ q2) (fun o ho => ?_)
    obtain ⟨o3, o4⟩ := o
    simp only
    cases h2 : (if a + 1 < d.n then okI d m r u a s (a + 1) else none) with
    | some z =>
      rw [h2] at ho
      obtain ⟨w1, w2⟩ := ho
      simp only at w1
      subst w1
      rw [itT]
      exact wp_some.mpr ⟨rfl, RowP.tr q2 w2⟩
    | none =>
      rw [h2] at ho
      obtain ⟨w1, w2⟩ := ho
      simp only at w1 w2
      subst w1
      rw [itF]
      exact hC _ (q2.tr w2)
/-- right later than the parting: right at once -/
theorem rt_late (hd : TrOK d) (hM : TrM d (M.2.1 20)) (hN : MoM d m (M.2.1 20)) {r a s : Nat} (hr : r < d.rd) (ha : a < d.n) (h9 : rt d m r a s ≤ 999) (hp : d.pa < rt d m r a s) : d.g a = d.ds r := by
  have hs : s ≤ 999 := by
    by_cases c : s ≤ 999
    · exact c
    · unfold rt at h9; rw [if_neg c] at h9; omega
  have hsn := sn_ok hd hM hN hr ha hs
  have hrt : rt d m r a s = mnr (fun c => decide (d.g c = d.ds r)) (sn d m r a s) d.n := by unfold rt; rw [if_pos hs]
  obtain ⟨c, h1, h2, h3⟩ := (mnr_spec (p := fun c => decide (d.g c = d.ds r)) (f := sn d m r a s) (u := rt d m r a s) (by omega) (k := d.n)).mp (by omega)
  simp only [decide_eq_true_eq] at h2
  by_cases e : c = a
  · rw [← e]; exact h2
  · exfalso
    rcases hsn.2.2.2 c h1 (by omega) with e2 | ⟨q, w1, w2, w3, w4⟩
    · exact e e2
    · have hmin : ∀ x, x < d.n → d.g x = d.ds r → rt d m r a s ≤ sn d m r a s x := by
        intro x hx hg
        by_cases h8 : sn d m r a s x ≤ 999
        · have := (mnr_spec (p := fun c => decide (d.g c = d.ds r)) (f := sn d m r a s) (u := sn d m r a s x) (by omega) (k := d.n)).mpr ⟨x, hx, by simp [hg], Nat.le_refl _⟩
          omega
        · omega
      have h4 := hmin c h1 h2
      have hee : eE d m r q c (sn d m r a s q) = rt d m r a s := by omega
      rw [eE_min hd] at hee
      have hgq : d.g q = d.g c := by
        have hO : eO d r q c (sn d m r a s q) ≤ d.pa ∨ eO d r q c (sn d m r a s q) = 1000000 := by
          unfold eO
          cases h5 : sOB d (sOu d r q c) (sn d m r a s q) with
          | none => exact Or.inr rfl
          | some b =>
            left
            simp only
            unfold sOB at h5
            cases h6 : fnd (fun k => decide (max (sn d m r a s q) (d.hb k) + sOu d r q c ≤ d.he k)) (d.ps + 1) 0 with
            | none => rw [h6] at h5; cases h5
            | some k =>
              rw [h6] at h5
              simp only [Option.map_some, Option.some.injEq] at h5
              obtain ⟨b1, b2, b3, b4⟩ := fnd_some h6
              simp only [decide_eq_true_eq] at b1
              have := hd.heb (s := k) (by omega)
              omega
        have hI : eI d m r q c (sn d m r a s q) = rt d m r a s := by omega
        unfold eI sIF at hI
        by_cases c1 : dist q c = 1
        · rw [if_pos c1] at hI
          cases h5 : sIB d m r q c (sn d m r a s q) with
          | none => rw [h5] at hI; simp only at hI; omega
          | some b =>
            rw [h5] at hI
            simp only at hI
            unfold sIB at h5
            split at h5
            · cases h5
            · split at h5
              · cases h5
              · rename_i c2 c3
                cases h5
                by_cases c4 : d.g q = d.g c
                · exact c4
                · exfalso
                  apply c3
                  refine ⟨c4, ?_⟩
                  split at hI
                  · rename_i hx
                    split at hx
                    · cases hx
                    · omega
                  · rename_i z hx
                    split at hx
                    · cases hx; omega
                    · cases hx
        · rw [if_neg c1] at hI; omega
      have h7 := hmin q w1 (by rw [hgq]; exact h2)
      omega
theorem m_fillsRow (hd : TrOK d) (hm : MoOK d m) (hM : TrM d (M.2.1 20)) (hN : MoM d m (M.2.1 20)) {r u a s : Nat} (hr : r < d.rd) (ha : a < d.n) (hs : s ≤ u) (hu : u ≤ 999) (hi0 : M.1 29 = nI 0) : Wp (fl4 (f_X12_fillsRow_b36 (nI r)) FU (nI u) (nI a) (nI s) M) (fun o => o.1 = true ∧ pjM o.2 = pjM M ∧ ∃ i, i ≤ 999 ∧ o.2.1 29 = nI i ∧ (∀ k, k < i → ∃ z, goK d m r u k a s = some z ∧ o.2.2.1 26 k = bI z.1 ∧ o.2.2.1 27 k = nI z.2.1 ∧ o.2.2.1 28 k = nI z.2.2.1) ∧ ∀ k, i ≤ k → goK d m r u k a s = none) := by
  have hn := hd.n8
  refine wp_fl4 (fun j x y w Z => ∃ i a' s', x = nI u ∧ y = nI a' ∧ w = nI s' ∧ s' + j = 1000 ∧ a' < d.n ∧ s' ≤ u ∧ s + i ≤ s' ∧ pjM Z = pjM M ∧ Z.1 29 = nI i ∧ (∀ k, k < i → ∃ z, goK d m r u k a s = some z ∧ Z.2.1 26 k = bI z.1 ∧ Z.2.1 27 k = nI z.2.1 ∧ Z.2.1 28 k = nI z.2.2.1) ∧ ∀ q, goK d m r u (i + q) a s = goK d m r u q a' s') ?_ (1000 - s) (FU_lt (by omega)) _ _ _ _ ⟨0, a, s, rfl, rfl, rfl, by omega, ha, hs, by omega, rfl, hi0, fun k hk => by omega, fun q => by rw [Nat.zero_add]⟩
  rintro j K _ _ _ Z ⟨i, a', s', rfl, rfl, rfl, hsj, ha', hs', hsi, hZp, hZi, hZk, hv⟩ ih
  have e20 := pj20 hZp
  have hM' : TrM d (Z.2.1 20) := by rw [e20]; exact hM
  have hN' : MoM d m (Z.2.1 20) := by rw [e20]; exact hN
  unfold f_X12_fillsRow_b36 f_X12_fillsRow_b97 f_X12_fillsRow_b114
  rw [m_isRight hd hM' hr ha', ob1_s]
  by_cases c1 : d.g a' = d.ds r
  · simp only [c1, decide_true]
    rw [itT]
    refine wp_some.mpr ⟨rfl, hZp, i, by omega, hZi, hZk, fun k hk => ?_⟩
    have e : k = i + (k - i) := by omega
    rw [e, hv]
    cases k - i with
    | zero => unfold goK; rw [if_pos c1]
    | succ q => unfold goK; rw [if_pos c1]
  · simp only [c1, decide_false]
    rw [itF, wp_ob2]
    refine wp_mono (m_steps hd hM' hN' hr ha' (by omega) hu hZi (by omega)) (fun o ho => ?_)
    obtain ⟨o1, Z2⟩ := o
    simp only
    cases h1 : stp d m r u a' s' with
    | none =>
      rw [h1] at ho
      obtain ⟨q1, q2⟩ := ho
      simp only at q1 q2
      subst q1
      rw [itF]
      refine wp_some.mpr ⟨rfl, q2.1.trans hZp, i, by omega, by rw [q2.2.1]; exact hZi, fun k hk => ?_, fun k hk => ?_⟩
      · rw [q2.2.2.1, q2.2.2.2.1, q2.2.2.2.2]; exact hZk k hk
      · have e : k = i + (k - i) := by omega
        rw [e, hv]
        cases k - i with
        | zero => unfold goK; rw [if_neg c1, h1]
        | succ q => unfold goK; rw [if_neg c1, h1]
    | some z =>
      rw [h1] at ho
      obtain ⟨q1, q2⟩ := ho
      simp only at q1 q2
      subst q1
      obtain ⟨y1, y2, y3, y4, y5⟩ := q2
      have hz := stp_ok hd hr ha' h1
      unfold stOK at hz
      have hM2 : TrM d (Z2.2.1 20) := by rw [pj20 y1]; exact hM'
      have e26 : Z2.2.1 26 i = bI z.1 := by rw [y3, upd_at, if_pos rfl]
      have e27 : Z2.2.1 27 i = nI z.2.1 := by rw [y4, upd_at, if_pos rfl]
      have e28 : Z2.2.1 28 i = nI z.2.2.1 := by rw [y5, upd_at, if_pos rfl]
      have hzs : z.2.2.1 + (if z.1 = false then d.ins r else sOu d r a' z.2.1) = z.2.2.2 := by
        have hOk : ∀ t, okI d m r u a' s' t = some z → z.2.2.1 + (if z.1 = false then d.ins r else sOu d r a' z.2.1) = z.2.2.2 := by
          intro t ht
          unfold okI at ht
          cases h5 : sIB d m r a' t s' with
          | none => rw [h5] at ht; cases ht
          | some b =>
            rw [h5] at ht
            simp only at ht
            split at ht
            · cases ht; rfl
            · cases ht
        have hOo : ∀ j t, stO d m r u a' s' j t = some z → z.2.2.1 + (if z.1 = false then d.ins r else sOu d r a' z.2.1) = z.2.2.2 := by
          intro j
          induction j with
          | zero => intro t ht; cases ht
          | succ j ih =>
            intro t ht
            rw [stO_s] at ht
            by_cases e : t = a'
            · rw [if_pos e] at ht; exact ih (t + 1) ht
            · rw [if_neg e] at ht
              cases h5 : okO d m r u a' s' t with
              | none => rw [h5] at ht; exact ih (t + 1) ht
              | some z' =>
                rw [h5] at ht
                cases ht
                unfold okO at h5
                cases h6 : sOB d (sOu d r a' t) s' with
                | none => rw [h6] at h5; cases h5
                | some b =>
                  rw [h6] at h5
                  simp only at h5
                  split at h5
                  · cases h5; rfl
                  · cases h5
        have h1' := h1
        unfold stp at h1'
        cases h5 : (if 1 ≤ a' then okI d m r u a' s' (a' - 1) else none) with
        | some z' =>
          rw [h5] at h1'
          cases h1'
          split at h5
          · exact hOk _ h5
          · cases h5
        | none =>
          rw [h5] at h1'
          simp only at h1'
          cases h6 : (if a' + 1 < d.n then okI d m r u a' s' (a' + 1) else none) with
          | some z' =>
            rw [h6] at h1'
            cases h1'
            split at h6
            · exact hOk _ h6
            · cases h6
          | none =>
            rw [h6] at h1'
            exact hOo _ _ h1'
      have hgo : Wp (K (nI u) (nI z.2.1) (nI z.2.2.2) Z2) (fun o => o.1 = true ∧ pjM o.2 = pjM M ∧ ∃ i, i ≤ 999 ∧ o.2.1 29 = nI i ∧ (∀ k, k < i → ∃ z, goK d m r u k a s = some z ∧ o.2.2.1 26 k = bI z.1 ∧ o.2.2.1 27 k = nI z.2.1 ∧ o.2.2.1 28 k = nI z.2.2.1) ∧ ∀ k, i ≤ k → goK d m r u k a s = none) := by
        refine ih (1000 - z.2.2.2) _ _ _ _ (by omega) ⟨i + 1, z.2.1, z.2.2.2, rfl, rfl, rfl, by omega, hz.1, hz.2.2.2, by omega, y1.trans hZp, y2, fun k hk => ?_, fun q => ?_⟩
        · by_cases e : k = i
          · subst e
            refine ⟨z, ?_, e26, e27, e28⟩
            have := hv 0
            rw [Nat.add_zero] at this
            rw [this]
            unfold goK; rw [if_neg c1, h1]
          · obtain ⟨z', w1, w2, w3, w4⟩ := hZk k (by omega)
            refine ⟨z', w1, ?_, ?_, ?_⟩
            · rw [y3, upd_at, if_neg e]; exact w2
            · rw [y4, upd_at, if_neg e]; exact w3
            · rw [y5, upd_at, if_neg e]; exact w4
        · have := hv (q + 1)
          rw [show i + 1 + q = i + (q + 1) by omega, this]
          show (if d.g a' = d.ds r then none else match stp d m r u a' s' with | none => none | some z => goK d m r u q z.2.1 z.2.2.2) = _
          rw [if_neg c1, h1]
      rw [itT, bnd_eq, y2, nI_pred, ixd_nI (by omega) (by omega), ixd_nI (by omega) (by omega), ixd_nI (by omega) (by omega), e26, e27, e28]
      cases hk : z.1 with
      | false =>
        rw [itF]
        rw [hk] at hzs
        rw [if_pos rfl] at hzs
        rw [show (1 : Int32) = nI 1 from rfl, zb_1, m_timeI hd hM2 _ _ hr, ob1_s, nI_add, bnd_eq, ixd_nI (by omega) (by omega), e27, bnd_eq, hzs]
        exact hgo
      | true =>
        rw [itT]
        rw [hk] at hzs
        rw [if_neg (by decide)] at hzs
        rw [show (0 : Int32) = nI 0 from rfl, zb_0, m_timeO hd hM2 hr ha' hz.1, ob1_s, nI_add, bnd_eq, ixd_nI (by omega) (by omega), e27, bnd_eq, hzs]
        exact hgo
end
theorem sof_ge {m : Mo} {r k : Nat} : m.sec ≤ sof m r k := by unfold sof; omega
theorem rt_ge {d : Tr} {m : Mo} {M : Sg} (hd : TrOK d) (hM : TrM d (M.2.1 20)) (hN : MoM d m (M.2.1 20)) {r a s : Nat} (hr : r < d.rd) (ha : a < d.n) (h : rt d m r a s ≤ 999) : s ≤ rt d m r a s := rtA_ge (p := pR d r) (eE_EP hd hr) (fun _ _ h1 h2 => sn_ok hd hM hN hr h1 h2) ha h (Nat.le_refl _)
theorem st_row : St_row RR := by
  intro s M p1 p2 p3 hR
  have hR0 := hR; obtain ⟨hTp, ⟨d, m, n, a, π, ⟨hG, hT, hM, hm, hO, hN, hS, hX, hX0⟩, hH⟩, hI, hU⟩ := hR
  unfold f_X11_row f_X12_row f_X11_row_b24 f_X12_row_b24 f_X12_row_b42
  have hbad : ∀ {A B : Option (Int32 × Sg)}, A = some (-1, s.1 13) → B = some (-1, M) → ∃ r S1 M1, A = some (r, S1) ∧ B = some (r, M1) ∧ RR (sC s 13 S1) M1 := fun h1 h2 => ⟨_, _, _, h1, h2, RR_sc hR0 _ rfl⟩
  rcases csI p1 d.rd with ⟨r, hr, rfl⟩ | hno
  · have hd := hG.okr hr
    have h6 := hd.r6
    have hn := hd.n8
    have hpa := hd.pa9
    have hpl := plc_lt hm hr
    have hkn := (hd.rr r hr).2.2.2
    rw [x_hasRider hG hT hr, m_isRider hG hM hr, ob1_s, ob1_s, itT, itT]
    by_cases k0 : p2 < 0
    · rw [if_pos k0, if_pos k0]; exact hbad rfl rfl
    · rw [if_neg k0, if_neg k0]
      obtain ⟨K, hK, rfl⟩ := nI_of k0
      rcases csI p3 3 with ⟨e, he, rfl⟩ | hno3
      · rw [in_ok (b := 2) (by decide) (by omega) (by omega), ob1_s, itT, if_neg (nI_pos (by omega)), if_pos (by rw [show (2 : Int32) = nI 2 from rfl]; exact nI_le (by omega) (by omega))]
        unfold f_X6_findGoing f_X12_fillsRow
        obtain ⟨g1, x1⟩ := x_soonestOf hd hT hm hO hM hN (S := s.1 13) (kn := d.kn r) hr (by omega)
        obtain ⟨g2, h2, e2⟩ := m_rt hd hm hM hN hr
        have hM2 : TrM d ((sM M g2 h2).2.1 20) := hM
        have hN2 : MoM d m ((sM M g2 h2).2.1 20) := hN
        rw [ixd_nI (by omega) (by omega), (hT.2.2.2.2.2.2 r hr).2.2.2.1, x1, ob2_s, e2, ob2_s, m_whereOf hd hm hN2 hr, ob1_s, show (4 : Int32) = nI 4 from rfl, m_riderOf (by omega) (by omega), ob1_s, (hM2.2.2.2.2.2 r hr).2.2.2, m_beginOf hd hm hN2 hr (by omega), ob1_s, bnd_eq]
        dsimp only
        have hnot : ∀ {A B : Option (Int32 × Sg)} (S1 M1 : Sg), A = some (-2, S1) → B = some (-2, M1) → pjM M1 = pjM M → ∃ r S1 M1, A = some (r, S1) ∧ B = some (r, M1) ∧ RR (sC s 13 S1) M1 := fun S1 M1 h1 h2 h3 => ⟨_, _, _, h1, h2, RR_sc hR0 _ h3⟩
        rcases rt_or hd hM hN (s := sof m r (d.kn r)) hr hpl with h9 | h9
        · rw [if_neg (by rw [show (1000000 : Int32) = nI 1000000 from rfl, nI_eq (by omega) (by omega)]; omega), sN_f h9, if_pos (by rw [show (0 : Int32) = nI 0 from rfl]; exact nI_le (by omega) (by omega))]
          obtain ⟨g3, x3, x4⟩ := x_spreadBack hd hT hm hO hM hN (S := sF (s.1 13) 1 g1) (u := rt d m r (plc m r) (sof m r (d.kn r))) hr h9
          have hge := rt_ge hd hM hN hr hpl h9
          rw [x3, ob1_s, x_placeOf hd hm hO hr, ob1_s, ixd_nI (by omega) (by omega), (hT.2.2.2.2.2.2 r hr).2.2.2.1, x_startOf hd hm hO hr (by omega), ob1_s]
          by_cases c1 : rt d m r (plc m r) (sof m r (d.kn r)) ≤ d.pa
          · have x5 := x4 c1
            have km := m_fillsRow hd hm (M := sI (sM M g2 h2) 29 0) hM2 hN2 hr hpl hge h9 rfl
            have kx := x_findG hd hT hm hO (S := sF (sF (s.1 13) 1 g1) 2 g3) hr hpl (by omega) h9 hK hge (fun c hc => by rw [sF_at]; exact x5 c hc)
            obtain ⟨⟨b1, S1⟩, y1, y2⟩ := kx
            obtain ⟨⟨b2, M1⟩, z1, z2, z3, i, z4, z5, z6, z7⟩ := km
            simp only at y2 z2 z3 z5 z6 z7
            subst z2
            rw [y1, ob2_s, z1, ob2_s]
            dsimp only
            rw [itT, z5]
            by_cases c2 : K < i
            · obtain ⟨z, w1, w2, w3, w4⟩ := z6 K c2
              rw [w1] at y2
              simp only at y2
              obtain ⟨v1, v2, v3, v4⟩ := y2
              rw [v1, itT, if_pos (nI_lt c2 (by omega))]
              by_cases q0 : nI e = 0
              · rw [if_pos q0, if_pos q0, v2, ixd_nI (by omega) (by omega), w2]
                cases z.1
                · exact ⟨_, _, _, rfl, rfl, RR_sc hR0 _ z3⟩
                · exact ⟨_, _, _, rfl, rfl, RR_sc hR0 _ z3⟩
              · rw [if_neg q0, if_neg q0]
                by_cases q1 : nI e = 1
                · rw [if_pos q1, if_pos q1, v3, ixd_nI (by omega) (by omega), w3]
                  exact ⟨_, _, _, rfl, rfl, RR_sc hR0 _ z3⟩
                · rw [if_neg q1, if_neg q1, v4, ixd_nI (by omega) (by omega), w4]
                  exact ⟨_, _, _, rfl, rfl, RR_sc hR0 _ z3⟩
            · have w1 := z7 K (by omega)
              rw [w1] at y2
              simp only at y2
              rw [y2, itF, if_neg (nI_nlt (by omega) (by omega))]
              exact hnot S1 M1 rfl rfl z3
          · have hrg := rt_late hd hM hN hr hpl h9 (by omega)
            have kx : ∀ S2, fl4 (f_X6_findGoing_b64 (s.1 2) (s.1 3) (nI r) (nI K)) FU (nI (plc m r)) (nI (sof m r (d.kn r))) 0 S2 = some (false, S2) := by
              intro S2
              show f_X6_findGoing_b64 (s.1 2) (s.1 3) (nI r) (nI K) (fl4 (f_X6_findGoing_b64 (s.1 2) (s.1 3) (nI r) (nI K)) 4999) (nI (plc m r)) (nI (sof m r (d.kn r))) 0 S2 = some (false, S2)
              generalize fl4 (f_X6_findGoing_b64 (s.1 2) (s.1 3) (nI r) (nI K)) 4999 = KK
              unfold f_X6_findGoing_b64 f_X6_findGoing_b97
              rw [if_neg (by decide), x_isRight hd hT hr hpl, ob1_s]
              simp only [hrg, decide_true]
              rw [itT]
            have km : ∀ M2, TrM d (M2.2.1 20) → fl4 (f_X12_fillsRow_b36 (nI r)) FU (nI (rt d m r (plc m r) (sof m r (d.kn r)))) (nI (plc m r)) (nI (sof m r (d.kn r))) M2 = some (true, M2) := by
              intro M2 hM3
              show f_X12_fillsRow_b36 (nI r) (fl4 (f_X12_fillsRow_b36 (nI r)) 4999) (nI (rt d m r (plc m r) (sof m r (d.kn r)))) (nI (plc m r)) (nI (sof m r (d.kn r))) M2 = some (true, M2)
              generalize fl4 (f_X12_fillsRow_b36 (nI r)) 4999 = KK
              unfold f_X12_fillsRow_b36 f_X12_fillsRow_b114
              rw [m_isRight hd hM3 hr hpl, ob1_s]
              simp only [hrg, decide_true]
              rw [itT]
            rw [kx, km (sI (sM M g2 h2) 29 0) hM2, ob2_s, ob2_s]
            dsimp only
            rw [itF, itT]
            have e29 : (sI (sM M g2 h2) 29 0).1 29 = nI 0 := rfl
            rw [e29, if_neg (nI_nlt (by omega) hK)]
            exact hnot _ (sI (sM M g2 h2) 29 0) rfl rfl rfl
        · rw [if_pos (by rw [h9]; rfl), sN_i (by omega), if_neg (by decide), ob2_s, ob2_s]
          dsimp only
          rw [itF, itF]
          exact hnot _ (sI (sM M g2 h2) 29 0) rfl rfl rfl
      · rw [in_no (b := 2) (by decide) (fun k hk => hno3 k (by omega)), ob1_s, itF]
        by_cases q0 : p3 < 0
        · rw [if_pos q0]; exact hbad rfl rfl
        · rw [if_neg q0]
          rcases nI_out (by omega) hno3 with h | h
          · exact absurd h q0
          · have q1 : ¬ p3 ≤ 2 := by
              intro h2
              have h3 : nI 3 ≤ 2 := Int32.le_trans h h2
              exact absurd h3 (by decide)
            rw [if_neg q1]; exact hbad rfl rfl
  · rw [x_hasRiderN hG hT hno, m_isRiderN hG hM hno, ob1_s, ob1_s, itF, itF]
    exact hbad rfl rfl
