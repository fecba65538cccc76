/-! seen, gotIn -/
theorem pos_m1 {k : Nat} (h : k < 2 ^ 31) : ¬ nI k = (-1 : Int32) := fun e => (eq_m1 h).mp e
theorem x_add {d : Tr} {n : Nat} {a : Nat → Nat → Nat} {π : Nat → Nat} {E : Sg} {f : Nat → Int32} (hS : SR d n a π E f) {r c s : Nat} (hr : r < 2 ^ 30) (hc : c < 2 ^ 30) (hs : s ≤ 999) (hn : n < 12) : ∃ E' p, f_X7_add E (nI r) (nI c) (nI s) = some (true, E') ∧ p ≤ n ∧ E'.1 0 = nI (n + 1) ∧ (∀ i, i < p → E'.2.1 1 i = E.2.1 1 i ∧ E'.2.1 2 i = E.2.1 2 i ∧ E'.2.1 3 i = E.2.1 3 i) ∧ (E'.2.1 1 p = nI r ∧ E'.2.1 2 p = nI c ∧ E'.2.1 3 p = nI s) ∧ (∀ i, p < i → i ≤ n → E'.2.1 1 i = E.2.1 1 (i - 1) ∧ E'.2.1 2 i = E.2.1 2 (i - 1) ∧ E'.2.1 3 i = E.2.1 3 (i - 1)) ∧ (0 < p → a (π (p - 1)) 2 ≤ s) ∧ (∀ i, p ≤ i → i < n → s < a (π i) 2) := by
  obtain ⟨h1, h2, h3, h4, h5, h6, h7⟩ := hS
  have key : Wp (f_X7_add E (nI r) (nI c) (nI s)) (fun o => ∃ p, o.1 = true ∧ p ≤ n ∧ o.2.1 0 = nI (n + 1) ∧ (∀ i, i < p → o.2.2.1 1 i = E.2.1 1 i ∧ o.2.2.1 2 i = E.2.1 2 i ∧ o.2.2.1 3 i = E.2.1 3 i) ∧ (o.2.2.1 1 p = nI r ∧ o.2.2.1 2 p = nI c ∧ o.2.2.1 3 p = nI s) ∧ (∀ i, p < i → i ≤ n → o.2.2.1 1 i = E.2.1 1 (i - 1) ∧ o.2.2.1 2 i = E.2.1 2 (i - 1) ∧ o.2.2.1 3 i = E.2.1 3 (i - 1)) ∧ (0 < p → a (π (p - 1)) 2 ≤ s) ∧ (∀ i, p ≤ i → i < n → s < a (π i) 2)) := by
    unfold f_X7_add
    rw [h3, if_pos (by rw [show (12 : Int32) = nI 12 from rfl]; exact nI_lt hn (by omega)), bnd_eq]
    refine wp_fl2 (fun j x Z => x = nI j ∧ j ≤ n ∧ Z.1 0 = nI n ∧ (∀ i, i < j → Z.2.1 1 i = E.2.1 1 i ∧ Z.2.1 2 i = E.2.1 2 i ∧ Z.2.1 3 i = E.2.1 3 i) ∧ (∀ i, j < i → i ≤ n → Z.2.1 1 i = E.2.1 1 (i - 1) ∧ Z.2.1 2 i = E.2.1 2 (i - 1) ∧ Z.2.1 3 i = E.2.1 3 (i - 1)) ∧ (∀ i, j ≤ i → i < n → s < a (π i) 2)) ?_ n (FU_lt (by omega)) _ _ ⟨rfl, Nat.le_refl _, h3, fun i _ => ⟨rfl, rfl, rfl⟩, fun i hi1 hi2 => by omega, fun i hi1 hi2 => by omega⟩
    rintro j K _ Z ⟨rfl, hj, z0, z1, z2, z3⟩ ih
    unfold f_X7_add_b17 f_X7_add_b89
    have hfin : (0 < j → a (π (j - 1)) 2 ≤ s) → Wp (ixd (nI j) 12 fun i96 => bnd (sA Z 1 i96 (nI r)) fun E_96 => ixd (nI j) 12 fun i104 => bnd (sA E_96 2 i104 (nI c)) fun E_104 => ixd (nI j) 12 fun i112 => bnd (sA E_104 3 i112 (nI s)) fun E_112 => bnd (sI E_112 0 ((E_112.1 0) + 1)) fun E_120 => some (true, E_120)) (fun o => ∃ p, o.1 = true ∧ p ≤ n ∧ o.2.1 0 = nI (n + 1) ∧ (∀ i, i < p → o.2.2.1 1 i = E.2.1 1 i ∧ o.2.2.1 2 i = E.2.1 2 i ∧ o.2.2.1 3 i = E.2.1 3 i) ∧ (o.2.2.1 1 p = nI r ∧ o.2.2.1 2 p = nI c ∧ o.2.2.1 3 p = nI s) ∧ (∀ i, p < i → i ≤ n → o.2.2.1 1 i = E.2.1 1 (i - 1) ∧ o.2.2.1 2 i = E.2.1 2 (i - 1) ∧ o.2.2.1 3 i = E.2.1 3 (i - 1)) ∧ (0 < p → a (π (p - 1)) 2 ≤ s) ∧ (∀ i, p ≤ i → i < n → s < a (π i) 2)) := by
      intro hp
      rw [ixd_nI (by omega) (by omega), bnd_eq, ixd_nI (by omega) (by omega), bnd_eq, ixd_nI (by omega) (by omega), bnd_eq, bnd_eq]
      refine wp_some.mpr ⟨j, rfl, hj, ?_, fun i hi => ?_, ?_, fun i hi1 hi2 => ?_, hp, z3⟩
      · show Z.1 0 + 1 = nI (n + 1)
        rw [z0, nI_succ]
      · show upd (Z.2.1 1) j (nI r) i = _ ∧ upd (Z.2.1 2) j (nI c) i = _ ∧ upd (Z.2.1 3) j (nI s) i = _
        rw [upd_at, upd_at, upd_at]
        simp only [if_neg (show ¬ i = j by omega)]
        exact z1 i hi
      · show upd (Z.2.1 1) j (nI r) j = _ ∧ upd (Z.2.1 2) j (nI c) j = _ ∧ upd (Z.2.1 3) j (nI s) j = _
        rw [upd_at, upd_at, upd_at]
        simp only [if_true]
        exact ⟨trivial, trivial, trivial⟩
      · show upd (Z.2.1 1) j (nI r) i = _ ∧ upd (Z.2.1 2) j (nI c) i = _ ∧ upd (Z.2.1 3) j (nI s) i = _
        rw [upd_at, upd_at, upd_at]
        simp only [if_neg (show ¬ i = j by omega)]
        exact z2 i hi1 hi2
    cases j with
    | zero =>
      rw [if_pos (by decide)]
      exact hfin (fun h => by omega)
    | succ j =>
      have q := h5 j (by omega)
      have qa := (h4 (π j) q.1).2.2.1
      have zj := z1 j (by omega)
      rw [if_neg (by rw [show (0 : Int32) = nI 0 from rfl]; exact nI_ge (by omega) (by omega)), nI_pred, ixd_nI (by omega) (by omega), zj.2.2, q.2.2.2]
      by_cases c1 : a (π j) 2 ≤ s
      · rw [if_pos (nI_le c1 (by omega))]
        exact hfin (fun _ => by rw [Nat.add_sub_cancel]; exact c1)
      · rw [if_neg (nI_ge (by omega) (by omega)), ixd_nI (by omega) (by omega), ixd_nI (by omega) (by omega), bnd_eq, ixd_nI (by omega) (by omega), ixd_nI (by omega) (by omega), bnd_eq, ixd_nI (by omega) (by omega), ixd_nI (by omega) (by omega), bnd_eq, wp_bnd, pk_m1]
        refine ih j _ _ (by omega) ⟨rfl, by omega, z0, fun i hi => ?_, fun i hi1 hi2 => ?_, fun i hi1 hi2 => ?_⟩
        · show upd (Z.2.1 1) (j + 1) (Z.2.1 1 j) i = _ ∧ upd (Z.2.1 2) (j + 1) (Z.2.1 2 j) i = _ ∧ upd (Z.2.1 3) (j + 1) (Z.2.1 3 j) i = _
          rw [upd_at, upd_at, upd_at]
          simp only [if_neg (show ¬ i = j + 1 by omega)]
          exact z1 i (by omega)
        · show upd (Z.2.1 1) (j + 1) (Z.2.1 1 j) i = _ ∧ upd (Z.2.1 2) (j + 1) (Z.2.1 2 j) i = _ ∧ upd (Z.2.1 3) (j + 1) (Z.2.1 3 j) i = _
          rw [upd_at, upd_at, upd_at]
          by_cases e : i = j + 1
          · subst e
            simp only [if_true, Nat.add_sub_cancel]
            exact zj
          · simp only [if_neg e]
            exact z2 i (by omega) hi2
        · by_cases e : i = j
          · subst e; omega
          · exact z3 i (by omega) hi2
  obtain ⟨⟨b, E'⟩, e1, p, e2, e3⟩ := key
  simp only at e2 e3
  subst e2
  exact ⟨E', p, e1, e3⟩
/-- one SEEN more -/
theorem SR_add {d : Tr} {n : Nat} {a : Nat → Nat → Nat} {π : Nat → Nat} {E E' : Sg} {f f' : Nat → Int32} {r c s p : Nat} (hS : SR d n a π E f) (hr : r < d.rd) (hc : c < d.n) (hs : s ≤ 999) (hn : n < 12) (hp : p ≤ n) (e0 : E'.1 0 = nI (n + 1)) (e1 : ∀ i, i < p → E'.2.1 1 i = E.2.1 1 i ∧ E'.2.1 2 i = E.2.1 2 i ∧ E'.2.1 3 i = E.2.1 3 i) (e2 : E'.2.1 1 p = nI r ∧ E'.2.1 2 p = nI c ∧ E'.2.1 3 p = nI s) (e3 : ∀ i, p < i → i ≤ n → E'.2.1 1 i = E.2.1 1 (i - 1) ∧ E'.2.1 2 i = E.2.1 2 (i - 1) ∧ E'.2.1 3 i = E.2.1 3 (i - 1)) (e4 : 0 < p → a (π (p - 1)) 2 ≤ s) (e5 : ∀ i, p ≤ i → i < n → s < a (π i) 2) (g0 : f' 136 = nI (n + 1)) (g1 : f' (100 + 3 * n) = nI r ∧ f' (100 + 3 * n + 1) = nI c ∧ f' (100 + 3 * n + 2) = nI s) (g2 : ∀ k, k < 100 + 3 * n → f' k = f k) : SR d (n + 1) (fun k q => if k = n then (if q = 0 then r else if q = 1 then c else s) else a k q) (fun i => if i < p then π i else if i = p then n else π (i - 1)) E' f' := by
  obtain ⟨h1, h2, h3, h4, h5, h6, h7⟩ := hS
  have hlow : ∀ i, i < p → a (π i) 2 ≤ s := by
    intro i hi
    have hx := e4 (by omega)
    by_cases e : i = p - 1
    · rw [e]; exact hx
    · have := h6 i (p - 1) (by omega) (by omega)
      have q1 := (h5 i (by omega)).1
      have q2 := (h5 (p - 1) (by omega)).1
      omega
  refine ⟨by omega, g0, e0, fun k hk => ?_, fun i hi => ?_, fun i j hij hj => ?_, fun k hk => ?_⟩
  · by_cases e : k = n
    · subst e
      simp only [if_true]
      exact ⟨hr, hc, hs, g1.1, g1.2.1, g1.2.2⟩
    · simp only [if_neg e]
      have q := h4 k (by omega)
      rw [g2 (100 + 3 * k) (by omega), g2 (100 + 3 * k + 1) (by omega), g2 (100 + 3 * k + 2) (by omega)]
      exact q
  · by_cases c1 : i < p
    · have q := h5 i (by omega)
      have qn : ¬ π i = n := by omega
      simp only [if_pos c1, if_neg qn]
      rw [(e1 i c1).1, (e1 i c1).2.1, (e1 i c1).2.2]
      exact ⟨by omega, q.2⟩
    · by_cases c2 : i = p
      · subst c2
        simp only [if_neg c1, if_true]
        exact ⟨by omega, e2⟩
      · have q := h5 (i - 1) (by omega)
        have qn : ¬ π (i - 1) = n := by omega
        simp only [if_neg c1, if_neg c2, if_neg qn]
        rw [(e3 i (by omega) (by omega)).1, (e3 i (by omega) (by omega)).2.1, (e3 i (by omega) (by omega)).2.2]
        exact ⟨by omega, q.2⟩
  · by_cases c1 : j < p
    · have q1 := h5 i (by omega)
      have q2 := h5 j (by omega)
      simp only [if_pos c1, if_pos (show i < p by omega), if_neg (show ¬ π i = n by omega), if_neg (show ¬ π j = n by omega)]
      exact h6 i j hij (by omega)
    · by_cases c2 : j = p
      · subst c2
        have q1 := h5 i (by omega)
        have q2 := hlow i hij
        simp only [if_pos hij, if_neg c1, if_true, if_neg (show ¬ π i = n by omega)]
        simp only [show ¬ (2 : Nat) = 0 by omega, show ¬ (2 : Nat) = 1 by omega, if_false]
        omega
      · have q2 := h5 (j - 1) (by omega)
        simp only [if_neg c1, if_neg c2, if_neg (show ¬ π (j - 1) = n by omega)]
        by_cases c3 : i < p
        · have q1 := h5 i (by omega)
          simp only [if_pos c3, if_neg (show ¬ π i = n by omega)]
          exact h6 i (j - 1) (by omega) (by omega)
        · by_cases c4 : i = p
          · subst c4
            have q3 := e5 (j - 1) (by omega) (by omega)
            simp only [if_neg c3, if_true]
            simp only [show ¬ (2 : Nat) = 0 by omega, show ¬ (2 : Nat) = 1 by omega, if_false]
            omega
          · have q1 := h5 (i - 1) (by omega)
            simp only [if_neg c3, if_neg c4, if_neg (show ¬ π (i - 1) = n by omega)]
            exact h6 (i - 1) (j - 1) (by omega) (by omega)
  · by_cases e : k = n
    · subst e
      refine ⟨p, by omega, ?_⟩
      simp
    · obtain ⟨i, hi, he⟩ := h7 k (by omega)
      by_cases c1 : i < p
      · exact ⟨i, by omega, by simp only [if_pos c1]; exact he⟩
      · exact ⟨i + 1, by omega, by simp only [if_neg (show ¬ i + 1 < p by omega), if_neg (show ¬ i + 1 = p by omega), Nat.add_sub_cancel]; exact he⟩
theorem st_seen : St_seen RR := by
  intro s M p1 p2 p3 hR
  have hR0 := hR; obtain ⟨hTp, ⟨d, m, n, a, π, ⟨hG, hT, hM, hm, hO, hN, hS, hX, hX0⟩, hH⟩, hI, hU⟩ := hR
  unfold f_X11_seen f_X12_seen f_X11_seen_b33 f_X11_seen_b34 f_X11_seen_b63 f_X12_seen_b57
  by_cases c0 : p1 = -1
  · rw [if_pos c0, if_pos c0]
    refine ⟨_, _, sF M 20 (upd (M.2.1 20) 136 0), rfl, rfl, hTp, ⟨d, m, 0, a, π, ⟨hG, hT, ?_, hm, hO, ?_, ⟨by omega, rfl, rfl, fun k hk => by omega, fun k hk => by omega, fun i j _ hj => by omega, fun k hk => by omega⟩, hX, hX0⟩, hH⟩, hI, hU⟩
    · exact TrM_congr hG hM (fun k hk => if_neg (by omega))
    · exact MoM_congr hG hN (fun k hk => if_neg (by omega))
  · rw [if_neg c0, if_neg c0]
    have hbad : ∀ {A B : Option (Int32 × Sg)}, A = some (-2, s.1 4) → B = some (-2, M) → ∃ r E1 M1, A = some (r, E1) ∧ B = some (r, M1) ∧ RR (sC s 4 E1) M1 := by
      intro A B h1 h2
      refine ⟨-2, s.1 4, M, h1, h2, ?_⟩
      have e : sC s 4 (s.1 4) = s := by unfold sC; rw [va_up_se]
      rw [e]; exact hR0
    have hz : ∀ q : Int32, q = 0 → (ob1 (f_X10_hasRider (s.1 2) p1) fun r41 => if bI r41 = 0 then some (-2, s.1 4) else ob1 (f_X10_hasCoach (s.1 2) p2) fun r52 => if bI r52 = 0 then some (-2, s.1 4) else if q = 0 then some ((-2 : Int32), s.1 4) else (ob2 (f_X7_add (s.1 4) p1 p2 p3) fun r76 E_76 => if bI r76 = 0 then some (-2, E_76) else some (E_76.1 0, E_76))) = some (-2, s.1 4) := by
      intro q hq
      rcases csI p1 d.rd with ⟨r, hr, rfl⟩ | hno
      · rw [x_hasRider hG hT hr, ob1_s, itT]
        rcases csI p2 d.n with ⟨c, hc, rfl⟩ | hno2
        · rw [x_hasCoach hG hT hc, ob1_s, itT, if_pos hq]
        · rw [x_hasCoachN hG hT hno2, ob1_s, itF]
      · rw [x_hasRiderN hG hT hno, ob1_s, itF]
    rcases csI p3 1000 with ⟨s3, hs3, rfl⟩ | hno3
    · rw [in_ok (b := 999) (by decide) (by omega) (by omega), if_neg (nI_pos (by omega)), if_neg (by rw [show (999 : Int32) = nI 999 from rfl]; exact nI_nlt (by omega) (by omega))]
      rcases csI p1 d.rd with ⟨r, hr, rfl⟩ | hno
      · rw [x_hasRider hG hT hr, m_isRider hG hM hr, ob1_s, ob1_s, itT, itT]
        rcases csI p2 d.n with ⟨c, hc, rfl⟩ | hno2
        · have hd := hG.okr hr
          have h6 := hd.r6
          have h8 := hd.n8
          have hn12 := hS.1
          rw [x_hasCoach hG hT hc, m_isCoach hG hM hc, ob1_s, ob1_s, itT, itT, ob1_s, itT, if_neg (show ¬ (1 : Int32) = 0 by decide), hS.2.1]
          by_cases c1 : n = 12
          · subst c1
            refine hbad ?_ (by rw [if_pos (by decide)])
            unfold f_X7_add
            rw [hS.2.2.1, if_neg (by decide), ob2_s]
            rfl
          · obtain ⟨E', p, k1, k2, k3, k4, k5, k6, k7, k8⟩ := x_add hS (r := r) (c := c) (s := s3) (by omega) (by omega) (by omega) (by omega)
            rw [k1, ob2_s]
            dsimp only
            rw [itT, if_neg (by rw [show (12 : Int32) = nI 12 from rfl, nI_eq (by omega) (by omega)]; exact c1), bnd_eq, show (100 : Int32) = nI 100 from rfl, show (3 : Int32) = nI 3 from rfl, nI_mul, nI_add, ixd_nI (by omega) (by omega), bnd_eq, show (1 : Int32) = nI 1 from rfl, nI_add, ixd_nI (by omega) (by omega), bnd_eq, show (2 : Int32) = nI 2 from rfl, nI_add, ixd_nI (by omega) (by omega), bnd_eq, bnd_eq]
            have e0 : ∀ i x, sA M 20 i x = sF M 20 (upd (M.2.1 20) i x) := fun _ _ => rfl
            rw [e0, sA_sF, sA_sF, sF_at, sA_sF, sF_at]
            have g136 : upd (upd (upd (M.2.1 20) (100 + 3 * n) (nI r)) (100 + 3 * n + 1) (nI c)) (100 + 3 * n + 2) (nI s3) 136 = nI n := by
              rw [upd_at, if_neg (by omega), upd_at, if_neg (by omega), upd_at, if_neg (by omega)]; exact hS.2.1
            rw [g136, nI_add]
            refine ⟨nI (n + 1), E', sF M 20 (upd (upd (upd (upd (M.2.1 20) (100 + 3 * n) (nI r)) (100 + 3 * n + 1) (nI c)) (100 + 3 * n + 2) (nI s3)) 136 (nI (n + 1))), ?_, ?_, hTp, ⟨d, m, n + 1, _, _, ⟨hG, hT, ?_, hm, hO, ?_, SR_add hS hr hc (by omega) (by omega) k2 k3 k4 k5 k6 k7 k8 ?_ ?_ ?_, hX, hX0⟩, hH⟩, hI, hU⟩
            · rw [k3]
            · rw [upd_at, if_pos rfl]
            · refine TrM_congr hG hM (fun k hk => ?_)
              show upd _ 136 _ k = _
              rw [upd_at, if_neg (by omega), upd_at, if_neg (by omega), upd_at, if_neg (by omega), upd_at, if_neg (by omega)]
            · refine MoM_congr hG hN (fun k hk => ?_)
              show upd _ 136 _ k = _
              rw [upd_at, if_neg (by omega), upd_at, if_neg (by omega), upd_at, if_neg (by omega), upd_at, if_neg (by omega)]
            · exact rfl
            · refine ⟨?_, ?_, ?_⟩
              · show upd _ 136 _ (100 + 3 * n) = _
                rw [upd_at, if_neg (by omega), upd_at, if_neg (by omega), upd_at, if_neg (by omega), upd_at, if_pos rfl]
              · show upd _ 136 _ (100 + 3 * n + 1) = _
                rw [upd_at, if_neg (by omega), upd_at, if_neg (by omega), upd_at, if_pos rfl]
              · show upd _ 136 _ (100 + 3 * n + 2) = _
                rw [upd_at, if_neg (by omega), upd_at, if_pos rfl]
            · intro k hk
              show upd _ 136 _ k = _
              rw [upd_at, if_neg (by omega), upd_at, if_neg (by omega), upd_at, if_neg (by omega), upd_at, if_neg (by omega)]
        · rw [x_hasCoachN hG hT hno2, m_isCoachN hG hM hno2, ob1_s, ob1_s, itF, itF]
          exact hbad rfl rfl
      · rw [x_hasRiderN hG hT hno, m_isRiderN hG hM hno, ob1_s, ob1_s, itF, itF]
        exact hbad rfl rfl
    · rw [in_no (b := 999) (by decide) (fun k hk => hno3 k (by omega)), ob1_s, itF]
      refine hbad ?_ ?_
      · by_cases q0 : p3 < 0
        · rw [if_pos q0]; exact hz 0 rfl
        · rw [if_neg q0]
          rcases nI_out (by omega) hno3 with h | h
          · exact absurd h q0
          · have q1 : 999 < p3 := Int32.lt_of_lt_of_le (show (999 : Int32) < nI 1000 by decide) h
            rw [if_pos q1]; exact hz 0 rfl
      · rcases csI p1 d.rd with ⟨r, hr, rfl⟩ | hno
        · rw [m_isRider hG hM hr, ob1_s, itT]
          rcases csI p2 d.n with ⟨c, hc, rfl⟩ | hno2
          · rw [m_isCoach hG hM hc, ob1_s, itT]
          · rw [m_isCoachN hG hM hno2, ob1_s, itF]
        · rw [m_isRiderN hG hM hno, ob1_s, itF]
