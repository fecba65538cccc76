/-! journeys, family -/
def nxt (x : Nat) : Nat := (x * 1103515245 + 12345) % 2147483648
abbrev JT : Type := Nat × Nat × Nat
noncomputable def jr (d : Tr) (m : Mo) : Nat → Nat → JT → JT
  | 0, _, t => t
  | j + 1, k, t => if lostP d m k (nxt t.1 / 65536 % (d.pa + 1)) then jr d m j (k + 1) (nxt t.1, t.2.1 + 1, t.2.2) else jr d m j (k + 1) (nxt t.1, t.2.1, t.2.2 + (d.pa - rt d m k (plc m k) (sof m k (nxt t.1 / 65536 % (d.pa + 1)))))
theorem jr_s (d : Tr) (m : Mo) (j k : Nat) (t : JT) : jr d m (j + 1) k t = if lostP d m k (nxt t.1 / 65536 % (d.pa + 1)) then jr d m j (k + 1) (nxt t.1, t.2.1 + 1, t.2.2) else jr d m j (k + 1) (nxt t.1, t.2.1, t.2.2 + (d.pa - rt d m k (plc m k) (sof m k (nxt t.1 / 65536 % (d.pa + 1))))) := rfl
noncomputable def jo (d : Tr) (m : Mo) : Nat → JT → JT
  | 0, t => t
  | j + 1, t => jo d m j (jr d m d.rd 0 t)
theorem nxt_lt (x : Nat) : nxt x < 2147483648 := Nat.mod_lt _ (by decide)
theorem kn_lt (d : Tr) (x : Nat) (hp : d.pa ≤ 954) : nxt x / 65536 % (d.pa + 1) ≤ 954 := by
  have := Nat.mod_lt (nxt x / 65536) (show 0 < d.pa + 1 by omega)
  omega
theorem lrem {x : Nat} (hx : x < 2 ^ 31) : (nI x).toInt64 * (1103515245 : Int64) + (12345 : Int64) - ((nI x).toInt64 * (1103515245 : Int64) + (12345 : Int64)) / (2147483648 : Int64) * (2147483648 : Int64) = lN (nxt x) := by
  rw [nI_l hx, show (1103515245 : Int64) = lN 1103515245 from rfl, show (12345 : Int64) = lN 12345 from rfl, show (2147483648 : Int64) = lN 2147483648 from rfl, lN_mul, lN_add, pk_lRem (by omega) (by decide) (by decide)]
  rfl
theorem jmax_sub {a b : Nat} (ha : a < 2 ^ 30) (hb : b < 2 ^ 30) : jmax 0 (nI a - nI b) = nI (a - b) := by
  unfold jmax
  by_cases h : b < a
  · rw [nI_sub (by omega), if_pos (by rw [lit]; exact nI_lt (by omega) (by omega))]
  · have h2 : ¬ (0 : Int32) < nI a - nI b := by
      rw [Int32.lt_iff_toInt_lt, toI_sub ha hb]
      have : (0 : Int32).toInt = 0 := by decide
      omega
    rw [if_neg h2, show a - b = 0 by omega]; rfl
theorem pj20 {M M1 : Sg} (h : pjM M1 = pjM M) : M1.2.1 20 = M.2.1 20 := congrArg (fun p => p.2.2.1) h
section
variable {d : Tr} {m : Mo} {T O X : Sg} {M : Sg}
theorem x_travel (hd : TrOK d) (hT : TrC d T) (hm : MoOK d m) (hO : MoC d m O) (hM : TrM d (M.2.1 20)) (hN : MoM d m (M.2.1 20)) {S : Sg} {x N : Nat} (hx : x < 2 ^ 31) (hX : X.1 3 = nI x) (hn : N ≤ 20) : Wp (f_X6_travel S T O X (nI N)) (fun S' => S'.1 12 = nI (jo d m N (x, 0, 0)).2.1 ∧ S'.1 13 = nI (jo d m N (x, 0, 0)).2.2) := by
  have hp := hd.pa9
  have hr6 := hd.r6
  unfold f_X6_travel
  rw [bnd_eq, bnd_eq, bnd_eq, bnd_eq, (hT.2.1 (by have := hd.n8; omega)).2.1, hX]
  refine wp_fl4 (fun j a b c Z => ∃ i t, a = nI d.pa ∧ b = nI t.1 ∧ c = nI i ∧ i + j = N ∧ t.1 < 2 ^ 31 ∧ Z.1 12 = nI t.2.1 ∧ Z.1 13 = nI t.2.2 ∧ jo d m j t = jo d m N (x, 0, 0)) ?_ N (FU_lt (by omega)) _ _ _ _ ⟨0, (x, 0, 0), rfl, rfl, rfl, by omega, hx, rfl, rfl, rfl⟩
  rintro j K _ _ _ Z ⟨i, t, rfl, rfl, rfl, hij, ht, hz1, hz2, hv⟩ ih
  unfold f_X6_travel_b32
  cases j with
  | zero =>
    have e : i = N := by omega
    subst e
    rw [if_pos (nI_le (Nat.le_refl _) (by omega)), wp_some]
    rw [← hv]
    exact ⟨hz1, hz2⟩
  | succ j =>
    rw [if_neg (nI_ge (by omega) (by omega))]
    have hv2 : jo d m j (jr d m d.rd 0 t) = jo d m N (x, 0, 0) := hv
    refine wp_fl5 (fun q a b c e Z => ∃ k t', a = nI d.pa ∧ b = nI t'.1 ∧ c = nI i ∧ e = nI k ∧ k + q = d.rd ∧ t'.1 < 2 ^ 31 ∧ Z.1 12 = nI t'.2.1 ∧ Z.1 13 = nI t'.2.2 ∧ jr d m q k t' = jr d m d.rd 0 t) ?_ d.rd (FU_lt (by omega)) _ _ _ _ _ ⟨0, t, rfl, rfl, rfl, rfl, by omega, ht, hz1, hz2, rfl⟩
    rintro q K2 _ _ _ _ Z2 ⟨k, t', rfl, rfl, rfl, rfl, hkq, ht', hy1, hy2, hw⟩ ih2
    unfold f_X6_travel_b41 f_X6_travel_b129
    cases q with
    | zero =>
      have e : k = d.rd := by omega
      subst e
      rw [hT.1.2.2, if_pos (nI_le (Nat.le_refl _) (by omega)), wp_bnd]
      have hw2 : t' = jr d m d.rd 0 t := hw
      exact ih j _ _ _ _ (by omega) ⟨i + 1, t', rfl, rfl, (nI_succ i).symm, by omega, ht', hy1, hy2, by rw [hw2]; exact hv2⟩
    | succ q =>
      have hk : k < d.rd := by omega
      have hnx := nxt_lt t'.1
      have hkl := kn_lt d t'.1 hp.2
      rw [hT.1.2.2, if_neg (nI_ge hk (by omega)), nzJ_eq (by decide), lrem ht', lN_i, bnd_eq, nzI_eq (by decide), nzI_eq (by rw [show (1 : Int32) = nI 1 from rfl, nI_add, show (0 : Int32) = nI 0 from rfl, nI_eq (by omega) (by omega)]; omega), show (65536 : Int32) = nI 65536 from rfl, show nI d.pa + 1 = nI (d.pa + 1) from nI_add _ 1, pk_div (by omega) (by omega) (by omega), pk_rem (by omega) (by omega) (by omega)]
      rw [jr_s] at hw
      generalize nxt t'.1 = y at hw hnx hkl ⊢
      obtain ⟨g, h1⟩ := x_soonestOf hd hT hm hO hM hN (S := Z2) (kn := y / 65536 % (d.pa + 1)) hk (by omega)
      have hrt : rt d m k (plc m k) (sof m k (y / 65536 % (d.pa + 1))) ≤ 1000000 := by rcases rt_or hd hM hN (s := sof m k (y / 65536 % (d.pa + 1))) hk (plc_lt hm hk) with h | h <;> omega
      rw [h1, ob2_s, x_isLost hd hT hm hO hk hrt, ob1_s]
      dsimp only
      by_cases c1 : lostP d m k (y / 65536 % (d.pa + 1)) = true
      · rw [c1, itT, wp_bnd, wp_bnd]
        rw [if_pos c1] at hw
        refine ih2 q _ _ _ _ _ (by omega) ⟨k + 1, (y, t'.2.1 + 1, t'.2.2), rfl, rfl, rfl, (nI_succ k).symm, by omega, by omega, ?_, hy2, hw⟩
        show Z2.1 12 + 1 = nI (t'.2.1 + 1)
        rw [hy1, nI_succ]
      · simp only [Bool.not_eq_true] at c1
        rw [c1, itF, wp_bnd, wp_bnd]
        simp only [c1, Bool.false_eq_true, if_false] at hw
        refine ih2 q _ _ _ _ _ (by omega) ⟨k + 1, (y, t'.2.1, t'.2.2 + (d.pa - rt d m k (plc m k) (sof m k (y / 65536 % (d.pa + 1))))), rfl, rfl, rfl, (nI_succ k).symm, by omega, by omega, hy1, ?_, hw⟩
        show Z2.1 13 + jmax 0 (nI d.pa - nI (rt d m k (plc m k) (sof m k (y / 65536 % (d.pa + 1))))) = nI (t'.2.2 + (d.pa - rt d m k (plc m k) (sof m k (y / 65536 % (d.pa + 1)))))
        rw [hy2, jmax_sub (by omega) (by omega), nI_add]
theorem m_jour (hd : TrOK d) (hm : MoOK d m) (hM : TrM d (M.2.1 20)) (hN : MoM d m (M.2.1 20)) {x N : Nat} {p2 : Int32} (hx : x < 2 ^ 31) (hX : M.1 21 = nI x) (hn : N ≤ 20) : Wp (fl4 (f_X12_journeys_b48 (nI N) p2) FU 0 0 0 (sJ M 35 0 ((M.1 21).toInt64))) (fun o => o.1 = (if p2 = 0 then nI (jo d m N (x, 0, 0)).2.1 else nI (jo d m N (x, 0, 0)).2.2) ∧ pjM o.2 = pjM M) := by
  have hp := hd.pa9
  have hr6 := hd.r6
  refine wp_fl4 (fun j a b c Z => ∃ i t, a = nI t.2.1 ∧ b = nI t.2.2 ∧ c = nI i ∧ i + j = N ∧ t.1 < 2 ^ 31 ∧ Z.2.2 35 0 = lN t.1 ∧ pjM Z = pjM M ∧ jo d m j t = jo d m N (x, 0, 0)) ?_ N (FU_lt (by omega)) _ _ _ _ ⟨0, (x, 0, 0), rfl, rfl, rfl, by omega, hx, by rw [hX, nI_l hx]; rfl, rfl, rfl⟩
  rintro j K _ _ _ Z ⟨i, t, rfl, rfl, rfl, hij, ht, hz1, hz2, hv⟩ ih
  unfold f_X12_journeys_b48
  cases j with
  | zero =>
    have e : i = N := by omega
    subst e
    have hv2 : t = jo d m i (x, 0, 0) := hv
    rw [if_pos (nI_le (Nat.le_refl _) (by omega)), ← hv2]
    by_cases c : p2 = 0
    · rw [if_pos c]; exact wp_some.mpr ⟨by rw [if_pos c], hz2⟩
    · rw [if_neg c]; exact wp_some.mpr ⟨by rw [if_neg c], hz2⟩
  | succ j =>
    rw [if_neg (nI_ge (by omega) (by omega))]
    have hv2 : jo d m j (jr d m d.rd 0 t) = jo d m N (x, 0, 0) := hv
    refine wp_fl5 (fun q a b c e Z => ∃ k t', a = nI t'.2.1 ∧ b = nI t'.2.2 ∧ c = nI i ∧ e = nI k ∧ k + q = d.rd ∧ t'.1 < 2 ^ 31 ∧ Z.2.2 35 0 = lN t'.1 ∧ pjM Z = pjM M ∧ jr d m q k t' = jr d m d.rd 0 t) ?_ d.rd (FU_lt (by omega)) _ _ _ _ _ ⟨0, t, rfl, rfl, rfl, rfl, by omega, ht, hz1, hz2, rfl⟩
    rintro q K2 _ _ _ _ Z2 ⟨k, t', rfl, rfl, rfl, rfl, hkq, ht', hy1, hy2, hw⟩ ih2
    have e20 := pj20 hy2
    have hM2 : TrM d (Z2.2.1 20) := by rw [e20]; exact hM
    unfold f_X12_journeys_b57 f_X12_journeys_b166
    cases q with
    | zero =>
      have e : k = d.rd := by omega
      subst e
      rw [hM2.1.2.2, if_pos (nI_le (Nat.le_refl _) (by omega)), wp_bnd]
      have hw2 : t' = jr d m d.rd 0 t := hw
      exact ih j _ _ _ _ (by omega) ⟨i + 1, t', rfl, rfl, (nI_succ i).symm, by omega, ht', hy1, hy2, by rw [hw2]; exact hv2⟩
    | succ q =>
      have hk : k < d.rd := by omega
      have hnx := nxt_lt t'.1
      have hkl := kn_lt d t'.1 hp.2
      have hpl := plc_lt hm hk
      have hdr : f_X12_draw Z2 (nI (d.pa + 1)) = some (nI (nxt t'.1 / 65536 % (d.pa + 1)), sJ Z2 35 0 (lN (nxt t'.1))) := by
        unfold f_X12_draw
        have e1 := lrem ht'
        rw [nI_l ht'] at e1
        have e2 : ∀ v, (sJ Z2 35 0 v).2.2 35 0 = v := fun _ => rfl
        rw [nzJ_eq (by decide), hy1, e1, bnd_eq, nzJ_eq (by decide), nI_l (by omega), nzJ_eq (by rw [show (0 : Int64) = lN 0 from rfl, pk_lEQ (by omega) (by omega)]; omega), e2, show (65536 : Int64) = lN 65536 from rfl, pk_lDiv (by omega) (by omega) (by omega), pk_lRem (by omega) (by omega) (by omega), lN_i]
      rw [jr_s] at hw
      generalize nxt t'.1 = y at hw hnx hkl hdr
      have hM3 : TrM d ((sJ Z2 35 0 (lN (y))).2.1 20) := hM2
      have hN3 : MoM d m ((sJ Z2 35 0 (lN (y))).2.1 20) := by show MoM d m (Z2.2.1 20); rw [e20]; exact hN
      obtain ⟨g1, h1, q1⟩ := m_isLost hd hm hM3 hN3 (kn := y / 65536 % (d.pa + 1)) hk (by omega)
      rw [hM2.1.2.2, if_neg (nI_ge hk (by omega)), m_parting hd hM2, ob1_s, show nI d.pa + 1 = nI (d.pa + 1) from nI_add _ 1, hdr, ob2_s, q1, ob2_s]
      dsimp only
      have hM4 : TrM d ((sM (sJ Z2 35 0 (lN (y))) g1 h1).2.1 20) := hM2
      have hN4 : MoM d m ((sM (sJ Z2 35 0 (lN (y))) g1 h1).2.1 20) := hN3
      have hso := sof_le hm hk (show y / 65536 % (d.pa + 1) ≤ 99999 by omega)
      by_cases c1 : lostP d m k (y / 65536 % (d.pa + 1)) = true
      · rw [c1, itT, wp_bnd, wp_bnd]
        rw [if_pos c1] at hw
        exact ih2 q _ _ _ _ _ (by omega) ⟨k + 1, (y, t'.2.1 + 1, t'.2.2), (nI_succ _).symm, rfl, rfl, (nI_succ k).symm, by omega, by omega, rfl, hy2, hw⟩
      · simp only [Bool.not_eq_true] at c1
        rw [c1, itF, m_beginOf hd hm hN4 hk (by omega), ob1_s]
        simp only [c1, Bool.false_eq_true, if_false] at hw
        by_cases c2 : sof m k (y / 65536 % (d.pa + 1)) ≤ 999
        · rw [if_pos (by rw [lit]; exact nI_le c2 (by omega)), m_whereOf hd hm hN4 hk, ob1_s]
          obtain ⟨g2, h2, q2⟩ := m_rightFrom hd hM4 hN4 hk hpl c2
          rw [q2, ob2_s, sM_sM]
          dsimp only
          have hM5 : TrM d ((sM (sJ Z2 35 0 (lN (y))) g2 h2).2.1 20) := hM2
          unfold f_X12_journeys_b134 f_X12_journeys_b162 f_X12_journeys_b163 f_X12_journeys_b166
          rw [m_parting hd hM5, ob1_s, ob1_s]
          rcases rt_or hd hM hN (s := sof m k (y / 65536 % (d.pa + 1))) hk hpl with h9 | h9
          · rw [sN_f h9, if_neg (nI_pos (by omega))]
            by_cases c3 : d.pa ≤ rt d m k (plc m k) (sof m k (y / 65536 % (d.pa + 1)))
            · rw [if_pos (nI_le c3 (by omega)), wp_bnd, wp_bnd, add_0]
              exact ih2 q _ _ _ _ _ (by omega) ⟨k + 1, (y, t'.2.1, t'.2.2 + (d.pa - rt d m k (plc m k) (sof m k (y / 65536 % (d.pa + 1))))), rfl, by rw [show d.pa - rt d m k (plc m k) (sof m k (y / 65536 % (d.pa + 1))) = 0 by omega]; rfl, rfl, (nI_succ k).symm, by omega, by omega, rfl, hy2, hw⟩
            · rw [if_neg (nI_ge (by omega) (by omega)), wp_bnd, wp_bnd, nI_sub (by omega), nI_add]
              exact ih2 q _ _ _ _ _ (by omega) ⟨k + 1, (y, t'.2.1, t'.2.2 + (d.pa - rt d m k (plc m k) (sof m k (y / 65536 % (d.pa + 1))))), rfl, rfl, rfl, (nI_succ k).symm, by omega, by omega, rfl, hy2, hw⟩
          · rw [sN_i (by omega), if_pos (by decide), wp_bnd, wp_bnd, add_0]
            exact ih2 q _ _ _ _ _ (by omega) ⟨k + 1, (y, t'.2.1, t'.2.2 + (d.pa - rt d m k (plc m k) (sof m k (y / 65536 % (d.pa + 1))))), rfl, by rw [show d.pa - rt d m k (plc m k) (sof m k (y / 65536 % (d.pa + 1))) = 0 by omega]; rfl, rfl, (nI_succ k).symm, by omega, by omega, rfl, hy2, hw⟩
        · rw [if_neg (by rw [lit]; exact nI_ge (by omega) (by omega))]
          unfold f_X12_journeys_b134 f_X12_journeys_b162 f_X12_journeys_b163 f_X12_journeys_b166
          have h9 : rt d m k (plc m k) (sof m k (y / 65536 % (d.pa + 1))) = 1000000 := by unfold rt; rw [if_neg c2]
          rw [if_neg (nI_pos (by omega)), m_parting hd hM4, ob1_s, if_pos (nI_le (by omega) (by omega)), wp_bnd, wp_bnd, add_0]
          exact ih2 q _ _ _ _ _ (by omega) ⟨k + 1, (y, t'.2.1, t'.2.2 + (d.pa - rt d m k (plc m k) (sof m k (y / 65536 % (d.pa + 1))))), rfl, by rw [show d.pa - rt d m k (plc m k) (sof m k (y / 65536 % (d.pa + 1))) = 0 by omega]; rfl, rfl, (nI_succ k).symm, by omega, by omega, rfl, hy2, hw⟩
end
theorem st_journeys : St_journeys RR := by
  intro s M p1 p2 hR
  have hR0 := hR; obtain ⟨hTp, ⟨d, m, n, a, π, ⟨hG, hT, hM, hm, hO, hN, hS, hX, hX0⟩, hH⟩, hI, hU⟩ := hR
  unfold f_X11_journeys f_X12_journeys f_X11_journeys_b30 f_X12_journeys_b29
  rw [x_hasLine hG hT, m_isLine hG hM, ob1_s, ob1_s]
  by_cases c0 : 0 < d.n
  · have hd := hG.ok c0
    simp only [c0, decide_true]
    rw [itT, itT]
    obtain ⟨x, hx1, hx2⟩ := nI_of hX0
    have hbad : ∀ {A B : Option (Int32 × Sg)}, A = some (-1, s.1 13) → B = some (-1, M) → ∃ r S1 M1, A = some (r, S1) ∧ B = some (r, M1) ∧ RR (sC s 13 S1) M1 := fun h1 h2 => ⟨_, _, _, h1, h2, RR_sc hR0 _ rfl⟩
    by_cases k1 : p1 < 1
    · rw [if_pos k1]
      have h9 : f_X12_in p1.toInt64 (1 : Int64) (20 : Int64) = some false := m_inF (a := 1) (b := 20) (by decide) (by decide) (fun k h1 h2 h3 e => by
        rw [e, lit, nI_ltI (by omega) (by omega)] at k1; omega)
      exact hbad rfl (by rw [h9, ob1_s, itF])
    · rw [if_neg k1]
      by_cases k2 : 20 < p1
      · rw [if_pos k2]
        have h9 : f_X12_in p1.toInt64 (1 : Int64) (20 : Int64) = some false := m_inF (a := 1) (b := 20) (by decide) (by decide) (fun k h1 h2 h3 e => by
          rw [e, lit, nI_ltI (by omega) (by omega)] at k2; omega)
        exact hbad rfl (by rw [h9, ob1_s, itF])
      · rw [if_neg k2]
        have k0 : ¬ p1 < 0 := fun h => k1 (Int32.lt_trans h (by decide))
        obtain ⟨N, hN1, rfl⟩ := nI_of k0
        have hN2 : 1 ≤ N ∧ N ≤ 20 := by
          rw [lit, nI_ltI (by omega) (by omega)] at k1
          rw [lit, nI_ltI (by omega) (by omega)] at k2
          omega
        have h9 : f_X12_in (nI N).toInt64 (1 : Int64) (20 : Int64) = some true := m_inT (a := 1) (b := 20) (by decide) (by decide) hN2.1 hN2.2 (by omega)
        rw [h9, ob1_s, itT]
        rcases csI p2 2 with ⟨e, he, rfl⟩ | hno
        · rw [in_ok (b := 1) (by decide) (by omega) (by omega), ob1_s, itT, bnd_eq, if_neg (nI_pos (by omega)), if_pos (by rw [lit]; exact nI_le (by omega) (by omega))]
          obtain ⟨S1, h1, h2, h3⟩ := x_travel hd hT hm hO hM hN (S := s.1 13) (X := s.1 5) (x := x) (N := N) hx1 (by rw [hX, hx2]) hN2.2
          obtain ⟨⟨r, M1⟩, h4, h5, h6⟩ := m_jour hd hm hM hN (x := x) (N := N) (p2 := nI e) hx1 hx2 hN2.2
          simp only at h5 h6
          rw [h1, ob1_s, h4, h5]
          by_cases c : nI e = 0
          · rw [if_pos c, if_pos c, h2]; exact ⟨_, _, _, rfl, rfl, RR_sc hR0 _ h6⟩
          · rw [if_neg c, if_neg c, h3]; exact ⟨_, _, _, rfl, rfl, RR_sc hR0 _ h6⟩
        · rw [in_no (b := 1) (by decide) (fun k hk => hno k (by omega)), ob1_s, itF]
          by_cases q0 : p2 < 0
          · rw [if_pos q0]; exact hbad rfl rfl
          · rw [if_neg q0]
            rcases nI_out (by omega) hno with h | h
            · exact absurd h q0
            · have q1 : ¬ p2 ≤ 1 := by
                intro h2
                have h3 : nI 2 ≤ 1 := Int32.le_trans h h2
                exact absurd h3 (by decide)
              rw [if_neg q1]; exact hbad rfl rfl
  · simp only [c0, decide_false]
    rw [itF, itF]
    exact ⟨_, _, _, rfl, rfl, RR_sc hR0 _ rfl⟩
