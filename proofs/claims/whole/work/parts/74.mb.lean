/-! the reference's small methods -/
theorem lg_lt (x y : Int64) : lg_cmp x y < 0 ↔ x < y := by
  unfold lg_cmp
  by_cases h1 : x > y
  · rw [if_pos h1]
    have : ¬ x < y := by rw [Int64.lt_iff_toInt_lt]; rw [gt_iff_lt, Int64.lt_iff_toInt_lt] at h1; omega
    simp [this]
  · rw [if_neg h1]
    by_cases h2 : x = y
    · rw [if_pos h2]; subst h2; simp [Int64.lt_iff_toInt_lt]
    · rw [if_neg h2]
      have : x < y := by
        rw [Int64.lt_iff_toInt_lt]; rw [gt_iff_lt, Int64.lt_iff_toInt_lt] at h1; rw [← Int64.toInt_inj] at h2; omega
      simp [this]
theorem lg_gt (x y : Int64) : 0 < lg_cmp x y ↔ y < x := by
  unfold lg_cmp
  by_cases h1 : x > y
  · rw [if_pos h1]; simp only [gt_iff_lt] at h1; simp [h1]
  · rw [if_neg h1]
    by_cases h2 : x = y
    · rw [if_pos h2]; subst h2; simp [Int64.lt_iff_toInt_lt]
    · rw [if_neg h2]; simp only [gt_iff_lt] at h1; simp [h1]
theorem lg_eq (x y : Int64) : lg_cmp x y = 0 ↔ x = y := by
  unfold lg_cmp
  by_cases h1 : x > y
  · rw [if_pos h1]
    have : ¬ x = y := by intro e; subst e; rw [gt_iff_lt, Int64.lt_iff_toInt_lt] at h1; omega
    simp [this]
  · rw [if_neg h1]
    by_cases h2 : x = y
    · rw [if_pos h2]; simp [h2]
    · rw [if_neg h2]; simp [h2]
theorem lg_le (x y : Int64) : lg_cmp x y ≤ 0 ↔ x ≤ y := by
  rw [← Int32.not_lt, lg_gt, Int64.not_lt]
theorem lg_ge (x y : Int64) : 0 ≤ lg_cmp x y ↔ y ≤ x := by
  rw [← Int32.not_lt, lg_lt, Int64.not_lt]
theorem m_in (x y z : Int64) : f_X12_in x y z = some (decide (y ≤ x ∧ x ≤ z)) := by
  unfold f_X12_in f_X12_in_b17
  by_cases h1 : x < y
  · rw [if_pos ((lg_lt x y).mpr h1)]
    have : ¬ y ≤ x := by rw [Int64.not_le]; exact h1
    simp [this]
  · rw [if_neg (fun h => h1 ((lg_lt x y).mp h))]
    rw [Int64.not_lt] at h1
    by_cases h2 : z < x
    · rw [if_pos ((lg_gt x z).mpr h2)]
      have : ¬ x ≤ z := by rw [Int64.not_le]; exact h2
      simp [this]
    · rw [if_neg (fun h => h2 ((lg_gt x z).mp h))]
      rw [Int64.not_lt] at h2
      simp [h1, h2]
theorem m_inT {k a b : Nat} {A B : Int64} (hA : A.toInt = a) (hB : B.toInt = b) (h1 : a ≤ k) (h2 : k ≤ b) (hk : k < 2 ^ 31) : f_X12_in (nI k).toInt64 A B = some true := by
  rw [m_in]
  have h3 : A ≤ (nI k).toInt64 := by rw [Int64.le_iff_toInt_le, Int32.toInt_toInt64, nI_toInt hk, hA]; omega
  have h4 : (nI k).toInt64 ≤ B := by rw [Int64.le_iff_toInt_le, Int32.toInt_toInt64, nI_toInt hk, hB]; omega
  simp [h3, h4]
theorem m_inF {p : Int32} {a b : Nat} {A B : Int64} (hA : A.toInt = a) (hB : B.toInt = b) (h : ∀ k, a ≤ k → k ≤ b → k < 2 ^ 31 → p ≠ nI k) : f_X12_in p.toInt64 A B = some false := by
  rw [m_in]
  have : ¬ (A ≤ p.toInt64 ∧ p.toInt64 ≤ B) := by
    rintro ⟨h1, h2⟩
    rw [Int64.le_iff_toInt_le, Int32.toInt_toInt64, hA] at h1
    rw [Int64.le_iff_toInt_le, Int32.toInt_toInt64, hB] at h2
    have h0 : ¬ p < 0 := by
      rw [Int32.lt_iff_toInt_lt]
      have : (0 : Int32).toInt = 0 := by decide
      omega
    obtain ⟨j, hj, rfl⟩ := nI_of h0
    rw [nI_toInt hj] at h1 h2
    exact h j (by omega) (by omega) hj rfl
  simp [this]
theorem ib_bit : ∀ (v : Fin 64) (w : Fin 6), ((nI v >>> (nI w &&& 31)) &&& 1 = 1) ↔ v.val.testBit w = true := by decide +kernel
def popc (v : Nat) : Nat := cnt (fun k => v.testBit k) 6 0 0
theorem x_bitCount' : ∀ v : Fin 64, f_J6_bitCount_0f7a4 (nI v) = some (nI (popc v)) := by decide +kernel
theorem m_bits' : ∀ v : Fin 64, f_X12_bits (nI v) = some (nI (popc v)) := by decide +kernel
theorem x_bitCount {v : Nat} (h : v < 64) : f_J6_bitCount_0f7a4 (nI v) = some (nI (popc v)) := x_bitCount' ⟨v, h⟩
theorem m_bits {v : Nat} (h : v < 64) : f_X12_bits (nI v) = some (nI (popc v)) := m_bits' ⟨v, h⟩
theorem popc_le (v : Nat) : popc v ≤ 6 := by have := @cnt_le (fun k => v.testBit k) 6 0 0; unfold popc; omega
theorem m_wayOf {a b : Nat} (ha : a < 2 ^ 31) (hb : b < 2 ^ 31) : f_X12_wayOf (nI a) (nI b) = some (nI (min a b)) := by
  unfold f_X12_wayOf
  simp only [nI_leI hb ha]
  split
  · rw [Nat.min_eq_right (by omega)]
  · rw [Nat.min_eq_left (by omega)]
section
variable {d : Tr} {m : Mo} {M : Sg}
theorem m_isLine (hd : TrG d) (hM : TrM d (M.2.1 20)) : f_X12_isLine M = some (decide (0 < d.n)) := by
  obtain ⟨h1, -, -⟩ := hd.b
  unfold f_X12_isLine
  simp (disch := omega) only [hM.1.1, lit, nI_add, nI_mul, nI_ltI, nI_leI, nI_eq, nI_sub, m1_lt, lt_m1, m1_le, le_m1, m1_eq, eq_m1, ixd_nI, nI_addm]
  by_cases h : d.n ≤ 0
  · rw [if_pos h]; simp; omega
  · rw [if_neg h]; simp; omega
theorem m_isCoach (hd : TrG d) (hM : TrM d (M.2.1 20)) {c : Nat} (hc : c < d.n) : f_X12_isCoach M (nI c) = some true := by
  obtain ⟨h1, -, -⟩ := hd.b
  unfold f_X12_isCoach
  simp (disch := omega) only [hM.1.1, lit, nI_add, nI_mul, nI_ltI, nI_leI, nI_eq, nI_sub, m1_lt, lt_m1, m1_le, le_m1, m1_eq, eq_m1, ixd_nI, nI_addm]
  rw [if_neg (by omega), if_neg (by omega)]
theorem m_isCoachN (hd : TrG d) (hM : TrM d (M.2.1 20)) {p : Int32} (hp : ∀ c, c < d.n → p ≠ nI c) : f_X12_isCoach M p = some false := by
  obtain ⟨h1, -, -⟩ := hd.b
  unfold f_X12_isCoach f_X12_isCoach_b18
  rw [hM.1.1]
  rcases nI_out (by omega) hp with h | h
  · rw [if_pos h]
  · rw [if_pos h]; split <;> rfl
theorem m_isRider (hd : TrG d) (hM : TrM d (M.2.1 20)) {c : Nat} (hc : c < d.rd) : f_X12_isRider M (nI c) = some true := by
  obtain ⟨-, -, h1⟩ := hd.b
  unfold f_X12_isRider
  simp (disch := omega) only [hM.1.2.2, lit, nI_add, nI_mul, nI_ltI, nI_leI, nI_eq, nI_sub, m1_lt, lt_m1, m1_le, le_m1, m1_eq, eq_m1, ixd_nI, nI_addm]
  rw [if_neg (by omega), if_neg (by omega)]
theorem m_isRiderN (hd : TrG d) (hM : TrM d (M.2.1 20)) {p : Int32} (hp : ∀ c, c < d.rd → p ≠ nI c) : f_X12_isRider M p = some false := by
  obtain ⟨-, -, h1⟩ := hd.b
  unfold f_X12_isRider f_X12_isRider_b18
  rw [hM.1.2.2]
  rcases nI_out (by omega) hp with h | h
  · rw [if_pos h]
  · rw [if_pos h]; split <;> rfl
theorem m_isWay (hd : TrG d) (hM : TrM d (M.2.1 20)) {c : Nat} (hc : c + 1 < d.n) : f_X12_isWay M (nI c) = some true := by
  obtain ⟨h1, -, -⟩ := hd.b
  unfold f_X12_isWay
  simp (disch := omega) only [hM.1.1, lit, nI_add, nI_mul, nI_ltI, nI_leI, nI_eq, nI_sub, m1_lt, lt_m1, m1_le, le_m1, m1_eq, eq_m1, ixd_nI, nI_addm]
  rw [if_neg (by omega), if_neg (by omega)]
theorem m_isWayN (hd : TrG d) (hM : TrM d (M.2.1 20)) {p : Int32} (hp : ∀ c, c + 1 < d.n → p ≠ nI c) : f_X12_isWay M p = some false := by
  obtain ⟨h1, -, -⟩ := hd.b
  unfold f_X12_isWay f_X12_isWay_b20
  rw [hM.1.1]
  by_cases h0 : p < 0
  · rw [if_pos h0]
  · rw [if_neg h0]
    rcases nI_dec hd with ⟨h2, h3⟩ | ⟨h2, h3⟩
    · rw [h3]
      obtain ⟨j, hj, rfl⟩ := nI_of h0
      rw [if_pos ((m1_le hj).mpr trivial)]
    · rw [h3]
      rcases nI_out (n := d.n - 1) (by omega) (fun c hc => hp c (by omega)) with h | h
      · exact absurd h h0
      · rw [if_pos h]
theorem m_riderOf {r w : Nat} (hr : r < 6) (hw : w < 8) : f_X12_riderOf M (nI r) (nI w) = some (M.2.1 20 (52 + 8 * r + w)) := by
  unfold f_X12_riderOf
  simp (disch := omega) only [lit, nI_add, nI_mul, nI_ltI, nI_leI, nI_eq, nI_sub, m1_lt, lt_m1, m1_le, le_m1, m1_eq, eq_m1, ixd_nI, nI_addm]
theorem m_isGoing (hd : TrOK d) (hm : MoOK d m) (hN : MoM d m (M.2.1 20)) {r : Nat} (hr : r < d.rd) : f_X12_isGoing M (nI r) = some (m.gq r) := by
  have h1 := hd.n8
  have h2 := hd.r6
  have h3 := (hN.2.2 r hr).2.1
  unfold f_X12_isGoing
  rw [lit, m_riderOf (by omega) (by omega), ob1_s, h3]
  by_cases h : m.gq r = true
  · have h4 := (hm.2.2.2.2 r hr h).1
    simp (disch := omega) only [h, lit, nI_add, nI_mul, nI_ltI, nI_leI, nI_eq, nI_sub, m1_lt, lt_m1, m1_le, le_m1, m1_eq, eq_m1, ixd_nI, nI_addm, if_true]
    rw [if_neg (by omega)]
  · simp only [Bool.not_eq_true] at h
    rw [h]
    simp (disch := omega) only [lit, nI_add, nI_mul, nI_ltI, nI_leI, nI_eq, nI_sub, m1_lt, lt_m1, m1_le, le_m1, m1_eq, eq_m1, ixd_nI, nI_addm, if_true, Bool.false_eq_true, if_false]
theorem m_parting (hd : TrOK d) (hM : TrM d (M.2.1 20)) : f_X12_parting M = some (nI d.pa) := by
  have h1 := hd.n8
  have h2 := hd.s6
  have h3 := hd.pst
  unfold f_X12_parting
  simp (disch := omega) only [(hM.2.1 (by omega)).1, (hM.2.2.2.2.1 d.ps h3).2, lit, nI_add, nI_mul, nI_ltI, nI_leI, nI_eq, nI_sub, m1_lt, lt_m1, m1_le, le_m1, m1_eq, eq_m1, ixd_nI, nI_addm]
  rfl
theorem m_isRight (hd : TrOK d) (hM : TrM d (M.2.1 20)) {r c : Nat} (hr : r < d.rd) (hc : c < d.n) : f_X12_isRight M (nI r) (nI c) = some (decide (d.g c = d.ds r)) := by
  have h1 := hd.n8
  have h2 := hd.r6
  have h3 := hd.g3 c hc
  have h4 := (hd.rr r hr).1
  unfold f_X12_isRight
  rw [lit, lit, m_riderOf (by omega) (by omega)]
  simp (disch := omega) only [(hM.2.2.1 c hc).1, (hM.2.2.2.2.2 r hr).1, lit, nI_add, nI_mul, nI_ltI, nI_leI, nI_eq, nI_sub, m1_lt, lt_m1, m1_le, le_m1, m1_eq, eq_m1, ixd_nI, nI_addm, bnd_eq, ob1_s, ob2_s, bI_0, bI_t, bI_f]
  by_cases h : d.g c = d.ds r
  · rw [if_pos h]; simp [h]
  · rw [if_neg h]; simp [h]
theorem m_ridersIn (hd : TrG d) (hM : TrM d (M.2.1 20)) (hm : MoOK d m) (hN : MoM d m (M.2.1 20)) {c : Nat} (hc : c < d.n) : f_X12_ridersIn M (nI c) = some (bset (fun r => decide (m.co r = c)) d.rd 0 (nI 0)) := by
  obtain ⟨b1, b2, b4⟩ := hd.b
  generalize hv : bset (fun r => decide (m.co r = c)) d.rd 0 (nI 0) = v
  refine wp_val.mp (wp_fl2 (fun j a x => ∃ k, x = nI k ∧ k + j = d.rd ∧ bset (fun r => decide (m.co r = c)) j k a = v) ?_ d.rd (FU_lt (by omega)) _ _ ⟨0, rfl, by omega, hv⟩)
  rintro j K a _ ⟨k, rfl, hk, hv⟩ ih
  cases j with
  | zero =>
    simp (disch := omega) only [f_X12_ridersIn_b4, hM.1.2.2, lit, nI_add, nI_mul, nI_ltI, nI_leI, nI_eq, nI_sub, m1_lt, lt_m1, m1_le, le_m1, m1_eq, eq_m1, ixd_nI, nI_addm, wp_some, wp_bnd, wp_ob1, wp_ob2, wp_ob3, wp_ob4, wp_ob5]
    rw [if_pos (by omega), wp_some, ← hv]
    rfl
  | succ j =>
    have hk' : k < d.rd := by omega
    have h1 := (hN.2.2 k hk').1
    have h2 := hm.2.2.2.1 k hk'
    have h3 := m_riderOf (M := M) (r := k) (w := 0) (by omega) (by omega)
    rw [Nat.add_zero, h1] at h3
    rw [bset_s] at hv
    simp only [decide_eq_true_eq, lit] at hv
    simp (disch := omega) only [f_X12_ridersIn_b4, f_X12_ridersIn_b32, hM.1.2.2, lit, nI_add, nI_mul, nI_ltI, nI_leI, nI_eq, nI_sub, m1_lt, lt_m1, m1_le, le_m1, m1_eq, eq_m1, ixd_nI, nI_addm, bnd_eq, ob1_s, ob2_s, bI_0, bI_t, bI_f, wp_some, wp_bnd, wp_ob1, wp_ob2, wp_ob3, wp_ob4, wp_ob5, h3]
    rw [if_neg (by omega)]
    by_cases c1 : m.co k = c
    · rw [if_pos c1] at hv ⊢
      exact ih j _ _ (by omega) ⟨k + 1, rfl, by omega, hv⟩
    · rw [if_neg c1] at hv ⊢
      have e : a ||| nI 0 = a := Int32.or_zero
      rw [e]
      exact ih j _ _ (by omega) ⟨k + 1, rfl, by omega, hv⟩
theorem m_isInside (hm : MoOK d m) (hN : MoM d m (M.2.1 20)) {r : Nat} (hr : r < 6) : f_X12_isInside_ M (nI r) = some (m.ib.testBit r) := by
  unfold f_X12_isInside_ f_X12_isOf
  rw [hN.1.2]
  have h := ib_bit ⟨m.ib, hm.2.2.1⟩ ⟨r, hr⟩
  simp only at h
  by_cases hb : m.ib.testBit r = true
  · rw [if_pos (h.mpr hb), hb]; rfl
  · rw [if_neg (fun e => hb (h.mp e))]
    simp only [Bool.not_eq_true] at hb
    rw [hb]; rfl
theorem m_goerIn (hd : TrG d) (hM : TrM d (M.2.1 20)) (hm : MoOK d m) (hN : MoM d m (M.2.1 20)) {w : Nat} (hw : w < 8) : f_X12_goerIn M (nI w) = some (oM (fnd (fun r => m.gq r && m.ib.testBit r && decide (min (m.co r) (m.to r) = w)) d.rd 0)) := by
  obtain ⟨b1, b2, b4⟩ := hd.b
  generalize hv : fnd (fun r => m.gq r && m.ib.testBit r && decide (min (m.co r) (m.to r) = w)) d.rd 0 = v
  refine wp_val.mp (wp_fl1 (fun j x => ∃ k, x = nI k ∧ k + j = d.rd ∧ fnd (fun r => m.gq r && m.ib.testBit r && decide (min (m.co r) (m.to r) = w)) j k = v) ?_ d.rd (FU_lt (by omega)) _ ⟨0, rfl, by omega, hv⟩)
  rintro j K _ ⟨k, rfl, hk, hv⟩ ih
  cases j with
  | zero =>
    simp (disch := omega) only [f_X12_goerIn_b2, hM.1.2.2, lit, nI_add, nI_mul, nI_ltI, nI_leI, nI_eq, nI_sub, m1_lt, lt_m1, m1_le, le_m1, m1_eq, eq_m1, ixd_nI, nI_addm, wp_some, wp_bnd, wp_ob1, wp_ob2, wp_ob3, wp_ob4, wp_ob5]
    rw [if_pos (by omega), wp_some, ← hv]
    rfl
  | succ j =>
    have hk' : k < d.rd := by omega
    have ok := hd.okr hk'
    have h0 := m_isGoing ok hm hN hk'
    have h1 := m_isInside hm hN (show k < 6 by omega)
    have h2 := hm.2.2.2.1 k hk'
    have h3 := m_riderOf (M := M) (r := k) (w := 0) (by omega) (by omega)
    rw [Nat.add_zero, (hN.2.2 k hk').1] at h3
    have h4 := m_riderOf (M := M) (r := k) (w := 5) (by omega) (by omega)
    rw [(hN.2.2 k hk').2.1] at h4
    rw [fnd_s] at hv
    simp (disch := omega) only [f_X12_goerIn_b2, f_X12_goerIn_b49, hM.1.2.2, h0, h1, lit, nI_add, nI_mul, nI_ltI, nI_leI, nI_eq, nI_sub, m1_lt, lt_m1, m1_le, le_m1, m1_eq, eq_m1, ixd_nI, nI_addm, bnd_eq, ob1_s, ob2_s, bI_0, bI_t, bI_f, wp_some, wp_bnd, wp_ob1, wp_ob2, wp_ob3, wp_ob4, wp_ob5]
    rw [if_neg (by omega)]
    by_cases c0 : m.gq k = true
    · by_cases c1 : m.ib.testBit k = true
      · have h5 := (hm.2.2.2.2 k hk' c0).1
        rw [if_pos c0] at h4
        rw [if_neg (by rw [c0]; decide), if_neg (by rw [c1]; decide)]
        simp only [c0, c1, Bool.true_and, decide_eq_true_eq] at hv
        simp (disch := omega) only [h3, h4, m_wayOf, nI_eq, wp_some, wp_bnd, wp_ob1, wp_ob2, wp_ob3, wp_ob4, wp_ob5]
        by_cases c2 : min (m.co k) (m.to k) = w
        · rw [if_pos c2] at hv ⊢
          rw [wp_some, ← hv]; rfl
        · rw [if_neg c2] at hv ⊢
          exact ih j _ (by omega) ⟨k + 1, rfl, by omega, hv⟩
      · simp only [Bool.not_eq_true] at c1
        simp only [c1, Bool.and_false, Bool.false_and, Bool.false_eq_true, if_false] at hv
        rw [if_neg (by rw [c0]; decide), if_pos c1]
        exact ih j _ (by omega) ⟨k + 1, rfl, by omega, hv⟩
    · simp only [Bool.not_eq_true] at c0
      simp only [c0, Bool.false_and, Bool.false_eq_true, if_false] at hv
      rw [if_pos c0]
      exact ih j _ (by omega) ⟨k + 1, rfl, by omega, hv⟩
theorem m_haltAt (hd : TrG d) (hM : TrM d (M.2.1 20)) {s : Nat} (hs : s ≤ 9999) : f_X12_haltAt M (nI s) = some (oM (fnd (fun k => decide (d.hb k ≤ s) && decide (s ≤ d.he k)) d.st 0)) := by
  obtain ⟨b1, b2, b4⟩ := hd.b
  generalize hv : fnd (fun k => decide (d.hb k ≤ s) && decide (s ≤ d.he k)) d.st 0 = v
  refine wp_val.mp (wp_fl1 (fun j x => ∃ k, x = nI k ∧ k + j = d.st ∧ fnd (fun k => decide (d.hb k ≤ s) && decide (s ≤ d.he k)) j k = v) ?_ d.st (FU_lt (by omega)) _ ⟨0, rfl, by omega, hv⟩)
  rintro j K _ ⟨k, rfl, hk, hv⟩ ih
  cases j with
  | zero =>
    simp (disch := omega) only [f_X12_haltAt_b2, hM.1.2.1, lit, nI_add, nI_mul, nI_ltI, nI_leI, nI_eq, nI_sub, m1_lt, lt_m1, m1_le, le_m1, m1_eq, eq_m1, ixd_nI, nI_addm, wp_some, wp_bnd, wp_ob1, wp_ob2, wp_ob3, wp_ob4, wp_ob5]
    rw [if_pos (by omega), wp_some, ← hv]
    rfl
  | succ j =>
    have hk' : k < d.st := by omega
    have ok := hd.oks hk'
    have h1 := hM.2.2.2.2.1 k hk'
    have h2 := ok.hh k hk'
    rw [fnd_s] at hv
    simp (disch := omega) only [f_X12_haltAt_b2, hM.1.2.1, h1.1, h1.2, m_in, Int64.le_iff_toInt_le, Int32.toInt_toInt64, nI_toInt, lit, nI_add, nI_mul, nI_ltI, nI_leI, nI_eq, nI_sub, m1_lt, lt_m1, m1_le, le_m1, m1_eq, eq_m1, ixd_nI, nI_addm, wp_some, wp_bnd, wp_ob1, wp_ob2, wp_ob3, wp_ob4, wp_ob5, bI_0, decide_eq_false_iff_not]
    rw [if_neg (by omega)]
    rw [ob1_s, bnd_eq]
    by_cases c1 : d.hb k ≤ s ∧ s ≤ d.he k
    · rw [if_pos (by simpa using c1)] at hv
      rw [if_neg (by simp; omega), wp_some, ← hv]
      rfl
    · rw [if_neg (by simpa using c1)] at hv
      rw [if_pos (by simp; omega)]
      exact ih j _ (by omega) ⟨k + 1, rfl, by omega, hv⟩
theorem m_timesOf (hd : TrOK d) (hM : TrM d (M.2.1 20)) {r : Nat} (hr : r < d.rd) : f_X12_timesOf M (nI r) = some (nI (d.tm r)) := by
  have h2 := hd.r6
  have h4 := (hd.rr r hr).2.2.1
  unfold f_X12_timesOf Tr.tm
  simp (disch := omega) only [lit, nI_add, nI_mul, nI_ltI, nI_leI, nI_eq, nI_sub, m1_lt, lt_m1, m1_le, le_m1, m1_eq, eq_m1, ixd_nI, nI_addm, bnd_eq, ob1_s, ob2_s, bI_0, bI_t, bI_f, m_riderOf, (hM.2.2.2.2.2 r hr).2.2.1]
  by_cases c : d.ld r < 2
  · rw [if_neg (by omega), if_pos c]
  · rw [if_pos (by omega), if_neg c]
theorem m_timeI (hd : TrOK d) (hM : TrM d (M.2.1 20)) {r : Nat} (p2 p3 : Int32) (hr : r < d.rd) : f_X12_timeOf M (nI r) p2 p3 true = some (nI (d.ins r)) := by
  have h2 := hd.r6
  unfold f_X12_timeOf f_X12_timeOf_b14 f_X12_timeOf_b44
  simp (disch := omega) only [lit, nI_add, nI_mul, nI_ltI, nI_leI, nI_eq, nI_sub, m1_lt, lt_m1, m1_le, le_m1, m1_eq, eq_m1, ixd_nI, nI_addm, bnd_eq, ob1_s, ob2_s, bI_0, bI_t, bI_f, m_riderOf, m_timesOf hd hM hr, (hM.2.2.2.2.2 r hr).2.1, if_false, reduceCtorEq, ite_self]
  rfl
theorem m_timeO (hd : TrOK d) (hM : TrM d (M.2.1 20)) {r a b : Nat} (hr : r < d.rd) (ha : a < d.n) (hb : b < d.n) : f_X12_timeOf M (nI r) (nI a) (nI b) false = some (nI (sOu d r a b)) := by
  have h2 := hd.r6
  have h3 := hd.n8
  unfold f_X12_timeOf f_X12_timeOf_b14 f_X12_timeOf_b44 sOu dist
  simp (disch := omega) only [lit, nI_add, nI_mul, nI_leI, bnd_eq, ob1_s, ob2_s, bI_0, bI_t, bI_f, m_timesOf hd hM hr, (hM.2.1 (by omega)).2, if_true]
  by_cases c : b ≤ a
  · rw [if_pos c, nI_sub c, nI_mul, nI_mul]
    by_cases c2 : a ≤ b
    · rw [if_pos c2]
      have : a = b := by omega
      subst this; simp
    · rw [if_neg c2]
      congr 2
      rw [Nat.mul_comm (a - b), Nat.mul_assoc]
  · rw [if_neg c, nI_sub (by omega), nI_mul, nI_mul, if_pos (by omega)]
    congr 2
    rw [Nat.mul_comm (b - a), Nat.mul_assoc]
end
