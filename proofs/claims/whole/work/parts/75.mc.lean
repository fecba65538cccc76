/-! the reference's goings -/
def mI (d : Tr) (m : Mo) (r a b s : Nat) : Bool := !(m.sh.testBit (min a b)) && decide (d.tr (min a b) ≤ s) && (decide (d.g a = d.g b) || decide (s + d.ins r ≤ d.pa))
def sIF (d : Tr) (m : Mo) (r a b s : Nat) : Option Nat := match sIB d m r a b s with | none => none | some q => if q + d.ins r ≤ 999 then some q else none
def mOu (d : Tr) (x s : Nat) : Bool := (fnd (fun k => decide (d.hb k ≤ s) && decide (s + x ≤ d.he k)) (d.ps + 1) 0).isSome
section
variable {d : Tr} {m : Mo} {M : Sg}
theorem m_mayInside (hd : TrOK d) (hM : TrM d (M.2.1 20)) (hN : MoM d m (M.2.1 20)) {r a b s : Nat} (hr : r < d.rd) (ha : a < d.n) (hb : b < d.n) (hab : dist a b = 1) (hs : s < 2 ^ 29) : f_X12_mayInside M (nI r) (nI a) (nI b) (nI s) = some (mI d m r a b s) := by
  have h1 := hd.n8
  have h2 := hd.r6
  have hw : min a b + 1 < d.n := by unfold dist at hab; split at hab <;> omega
  have h3 := hd.tr9 _ hw
  have h4 := hM.2.2.2.1 _ hw
  have h5 := hd.inr hr
  have h7 := hd.pa9
  have h8 := hd.g3 a ha
  have h9 := hd.g3 b hb
  have h10 := hN.2.1 _ hw
  unfold f_X12_mayInside f_X12_mayInside_b77 f_X12_mayInside_b36 mI
  simp (disch := omega) only [m_wayOf, h10, h4, (hM.2.2.1 a ha).1, (hM.2.2.1 b hb).1, m_timeI hd hM _ _ hr, m_parting hd hM, lit, nI_add, nI_mul, nI_ltI, nI_leI, nI_eq, nI_sub, m1_lt, lt_m1, m1_le, le_m1, m1_eq, eq_m1, ixd_nI, nI_addm, bnd_eq, ob1_s, ob2_s, bI_0, bI_t, bI_f]
  by_cases c1 : m.sh.testBit (min a b) = true
  · simp only [c1, if_true, Bool.not_true, Bool.false_and]
  · simp only [Bool.not_eq_true] at c1
    simp only [c1, Bool.false_eq_true, if_false, Bool.not_false, Bool.true_and]
    rw [if_neg (by decide)]
    by_cases c2 : d.tr (min a b) ≤ s
    · rw [if_pos c2]
      by_cases c3 : d.g a = d.g b
      · rw [if_pos c3]; simp [c2, c3]
      · rw [if_neg c3]
        by_cases c4 : d.pa < s + d.ins r
        · rw [if_pos c4]; simp [c2, c3]; omega
        · rw [if_neg c4]; simp [c2]; omega
    · rw [if_neg c2]; simp [c2]
theorem m_insideFrom (hd : TrOK d) (hM : TrM d (M.2.1 20)) (hN : MoM d m (M.2.1 20)) {r a b s : Nat} (hr : r < d.rd) (ha : a < d.n) (hb : b < d.n) (hab : dist a b = 1) (hs : s < 2 ^ 28) : f_X12_insideFrom M (nI r) (nI a) (nI b) (nI s) = some (oM (sIF d m r a b s)) := by
  have h1 := hd.n8
  have h2 := hd.r6
  have hw : min a b + 1 < d.n := by unfold dist at hab; split at hab <;> omega
  have h3 := hd.tr9 _ hw
  have h4 := hM.2.2.2.1 _ hw
  have h5 := hd.inr hr
  have h7 := hd.pa9
  have key : ∀ q, q < 2 ^ 29 → d.tr (min a b) ≤ q → max s (d.tr (min a b)) = q → f_X12_insideFrom_b37 M (nI r) (nI a) (nI b) (nI s) (nI q) = some (oM (sIF d m r a b s)) := by
    intro q hq hq2 hq3
    unfold f_X12_insideFrom_b37 f_X12_insideFrom_b73 sIF sIB
    rw [m_mayInside hd hM hN hr ha hb hab hq, hq3]
    unfold mI
    simp (disch := omega) only [m_timeI hd hM _ _ hr, lit, nI_add, nI_mul, nI_ltI, nI_leI, nI_eq, nI_sub, m1_lt, lt_m1, m1_le, le_m1, m1_eq, eq_m1, ixd_nI, nI_addm, bnd_eq, ob1_s, ob2_s, bI_0, bI_t, bI_f]
    by_cases c1 : m.sh.testBit (min a b) = true
    · simp [c1, oM]
    · simp only [Bool.not_eq_true] at c1
      simp only [c1, Bool.false_eq_true, if_false, Bool.not_false, Bool.true_and, hq2, decide_true]
      by_cases c3 : d.g a = d.g b
      · simp only [c3, decide_true, Bool.true_or, ne_eq, not_true_eq_false, false_and, if_false, reduceCtorEq]
        by_cases c4 : q + d.ins r ≤ 999
        · rw [if_neg (by omega), if_pos c4]; rfl
        · rw [if_pos (by omega), if_neg c4]; rfl
      · by_cases c5 : d.pa < q + d.ins r
        · rw [if_pos (by simp [c3]; omega), if_pos ⟨c3, c5⟩]; rfl
        · rw [if_neg (by simp [c3]; omega), if_neg (by omega)]
          have c4 : q + d.ins r ≤ 999 := by omega
          have hx : ¬ (d.g a ≠ d.g b ∧ d.pa < q + d.ins r) := fun h => c5 h.2
          rw [if_neg hx]
          show _ = some (oM (if q + d.ins r ≤ 999 then some q else none))
          rw [if_pos c4]; rfl
  unfold f_X12_insideFrom
  simp (disch := omega) only [m_wayOf, h4, lit, nI_add, nI_mul, nI_ltI, nI_leI, nI_eq, nI_sub, m1_lt, lt_m1, m1_le, le_m1, m1_eq, eq_m1, ixd_nI, nI_addm, bnd_eq, ob1_s, ob2_s, bI_0, bI_t, bI_f]
  by_cases c : d.tr (min a b) ≤ s
  · rw [if_pos c]; exact key s (by omega) c (by omega)
  · rw [if_neg c]; exact key _ (by omega) (by omega) (by omega)
theorem m_outsideFrom (hd : TrOK d) (hM : TrM d (M.2.1 20)) {r a b s : Nat} (hr : r < d.rd) (ha : a < d.n) (hb : b < d.n) (hs : s < 2 ^ 28) : f_X12_outsideFrom M (nI r) (nI a) (nI b) (nI s) = some (oM (sOB d (sOu d r a b) s)) := by
  have h0 := hd.s6
  have h1 := hd.pst
  have h2 := hd.n8
  have hx := sOu_le hd hr ha hb
  unfold f_X12_outsideFrom
  rw [m_timeO hd hM hr ha hb, ob1_s]
  generalize sOu d r a b = x at hx
  unfold sOB
  generalize hv : fnd (fun k => decide (max s (d.hb k) + x ≤ d.he k)) (d.ps + 1) 0 = v
  refine wp_val.mp (wp_fl2 (fun j y z => ∃ k, y = nI x ∧ z = nI k ∧ k + j = d.ps + 1 ∧ fnd (fun k => decide (max s (d.hb k) + x ≤ d.he k)) j k = v) ?_ (d.ps + 1) (FU_lt (by omega)) _ _ ⟨0, rfl, rfl, by omega, hv⟩)
  rintro j K _ _ ⟨k, rfl, rfl, hk, hv⟩ ih
  cases j with
  | zero =>
    simp (disch := omega) only [f_X12_outsideFrom_b13, (hM.2.1 (by omega)).1, lit, nI_add, nI_mul, nI_ltI, nI_leI, nI_eq, nI_sub, m1_lt, lt_m1, m1_le, le_m1, m1_eq, eq_m1, ixd_nI, nI_addm, wp_some, wp_bnd, wp_ob1, wp_ob2, wp_ob3, wp_ob4, wp_ob5]
    rw [if_pos (by omega), wp_some, ← hv]
    rfl
  | succ j =>
    have hk' : k < d.st := by omega
    have h3 := hM.2.2.2.2.1 k hk'
    have h4 := hd.heb (s := k) (by omega)
    rw [fnd_s] at hv
    simp only [decide_eq_true_eq] at hv
    simp (disch := omega) only [f_X12_outsideFrom_b13, f_X12_outsideFrom_b58, (hM.2.1 (by omega)).1, h3.1, h3.2, lit, nI_add, nI_mul, nI_ltI, nI_leI, nI_eq, nI_sub, m1_lt, lt_m1, m1_le, le_m1, m1_eq, eq_m1, ixd_nI, nI_addm, bnd_eq, ob1_s, ob2_s, bI_0, bI_t, bI_f, wp_some, wp_bnd, wp_ob1, wp_ob2, wp_ob3, wp_ob4, wp_ob5]
    rw [if_neg (by omega)]
    by_cases c0 : d.hb k ≤ s
    · rw [if_pos c0]
      have e : max s (d.hb k) = s := by omega
      rw [e] at hv
      by_cases c1 : s + x ≤ d.he k
      · rw [if_pos c1] at hv
        rw [if_neg (by omega), wp_some, ← hv]
        simp only [Option.map_some, e]
        rfl
      · rw [if_neg c1] at hv
        rw [if_pos (by omega)]
        exact ih j _ _ (by omega) ⟨k + 1, rfl, rfl, by omega, hv⟩
    · rw [if_neg c0]
      have e : max s (d.hb k) = d.hb k := by omega
      rw [e] at hv
      by_cases c1 : d.hb k + x ≤ d.he k
      · rw [if_pos c1] at hv
        rw [if_neg (by omega), wp_some, ← hv]
        simp only [Option.map_some, e]
        rfl
      · rw [if_neg c1] at hv
        rw [if_pos (by omega)]
        exact ih j _ _ (by omega) ⟨k + 1, rfl, rfl, by omega, hv⟩
theorem m_mayOutside (hd : TrOK d) (hM : TrM d (M.2.1 20)) {r a b s : Nat} (hr : r < d.rd) (ha : a < d.n) (hb : b < d.n) (hs : s < 2 ^ 28) : f_X12_mayOutside M (nI r) (nI a) (nI b) (nI s) = some (mOu d (sOu d r a b) s) := by
  have h0 := hd.s6
  have h1 := hd.pst
  have h2 := hd.n8
  have hx := sOu_le hd hr ha hb
  unfold f_X12_mayOutside
  rw [m_timeO hd hM hr ha hb, ob1_s]
  generalize sOu d r a b = x at hx
  unfold mOu
  generalize hv : fnd (fun k => decide (d.hb k ≤ s) && decide (s + x ≤ d.he k)) (d.ps + 1) 0 = v
  refine wp_val.mp (wp_fl2 (fun j y z => ∃ k, y = nI x ∧ z = nI k ∧ k + j = d.ps + 1 ∧ fnd (fun k => decide (d.hb k ≤ s) && decide (s + x ≤ d.he k)) j k = v) ?_ (d.ps + 1) (FU_lt (by omega)) _ _ ⟨0, rfl, rfl, by omega, hv⟩)
  rintro j K _ _ ⟨k, rfl, rfl, hk, hv⟩ ih
  cases j with
  | zero =>
    simp (disch := omega) only [f_X12_mayOutside_b13, (hM.2.1 (by omega)).1, lit, nI_add, nI_mul, nI_ltI, nI_leI, nI_eq, nI_sub, m1_lt, lt_m1, m1_le, le_m1, m1_eq, eq_m1, ixd_nI, nI_addm, wp_some, wp_bnd, wp_ob1, wp_ob2, wp_ob3, wp_ob4, wp_ob5]
    rw [if_pos (by omega), wp_some, ← hv]
    rfl
  | succ j =>
    have hk' : k < d.st := by omega
    have h3 := hM.2.2.2.2.1 k hk'
    have h4 := hd.heb (s := k) (by omega)
    rw [fnd_s] at hv
    simp only [Bool.and_eq_true, decide_eq_true_eq] at hv
    simp (disch := omega) only [f_X12_mayOutside_b13, f_X12_mayOutside_b65, (hM.2.1 (by omega)).1, h3.1, h3.2, lit, nI_add, nI_mul, nI_ltI, nI_leI, nI_eq, nI_sub, m1_lt, lt_m1, m1_le, le_m1, m1_eq, eq_m1, ixd_nI, nI_addm, bnd_eq, ob1_s, ob2_s, bI_0, bI_t, bI_f, wp_some, wp_bnd, wp_ob1, wp_ob2, wp_ob3, wp_ob4, wp_ob5]
    rw [if_neg (by omega)]
    by_cases c0 : d.hb k ≤ s
    · rw [if_neg (by omega)]
      by_cases c1 : s + x ≤ d.he k
      · rw [if_pos ⟨c0, c1⟩] at hv
        rw [if_neg (by omega), wp_some, ← hv]
        rfl
      · rw [if_neg (by omega)] at hv
        rw [if_pos (by omega)]
        exact ih j _ _ (by omega) ⟨k + 1, rfl, rfl, by omega, hv⟩
    · rw [if_neg (by omega)] at hv
      rw [if_pos (by omega)]
      exact ih j _ _ (by omega) ⟨k + 1, rfl, rfl, by omega, hv⟩
end
/-- BY HAND and BY A RULE: one can begin now just if the first begin is now -/
theorem mI_iff {d : Tr} {m : Mo} {r a b s : Nat} (hs : s < 1000000) : (oC (sIB d m r a b s) = s) ↔ mI d m r a b s = true := by
  unfold sIB mI oC
  by_cases c1 : m.sh.testBit (min a b) = true
  · simp [c1]; omega
  · simp only [Bool.not_eq_true] at c1
    simp only [c1, Bool.false_eq_true, if_false, Bool.not_false, Bool.true_and]
    by_cases c2 : d.g a ≠ d.g b ∧ d.pa < max s (d.tr (min a b)) + d.ins r
    · rw [if_pos c2]
      simp [c2.1]
      omega
    · rw [if_neg c2]
      simp
      omega
theorem mOu_iff {d : Tr} (hd : TrOK d) {x s : Nat} (hx : 1 ≤ x) (hs : s < 1000000) : (oC (sOB d x s) = s) ↔ mOu d x s = true := by
  have hp := hd.pst
  unfold sOB mOu
  cases h1 : fnd (fun k => decide (max s (d.hb k) + x ≤ d.he k)) (d.ps + 1) 0 with
  | none =>
    have h2 := fnd_none h1
    cases h3 : fnd (fun k => decide (d.hb k ≤ s) && decide (s + x ≤ d.he k)) (d.ps + 1) 0 with
    | none => simp [oC]; omega
    | some j =>
      obtain ⟨a1, a2, a3, a4⟩ := fnd_some h3
      have h4 := h2 j (by omega) (by omega)
      simp at a1 h4
      omega
  | some k =>
    obtain ⟨b1, b2, b3, b4⟩ := fnd_some h1
    simp at b1
    cases h3 : fnd (fun k => decide (d.hb k ≤ s) && decide (s + x ≤ d.he k)) (d.ps + 1) 0 with
    | none =>
      have h4 := fnd_none h3 k (by omega) (by omega)
      simp at h4
      simp [oC]
      omega
    | some j =>
      obtain ⟨a1, a2, a3, a4⟩ := fnd_some h3
      simp at a1
      have hkj : k ≤ j := by
        by_cases hc : k ≤ j
        · exact hc
        · have := b4 j (by omega) (by omega)
          simp at this
          omega
      have hk : d.hb k ≤ s := by
        by_cases hc : k = j
        · subst hc; omega
        · have h5 := hd.hm (s := k) (t := j) (by omega) (by omega)
          have h6 := hd.heb (s := k) (by omega)
          omega
      simp [oC]
      omega
