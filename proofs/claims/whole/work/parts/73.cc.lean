/-! the class's methods of goings -/
def dist (a b : Nat) : Nat := if a ≤ b then b - a else a - b
theorem dist_comm (a b : Nat) : dist a b = dist b a := by unfold dist; split <;> split <;> omega
def oC (o : Option Nat) : Nat := o.getD 1000000
def sIB (d : Tr) (m : Mo) (r a b s : Nat) : Option Nat := if m.sh.testBit (min a b) then none else if d.g a ≠ d.g b ∧ d.pa < max s (d.tr (min a b)) + d.ins r then none else some (max s (d.tr (min a b)))
def sOB (d : Tr) (x s : Nat) : Option Nat := (fnd (fun k => decide (max s (d.hb k) + x ≤ d.he k)) (d.ps + 1) 0).map (fun k => max s (d.hb k))
def sIL (d : Tr) (m : Mo) (r a b u : Nat) : Option Nat := if m.sh.testBit (min a b) then none else if d.tr (min a b) + d.ins r ≤ min u d.pa then some (min u d.pa - d.ins r) else none
def fndD (p : Nat → Bool) : Nat → Option Nat
  | 0 => none
  | k + 1 => if p k then some k else fndD p k
theorem fndD_s (p : Nat → Bool) (k : Nat) : fndD p (k + 1) = if p k then some k else fndD p k := rfl
def sOL (d : Tr) (x u : Nat) : Option Nat := (fndD (fun k => decide (d.hb k + x ≤ min u (d.he k))) (d.ps + 1)).map (fun k => min u (d.he k) - x)
def sOu (d : Tr) (r a b : Nat) : Nat := dist a b * (d.tm r * d.pl)
theorem nI_max {a b : Nat} (ha : a < 2 ^ 31) (hb : b < 2 ^ 31) : jmax (nI a) (nI b) = nI (max a b) := by
  unfold jmax
  simp only [nI_ltI ha hb]
  split
  · rw [Nat.max_eq_right (by omega)]
  · rw [Nat.max_eq_left (by omega)]
theorem nI_min {a b : Nat} (ha : a < 2 ^ 31) (hb : b < 2 ^ 31) : jmin (nI a) (nI b) = nI (min a b) := by
  unfold jmin
  simp only [nI_ltI hb ha]
  split
  · rw [Nat.min_eq_right (by omega)]
  · rw [Nat.min_eq_left (by omega)]
theorem toI_sub {a b : Nat} (ha : a < 2 ^ 30) (hb : b < 2 ^ 30) : (nI a - nI b).toInt = (a : Int) - b := by
  rw [Int32.toInt_sub, nI_toInt (by omega), nI_toInt (by omega)]
  exact Int.bmod_eq_of_le (by omega) (by omega)
theorem nI_abs {a b : Nat} (ha : a < 2 ^ 30) (hb : b < 2 ^ 30) : jabs (nI b - nI a) = nI (dist a b) := by
  unfold jabs dist
  have h0 : (0 : Int32).toInt = 0 := by decide
  have h1 := toI_sub hb ha
  by_cases h : a ≤ b
  · rw [if_pos h, if_pos (by rw [Int32.le_iff_toInt_le, h0, h1]; omega), nI_sub h]
  · rw [if_neg h, if_neg (by rw [Int32.le_iff_toInt_le, h0, h1]; omega), ← Int32.toInt_inj, Int32.toInt_sub, h0, h1, nI_toInt (by omega)]
    rw [Int.bmod_eq_of_le (by omega) (by omega)]
    omega
theorem le_subn {k a b : Nat} (hk : k < 2 ^ 30) (ha : a < 2 ^ 30) (hb : b < 2 ^ 30) : (nI k ≤ nI a - nI b) ↔ k + b ≤ a := by
  rw [Int32.le_iff_toInt_le, toI_sub ha hb, nI_toInt (by omega)]
  omega
theorem subn_lt {k a b : Nat} (hk : k < 2 ^ 30) (ha : a < 2 ^ 30) (hb : b < 2 ^ 30) : (nI a - nI b < nI k) ↔ a < k + b := by
  rw [Int32.lt_iff_toInt_lt, toI_sub ha hb, nI_toInt (by omega)]
  omega
theorem dist_lt {a b n : Nat} (ha : a < n) (hb : b < n) : dist a b < n := by unfold dist; split <;> omega
theorem sOu_le {d : Tr} (hd : TrOK d) {r a b : Nat} (hr : r < d.rd) (ha : a < d.n) (hb : b < d.n) : sOu d r a b ≤ 700 := by
  have h1 := dist_lt ha hb
  have h2 := (hd.our hr).2
  have h3 := hd.n8.2
  unfold sOu
  exact Nat.le_trans (Nat.mul_le_mul (show dist a b ≤ 7 by omega) h2) (by decide)
theorem sOu_pos {d : Tr} (hd : TrOK d) {r a b : Nat} (hr : r < d.rd) (hab : a ≠ b) : 1 ≤ sOu d r a b := by
  have h2 := (hd.our hr).1
  unfold sOu dist
  split
  · exact Nat.mul_pos (by omega) h2
  · exact Nat.mul_pos (by omega) h2
section
variable {d : Tr} {m : Mo} {T O : Sg}
theorem x_goerThrough (hd : TrG d) (hT : TrC d T) (hm : MoOK d m) (hO : MoC d m O) {w : Nat} (hw : w < 8) : f_X10_goerThrough T O (nI w) = some (oM (fnd (fun r => m.gq r && m.ib.testBit r && decide (min (m.co r) (m.to r) = w)) d.rd 0)) := by
  obtain ⟨b1, b2, b4⟩ := hd.b
  generalize hv : fnd (fun r => m.gq r && m.ib.testBit r && decide (min (m.co r) (m.to r) = w)) d.rd 0 = v
  refine wp_val.mp (wp_fl1 (fun j x => ∃ k, x = nI k ∧ k + j = d.rd ∧ fnd (fun r => m.gq r && m.ib.testBit r && decide (min (m.co r) (m.to r) = w)) j k = v) ?_ d.rd (FU_lt (by omega)) _ ⟨0, rfl, by omega, hv⟩)
  rintro j K _ ⟨k, rfl, hk, hv⟩ ih
  cases j with
  | zero =>
    simp (disch := omega) only [f_X10_goerThrough_b2, hT.1.2.2, lit, nI_add, nI_mul, nI_ltI, nI_leI, nI_eq, nI_sub, m1_lt, lt_m1, m1_le, le_m1, m1_eq, eq_m1, ixd_nI, nI_addm, wp_some, wp_bnd, wp_ob1, wp_ob2, wp_ob3, wp_ob4, wp_ob5]
    rw [if_pos (by omega), wp_some, ← hv]
    rfl
  | succ j =>
    have hk' : k < d.rd := by omega
    have h1 := (hO.2 k hk').2.2.2.1
    have h2 := hm.2.2.2.1 k hk'
    rw [fnd_s] at hv
    by_cases c1 : (m.gq k && m.ib.testBit k) = true
    · rw [if_pos c1] at h1
      simp only [c1, Bool.true_and, decide_eq_true_eq] at hv
      simp (disch := omega) only [f_X10_goerThrough_b2, hT.1.2.2, h1, lit, nI_add, nI_mul, nI_ltI, nI_leI, nI_eq, nI_sub, m1_lt, lt_m1, m1_le, le_m1, m1_eq, eq_m1, ixd_nI, nI_addm, bnd_eq, ob1_s, ob2_s, bI_0, bI_t, bI_f, wp_some, wp_bnd, wp_ob1, wp_ob2, wp_ob3, wp_ob4, wp_ob5]
      rw [if_neg (by omega)]
      by_cases c2 : min (m.co k) (m.to k) = w
      · rw [if_pos c2] at hv ⊢
        rw [wp_some, ← hv]; rfl
      · rw [if_neg c2] at hv ⊢
        exact ih j _ (by omega) ⟨k + 1, rfl, by omega, hv⟩
    · rw [if_neg c1] at h1
      simp only [Bool.not_eq_true] at c1
      simp only [c1, Bool.false_and, Bool.false_eq_true, if_false] at hv
      simp (disch := omega) only [f_X10_goerThrough_b2, hT.1.2.2, h1, lit, nI_add, nI_mul, nI_ltI, nI_leI, nI_eq, nI_sub, m1_lt, lt_m1, m1_le, le_m1, m1_eq, eq_m1, ixd_nI, nI_addm, bnd_eq, ob1_s, ob2_s, bI_0, bI_t, bI_f, wp_some, wp_bnd, wp_ob1, wp_ob2, wp_ob3, wp_ob4, wp_ob5]
      rw [if_neg (by omega), if_neg (by exact fun h => h)]
      exact ih j _ (by omega) ⟨k + 1, rfl, by omega, hv⟩
theorem x_goers (hd : TrG d) (hT : TrC d T) (hm : MoOK d m) (hO : MoC d m O) : f_X10_goers T O = some (nI (cnt m.gq d.rd 0 0)) := by
  obtain ⟨b1, b2, b4⟩ := hd.b
  generalize hv : cnt m.gq d.rd 0 0 = v
  refine wp_val.mp (wp_fl2 (fun j a x => ∃ k c, x = nI k ∧ a = nI c ∧ k + j = d.rd ∧ cnt m.gq j k c = v) ?_ d.rd (FU_lt (by omega)) _ _ ⟨0, 0, rfl, rfl, by omega, hv⟩)
  rintro j K _ _ ⟨k, c, rfl, rfl, hk, hv⟩ ih
  cases j with
  | zero =>
    simp (disch := omega) only [f_X10_goers_b4, hT.1.2.2, lit, nI_add, nI_mul, nI_ltI, nI_leI, nI_eq, nI_sub, m1_lt, lt_m1, m1_le, le_m1, m1_eq, eq_m1, ixd_nI, nI_addm, wp_some, wp_bnd, wp_ob1, wp_ob2, wp_ob3, wp_ob4, wp_ob5]
    rw [if_pos (by omega), wp_some, ← hv]
    rfl
  | succ j =>
    have hk' : k < d.rd := by omega
    have h1 := x_isGoing (hd.okr hk') hm hO hk'
    rw [cnt_s] at hv
    simp (disch := omega) only [f_X10_goers_b4, f_X10_goers_b26, hT.1.2.2, h1, lit, nI_add, nI_mul, nI_ltI, nI_leI, nI_eq, nI_sub, m1_lt, lt_m1, m1_le, le_m1, m1_eq, eq_m1, ixd_nI, nI_addm, bnd_eq, ob1_s, ob2_s, bI_0, bI_t, bI_f, wp_some, wp_bnd, wp_ob1, wp_ob2, wp_ob3, wp_ob4, wp_ob5]
    rw [if_neg (by omega)]
    by_cases c1 : m.gq k = false
    · rw [c1] at hv
      rw [if_pos c1]
      exact ih j _ _ (by omega) ⟨k + 1, c, rfl, rfl, by omega, hv⟩
    · rw [if_neg c1]
      simp only [Bool.not_eq_false] at c1
      rw [if_pos c1] at hv
      exact ih j _ _ (by omega) ⟨k + 1, c + 1, rfl, rfl, by omega, hv⟩
theorem x_whoRight (hd : TrG d) (hT : TrC d T) (hm : MoOK d m) (hO : MoC d m O) : f_X10_ridersWhoAreRight T O = some (nI (cnt (fun r => decide (d.g (m.co r) = d.ds r)) d.rd 0 0)) := by
  obtain ⟨b1, b2, b4⟩ := hd.b
  generalize hv : cnt (fun r => decide (d.g (m.co r) = d.ds r)) d.rd 0 0 = v
  refine wp_val.mp (wp_fl2 (fun j a x => ∃ k c, x = nI k ∧ a = nI c ∧ k + j = d.rd ∧ cnt (fun r => decide (d.g (m.co r) = d.ds r)) j k c = v) ?_ d.rd (FU_lt (by omega)) _ _ ⟨0, 0, rfl, rfl, by omega, hv⟩)
  rintro j K _ _ ⟨k, c, rfl, rfl, hk, hv⟩ ih
  cases j with
  | zero =>
    simp (disch := omega) only [f_X10_ridersWhoAreRight_b4, hT.1.2.2, lit, nI_add, nI_mul, nI_ltI, nI_leI, nI_eq, nI_sub, m1_lt, lt_m1, m1_le, le_m1, m1_eq, eq_m1, ixd_nI, nI_addm, wp_some, wp_bnd, wp_ob1, wp_ob2, wp_ob3, wp_ob4, wp_ob5]
    rw [if_pos (by omega), wp_some, ← hv]
    rfl
  | succ j =>
    have hk' : k < d.rd := by omega
    have h0 := (hO.2 k hk').1
    have h1 := x_isRight (hd.okr hk') hT hk' (hm.2.2.2.1 k hk')
    rw [cnt_s] at hv
    simp (disch := omega) only [f_X10_ridersWhoAreRight_b4, f_X10_ridersWhoAreRight_b35, hT.1.2.2, h0, h1, lit, nI_add, nI_mul, nI_ltI, nI_leI, nI_eq, nI_sub, m1_lt, lt_m1, m1_le, le_m1, m1_eq, eq_m1, ixd_nI, nI_addm, bnd_eq, ob1_s, ob2_s, bI_0, bI_t, bI_f, wp_some, wp_bnd, wp_ob1, wp_ob2, wp_ob3, wp_ob4, wp_ob5]
    rw [if_neg (by omega)]
    by_cases c1 : decide (d.g (m.co k) = d.ds k) = false
    · rw [c1] at hv
      rw [if_pos c1]
      exact ih j _ _ (by omega) ⟨k + 1, c, rfl, rfl, by omega, hv⟩
    · rw [if_neg c1]
      simp only [Bool.not_eq_false] at c1
      rw [if_pos c1] at hv
      exact ih j _ _ (by omega) ⟨k + 1, c + 1, rfl, rfl, by omega, hv⟩
theorem x_outsideSeconds (hd : TrOK d) (hT : TrC d T) {r a b : Nat} (hr : r < d.rd) (ha : a < d.n) (hb : b < d.n) : f_X10_outsideSeconds T (nI r) (nI a) (nI b) = some (nI (sOu d r a b)) := by
  have h1 := hd.n8
  have h2 := hd.r6
  have h3 := (hT.2.2.2.2.2.2 r hr).2.2.2.2.2
  unfold f_X10_outsideSeconds sOu
  rw [ixd_nI (by omega) (by omega), h3, nI_abs (by omega) (by omega), nI_mul]
theorem x_insideBegin (hd : TrOK d) (hT : TrC d T) (hm : MoOK d m) (hO : MoC d m O) {r a b s : Nat} (hr : r < d.rd) (ha : a < d.n) (hb : b < d.n) (hab : dist a b = 1) (hs : s < 2 ^ 29) : f_X10_insideBegin T O (nI r) (nI a) (nI b) (nI s) = some (nI (oC (sIB d m r a b s))) := by
  have h1 := hd.n8
  have h2 := hd.r6
  have hw : min a b + 1 < d.n := by unfold dist at hab; split at hab <;> omega
  have h3 := hd.tr9 _ hw
  have h4 := hT.2.2.2.2.1 _ hw
  have h5 := hd.inr hr
  have h6 := (hT.2.2.2.2.2.2 r hr).2.2.2.2.1
  have h7 := hd.pa9
  have h8 := hd.g3 a ha
  have h9 := hd.g3 b hb
  have h10 : max s (d.tr (min a b)) < 2 ^ 30 := by omega
  unfold f_X10_insideBegin f_X10_insideBegin_b62 f_X10_insideBegin_b94 sIB
  simp (disch := omega) only [nI_min, x_isShut hm hO (show min a b < 7 by omega), (hT.2.2.2.1 a ha).1, (hT.2.2.2.1 b hb).1, h4, nI_max, h6, (hT.2.1 (by omega)).2.1, lit, nI_add, nI_mul, nI_ltI, nI_leI, nI_eq, nI_sub, m1_lt, lt_m1, m1_le, le_m1, m1_eq, eq_m1, ixd_nI, nI_addm, bnd_eq, ob1_s, ob2_s, bI_0, bI_t, bI_f]
  by_cases c1 : m.sh.testBit (min a b) = true
  · rw [c1]; simp [oC]
  · simp only [Bool.not_eq_true] at c1
    rw [c1]
    simp only [if_true, Bool.false_eq_true, if_false]
    by_cases c2 : d.g a = d.g b
    · rw [if_pos c2, if_neg (by simp [c2])]; rfl
    · rw [if_neg c2]
      simp only [show ¬ (1 : Nat) = 0 by decide, if_false]
      by_cases c3 : max s (d.tr (min a b)) + d.ins r ≤ d.pa
      · rw [if_pos c3, if_neg (by omega)]; rfl
      · rw [if_neg c3, if_pos ⟨c2, by omega⟩]; rfl
theorem x_insideLatest (hd : TrOK d) (hT : TrC d T) (hm : MoOK d m) (hO : MoC d m O) {r a b u : Nat} (hr : r < d.rd) (ha : a < d.n) (hb : b < d.n) (hab : dist a b = 1) (hs : u < 2 ^ 29) : f_X10_insideLatest T O (nI r) (nI a) (nI b) (nI u) = some (oM (sIL d m r a b u)) := by
  have h1 := hd.n8
  have h2 := hd.r6
  have hw : min a b + 1 < d.n := by unfold dist at hab; split at hab <;> omega
  have h3 := hd.tr9 _ hw
  have h4 := hT.2.2.2.2.1 _ hw
  have h5 := hd.inr hr
  have h6 := (hT.2.2.2.2.2.2 r hr).2.2.2.2.1
  have h7 := hd.pa9
  have h10 : min u d.pa < 2 ^ 29 := by omega
  unfold f_X10_insideLatest f_X10_insideLatest_b55 sIL
  simp (disch := omega) only [nI_min, x_isShut hm hO (show min a b < 7 by omega), h4, h6, (hT.2.1 (by omega)).2.1, le_subn, lit, nI_add, nI_mul, ixd_nI, bnd_eq, ob1_s, ob2_s, bI_0, bI_t, bI_f]
  by_cases c1 : m.sh.testBit (min a b) = true
  · rw [c1]; simp [oM]
  · simp only [Bool.not_eq_true] at c1
    rw [c1]
    simp only [if_true, Bool.false_eq_true, if_false]
    by_cases c3 : d.tr (min a b) + d.ins r ≤ min u d.pa
    · rw [if_pos c3, if_pos c3, nI_sub (by omega)]; rfl
    · rw [if_neg c3, if_neg c3]; rfl
theorem x_outsideBegin (hd : TrOK d) (hT : TrC d T) {x s : Nat} (hx : x < 2 ^ 28) (hs : s < 2 ^ 28) : f_X10_outsideBegin T (nI x) (nI s) = some (nI (oC (sOB d x s))) := by
  have h0 := hd.s6
  have h1 := hd.pst
  unfold sOB
  generalize hv : fnd (fun k => decide (max s (d.hb k) + x ≤ d.he k)) (d.ps + 1) 0 = v
  refine wp_val.mp (wp_fl1 (fun j z => ∃ k, z = nI k ∧ k + j = d.ps + 1 ∧ fnd (fun k => decide (max s (d.hb k) + x ≤ d.he k)) j k = v) ?_ (d.ps + 1) (FU_lt (by omega)) _ ⟨0, rfl, by omega, hv⟩)
  rintro j K _ ⟨k, rfl, hk, hv⟩ ih
  cases j with
  | zero =>
    simp (disch := omega) only [f_X10_outsideBegin_b2, (hT.2.1 (by have := hd.n8; omega)).1, lit, nI_add, nI_mul, nI_ltI, nI_leI, nI_eq, nI_sub, m1_lt, lt_m1, m1_le, le_m1, m1_eq, eq_m1, ixd_nI, nI_addm, wp_some, wp_bnd, wp_ob1, wp_ob2, wp_ob3, wp_ob4, wp_ob5]
    rw [if_pos (by omega), wp_some, ← hv]
    rfl
  | succ j =>
    have hk' : k < d.st := by omega
    have h3 := hT.2.2.2.2.2.1 k hk'
    have h4 := hd.heb (s := k) (by omega)
    have h5 : max s (d.hb k) < 2 ^ 29 := by omega
    rw [fnd_s] at hv
    simp only [decide_eq_true_eq] at hv
    simp (disch := omega) only [f_X10_outsideBegin_b2, (hT.2.1 (by have := hd.n8; omega)).1, h3.1, h3.2, nI_max, lit, nI_add, nI_mul, nI_ltI, nI_leI, nI_eq, nI_sub, m1_lt, lt_m1, m1_le, le_m1, m1_eq, eq_m1, ixd_nI, nI_addm, bnd_eq, ob1_s, ob2_s, bI_0, bI_t, bI_f, wp_some, wp_bnd, wp_ob1, wp_ob2, wp_ob3, wp_ob4, wp_ob5]
    rw [if_neg (by omega)]
    by_cases c1 : max s (d.hb k) + x ≤ d.he k
    · rw [if_pos c1] at hv
      rw [if_neg (by omega), wp_some, ← hv]
      rfl
    · rw [if_neg c1] at hv
      rw [if_pos (by omega)]
      exact ih j _ (by omega) ⟨k + 1, rfl, by omega, hv⟩
theorem x_outsideLatest (hd : TrOK d) (hT : TrC d T) {x u : Nat} (hx : x < 2 ^ 28) (hu : u < 2 ^ 28) : f_X10_outsideLatest T (nI x) (nI u) = some (oM (sOL d x u)) := by
  have h0 := hd.s6
  have h1 := hd.pst
  unfold sOL
  generalize hv : fndD (fun k => decide (d.hb k + x ≤ min u (d.he k))) (d.ps + 1) = v
  unfold f_X10_outsideLatest
  rw [(hT.2.1 (by have := hd.n8; omega)).1, bnd_eq]
  refine wp_val.mp (wp_fl1 (fun j z => j ≤ d.ps + 1 ∧ z = nI j - 1 ∧ fndD (fun k => decide (d.hb k + x ≤ min u (d.he k))) j = v) ?_ (d.ps + 1) (FU_lt (by omega)) _ ⟨by omega, by rw [lit, nI_sub (by omega)]; rfl, hv⟩)
  rintro j K _ ⟨hj, rfl, hv⟩ ih
  cases j with
  | zero =>
    have h2 : nI 0 - 1 < (0 : Int32) := by decide
    unfold f_X10_outsideLatest_b8
    rw [if_pos h2, wp_some, ← hv]
    rfl
  | succ k =>
    have hk' : k < d.st := by omega
    have h3 := hT.2.2.2.2.2.1 k hk'
    have h4 := hd.heb (s := k) (by omega)
    rw [fndD_s] at hv
    simp only [decide_eq_true_eq] at hv
    have h5 : min u (d.he k) < 2 ^ 28 := by omega
    have h6 : nI (k + 1) - 1 = nI k := nI_pred k
    rw [h6]
    have h7 : nI k + (-1) = nI k - 1 := (Int32.sub_eq_add_neg (nI k) 1).symm
    unfold f_X10_outsideLatest_b8
    rw [h7]
    simp (disch := omega) only [h3.1, h3.2, nI_min, subn_lt, nI_ltI, ixd_nI, lit, nI_add, bnd_eq, ob1_s, ob2_s, bI_0, bI_t, bI_f, wp_some, wp_bnd, wp_ob1, wp_ob2, wp_ob3, wp_ob4, wp_ob5]
    rw [if_neg (by omega)]
    by_cases c1 : d.hb k + x ≤ min u (d.he k)
    · rw [if_pos c1] at hv
      rw [if_neg (by omega), wp_some, ← hv, nI_sub (by omega)]
      rfl
    · rw [if_neg c1] at hv
      rw [if_pos (by omega)]
      exact ih k _ (by omega) ⟨by omega, rfl, hv⟩
end
