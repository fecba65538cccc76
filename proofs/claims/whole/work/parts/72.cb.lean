/-! the class's small methods -/
theorem TrG.b {d : Tr} (h : TrG d) : d.n ≤ 8 ∧ d.st ≤ 6 ∧ d.rd ≤ 6 := by
  rcases h with h | h
  · exact ⟨h.n8.2, h.s6.2, h.r6⟩
  · omega
theorem TrG.ok {d : Tr} (h : TrG d) (hn : 0 < d.n) : TrOK d := by
  rcases h with h | h
  · exact h
  · omega
theorem TrG.okr {d : Tr} (h : TrG d) {r : Nat} (hn : r < d.rd) : TrOK d := by
  rcases h with h | h
  · exact h
  · omega
theorem TrG.oks {d : Tr} (h : TrG d) {r : Nat} (hn : r < d.st) : TrOK d := by
  rcases h with h | h
  · exact h
  · omega
def oM (o : Option Nat) : Int32 := match o with | none => -nI 1 | some k => nI k
def fnd (p : Nat → Bool) : Nat → Nat → Option Nat
  | 0, _ => none
  | m + 1, k => if p k then some k else fnd p m (k + 1)
theorem fnd_s (p : Nat → Bool) (m k : Nat) : fnd p (m + 1) k = if p k then some k else fnd p m (k + 1) := rfl
theorem fnd_some {p : Nat → Bool} {j : Nat} : ∀ {m k : Nat}, fnd p m k = some j → p j = true ∧ k ≤ j ∧ j < k + m ∧ ∀ i, k ≤ i → i < j → p i = false := by
  intro m
  induction m with
  | zero => intro k h; cases h
  | succ m ih =>
    intro k h
    unfold fnd at h
    by_cases hp : p k = true
    · rw [if_pos hp] at h; cases h
      exact ⟨hp, by omega, by omega, fun i h1 h2 => by omega⟩
    · rw [if_neg hp] at h
      obtain ⟨h1, h2, h3, h4⟩ := ih h
      refine ⟨h1, by omega, by omega, fun i h5 h6 => ?_⟩
      by_cases hi : i = k
      · subst hi; exact Bool.eq_false_iff.mpr hp
      · exact h4 i (by omega) h6
theorem fnd_none {p : Nat → Bool} : ∀ {m k : Nat}, fnd p m k = none → ∀ i, k ≤ i → i < k + m → p i = false := by
  intro m
  induction m with
  | zero => intro k h i; omega
  | succ m ih =>
    intro k h i h1 h2
    unfold fnd at h
    by_cases hp : p k = true
    · rw [if_pos hp] at h; cases h
    · rw [if_neg hp] at h
      by_cases hi : i = k
      · subst hi; exact Bool.eq_false_iff.mpr hp
      · exact ih h i (by omega) (by omega)
theorem fnd_lt {p : Nat → Bool} {j m : Nat} (h : fnd p m 0 = some j) : j < m := by
  have := (fnd_some h).2.2.1
  omega
theorem fnd_congr {p q : Nat → Bool} : ∀ {m k : Nat}, (∀ i, k ≤ i → i < k + m → p i = q i) → fnd p m k = fnd q m k := by
  intro m
  induction m with
  | zero => intro k _; rfl
  | succ m ih =>
    intro k h
    unfold fnd
    rw [h k (by omega) (by omega), ih (fun i h1 h2 => h i (by omega) (by omega))]
/-- a set as bits -/
def bset (p : Nat → Bool) : Nat → Nat → Int32 → Int32
  | 0, _, a => a
  | m + 1, k, a => bset p m (k + 1) (if p k then a ||| ((1 : Int32) <<< (nI k &&& 31)) else a)
theorem bset_s (p : Nat → Bool) (m k : Nat) (a : Int32) : bset p (m + 1) k a = bset p m (k + 1) (if p k then a ||| ((1 : Int32) <<< (nI k &&& 31)) else a) := rfl
theorem bset_congr {p q : Nat → Bool} : ∀ {m k : Nat} {a : Int32}, (∀ i, k ≤ i → i < k + m → p i = q i) → bset p m k a = bset q m k a := by
  intro m
  induction m with
  | zero => intro k a _; rfl
  | succ m ih =>
    intro k a h
    unfold bset
    rw [h k (by omega) (by omega), ih (fun i h1 h2 => h i (by omega) (by omega))]
theorem or_step : ∀ (v : Fin 64) (k : Fin 6), nI v ||| ((1 : Int32) <<< (nI k &&& 31)) = nI (v ||| 2 ^ k.val) ∧ (v.val ||| 2 ^ k.val) < 64 := by decide +kernel
theorem bset_lt (p : Nat → Bool) : ∀ {m k v : Nat}, k + m ≤ 6 → v < 64 → ∃ w, w < 64 ∧ bset p m k (nI v) = nI w := by
  intro m
  induction m with
  | zero => intro k v _ hv; exact ⟨v, hv, rfl⟩
  | succ m ih =>
    intro k v hk hv
    unfold bset
    by_cases hp : p k = true
    · rw [if_pos hp]
      have h := or_step ⟨v, hv⟩ ⟨k, by omega⟩
      simp only at h
      rw [h.1]
      exact ih (by omega) h.2
    · rw [if_neg hp]
      exact ih (by omega) hv
/-- how many -/
def cnt (p : Nat → Bool) : Nat → Nat → Nat → Nat
  | 0, _, a => a
  | m + 1, k, a => cnt p m (k + 1) (if p k then a + 1 else a)
theorem cnt_s (p : Nat → Bool) (m k a : Nat) : cnt p (m + 1) k a = cnt p m (k + 1) (if p k then a + 1 else a) := rfl
theorem cnt_congr {p q : Nat → Bool} : ∀ {m k a : Nat}, (∀ i, k ≤ i → i < k + m → p i = q i) → cnt p m k a = cnt q m k a := by
  intro m
  induction m with
  | zero => intro k a _; rfl
  | succ m ih =>
    intro k a h
    unfold cnt
    rw [h k (by omega) (by omega), ih (fun i h1 h2 => h i (by omega) (by omega))]
theorem cnt_le (p : Nat → Bool) : ∀ {m k a : Nat}, cnt p m k a ≤ a + m := by
  intro m
  induction m with
  | zero => intro k a; exact Nat.le_refl _
  | succ m ih =>
    intro k a
    unfold cnt
    by_cases hp : p k = true
    · rw [if_pos hp]; have := @ih (k + 1) (a + 1); omega
    · rw [if_neg hp]; have := @ih (k + 1) a; omega
theorem sh_bit : ∀ (v : Fin 128) (w : Fin 7), (nI v &&& ((1 : Int32) <<< (nI w &&& 31)) = 0) ↔ v.val.testBit w = false := by decide +kernel
theorem nI_out {p : Int32} {n : Nat} (hn : n < 2 ^ 31) (h : ∀ c, c < n → p ≠ nI c) : p < 0 ∨ nI n ≤ p := by
  by_cases h0 : p < 0
  · exact Or.inl h0
  · obtain ⟨j, hj, rfl⟩ := nI_of h0
    right
    rw [nI_leI hn hj]
    by_cases hc : j < n
    · exact absurd rfl (h j hc)
    · omega
def plc (m : Mo) (r : Nat) : Nat := if m.gq r then m.to r else m.co r
section
variable {d : Tr} {m : Mo} {T O : Sg}
theorem x_hasLine (hd : TrG d) (hT : TrC d T) : f_X10_hasLine T = some (decide (0 < d.n)) := by
  obtain ⟨h1, -, -⟩ := hd.b
  unfold f_X10_hasLine
  simp (disch := omega) only [hT.1.1, lit, nI_add, nI_mul, nI_ltI, nI_leI, nI_eq, nI_sub, m1_lt, lt_m1, m1_le, le_m1, m1_eq, eq_m1, ixd_nI, nI_addm]
  by_cases h : d.n ≤ 0
  · rw [if_pos h]; simp; omega
  · rw [if_neg h]; simp; omega
theorem x_hasCoach (hd : TrG d) (hT : TrC d T) {c : Nat} (hc : c < d.n) : f_X10_hasCoach T (nI c) = some true := by
  obtain ⟨h1, -, -⟩ := hd.b
  unfold f_X10_hasCoach
  simp (disch := omega) only [hT.1.1, lit, nI_add, nI_mul, nI_ltI, nI_leI, nI_eq, nI_sub, m1_lt, lt_m1, m1_le, le_m1, m1_eq, eq_m1, ixd_nI, nI_addm]
  rw [if_neg (by omega), if_neg (by omega)]
theorem x_hasCoachN (hd : TrG d) (hT : TrC d T) {p : Int32} (hp : ∀ c, c < d.n → p ≠ nI c) : f_X10_hasCoach T p = some false := by
  obtain ⟨h1, -, -⟩ := hd.b
  unfold f_X10_hasCoach f_X10_hasCoach_b19
  rw [hT.1.1]
  rcases nI_out (by omega) hp with h | h
  · rw [if_pos h]
  · rw [if_pos h]; split <;> rfl
theorem x_hasRider (hd : TrG d) (hT : TrC d T) {c : Nat} (hc : c < d.rd) : f_X10_hasRider T (nI c) = some true := by
  obtain ⟨-, -, h1⟩ := hd.b
  unfold f_X10_hasRider
  simp (disch := omega) only [hT.1.2.2, lit, nI_add, nI_mul, nI_ltI, nI_leI, nI_eq, nI_sub, m1_lt, lt_m1, m1_le, le_m1, m1_eq, eq_m1, ixd_nI, nI_addm]
  rw [if_neg (by omega), if_neg (by omega)]
theorem x_hasRiderN (hd : TrG d) (hT : TrC d T) {p : Int32} (hp : ∀ c, c < d.rd → p ≠ nI c) : f_X10_hasRider T p = some false := by
  obtain ⟨-, -, h1⟩ := hd.b
  unfold f_X10_hasRider f_X10_hasRider_b19
  rw [hT.1.2.2]
  rcases nI_out (by omega) hp with h | h
  · rw [if_pos h]
  · rw [if_pos h]; split <;> rfl
theorem nI_dec (hd : TrG d) : d.n = 0 ∧ nI d.n - 1 = -nI 1 ∨ 0 < d.n ∧ nI d.n - 1 = nI (d.n - 1) := by
  by_cases h : d.n = 0
  · left; rw [h]; exact ⟨rfl, by decide⟩
  · right; exact ⟨by omega, by rw [lit]; exact nI_sub (by omega)⟩
theorem x_hasWay (hd : TrG d) (hT : TrC d T) {c : Nat} (hc : c + 1 < d.n) : f_X10_hasWay T (nI c) = some true := by
  obtain ⟨h1, -, -⟩ := hd.b
  unfold f_X10_hasWay
  simp (disch := omega) only [hT.1.1, lit, nI_add, nI_mul, nI_ltI, nI_leI, nI_eq, nI_sub, m1_lt, lt_m1, m1_le, le_m1, m1_eq, eq_m1, ixd_nI, nI_addm]
  rw [if_neg (by omega), if_neg (by omega)]
theorem x_hasWayN (hd : TrG d) (hT : TrC d T) {p : Int32} (hp : ∀ c, c + 1 < d.n → p ≠ nI c) : f_X10_hasWay T p = some false := by
  obtain ⟨h1, -, -⟩ := hd.b
  unfold f_X10_hasWay f_X10_hasWay_b21
  rw [hT.1.1]
  by_cases h0 : p < 0
  · rw [if_pos h0]
  · rw [if_neg h0]
    rcases nI_dec hd with ⟨h2, h3⟩ | ⟨h2, h3⟩
    · rw [h3]
      obtain ⟨j, hj, rfl⟩ := nI_of h0
      rw [if_pos ((m1_le hj).mpr trivial)]
    · rw [h3]
      rcases nI_out (n := d.n - 1) (by omega) (fun c hc => hp c (by omega)) with h | h
      · exact absurd h h0
      · rw [if_pos h]
theorem x_isShut (hm : MoOK d m) (hO : MoC d m O) {w : Nat} (hw : w < 7) : f_X10_isShut O (nI w) = some (m.sh.testBit w) := by
  unfold f_X10_isShut
  rw [hO.1.2]
  have h := sh_bit ⟨m.sh, hm.2.1⟩ ⟨w, hw⟩
  simp only at h
  by_cases hb : m.sh.testBit w = false
  · rw [if_pos (h.mpr hb), hb]
  · rw [if_neg (fun e => hb (h.mp e))]
    simp only [Bool.not_eq_false] at hb
    rw [hb]
theorem x_isRight (hd : TrOK d) (hT : TrC d T) {r c : Nat} (hr : r < d.rd) (hc : c < d.n) : f_X10_isRight T (nI r) (nI c) = some (decide (d.g c = d.ds r)) := by
  have h1 := hd.n8
  have h2 := hd.r6
  have h3 := hd.g3 c hc
  have h4 := (hd.rr r hr).1
  unfold f_X10_isRight
  simp (disch := omega) only [(hT.2.2.2.1 c hc).1, (hT.2.2.2.2.2.2 r hr).1, lit, nI_add, nI_mul, nI_ltI, nI_leI, nI_eq, nI_sub, m1_lt, lt_m1, m1_le, le_m1, m1_eq, eq_m1, ixd_nI, nI_addm]
  by_cases h : d.g c = d.ds r
  · rw [if_pos h]; simp [h]
  · rw [if_neg h]; simp [h]
theorem x_isGoing (hd : TrOK d) (hm : MoOK d m) (hO : MoC d m O) {r : Nat} (hr : r < d.rd) : f_X10_isGoing O (nI r) = some (m.gq r) := by
  have h1 := hd.n8
  have h2 := hd.r6
  have h3 := (hO.2 r hr).2.1
  unfold f_X10_isGoing
  by_cases h : m.gq r = true
  · have h4 := (hm.2.2.2.2 r hr h).1
    rw [h, if_pos rfl] at h3
    simp (disch := omega) only [h3, lit, nI_add, nI_mul, nI_ltI, nI_leI, nI_eq, nI_sub, m1_lt, lt_m1, m1_le, le_m1, m1_eq, eq_m1, ixd_nI, nI_addm, if_false, h]
  · simp only [Bool.not_eq_true] at h
    rw [h] at h3
    simp only [Bool.false_eq_true, if_false] at h3
    simp (disch := omega) only [h3, lit, nI_add, nI_mul, nI_ltI, nI_leI, nI_eq, nI_sub, m1_lt, lt_m1, m1_le, le_m1, m1_eq, eq_m1, ixd_nI, nI_addm, if_true, h]
theorem plc_lt (hm : MoOK d m) {r : Nat} (hr : r < d.rd) : plc m r < d.n := by
  unfold plc
  by_cases h : m.gq r = true
  · rw [if_pos h]; exact (hm.2.2.2.2 r hr h).1
  · rw [if_neg h]; exact hm.2.2.2.1 r hr
theorem x_placeOf (hd : TrOK d) (hm : MoOK d m) (hO : MoC d m O) {r : Nat} (hr : r < d.rd) : f_X10_placeOf O (nI r) = some (nI (plc m r)) := by
  have h2 := hd.r6
  have h3 := (hO.2 r hr).2.1
  have h5 := (hO.2 r hr).1
  unfold f_X10_placeOf plc
  rw [x_isGoing hd hm hO hr, ob1_s]
  by_cases h : m.gq r = true
  · rw [h, if_pos rfl] at h3
    rw [h]
    simp (disch := omega) only [h3, lit, nI_add, nI_mul, nI_ltI, nI_leI, nI_eq, nI_sub, m1_lt, lt_m1, m1_le, le_m1, m1_eq, eq_m1, ixd_nI, nI_addm, bnd_eq, ob1_s, ob2_s, bI_0, bI_t, bI_f, if_false, if_true, reduceCtorEq]
  · simp only [Bool.not_eq_true] at h
    rw [h]
    simp (disch := omega) only [h5, lit, nI_add, nI_mul, nI_ltI, nI_leI, nI_eq, nI_sub, m1_lt, lt_m1, m1_le, le_m1, m1_eq, eq_m1, ixd_nI, nI_addm, bnd_eq, ob1_s, ob2_s, bI_0, bI_t, bI_f, if_false, if_true, reduceCtorEq]
theorem x_haltingStop (hd : TrG d) (hT : TrC d T) (hm : MoOK d m) (hO : MoC d m O) : f_X10_haltingStop T O = some (oM (fnd (fun s => decide (d.hb s ≤ m.sec) && decide (m.sec ≤ d.he s)) d.st 0)) := by
  obtain ⟨-, b2, -⟩ := hd.b
  have b3 := hm.1
  generalize hv : fnd (fun s => decide (d.hb s ≤ m.sec) && decide (m.sec ≤ d.he s)) d.st 0 = v
  refine wp_val.mp (wp_fl1 (fun j x => ∃ k, x = nI k ∧ k + j = d.st ∧ fnd (fun s => decide (d.hb s ≤ m.sec) && decide (m.sec ≤ d.he s)) j k = v) ?_ d.st (FU_lt (by omega)) _ ⟨0, rfl, by omega, hv⟩)
  rintro j K _ ⟨k, rfl, hk, hv⟩ ih
  cases j with
  | zero =>
    simp (disch := omega) only [f_X10_haltingStop_b2, hT.1.2.1, lit, nI_add, nI_mul, nI_ltI, nI_leI, nI_eq, nI_sub, m1_lt, lt_m1, m1_le, le_m1, m1_eq, eq_m1, ixd_nI, nI_addm, wp_some, wp_bnd, wp_ob1, wp_ob2, wp_ob3, wp_ob4, wp_ob5]
    rw [if_pos (by omega), wp_some, ← hv]
    rfl
  | succ j =>
    have hk' : k < d.st := by omega
    have ok := hd.oks hk'
    have h1 := hT.2.2.2.2.2.1 k hk'
    have h2 := ok.hh k hk'
    rw [fnd_s] at hv
    simp (disch := omega) only [f_X10_haltingStop_b2, f_X10_haltingStop_b53, hT.1.2.1, h1.1, h1.2, hO.1.1, lit, nI_add, nI_mul, nI_ltI, nI_leI, nI_eq, nI_sub, m1_lt, lt_m1, m1_le, le_m1, m1_eq, eq_m1, ixd_nI, nI_addm, wp_some, wp_bnd, wp_ob1, wp_ob2, wp_ob3, wp_ob4, wp_ob5]
    rw [if_neg (by omega)]
    by_cases c1 : m.sec < d.hb k
    · rw [if_neg (by simp; omega)] at hv
      rw [if_pos c1]
      exact ih j _ (by omega) ⟨k + 1, rfl, by omega, hv⟩
    · rw [if_neg c1]
      by_cases c2 : d.he k < m.sec
      · rw [if_neg (by simp; omega)] at hv
        rw [if_pos c2]
        exact ih j _ (by omega) ⟨k + 1, rfl, by omega, hv⟩
      · rw [if_pos (by simp; omega)] at hv
        rw [if_neg c2, wp_some, ← hv]
        rfl
theorem x_ridersIn (hd : TrG d) (hT : TrC d T) (hm : MoOK d m) (hO : MoC d m O) {c : Nat} (hc : c < d.n) : f_X10_ridersIn T O (nI c) = some (bset (fun r => decide (m.co r = c)) d.rd 0 (nI 0)) := by
  obtain ⟨b1, b2, b4⟩ := hd.b
  have b3 := hm.1
  generalize hv : bset (fun r => decide (m.co r = c)) d.rd 0 (nI 0) = v
  refine wp_val.mp (wp_fl2 (fun j a x => ∃ k, x = nI k ∧ k + j = d.rd ∧ bset (fun r => decide (m.co r = c)) j k a = v) ?_ d.rd (FU_lt (by omega)) _ _ ⟨0, rfl, by omega, hv⟩)
  rintro j K a _ ⟨k, rfl, hk, hv⟩ ih
  cases j with
  | zero =>
    simp (disch := omega) only [f_X10_ridersIn_b4, hT.1.2.2, lit, nI_add, nI_mul, nI_ltI, nI_leI, nI_eq, nI_sub, m1_lt, lt_m1, m1_le, le_m1, m1_eq, eq_m1, ixd_nI, nI_addm, wp_some, wp_bnd, wp_ob1, wp_ob2, wp_ob3, wp_ob4, wp_ob5]
    rw [if_pos (by omega), wp_some, ← hv]
    rfl
  | succ j =>
    have hk' : k < d.rd := by omega
    have h1 := (hO.2 k hk').1
    have h2 := hm.2.2.2.1 k hk'
    rw [bset_s] at hv
    simp only [decide_eq_true_eq, lit] at hv
    simp (disch := omega) only [f_X10_ridersIn_b4, f_X10_ridersIn_b34, hT.1.2.2, h1, lit, nI_add, nI_mul, nI_ltI, nI_leI, nI_eq, nI_sub, m1_lt, lt_m1, m1_le, le_m1, m1_eq, eq_m1, ixd_nI, nI_addm, bnd_eq, ob1_s, ob2_s, bI_0, bI_t, bI_f, wp_some, wp_bnd, wp_ob1, wp_ob2, wp_ob3, wp_ob4, wp_ob5]
    rw [if_neg (by omega)]
    by_cases c1 : m.co k = c
    · rw [if_pos c1] at hv ⊢
      exact ih j _ _ (by omega) ⟨k + 1, rfl, by omega, hv⟩
    · rw [if_neg c1] at hv ⊢
      exact ih j _ _ (by omega) ⟨k + 1, rfl, by omega, hv⟩
end
