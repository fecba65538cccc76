/-! put -/
def lk : List Nat → Nat → Nat
  | [], _ => 0
  | a :: _, 0 => a
  | _ :: l, i + 1 => lk l i
theorem lk_app1 : ∀ (l k : List Nat) (i : Nat), i < l.length → lk (l ++ k) i = lk l i := by
  intro l
  induction l with
  | nil => intro k i h; simp at h
  | cons a l ih =>
    intro k i h
    cases i with
    | zero => rfl
    | succ i => exact ih k i (by simp at h; omega)
theorem lk_app2 : ∀ (l k : List Nat) (i : Nat), l.length ≤ i → lk (l ++ k) i = lk k (i - l.length) := by
  intro l
  induction l with
  | nil => intro k i h; rfl
  | cons a l ih =>
    intro k i h
    cases i with
    | zero => simp at h
    | succ i =>
      have h2 : l.length ≤ i := by simp at h; omega
      show lk (l ++ k) i = lk k (i + 1 - (l.length + 1))
      rw [ih k i h2, show i + 1 - (l.length + 1) = i - l.length by omega]
/-- an array that begins with a row -/
def hol (A : Nat → Int32) (l : List Nat) : Prop := ∀ i, i < l.length → A i = nI (lk l i)
theorem hol_app {A : Nat → Int32} {l : List Nat} (h : hol A l) (x : Nat) : hol (upd A l.length (nI x)) (l ++ [x]) := by
  intro i hi
  simp only [List.length_append, List.length_cons, List.length_nil] at hi
  rw [upd_at]
  by_cases e : i = l.length
  · rw [if_pos e, lk_app2 _ _ _ (by omega), e, Nat.sub_self]; rfl
  · rw [if_neg e, lk_app1 _ _ _ (by omega)]; exact h i (by omega)
def dig (o : Nat) : List Nat := [o / 64 % 4, o / 16 % 4, o / 4 % 4, o % 4]
def ltL : List Nat → List Nat → Bool
  | a :: l, b :: k => if a = b then ltL l k else decide (a < b)
  | _, _ => false
theorem ltL_same (x l k : List Nat) : ltL (x ++ l) (x ++ k) = ltL l k := by
  induction x with
  | nil => rfl
  | cons a x ih => show (if a = a then ltL (x ++ l) (x ++ k) else _) = _; rw [if_pos rfl]; exact ih
def expd (mc : Nat → Nat) (l : List Nat) : List Nat := l.flatMap (fun a => List.replicate (mc a) a)
theorem expd_c (mc : Nat → Nat) (a : Nat) (l : List Nat) : expd mc (a :: l) = List.replicate (mc a) a ++ expd mc l := by unfold expd; rw [List.flatMap_cons]
theorem ltL_exp {mc : Nat → Nat} : ∀ (l k : List Nat), (∀ a, a ∈ l → 0 < mc a) → (∀ a, a ∈ k → 0 < mc a) → ltL (expd mc l) (expd mc k) = ltL l k := by
  intro l
  induction l with
  | nil =>
    intro k _ _
    show ltL [] _ = ltL [] _
    cases k <;> rfl
  | cons a l ih =>
    intro k hl hk
    have ha := hl a List.mem_cons_self
    cases k with
    | nil =>
      rw [expd_c]
      show ltL _ [] = false
      cases (List.replicate (mc a) a ++ expd mc l) <;> rfl
    | cons b k =>
      have hb := hk b List.mem_cons_self
      rw [expd_c, expd_c]
      show _ = (if a = b then ltL l k else decide (a < b))
      by_cases e : a = b
      · subst e
        rw [if_pos rfl, ltL_same]
        exact ih k (fun x hx => hl x (List.mem_cons_of_mem _ hx)) (fun x hx => hk x (List.mem_cons_of_mem _ hx))
      · rw [if_neg e]
        obtain ⟨p, hp⟩ : ∃ p, mc a = p + 1 := ⟨mc a - 1, by omega⟩
        obtain ⟨q, hq⟩ : ∃ q, mc b = q + 1 := ⟨mc b - 1, by omega⟩
        rw [hp, hq, List.replicate_succ, List.replicate_succ]
        show (if a = b then _ else decide (a < b)) = _
        rw [if_neg e]
/-- without the dests to which no coach goes -/
def red (E : Nat) (l : List Nat) : List Nat := l.filter (fun a => !(E.testBit a))
theorem expd_red {mc : Nat → Nat} {E : Nat} : ∀ (l : List Nat), (∀ a, a ∈ l → (E.testBit a = true ↔ mc a = 0)) → expd mc l = expd mc (red E l) := by
  intro l
  induction l with
  | nil => intro _; rfl
  | cons a l ih =>
    intro h
    have h1 := h a List.mem_cons_self
    have h2 := ih (fun x hx => h x (List.mem_cons_of_mem _ hx))
    unfold red at h2 ⊢
    rw [expd_c]
    by_cases e : E.testBit a = true
    · rw [List.filter_cons, if_neg (by simp [e]), ← h2, h1.mp e]; rfl
    · rw [List.filter_cons, if_pos (by simp [e]), expd_c, ← h2]
def prm : List Nat := (List.range 256).filter (fun o => decide (dig o).Nodup)
def pchk : Bool := (List.range 16).all (fun E => prm.all (fun o => prm.all (fun b => !(decide (b < o)) || !(ltL (red E (dig o)) (red E (dig b))) || prm.any (fun q => decide (q < b) && decide (red E (dig q) = red E (dig o))))))
theorem pchk_ok : pchk = true := by decide +kernel
theorem prm_iff {o : Nat} : o ∈ prm ↔ o < 256 ∧ (dig o).Nodup := by
  unfold prm
  rw [List.mem_filter, List.mem_range, decide_eq_true_eq]
theorem p_key {E o b : Nat} (hE : E < 16) (ho : o < 256) (hod : (dig o).Nodup) (hbd : (dig b).Nodup) (hbo : b < o) (h : ltL (red E (dig o)) (red E (dig b)) = true) : ∃ q, q < b ∧ (dig q).Nodup ∧ red E (dig q) = red E (dig o) := by
  have h1 := pchk_ok
  unfold pchk at h1
  rw [List.all_eq_true] at h1
  have h2 := h1 E (List.mem_range.mpr hE)
  rw [List.all_eq_true] at h2
  have h3 := h2 o (prm_iff.mpr ⟨ho, hod⟩)
  rw [List.all_eq_true] at h3
  have h4 := h3 b (prm_iff.mpr ⟨by omega, hbd⟩)
  simp only [Bool.or_eq_true, Bool.not_eq_true', decide_eq_false_iff_not, List.any_eq_true, Bool.and_eq_true, decide_eq_true_eq] at h4
  rcases h4 with (h4 | h4) | ⟨q, h5, h6, h7⟩
  · exact absurd hbo h4
  · rw [h] at h4; cases h4
  · exact ⟨q, h6, (prm_iff.mp h5).2, h7⟩
theorem dig_lt {o a : Nat} (h : a ∈ dig o) : a < 4 := by
  unfold dig at h
  simp only [List.mem_cons, List.not_mem_nil, or_false] at h
  rcases h with rfl | rfl | rfl | rfl <;> exact Nat.mod_lt _ (by decide)
/-- of coaches with a dest -/
def mcD (d : Tr) (k a : Nat) : Nat := cN (fun c => decide (d.g c = a)) k
theorem mcD_s (d : Tr) (k a : Nat) : mcD d (k + 1) a = mcD d k a + (if d.g k = a then 1 else 0) := by
  unfold mcD
  rw [cN_s]
  simp only [decide_eq_true_eq]
theorem sum_ite (x : Nat) : ∀ (l : List Nat), l.Nodup → (l.map (fun a => if x = a then 1 else 0)).sum = if x ∈ l then 1 else 0 := by
  intro l
  induction l with
  | nil => intro _; rfl
  | cons a l ih =>
    intro h
    have h2 := List.nodup_cons.mp h
    rw [List.map_cons, List.sum_cons, ih h2.2]
    by_cases e : x = a
    · subst e
      rw [if_pos rfl, if_neg h2.1, if_pos List.mem_cons_self]
    · rw [if_neg e]
      by_cases e2 : x ∈ l
      · rw [if_pos e2, if_pos (List.mem_cons_of_mem _ e2)]
      · rw [if_neg e2, if_neg (fun h3 => by rcases List.mem_cons.mp h3 with h4 | h4; exact e h4; exact e2 h4)]
theorem sum_add (f g : Nat → Nat) : ∀ (l : List Nat), (l.map (fun a => f a + g a)).sum = (l.map f).sum + (l.map g).sum := by
  intro l
  induction l with
  | nil => rfl
  | cons a l ih => rw [List.map_cons, List.map_cons, List.map_cons, List.sum_cons, List.sum_cons, List.sum_cons, ih]; omega
theorem sum_mc (d : Tr) (l : List Nat) (hl : l.Nodup) : ∀ k, (l.map (mcD d k)).sum ≤ k ∧ ((∀ c, c < k → d.g c ∈ l) → (l.map (mcD d k)).sum = k) := by
  intro k
  induction k with
  | zero =>
    have : (l.map (mcD d 0)).sum = 0 := by
      clear hl
      induction l with
      | nil => rfl
      | cons a l ih => rw [List.map_cons, List.sum_cons, ih]; rfl
    rw [this]
    exact ⟨Nat.le_refl _, fun _ => rfl⟩
  | succ k ih =>
    have e : (l.map (mcD d (k + 1))).sum = (l.map (mcD d k)).sum + (l.map (fun a => if d.g k = a then 1 else 0)).sum := by
      rw [← sum_add]
      congr 1
      apply List.map_congr_left
      intro a _
      exact mcD_s d k a
    rw [e, sum_ite _ _ hl]
    refine ⟨?_, fun h => ?_⟩
    · split <;> omega
    · rw [if_pos (h k (by omega)), ih.2 (fun c hc => h c (by omega))]
theorem expd_len (mc : Nat → Nat) : ∀ (l : List Nat), (expd mc l).length = (l.map mc).sum := by
  intro l
  induction l with
  | nil => rfl
  | cons a l ih => rw [expd_c, List.length_append, List.length_replicate, ih, List.map_cons, List.sum_cons]
theorem dig_all : ∀ (o : Fin 256) (x : Fin 4), (dig o).Nodup → x.val ∈ dig o := by decide +kernel
/-- coaches put in an order -/
def lP (d : Tr) (o : Nat) : List Nat := expd (mcD d d.n) (dig o)
theorem lP_len {d : Tr} (hd : TrOK d) {o : Nat} (ho : o < 256) (hod : (dig o).Nodup) : (lP d o).length = d.n := by
  unfold lP
  rw [expd_len]
  refine (sum_mc d (dig o) hod d.n).2 (fun c hc => ?_)
  have := hd.g3 c hc
  exact dig_all ⟨o, ho⟩ ⟨d.g c, by omega⟩ hod
def emp (d : Tr) : Nat := (if mcD d d.n 0 = 0 then 1 else 0) + (if mcD d d.n 1 = 0 then 2 else 0) + (if mcD d d.n 2 = 0 then 4 else 0) + (if mcD d d.n 3 = 0 then 8 else 0)
theorem emp_ok (d : Tr) : emp d < 16 ∧ ∀ a, a < 4 → ((emp d).testBit a = true ↔ mcD d d.n a = 0) := by
  unfold emp
  refine ⟨?_, fun a ha => ?_⟩
  · split <;> split <;> split <;> split <;> omega
  · have h : a = 0 ∨ a = 1 ∨ a = 2 ∨ a = 3 := by omega
    by_cases c0 : mcD d d.n 0 = 0 <;> by_cases c1 : mcD d d.n 1 = 0 <;> by_cases c2 : mcD d d.n 2 = 0 <;> by_cases c3 : mcD d d.n 3 = 0 <;> rcases h with rfl | rfl | rfl | rfl <;> simp [c0, c1, c2, c3, Nat.testBit]
theorem lP_red (d : Tr) (o : Nat) : lP d o = expd (mcD d d.n) (red (emp d) (dig o)) := expd_red (dig o) (fun a ha => (emp_ok d).2 a (dig_lt ha))
theorem lP_key {d : Tr} {o b : Nat} (ho : o < 256) (hod : (dig o).Nodup) (hbd : (dig b).Nodup) (hbo : b < o) (h : ltL (lP d o) (lP d b) = true) : ∃ q, q < b ∧ (dig q).Nodup ∧ lP d q = lP d o := by
  have hpos : ∀ o a, a ∈ red (emp d) (dig o) → 0 < mcD d d.n a := by
    intro o a ha
    unfold red at ha
    rw [List.mem_filter] at ha
    have h2 := (emp_ok d).2 a (dig_lt ha.1)
    have h3 := ha.2
    simp only [Bool.not_eq_true'] at h3
    have : ¬ mcD d d.n a = 0 := fun h4 => by rw [h2.mpr h4] at h3; cases h3
    omega
  rw [lP_red, lP_red, ltL_exp _ _ (hpos o) (hpos b)] at h
  obtain ⟨q, h1, h2, h3⟩ := p_key (emp_ok d).1 ho hod hbd hbo h
  exact ⟨q, h1, h2, by rw [lP_red, lP_red, h3]⟩
/-- how many are misplaced -/
def cst (d : Tr) (m : Mo) (l : List Nat) : Nat := cnt (fun r => !(decide (lk l (m.co r) = d.ds r))) d.rd 0 0
def fo (d : Tr) (m : Mo) : Nat → Nat → Nat × Option Nat → Nat × Option Nat
  | 0, _, t => t
  | j + 1, o, t => if (dig o).Nodup ∧ cst d m (lP d o) < t.1 then fo d m j (o + 1) (cst d m (lP d o), some o) else fo d m j (o + 1) t
theorem fo_s (d : Tr) (m : Mo) (j o : Nat) (t : Nat × Option Nat) : fo d m (j + 1) o t = if (dig o).Nodup ∧ cst d m (lP d o) < t.1 then fo d m j (o + 1) (cst d m (lP d o), some o) else fo d m j (o + 1) t := rfl
theorem cst_le (d : Tr) (m : Mo) (l : List Nat) : cst d m l ≤ d.rd := by
  have := @cnt_le (fun r => !(decide (lk l (m.co r) = d.ds r))) d.rd 0 0
  unfold cst
  omega
