/-! the class's tokens -/
def qwN (v : Nat) : Int32 := qix v qWC 0
def qwd (b : Nat → Int32) (n p : Nat) : Nat := qpk b p (qlE b n p - p)
def qdv (b : Nat → Int32) (p : Nat) : Nat → Nat
  | 0 => 0
  | m + 1 => qdv b p m * 10 + ((b (p + m)).toInt.toNat - 48)
def qtw (b : Nat → Int32) (n p : Nat) : Bool := decide ((b p = 60 ∨ b p = 62) ∧ p + 1 < n ∧ b (p + 1) = 61)
def qkd (b : Nat → Int32) (n p : Nat) : Nat := if p < n then (if qdg b n p = true then 1 else if qlt b n p = true then 2 else 3) else 0
def qte (b : Nat → Int32) (n p : Nat) : Nat := if p < n then (if qdg b n p = true then qdE b n p else if qlt b n p = true then qlE b n p else if qtw b n p = true then p + 2 else p + 1) else p
def qvl (b : Nat → Int32) (n p : Nat) : Int32 := if p < n then (if qdg b n p = true then (if qdE b n p - p ≤ 5 then nI (qdv b p (qdE b n p - p)) else -1) else if qlt b n p = true then qwN (qwd b n p) else if qtw b n p = true then 256 + b p else b p) else 0
def qtp (b : Nat → Int32) (n : Nat) : Nat → Nat
  | 0 => qsp b n 0
  | k + 1 => qsp b n (qte b n (qtp b n k))
def TL (b : Nat → Int32) (n : Nat) (Q : Sg) : Prop := Q.1 1 = nI n ∧ ∀ i, i < n → Q.2.1 0 i = b i
theorem x_dig (v : Int32) : f_X8_isDigit v = some (decide (48 ≤ v) && decide (v ≤ 57)) := by
  unfold f_X8_isDigit f_X8_isDigit_b16
  by_cases h : v < 48
  · rw [if_pos h, decide_eq_false (Int32.not_le.mpr h)]; rfl
  · rw [if_neg h, decide_eq_true (Int32.not_lt.mp h)]
    by_cases h2 : 57 < v
    · rw [if_pos h2, decide_eq_false (Int32.not_le.mpr h2)]; rfl
    · rw [if_neg h2, decide_eq_true (Int32.not_lt.mp h2)]; rfl
theorem x_sml (v : Int32) : f_X8_isSmall v = some (decide (97 ≤ v) && decide (v ≤ 122)) := by
  unfold f_X8_isSmall f_X8_isSmall_b16
  by_cases h : v < 97
  · rw [if_pos h, decide_eq_false (Int32.not_le.mpr h)]; rfl
  · rw [if_neg h, decide_eq_true (Int32.not_lt.mp h)]
    by_cases h2 : 122 < v
    · rw [if_pos h2, decide_eq_false (Int32.not_le.mpr h2)]; rfl
    · rw [if_neg h2, decide_eq_true (Int32.not_lt.mp h2)]; rfl
section
variable {b : Nat → Int32} {n : Nat}
theorem qdv_le {p : Nat} : ∀ m, (∀ i, p ≤ i → i < p + m → qdg b n i = true) → qdv b p m < 10 ^ m := by
  intro m
  induction m with
  | zero => intro _; exact Nat.one_pos
  | succ m ih =>
    intro h
    have h1 := ih (fun i h1 h2 => h i h1 (by omega))
    obtain ⟨_, c, e, c1, c2⟩ := qdg_c (h (p + m) (by omega) (by omega))
    show qdv b p m * 10 + ((b (p + m)).toInt.toNat - 48) < 10 ^ (m + 1)
    rw [e, nI_toInt (by omega), Int.toNat_natCast, Nat.pow_succ]
    omega
theorem qdv_s {p m : Nat} {x : Int32} (h : qdg b n (p + m) = true) (hx : x = nI (qdv b p m)) : x * 10 + b (p + m) - 48 = nI (qdv b p (m + 1)) ∧ 10 * x + b (p + m) - 48 = nI (qdv b p (m + 1)) := by
  obtain ⟨_, c, e, c1, c2⟩ := qdg_c h
  have e2 : qdv b p (m + 1) = qdv b p m * 10 + (c - 48) := by
    show qdv b p m * 10 + ((b (p + m)).toInt.toNat - 48) = _
    rw [e, nI_toInt (by omega), Int.toNat_natCast]
  rw [e2, e, hx, show (10 : Int32) = nI 10 from rfl, show (48 : Int32) = nI 48 from rfl, nI_mul, nI_mul, nI_add, nI_add, nI_sub (by omega), nI_sub (by omega)]
  exact ⟨by congr 1; omega, by congr 1; omega⟩
theorem qdE_un {p q : Nat} (hn : q ≤ n) (hp : p ≤ q) (h : ∀ i, p ≤ i → i < q → qdg b n i = true) (h2 : qdg b n q = false) : qdE b n p = q := qrn_un n p q (by omega) hp h h2
theorem qlE_un {p q : Nat} (hn : q ≤ n) (hp : p ≤ q) (h : ∀ i, p ≤ i → i < q → qlt b n i = true) (h2 : qlt b n q = false) : qlE b n p = q := qrn_un n p q (by omega) hp h h2
theorem qsp_un {p q : Nat} (hn : q ≤ n) (hp : p ≤ q) (h : ∀ i, p ≤ i → i < q → qbl b n i = true) (h2 : qbl b n q = false) : qsp b n p = q := qrn_un n p q (by omega) hp h h2
theorem x_scanNumber {Q : Sg} (hQ : TL b n Q) (hn : n ≤ 400) {p k : Nat} (hp : p < n) (h6 : Q.1 6 = nI k) (hk : k ≤ 400) : f_X8_scanNumber Q (nI p) = some (nI (qdE b n p), sA (sA Q 3 k 1) 4 k (if qdE b n p - p ≤ 5 then nI (qdv b p (qdE b n p - p)) else -1)) := by
  rw [← wp_val]
  unfold f_X8_scanNumber
  refine wp_fl3 (fun j x2 x3 Z => ∃ i, j = n - i ∧ x3 = nI i ∧ Z = Q ∧ p ≤ i ∧ i ≤ n ∧ (∀ q, p ≤ q → q < i → qdg b n q = true) ∧ x2 = nI (qdv b p (min 5 (i - p)))) ?_ (n - p) (FU_lt (by omega)) _ _ _ ⟨p, rfl, rfl, rfl, Nat.le_refl _, by omega, fun q h1 h2 => by omega, by rw [Nat.sub_self, Nat.min_zero]; rfl⟩
  rintro j K x2 _ Z ⟨i, rfl, rfl, rfl, hpi, hin, hd, hx⟩ ih
  unfold f_X8_scanNumber_b4
  have hend : qdE b n p = i → Wp (f_X8_scanNumber_b52 (nI p) x2 (nI i) Z) (fun o => o = (nI (qdE b n p), sA (sA Z 3 k 1) 4 k (if qdE b n p - p ≤ 5 then nI (qdv b p (qdE b n p - p)) else -1))) := by
    intro e
    rw [e]
    unfold f_X8_scanNumber_b52 f_X8_scanNumber_b82
    have e6 : (sA Z 3 k 1).1 6 = nI k := h6
    rw [h6, ixd_nI (by omega) (by omega), bnd_eq, e6, nI_sub hpi, ixd_nI (by omega) (by omega), ixd_nI (by omega) (by omega), bnd_eq, bnd_eq, hx]
    by_cases c : i - p ≤ 5
    · rw [if_pos c, if_pos (show nI (i - p) ≤ 5 from nI_le (b := 5) c (by omega)), Nat.min_eq_right c]; exact wp_some.mpr rfl
    · rw [if_neg c, if_neg (show ¬ nI (i - p) ≤ 5 from nI_ge (a := 5) (by omega) (by omega))]; exact wp_some.mpr rfl
  rw [hQ.1]
  by_cases c : n ≤ i
  · rw [if_pos (nI_le c (by omega))]
    exact hend (qdE_un hin hpi hd (qdg_n b n i c))
  · rw [if_neg (nI_ge (by omega) (by omega)), ixd_nI (by omega) (by omega), hQ.2 i (by omega), x_dig, ob1_s, ← qdg_y (b := b) (n := n) (by omega)]
    cases c2 : qdg b n i with
    | false => rw [itF]; exact hend (qdE_un hin hpi hd c2)
    | true =>
      have hd2 : ∀ q, p ≤ q → q < i + 1 → qdg b n q = true := by
        intro q h1 h2
        by_cases e : q = i
        · rw [e]; exact c2
        · exact hd q h1 (by omega)
      rw [itT, nI_sub hpi]
      unfold f_X8_scanNumber_b46
      by_cases c3 : 5 ≤ i - p
      · rw [if_pos (show (5 : Int32) ≤ nI (i - p) from nI_le (a := 5) c3 (by omega)), wp_bnd, ← nI_succ]
        exact ih _ _ _ _ (by omega) ⟨i + 1, rfl, rfl, rfl, by omega, by omega, hd2, by rw [hx, Nat.min_eq_left c3, Nat.min_eq_left (by omega)]⟩
      · rw [if_neg (show ¬ (5 : Int32) ≤ nI (i - p) from nI_ge (b := 5) (by omega) (by omega)), ixd_nI (by omega) (by omega), hQ.2 i (by omega), wp_bnd, wp_bnd, ← nI_succ]
        have e1 : min 5 (i - p) = i - p := Nat.min_eq_right (by omega)
        have e2 : min 5 (i + 1 - p) = (i - p) + 1 := by omega
        have e3 : p + (i - p) = i := by omega
        have h9 := qdv_s (b := b) (n := n) (p := p) (m := i - p) (x := x2) (by rw [e3]; exact c2) (by rw [hx, e1])
        rw [e3] at h9
        exact ih _ _ _ _ (by omega) ⟨i + 1, rfl, rfl, rfl, by omega, by omega, hd2, by rw [e2]; exact h9.1⟩
def qal : List Int32 → Nat → Bool
  | _, 0 => true
  | [], _ + 1 => false
  | v :: r, k + 1 => (decide (0 < v.toInt) && decide (v.toInt < 256)) && qal r k
theorem qal_g : ∀ (l : List Int32) (k i : Nat), qal l k = true → i < k → 0 < (l.getD i 0).toInt ∧ (l.getD i 0).toInt < 256 := by
  intro l
  induction l with
  | nil => intro k i h hi; cases k with | zero => omega | succ k => cases h
  | cons v r ih =>
    intro k i h hi
    cases k with
    | zero => omega
    | succ k =>
      have h2 : ((decide (0 < v.toInt) && decide (v.toInt < 256)) && qal r k) = true := h
      simp only [Bool.and_eq_true, decide_eq_true_eq] at h2
      cases i with
      | zero => exact h2.1
      | succ i => exact ih k i h2.2 (by omega)
theorem qWf_all : qal WB 152 = true := by decide
theorem qWf_ok : ∀ i, i < 152 → 0 < (qWf i).toInt ∧ (qWf i).toInt < 256 := fun i hi => qal_g WB 152 i qWf_all hi
theorem x_isSame {Q : Sg} (hQ : TL b n Q) (hn : n ≤ 400) {p q s e : Nat} (hp : p ≤ q) (hq : q ≤ n) (hl : ∀ i, p ≤ i → i < q → qlt b n i = true) (hs : s ≤ e) (he : e ≤ 152) : f_X8_isSame Q (nI p) (nI q) (nI s) (nI e) = some (decide (qpk b p (q - p) = qpk qWf s (e - s))) := by
  have hb : qok b p (q - p) := by
    intro i hi
    obtain ⟨_, c, e, c1, c2⟩ := qlt_c (hl (p + i) (by omega) (by omega))
    rw [e, nI_toInt (by omega)]; omega
  have hw : qok qWf s (e - s) := fun i hi => qWf_ok _ (by omega)
  have key := qpk_inj (q - p) (e - s) hb hw
  unfold f_X8_isSame
  rw [nI_sub hp, nI_sub hs]
  by_cases c : q - p = e - s
  · rw [if_pos (by rw [c]), ← wp_val]
    refine wp_fl1 (fun j x => ∃ i, j = q - p - i ∧ x = nI i ∧ i ≤ q - p ∧ ∀ m, m < i → b (p + m) = qWf (s + m)) ?_ (q - p) (FU_lt (by omega)) _ ⟨0, rfl, rfl, by omega, fun m hm => by omega⟩
    rintro j K _ ⟨i, rfl, rfl, hi, hm⟩ ih
    unfold f_X8_isSame_b15
    rw [nI_sub hp]
    by_cases c2 : q - p ≤ i
    · rw [if_pos (nI_le c2 (by omega))]
      refine wp_some.mpr (decide_eq_true (key.mpr ⟨c, fun m h => hm m (by omega)⟩)).symm
    · rw [if_neg (nI_ge (by omega) (by omega)), nI_add, nI_add, ixd_nI (by omega) (by omega), ixd_nI (by omega) (by omega), hQ.2 _ (by omega)]
      have ew : WB.getD (s + i) 0 = qWf (s + i) := rfl
      rw [ew]
      by_cases c3 : b (p + i) = qWf (s + i)
      · rw [if_pos c3, wp_bnd, ← nI_succ]
        refine ih _ _ (by omega) ⟨i + 1, rfl, rfl, by omega, fun m h => ?_⟩
        by_cases e5 : m = i
        · rw [e5]; exact c3
        · exact hm m (by omega)
      · rw [if_neg c3]
        exact wp_some.mpr (decide_eq_false (fun h => c3 ((key.mp h).2 i (by omega)))).symm
  · rw [if_neg (by rw [nI_eq (by omega) (by omega)]; exact c), decide_eq_false (fun h => c (key.mp h).1)]
theorem x_wordNumber {Q : Sg} (hQ : TL b n Q) (hn : n ≤ 400) {p q : Nat} (hp : p ≤ q) (hq : q ≤ n) (hl : ∀ i, p ≤ i → i < q → qlt b n i = true) : f_X8_wordNumber Q (nI p) (nI q) = some (qwN (qpk b p (q - p))) := by
  rw [← wp_val]
  unfold f_X8_wordNumber
  refine wp_fl3 (fun j x3 x4 x5 => ∃ w s i, x3 = nI w ∧ x4 = nI s ∧ x5 = nI i ∧ s ≤ i ∧ i + j = 153 ∧ qix (qpk b p (q - p)) (qwl j s i) w = qwN (qpk b p (q - p))) ?_ 153 (FU_lt (by omega)) _ _ _ ⟨0, 0, 0, rfl, rfl, rfl, Nat.le_refl _, rfl, by rw [qwl_WC]; rfl⟩
  rintro j K _ _ _ ⟨w, s, i, rfl, rfl, rfl, hs, hij, hx⟩ ih
  unfold f_X8_wordNumber_b8
  cases j with
  | zero =>
    rw [if_pos (show (152 : Int32) < nI i from nI_lt (a := 152) (by omega) (by omega))]
    exact wp_some.mpr hx
  | succ j =>
    rw [if_neg (show ¬ (152 : Int32) < nI i from nI_nlt (a := 152) (by omega) (by omega))]
    have hx2 : qix (qpk b p (q - p)) (if i = 152 ∨ qWf i = 32 then qpk qWf s (i - s) :: qwl j (i + 1) (i + 1) else qwl j s (i + 1)) w = qwN (qpk b p (q - p)) := hx
    have h40 : (i = 152 ∨ qWf i = 32) → Wp (f_X8_wordNumber_b40 Q (nI p) (nI q) K (nI w) (nI s) (nI i)) (fun o => o = qwN (qpk b p (q - p))) := by
      intro hc
      rw [if_pos hc] at hx2
      have hx3 : (if qpk b p (q - p) = qpk qWf s (i - s) then nI w else qix (qpk b p (q - p)) (qwl j (i + 1) (i + 1)) (w + 1)) = qwN (qpk b p (q - p)) := hx2
      unfold f_X8_wordNumber_b40 f_X8_wordNumber_b64
      rw [x_isSame hQ hn hp hq hl hs (by omega), ob1_s]
      by_cases c : qpk b p (q - p) = qpk qWf s (i - s)
      · rw [decide_eq_true c, itT]
        rw [if_pos c] at hx3
        exact wp_some.mpr hx3
      · rw [decide_eq_false c, itF]
        rw [if_neg c] at hx3
        rw [wp_bnd, wp_bnd, wp_bnd, ← nI_succ, ← nI_succ]
        exact ih _ _ _ _ (by omega) ⟨w + 1, i + 1, i + 1, rfl, rfl, rfl, by omega, by omega, hx3⟩
    by_cases c1 : i = 152
    · rw [if_pos (show nI i = (152 : Int32) by rw [c1]; rfl)]
      exact h40 (Or.inl c1)
    · rw [if_neg (show ¬ nI i = (152 : Int32) by rw [show (152 : Int32) = nI 152 from rfl, nI_eq (by omega) (by omega)]; exact c1), ixd_nI (by omega) (by omega)]
      by_cases c2 : qWf i = 32
      · rw [if_pos (show WB.getD i 0 = 32 from c2)]
        exact h40 (Or.inr c2)
      · rw [if_neg (show ¬ WB.getD i 0 = 32 from c2)]
        rw [if_neg (by intro h; rcases h with h | h; exact c1 h; exact c2 h)] at hx2
        unfold f_X8_wordNumber_b64
        rw [wp_bnd, ← nI_succ]
        exact ih _ _ _ _ (by omega) ⟨w, s, i + 1, rfl, rfl, rfl, by omega, by omega, hx2⟩
theorem x_scanWord {Q : Sg} (hQ : TL b n Q) (hn : n ≤ 400) {p k : Nat} (hp : p < n) (h6 : Q.1 6 = nI k) (hk : k ≤ 400) : f_X8_scanWord Q (nI p) = some (nI (qlE b n p), sA (sA Q 3 k 2) 4 k (qwN (qwd b n p))) := by
  rw [← wp_val]
  unfold f_X8_scanWord
  refine wp_fl2 (fun j x2 Z => ∃ i, j = n - i ∧ x2 = nI i ∧ Z = Q ∧ p ≤ i ∧ i ≤ n ∧ (∀ q, p ≤ q → q < i → qlt b n q = true)) ?_ (n - p) (FU_lt (by omega)) _ _ ⟨p, rfl, rfl, rfl, Nat.le_refl _, by omega, fun q h1 h2 => by omega⟩
  rintro j K _ Z ⟨i, rfl, rfl, rfl, hpi, hin, hd⟩ ih
  unfold f_X8_scanWord_b2
  have hend : qlE b n p = i → Wp (f_X8_scanWord_b28 (nI p) (nI i) Z) (fun o => o = (nI (qlE b n p), sA (sA Z 3 k 2) 4 k (qwN (qwd b n p)))) := by
    intro e
    unfold qwd
    rw [e]
    unfold f_X8_scanWord_b28
    have e6 : (sA Z 3 k 2).1 6 = nI k := h6
    have hQ2 : TL b n (sA Z 3 k 2) := ⟨hQ.1, fun i hi => hQ.2 i hi⟩
    rw [h6, ixd_nI (by omega) (by omega), bnd_eq, x_wordNumber hQ2 hn hpi hin hd, ob1_s, e6, ixd_nI (by omega) (by omega), bnd_eq]
    exact wp_some.mpr rfl
  rw [hQ.1]
  by_cases c : n ≤ i
  · rw [if_pos (nI_le c (by omega))]
    exact hend (qlE_un hin hpi hd (qlt_n b n i c))
  · rw [if_neg (nI_ge (by omega) (by omega)), ixd_nI (by omega) (by omega), hQ.2 i (by omega), x_sml, ob1_s, ← qlt_y (b := b) (n := n) (by omega)]
    cases c2 : qlt b n i with
    | false => rw [itF]; exact hend (qlE_un hin hpi hd c2)
    | true =>
      rw [itT, wp_bnd, ← nI_succ]
      refine ih _ _ _ (by omega) ⟨i + 1, rfl, rfl, rfl, by omega, by omega, fun q h1 h2 => ?_⟩
      by_cases e : q = i
      · rw [e]; exact c2
      · exact hd q h1 (by omega)
theorem x_scanSign {Q : Sg} (hQ : TL b n Q) (hn : n ≤ 400) {p k : Nat} (hp : p < n) (h6 : Q.1 6 = nI k) (hk : k ≤ 400) : f_X8_scanSign Q (nI p) = some (nI (if qtw b n p = true then p + 2 else p + 1), sA (sA Q 3 k 3) 4 k (if qtw b n p = true then 256 + b p else b p)) := by
  have e6 : (sA Q 3 k 3).1 6 = nI k := h6
  have h57 : ∀ s0 : Int32, (s0 = 1 ∧ qtw b n p = true ∨ s0 = 0 ∧ qtw b n p = false) → f_X8_scanSign_b57 (nI p) (b p) s0 Q = some (nI (if qtw b n p = true then p + 2 else p + 1), sA (sA Q 3 k 3) 4 k (if qtw b n p = true then 256 + b p else b p)) := by
    intro s0 h
    unfold f_X8_scanSign_b57 f_X8_scanSign_b91
    rw [h6, ixd_nI (by omega) (by omega), bnd_eq, e6]
    rcases h with ⟨rfl, c⟩ | ⟨rfl, c⟩
    · rw [c, if_neg (show ¬ (1 : Int32) = 0 by decide), ixd_nI (by omega) (by omega), bnd_eq, if_neg (show ¬ (1 : Int32) = 0 by decide), if_pos rfl, if_pos rfl, show (2 : Int32) = nI 2 from rfl, nI_add]
    · rw [c, if_pos (show (0 : Int32) = 0 from rfl), ixd_nI (by omega) (by omega), bnd_eq, if_pos (show (0 : Int32) = 0 from rfl), if_neg (by decide), if_neg (by decide), ← nI_succ]
  have h24 : ∀ s0 : Int32, (s0 = 1 ∧ (b p = 60 ∨ b p = 62) ∨ s0 = 0 ∧ ¬ (b p = 60 ∨ b p = 62)) → f_X8_scanSign_b24 (nI p) (b p) s0 Q = some (nI (if qtw b n p = true then p + 2 else p + 1), sA (sA Q 3 k 3) 4 k (if qtw b n p = true then 256 + b p else b p)) := by
    intro s0 h
    unfold f_X8_scanSign_b24 f_X8_scanSign_b56
    rcases h with ⟨rfl, c⟩ | ⟨rfl, c⟩
    · rw [if_neg (show ¬ (1 : Int32) = 0 by decide), hQ.1, ← nI_succ]
      by_cases c2 : p + 1 < n
      · rw [if_neg (nI_ge (by omega) (by omega)), ixd_nI (by omega) (by omega), hQ.2 _ c2]
        by_cases c3 : b (p + 1) = 61
        · rw [if_pos c3]
          exact h57 1 (Or.inl ⟨rfl, decide_eq_true ⟨c, c2, c3⟩⟩)
        · rw [if_neg c3]
          exact h57 0 (Or.inr ⟨rfl, decide_eq_false (fun h => c3 h.2.2)⟩)
      · rw [if_pos (nI_le (by omega) (by omega))]
        exact h57 0 (Or.inr ⟨rfl, decide_eq_false (fun h => c2 h.2.1)⟩)
    · rw [if_pos (show (0 : Int32) = 0 from rfl)]
      exact h57 0 (Or.inr ⟨rfl, decide_eq_false (fun h => c h.1)⟩)
  unfold f_X8_scanSign f_X8_scanSign_b19
  rw [ixd_nI (by omega) (by omega), bnd_eq, hQ.2 _ hp]
  by_cases c1 : b p = 60
  · rw [if_pos c1]; exact h24 1 (Or.inl ⟨rfl, Or.inl c1⟩)
  · rw [if_neg c1]
    by_cases c2 : b p = 62
    · rw [if_pos c2]; exact h24 1 (Or.inl ⟨rfl, Or.inr c2⟩)
    · rw [if_neg c2]; exact h24 0 (Or.inr ⟨rfl, fun h => h.elim c1 c2⟩)
theorem x_scan {Q : Sg} (hQ : TL b n Q) (hn : n ≤ 400) {p k : Nat} (hp : p < n) (h6 : Q.1 6 = nI k) (hk : k ≤ 400) : f_X8_scan Q (nI p) = some (nI (qte b n p), sA (sA Q 3 k (nI (qkd b n p))) 4 k (qvl b n p)) := by
  unfold f_X8_scan qte qkd qvl
  rw [ixd_nI (by omega) (by omega), bnd_eq, hQ.2 _ hp, x_dig, ob1_s, ← qdg_y (b := b) hp, if_pos hp, if_pos hp, if_pos hp]
  cases c : qdg b n p with
  | true =>
    rw [itT, x_scanNumber hQ hn hp h6 hk, ob2_s, if_pos rfl, if_pos rfl, if_pos rfl]
    rfl
  | false =>
    rw [itF, x_sml, ob1_s, ← qlt_y (b := b) hp]
    cases c2 : qlt b n p with
    | true =>
      rw [itT, x_scanWord hQ hn hp h6 hk, ob2_s]
      rfl
    | false =>
      rw [itF, x_scanSign hQ hn hp h6 hk, ob2_s]
      rfl
end
