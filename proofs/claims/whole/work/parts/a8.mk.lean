/-! the reference reads from its bytes -/
def qch (b : Nat → Int32) (n P : Nat) : Int32 := if P < n then b P &&& 255 else -1
def MqR (b : Nat → Int32) (n : Nat) (M : Sg) (p : Nat) : Prop := M.1 1 = nI n ∧ (∀ i, i < n → M.2.1 0 i = b i) ∧ M.1 8 = nI p ∧ p ≤ n
theorem sI_se {M : Sg} {k : Nat} {v : Int32} (h : M.1 k = v) : sI M k v = M := by
  unfold sI; rw [← h, upd_se]
theorem sI_sI (M : Sg) (k : Nat) (u v : Int32) : sI (sI M k u) k v = sI M k v := by
  unfold sI; rw [upd_upd]
theorem pkJ {v c : Nat} (hv : v < 2 ^ 55) (hc : c < 256) : (Int64.ofNat v <<< ((8 : Int32).toInt64 &&& 63)) ||| Int64.ofNat c = Int64.ofNat (v * 256 + c) := by
  have e : ((8 : Int32).toInt64 &&& 63) = (8 : Int64) := by decide
  rw [e]
  apply Int64.toBitVec_inj.mp
  rw [Int64.toBitVec_or, Int64.toBitVec_shiftLeft]
  apply BitVec.eq_of_toNat_eq
  have e2 : ((8 : Int64).toBitVec.smod 64) = 8#64 := by decide
  rw [e2]
  have e3 : (Int64.ofNat v).toBitVec = BitVec.ofNat 64 v := rfl
  have e4 : (Int64.ofNat c).toBitVec = BitVec.ofNat 64 c := rfl
  have e5 : (Int64.ofNat (v * 256 + c)).toBitVec = BitVec.ofNat 64 (v * 256 + c) := rfl
  rw [e3, e4, e5, BitVec.toNat_or, BitVec.shiftLeft_eq', BitVec.toNat_shiftLeft]
  simp only [BitVec.toNat_ofNat, Nat.shiftLeft_eq]
  rw [Nat.mod_eq_of_lt (show v < 2 ^ 64 by omega), Nat.mod_eq_of_lt (show (8 : Nat) < 2 ^ 64 by omega), Nat.mod_eq_of_lt (show v * 2 ^ 8 < 2 ^ 64 by omega), Nat.mod_eq_of_lt (show c < 2 ^ 64 by omega), Nat.mod_eq_of_lt (show v * 256 + c < 2 ^ 64 by omega)]
  have h9 := Nat.shiftLeft_add_eq_or_of_lt (a := v) (b := c) (i := 8) (by omega)
  rw [Nat.shiftLeft_eq] at h9
  rw [← h9]
theorem jN_toInt {a : Nat} (h : a < 2 ^ 63) : (Int64.ofNat a).toInt = a := by
  rw [Int64.toInt_ofNat_of_lt h]
theorem jN_eq {a c : Nat} (ha : a < 2 ^ 63) (hc : c < 2 ^ 63) : Int64.ofNat a = Int64.ofNat c ↔ a = c := by
  rw [← Int64.toInt_inj, jN_toInt ha, jN_toInt hc]; omega
theorem nI_J {c : Nat} (hc : c < 2 ^ 31) : (nI c).toInt64 = Int64.ofNat c := by
  rw [← Int64.toInt_inj, Int32.toInt_toInt64, nI_toInt hc, jN_toInt (by omega)]
theorem qpk_ge {f : Nat → Int32} {p : Nat} : ∀ l, qok f p (l + 1) → 256 ^ l ≤ qpk f p (l + 1) := by
  intro l
  induction l with
  | zero =>
    intro h
    have := h 0 (by omega)
    show 1 ≤ 0 * 256 + (f (p + 0)).toInt.toNat
    omega
  | succ l ih =>
    intro h
    have := ih (fun i hi => h i (by omega))
    show 256 ^ (l + 1) ≤ qpk f p (l + 1) * 256 + (f (p + (l + 1))).toInt.toNat
    rw [Nat.pow_succ]; omega
theorem qpk_lt {f : Nat → Int32} {p : Nat} : ∀ l, (∀ i, i < l + 1 → 0 < (f (p + i)).toInt ∧ (f (p + i)).toInt < 128) → qpk f p (l + 1) < 128 * 256 ^ l := by
  intro l
  induction l with
  | zero =>
    intro h
    have := h 0 (by omega)
    show 0 * 256 + (f (p + 0)).toInt.toNat < 128 * 1
    omega
  | succ l ih =>
    intro h
    have h1 := ih (fun i hi => h i (by omega))
    have h2 := h (l + 1) (by omega)
    show qpk f p (l + 1) * 256 + (f (p + (l + 1))).toInt.toNat < 128 * 256 ^ (l + 1)
    rw [Nat.pow_succ]; omega
theorem m_in32 (x lo hi : Int32) : f_X12_in x.toInt64 lo.toInt64 hi.toInt64 = some (decide (lo ≤ x) && decide (x ≤ hi)) := by
  unfold f_X12_in f_X12_in_b17
  by_cases h : x < lo
  · rw [if_pos ((lg_lt _ _).mpr (by rw [Int64.lt_iff_toInt_lt, Int32.toInt_toInt64, Int32.toInt_toInt64, ← Int32.lt_iff_toInt_lt]; exact h)), decide_eq_false (Int32.not_le.mpr h)]; rfl
  · rw [if_neg (fun e => h (by have := (lg_lt _ _).mp e; rw [Int64.lt_iff_toInt_lt, Int32.toInt_toInt64, Int32.toInt_toInt64, ← Int32.lt_iff_toInt_lt] at this; exact this)), decide_eq_true (Int32.not_lt.mp h)]
    by_cases h2 : hi < x
    · rw [if_pos ((lg_gt _ _).mpr (by rw [Int64.lt_iff_toInt_lt, Int32.toInt_toInt64, Int32.toInt_toInt64, ← Int32.lt_iff_toInt_lt]; exact h2)), decide_eq_false (Int32.not_le.mpr h2)]; rfl
    · rw [if_neg (fun e => h2 (by have := (lg_gt _ _).mp e; rw [Int64.lt_iff_toInt_lt, Int32.toInt_toInt64, Int32.toInt_toInt64, ← Int32.lt_iff_toInt_lt] at this; exact this)), decide_eq_true (Int32.not_lt.mp h2)]; rfl
section
variable {b : Nat → Int32} {n : Nat} {M : Sg} {p : Nat}
theorem MqR.s8 (h : MqR b n M p) {q : Nat} (hq : q ≤ n) : MqR b n (sI M 8 (nI q)) q := ⟨h.1, h.2.1, rfl, hq⟩
theorem m_see (h : MqR b n M p) (hn : n ≤ 400) : f_X12_see M = some (qch b n (qsp b n p), sI M 8 (nI (qsp b n p))) := by
  rw [← wp_val]
  unfold f_X12_see
  refine wp_fl1 (fun j Z => ∃ i, j = n - i ∧ Z = sI M 8 (nI i) ∧ p ≤ i ∧ i ≤ n ∧ qsp b n i = qsp b n p) ?_ (n - p) (FU_lt (by omega)) _ ⟨p, rfl, (sI_se h.2.2.1).symm, Nat.le_refl _, h.2.2.2, rfl⟩
  rintro j K _ ⟨i, rfl, rfl, hpi, hin, hs⟩ ih
  unfold f_X12_see_b0
  have e1 : (sI M 8 (nI i)).1 1 = nI n := h.1
  have e8 : (sI M 8 (nI i)).1 8 = nI i := rfl
  have hend : qbl b n i = false → Wp (f_X12_see_b38 (sI M 8 (nI i))) (fun o => o = (qch b n (qsp b n p), sI M 8 (nI (qsp b n p)))) := by
    intro hb
    have e9 : qsp b n p = i := by rw [← hs]; exact qsp_id hin hb
    rw [e9]
    unfold f_X12_see_b38 qch
    rw [e1, e8]
    by_cases c : i < n
    · have ea : (sI M 8 (nI i)).2.1 0 i = b i := h.2.1 i c
      rw [if_neg (nI_ge c (by omega)), ixd_nI (by omega) (by omega), if_pos c, ea]
      exact wp_some.mpr rfl
    · rw [if_pos (nI_le (by omega) (by omega)), if_neg c]
      exact wp_some.mpr rfl
  rw [e1, e8]
  by_cases c : i < n
  · have ea : (sI M 8 (nI i)).2.1 0 i = b i := h.2.1 i c
    rw [if_neg (nI_ge c (by omega)), ixd_nI (by omega) (by omega), ea]
    by_cases c3 : b i = 32
    · have c4 : qbl b n i = true := by rw [qbl_y c]; exact decide_eq_true c3
      rw [if_pos c3, wp_bnd, sI_sI, ← nI_succ]
      exact ih _ _ (by omega) ⟨i + 1, rfl, rfl, by omega, by omega, by rw [qsp_st hin c4]; exact hs⟩
    · rw [if_neg c3]
      exact hend (by rw [qbl_y c]; exact decide_eq_false c3)
  · rw [if_pos (nI_le (by omega) (by omega))]
    exact hend (qbl_n b n i (by omega))
theorem m_dig (h : MqR b n M p) (hn : n ≤ 400) {i : Nat} (hi : i ≤ n) : f_X12_isDigit M (nI i) = some (qdg b n i) := by
  unfold f_X12_isDigit f_X12_isDigit_b34
  rw [h.1]
  by_cases c : i < n
  · rw [if_neg (nI_ge c (by omega)), ixd_nI (by omega) (by omega), ixd_nI (by omega) (by omega), h.2.1 i c, qdg_y c]
    by_cases h1 : b i < 48
    · rw [if_pos h1, decide_eq_false (Int32.not_le.mpr h1)]; rfl
    · rw [if_neg h1, decide_eq_true (Int32.not_lt.mp h1)]
      by_cases h2 : 57 < b i
      · rw [if_pos h2, decide_eq_false (Int32.not_le.mpr h2)]; rfl
      · rw [if_neg h2, decide_eq_true (Int32.not_lt.mp h2)]; rfl
  · rw [if_pos (nI_le (by omega) (by omega)), qdg_n b n i (by omega)]
theorem m_let (h : MqR b n M p) (hn : n ≤ 400) {i : Nat} (hi : i ≤ n) : f_X12_isLetter M (nI i) = some (qlt b n i) := by
  unfold f_X12_isLetter f_X12_isLetter_b34
  rw [h.1]
  by_cases c : i < n
  · rw [if_neg (nI_ge c (by omega)), ixd_nI (by omega) (by omega), ixd_nI (by omega) (by omega), h.2.1 i c, qlt_y c]
    by_cases h1 : b i < 97
    · rw [if_pos h1, decide_eq_false (Int32.not_le.mpr h1)]; rfl
    · rw [if_neg h1, decide_eq_true (Int32.not_lt.mp h1)]
      by_cases h2 : 122 < b i
      · rw [if_pos h2, decide_eq_false (Int32.not_le.mpr h2)]; rfl
      · rw [if_neg h2, decide_eq_true (Int32.not_lt.mp h2)]; rfl
  · rw [if_pos (nI_le (by omega) (by omega)), qlt_n b n i (by omega)]
theorem m_isWord (h : MqR b n M p) (hn : n ≤ 400) {c : Nat} (hc0 : 0 < c) (hc : c < 2 ^ 63) : f_X12_isWord M (Int64.ofNat c) = some (decide (qwd b n (qsp b n p) = c), sI M 8 (nI (qsp b n p))) := by
  rw [← wp_val]
  unfold f_X12_isWord
  rw [m_see h hn, ob2_s, bnd_eq]
  dsimp only
  have hP := qsp_le (b := b) h.2.2.2
  generalize qsp b n p = P at hP ⊢
  have hM := h.s8 hP
  generalize hMM : sI M 8 (nI P) = M' at hM ⊢
  refine wp_fl3 (fun j x3 x5 Z => ∃ l, j = n - (P + l) ∧ x5 = nI l ∧ Z = M' ∧ P + l ≤ n ∧ (∀ i, P ≤ i → i < P + l → qlt b n i = true) ∧ x3 = Int64.ofNat (qpk b P (min 8 l))) ?_ (n - P) (FU_lt (by omega)) _ _ _ ⟨0, rfl, rfl, rfl, hP, fun i h1 h2 => by omega, rfl⟩
  rintro j K _ _ Z ⟨l, rfl, rfl, rfl, hl, hL, rfl⟩ ih
  unfold f_X12_isWord_b10
  rw [hM.2.2.1, nI_add, m_let hM hn hl, ob1_s]
  have hok : qok b P l := by
    intro i hi
    obtain ⟨_, c, e, c1, c2⟩ := qlt_c (hL (P + i) (by omega) (by omega))
    rw [e, nI_toInt (by omega)]; omega
  have hok2 : ∀ i, i < l → 0 < (b (P + i)).toInt ∧ (b (P + i)).toInt < 128 := by
    intro i hi
    obtain ⟨_, c, e, c1, c2⟩ := qlt_c (hL (P + i) (by omega) (by omega))
    rw [e, nI_toInt (by omega)]; omega
  have hb8 : ∀ m, m ≤ 8 → m ≤ l → qpk b P m < 2 ^ 63 ∧ (m ≤ 7 → qpk b P m < 2 ^ 55) := by
    intro m hm hml
    cases m with
    | zero => exact ⟨by show 0 < 2 ^ 63; omega, fun _ => by show 0 < 2 ^ 55; omega⟩
    | succ m =>
      have h1 := qpk_lt (f := b) (p := P) m (fun i hi => hok2 i (by omega))
      refine ⟨?_, fun h7 => ?_⟩
      · have h2 : 256 ^ m ≤ 256 ^ 7 := Nat.pow_le_pow_right (by omega) (by omega)
        have h3 : (256 : Nat) ^ 7 = 2 ^ 56 := by decide
        omega
      · have h2 : 256 ^ m ≤ 256 ^ 6 := Nat.pow_le_pow_right (by omega) (by omega)
        have h3 : (256 : Nat) ^ 6 = 2 ^ 48 := by decide
        omega
  cases c2 : qlt b n (P + l) with
  | false =>
    have hE : qlE b n P = P + l := qlE_un hl (by omega) hL c2
    have hw : qwd b n P = qpk b P l := by unfold qwd; rw [hE, Nat.add_sub_cancel_left]
    rw [itF, hw]
    unfold f_X12_isWord_b78
    by_cases d0 : l = 0
    · subst d0
      rw [if_pos (show nI 0 ≤ 0 from nI_le (a := 0) (b := 0) (Nat.le_refl _) (by omega))]
      exact wp_some.mpr (by rw [decide_eq_false (show ¬ qpk b P 0 = c by show ¬ 0 = c; omega)])
    · rw [if_neg (show ¬ nI l ≤ 0 from nI_ge (a := 0) (by omega) (by omega))]
      by_cases d9 : 9 ≤ l
      · rw [if_pos (show (9 : Int32) ≤ nI l from nI_le (a := 9) d9 (by omega))]
        have h1 := qpk_ge (f := b) (p := P) (l - 1) (by rw [show l - 1 + 1 = l by omega]; exact hok)
        rw [show l - 1 + 1 = l by omega] at h1
        have h2 : 256 ^ 8 ≤ 256 ^ (l - 1) := Nat.pow_le_pow_right (by omega) (by omega)
        have h3 : (256 : Nat) ^ 8 = 2 ^ 64 := by decide
        exact wp_some.mpr (by rw [decide_eq_false (show ¬ qpk b P l = c by omega)])
      · rw [if_neg (show ¬ (9 : Int32) ≤ nI l from nI_ge (b := 9) (by omega) (by omega)), Nat.min_eq_right (by omega)]
        have h1 := (hb8 l (by omega) (Nat.le_refl _)).1
        by_cases d : qpk b P l = c
        · rw [if_pos ((lg_eq _ _).mpr (by rw [d])), decide_eq_true d]; exact wp_some.mpr rfl
        · rw [if_neg (fun e => d ((jN_eq h1 hc).mp ((lg_eq _ _).mp e))), decide_eq_false d]; exact wp_some.mpr rfl
  | true =>
    have hin := (qlt_c c2).1
    have hL2 : ∀ i, P ≤ i → i < P + (l + 1) → qlt b n i = true := by
      intro i h1 h2
      by_cases e : i = P + l
      · rw [e]; exact c2
      · exact hL i h1 (by omega)
    rw [itT]
    unfold f_X12_isWord_b50
    by_cases d8 : 8 ≤ l
    · rw [if_pos (show (8 : Int32) ≤ nI l from nI_le (a := 8) d8 (by omega)), wp_bnd, ← nI_succ]
      exact ih _ _ _ _ (by omega) ⟨l + 1, rfl, rfl, rfl, by omega, hL2, by rw [Nat.min_eq_left d8, Nat.min_eq_left (by omega)]⟩
    · rw [if_neg (show ¬ (8 : Int32) ≤ nI l from nI_ge (b := 8) (by omega) (by omega)), ixd_nI (by omega) (by omega), hM.2.1 _ hin, wp_bnd, wp_bnd, ← nI_succ]
      obtain ⟨_, q, eq, q1, q2⟩ := qlt_c c2
      have h1 := (hb8 l (by omega) (Nat.le_refl _)).2 (by omega)
      refine ih _ _ _ _ (by omega) ⟨l + 1, rfl, rfl, rfl, by omega, hL2, ?_⟩
      rw [Nat.min_eq_right (by omega), Nat.min_eq_right (by omega), eq, nI_J (by omega), pkJ h1 (by omega)]
      show _ = Int64.ofNat (qpk b P l * 256 + (b (P + l)).toInt.toNat)
      rw [eq, nI_toInt (by omega), Int.toNat_natCast]
theorem m_passWord (h : MqR b n M p) (hn : n ≤ 400) : f_X12_passWord M = some (sI M 8 (nI (qlE b n p))) := by
  rw [← wp_val]
  unfold f_X12_passWord
  refine wp_fl1 (fun j Z => ∃ i, j = n - i ∧ Z = sI M 8 (nI i) ∧ p ≤ i ∧ i ≤ n ∧ ∀ q, p ≤ q → q < i → qlt b n q = true) ?_ (n - p) (FU_lt (by omega)) _ ⟨p, rfl, (sI_se h.2.2.1).symm, Nat.le_refl _, h.2.2.2, fun q h1 h2 => by omega⟩
  rintro j K _ ⟨i, rfl, rfl, hpi, hin, hL⟩ ih
  unfold f_X12_passWord_b0
  have e8 : (sI M 8 (nI i)).1 8 = nI i := rfl
  rw [e8, m_let (h.s8 hin) hn hin, ob1_s]
  cases c2 : qlt b n i with
  | false => rw [itF, qlE_un hin hpi hL c2]; exact wp_some.mpr rfl
  | true =>
    have hi := (qlt_c c2).1
    rw [itT, wp_bnd, sI_sI, ← nI_succ]
    refine ih _ _ (by omega) ⟨i + 1, rfl, rfl, by omega, by omega, fun q h1 h2 => ?_⟩
    by_cases e : q = i
    · rw [e]; exact c2
    · exact hL q h1 (by omega)
theorem m_fails (M : Sg) (c P : Nat) : f_X12_fails M (nI c) (nI P) = some (false, sI M 9 (qbm (M.1 9) P c)) := by
  unfold f_X12_fails f_X12_fails_b19 qbm
  by_cases e : M.1 9 = 0
  · rw [if_pos e, if_pos e, bnd_eq, show (1 : Int32) = nI 1 from rfl, show (8 : Int32) = nI 8 from rfl, nI_mul, nI_add, nI_add]
  · rw [if_neg e, if_neg e, sI_se rfl]
/-- but for next, wrong and number all is as it was -/
def kq (M M' : Sg) : Prop := M'.2 = M.2 ∧ ∀ k, k ≠ 8 → k ≠ 9 → k ≠ 10 → M'.1 k = M.1 k
theorem kq.rf (M : Sg) : kq M M := ⟨rfl, fun _ _ _ _ => rfl⟩
theorem kq.tr {M M' M2 : Sg} (h : kq M M') (h2 : kq M' M2) : kq M M2 := ⟨h2.1.trans h.1, fun k a c d => (h2.2 k a c d).trans (h.2 k a c d)⟩
theorem kq.s (M : Sg) {j : Nat} (hj : j = 8 ∨ j = 9 ∨ j = 10) (v : Int32) : kq M (sI M j v) := ⟨rfl, fun k a c d => by show (if k = j then v else M.1 k) = M.1 k; rw [if_neg (by omega)]⟩
theorem qkd_1 {P : Nat} : qkd b n P = 1 ↔ qdg b n P = true := by
  unfold qkd
  by_cases h : P < n
  · rw [if_pos h]
    by_cases h1 : qdg b n P = true
    · rw [if_pos h1]; simp [h1]
    · rw [if_neg h1]
      by_cases h2 : qlt b n P = true
      · rw [if_pos h2]; simp [h1]
      · rw [if_neg h2]; simp [h1]
  · rw [if_neg h, qdg_n b n P (by omega)]; simp
theorem m_num (h : MqR b n M p) (hn : n ≤ 400) (lo hi : Int32) (hlo : 0 ≤ lo) : (qkd b n (qsp b n p) = 1 ∧ lo ≤ qvl b n (qsp b n p) ∧ qvl b n (qsp b n p) ≤ hi → f_X12_numberHere M lo hi = some (true, sI (sI M 8 (nI (qte b n (qsp b n p)))) 10 (qvl b n (qsp b n p)))) ∧ (¬ (qkd b n (qsp b n p) = 1 ∧ lo ≤ qvl b n (qsp b n p) ∧ qvl b n (qsp b n p) ≤ hi) → Wp (f_X12_numberHere M lo hi) (fun o => o.1 = false ∧ kq M o.2 ∧ o.2.1 9 = qbm (M.1 9) (qsp b n p) (if qkd b n (qsp b n p) = 1 then 1 else 0))) := by
  unfold f_X12_numberHere
  rw [m_see h hn, ob2_s]
  dsimp only
  have hP := qsp_le (b := b) h.2.2.2
  generalize qsp b n p = P at hP ⊢
  have hM := h.s8 hP
  have e8 : (sI M 8 (nI P)).1 8 = nI P := rfl
  rw [e8, m_dig hM hn hP, ob1_s]
  cases c : qdg b n P with
  | false =>
    have h1 : ¬ qkd b n P = 1 := by rw [qkd_1, c]; decide
    refine ⟨fun q => absurd q.1 h1, fun _ => ?_⟩
    have hf : f_X12_fails (sI M 8 (nI P)) 0 (nI P) = _ := m_fails (sI M 8 (nI P)) 0 P
    rw [itF, hf, ob2_s, if_neg h1]
    exact wp_some.mpr ⟨rfl, (kq.s M (Or.inl rfl) _).tr (kq.s _ (Or.inr (Or.inl rfl)) _), rfl⟩
  | true =>
    have h1 : qkd b n P = 1 := qkd_1.mpr c
    have hPn := (qdg_c c).1
    have hE := qdE_gt c
    have hte : qte b n P = qdE b n P := by unfold qte; rw [if_pos hPn, if_pos c]
    have hvl : qvl b n P = (if qdE b n P - P ≤ 5 then nI (qdv b P (qdE b n P - P)) else -1) := by unfold qvl; rw [if_pos hPn, if_pos c]
    have key : Wp (fl3 (f_X12_numberHere_b34 lo hi) FU (nI P) 0 (sI M 8 (nI P))) (fun o => (lo ≤ qvl b n P ∧ qvl b n P ≤ hi → o = (true, sI (sI M 8 (nI (qte b n P))) 10 (qvl b n P))) ∧ (¬ (lo ≤ qvl b n P ∧ qvl b n P ≤ hi) → o.1 = false ∧ kq M o.2 ∧ o.2.1 9 = qbm (M.1 9) P 1)) := by
      refine wp_fl3 (fun j x3 x4 Z => ∃ i, j = n - i ∧ x3 = nI P ∧ Z = sI M 8 (nI i) ∧ P ≤ i ∧ i ≤ n ∧ (∀ q, P ≤ q → q < i → qdg b n q = true) ∧ x4 = nI (qdv b P (min 5 (i - P)))) ?_ (n - P) (FU_lt (by omega)) _ _ _ ⟨P, rfl, rfl, rfl, Nat.le_refl _, hP, fun q a d => by omega, by rw [Nat.sub_self, Nat.min_zero]; rfl⟩
      rintro j K _ x4 _ ⟨i, rfl, rfl, rfl, hpi, hin, hd, hx⟩ ih
      unfold f_X12_numberHere_b34
      have e8 : (sI M 8 (nI i)).1 8 = nI i := rfl
      rw [e8, m_dig (h.s8 hin) hn hin, ob1_s]
      cases c2 : qdg b n i with
      | false =>
        have hE2 : qdE b n P = i := qdE_un hin hpi hd c2
        rw [hE2] at hvl hte hE
        have e9 : (sI (sI M 8 (nI i)) 10 x4).1 8 = nI i := rfl
        have hf : f_X12_fails (sI (sI M 8 (nI i)) 10 x4) 1 (nI P) = _ := m_fails (sI (sI M 8 (nI i)) 10 x4) 1 P
        have hno : Wp (f_X12_numberHere_b117 lo hi (nI P) (sI (sI M 8 (nI i)) 10 x4)) (fun o => o.1 = false ∧ kq M o.2 ∧ o.2.1 9 = qbm (M.1 9) P 1) := by
          unfold f_X12_numberHere_b117
          rw [hf, ob2_s, itF]
          exact wp_some.mpr ⟨rfl, ((kq.s M (Or.inl rfl) _).tr (kq.s _ (Or.inr (Or.inr rfl)) _)).tr (kq.s _ (Or.inr (Or.inl rfl)) _), rfl⟩
        rw [itF, bnd_eq, e9, nI_sub hpi]
        by_cases d : i - P ≤ 5
        · rw [if_pos d, ← Nat.min_eq_right d, ← hx] at hvl
          rw [if_neg (show ¬ (5 : Int32) < nI (i - P) from nI_nlt (a := 5) d (by omega)), m_in32, ob1_s, ← hvl]
          by_cases g1 : lo ≤ qvl b n P
          · by_cases g2 : qvl b n P ≤ hi
            · rw [decide_eq_true g1, decide_eq_true g2, Bool.and_true, itT]
              unfold f_X12_numberHere_b126
              exact wp_some.mpr ⟨fun _ => by rw [hte], fun q => absurd ⟨g1, g2⟩ q⟩
            · rw [decide_eq_true g1, decide_eq_false g2, Bool.and_false, itF, hvl]
              exact wp_mono hno (fun o ho => ⟨fun q => absurd q.2 (by rw [← hvl]; exact g2), fun _ => ho⟩)
          · rw [decide_eq_false g1, Bool.false_and, itF, hvl]
            exact wp_mono hno (fun o ho => ⟨fun q => absurd q.1 (by rw [← hvl]; exact g1), fun _ => ho⟩)
        · rw [if_neg d] at hvl
          rw [if_pos (show (5 : Int32) < nI (i - P) from nI_lt (a := 5) (by omega) (by omega))]
          refine wp_mono hno (fun o ho => ⟨fun q => ?_, fun _ => ho⟩)
          have g := q.1
          rw [hvl] at g
          have g2 : (0 : Int32) ≤ -1 := Int32.le_trans hlo g
          exact absurd g2 (by decide)
      | true =>
        have hi2 := (qdg_c c2).1
        have hd2 : ∀ q, P ≤ q → q < i + 1 → qdg b n q = true := by
          intro q g1 g2
          by_cases e : q = i
          · rw [e]; exact c2
          · exact hd q g1 (by omega)
        rw [itT, nI_sub hpi]
        unfold f_X12_numberHere_b75
        by_cases c3 : 5 ≤ i - P
        · rw [if_pos (show (5 : Int32) ≤ nI (i - P) from nI_le (a := 5) c3 (by omega)), wp_bnd, e8, sI_sI, ← nI_succ]
          exact ih _ _ _ _ (by omega) ⟨i + 1, rfl, rfl, rfl, by omega, by omega, hd2, by rw [hx, Nat.min_eq_left c3, Nat.min_eq_left (by omega)]⟩
        · have ea : (sI M 8 (nI i)).2.1 0 i = b i := h.2.1 i hi2
          rw [if_neg (show ¬ (5 : Int32) ≤ nI (i - P) from nI_ge (b := 5) (by omega) (by omega)), ixd_nI (by omega) (by omega), ea, wp_bnd, wp_bnd, e8, sI_sI, ← nI_succ]
          have e1 : min 5 (i - P) = i - P := Nat.min_eq_right (by omega)
          have e2 : min 5 (i + 1 - P) = (i - P) + 1 := by omega
          have e3 : P + (i - P) = i := by omega
          have h9 := qdv_s (b := b) (n := n) (p := P) (m := i - P) (x := x4) (by rw [e3]; exact c2) (by rw [hx, e1])
          rw [e3] at h9
          exact ih _ _ _ _ (by omega) ⟨i + 1, rfl, rfl, rfl, by omega, by omega, hd2, by rw [e2]; exact h9.2⟩
    obtain ⟨o, k1, k2, k3⟩ := key
    rw [itT, bnd_eq, k1]
    exact ⟨fun q => by rw [k2 q.2], fun q => wp_some.mpr (by rw [if_pos h1]; exact k3 (fun g => q ⟨h1, g⟩))⟩
end
