/-! the class's soonest -/
theorem sA_sF (M : Sg) (k : Nat) (g : Nat → Int32) (i : Nat) (v : Int32) : sA (sF M k g) k i v = sF M k (upd g i v) := by
  unfold sA sF
  have h : va_up M.2.1 k g k = g := by simp [va_up]
  show (M.1, va_up (va_up M.2.1 k g) k (upd (va_up M.2.1 k g k) i v), M.2.2) = (M.1, va_up M.2.1 k (upd g i v), M.2.2)
  rw [h, va_up_up]
theorem sF_sF (M : Sg) (k : Nat) (g h : Nat → Int32) : sF (sF M k g) k h = sF M k h := by
  unfold sF
  show (M.1, va_up (va_up M.2.1 k g) k h, M.2.2) = _
  rw [va_up_up]
theorem sF_at (M : Sg) (k : Nat) (g : Nat → Int32) : (sF M k g).2.1 k = g := by simp [sF, va_up]
def BF (n : Nat) (B : Nat → Nat) (k : Nat) (A : Nat → Nat) : Prop := (∀ t, t < n → B t ≤ A t ∧ (A t ≤ 999 ∨ A t = 1000000)) ∧ ∀ t, t < n → rkS n B t ≤ k → A t = B t
def RI (n : Nat) (E : Nat → Nat → Nat → Nat) (B A0 A : Nat → Nat) (c : Nat) (b : Bool) : Prop := (∀ t, t < n → B t ≤ A t ∧ (A t ≤ 999 ∨ A t = 1000000) ∧ A t ≤ A0 t) ∧ (∀ c' t, c' < c → t < n → t ≠ c' → A0 c' = B c' → A t ≤ E c' t (B c')) ∧ (b = false → (∀ t, t < n → A t = A0 t) ∧ ∀ c' t, c' < c → t < n → c' ≠ t → A0 c' ≤ 999 → A0 t ≤ E c' t (A0 c'))
section
variable {n : Nat} {E : Nat → Nat → Nat → Nat} {a s : Nat} {B A0 A : Nat → Nat}
theorem ri_0 {k : Nat} (h : BF n B k A) : RI n E B A A 0 false := ⟨fun t ht => ⟨(h.1 t ht).1, (h.1 t ht).2, Nat.le_refl _⟩, fun c' t hc => by omega, fun _ => ⟨fun t _ => rfl, fun c' t hc => by omega⟩⟩
theorem ri_skip {c : Nat} {b : Bool} (hE : EP n E) (hc : c < n) (h : RI n E B A0 A c b) (hA : A c = 1000000) : RI n E B A0 A (c + 1) b := by
  obtain ⟨h1, h2, h3⟩ := h
  refine ⟨h1, fun c' t hc' ht htc he => ?_, fun hb => ⟨(h3 hb).1, fun c' t hc' ht htc hA0 => ?_⟩⟩
  · by_cases e : c' = c
    · subst e
      have h4 := h1 c' hc
      have h5 := h1 t ht
      rcases hE.1 c' t (B c') with h6 | h6
      · have := hE.2.2 c' t (B c') hc ht (fun e => htc e.symm) h6
        omega
      · omega
    · exact h2 c' t (by omega) ht htc he
  · by_cases e : c' = c
    · subst e
      have := (h3 hb).1 c' hc
      omega
    · exact (h3 hb).2 c' t (by omega) ht htc hA0
theorem ri_go {c : Nat} {b b' : Bool} (hE : EP n E) (hB : Sn n E a s B) (hc : c < n) (h : RI n E B A0 A c b) (hA : A c ≤ 999) (hb : b' = false → ∀ t, t < n → t ≠ c → A t ≤ E c t (A c)) : RI n E B A0 (rlx E c n A) (c + 1) (b || b') := by
  obtain ⟨h1, h2, h3⟩ := h
  have h1c := h1 c hc
  have hle : ∀ t, rlx E c n A t ≤ A t := fun t => by unfold rlx; split <;> omega
  refine ⟨fun t ht => ?_, fun c' t hc' ht htc he => ?_, fun hbb => ?_⟩
  · have h4 := h1 t ht
    have h5 := hle t
    refine ⟨?_, ?_, by omega⟩
    · unfold rlx
      by_cases e : t = c
      · rw [if_neg (by omega)]; exact h4.1
      · rw [if_pos ⟨ht, e⟩]
        have h6 := hB.2.2.1 c t hc ht (fun e2 => e e2.symm) (by omega)
        have h7 := hE.2.1 c t (B c) (A c) hc ht (fun e2 => e e2.symm) h1c.1
        omega
    · unfold rlx
      by_cases e : t = c
      · rw [if_neg (by omega)]; exact h4.2.1
      · rw [if_pos ⟨ht, e⟩]
        rcases hE.1 c t (A c) with h6 | h6 <;> omega
  · by_cases e : c' = c
    · subst e
      have h4 : A c' = B c' := by omega
      unfold rlx
      rw [if_pos ⟨ht, htc⟩, h4]
      omega
    · have := h2 c' t (by omega) ht htc he
      have := hle t
      omega
  · simp only [Bool.or_eq_false_iff] at hbb
    have h4 := hb hbb.2
    have h5 := h3 hbb.1
    have h6 : ∀ t, t < n → rlx E c n A t = A t := by
      intro t ht
      unfold rlx
      by_cases e : t = c
      · rw [if_neg (by omega)]
      · rw [if_pos ⟨ht, e⟩]; have := h4 t ht e; omega
    refine ⟨fun t ht => by rw [h6 t ht, h5.1 t ht], fun c' t hc' ht htc hA0 => ?_⟩
    by_cases e : c' = c
    · subst e
      have := h4 t ht (fun e2 => htc e2.symm)
      rw [h5.1 t ht, h5.1 c' hc] at this
      exact this
    · exact h5.2 c' t (by omega) ht htc hA0
theorem bf_round {k : Nat} {b : Bool} (hE : EP n E) (ha : a < n) (hB : Sn n E a s B) (h0 : BF n B k A0) (ha0 : A0 a ≤ s) (h : RI n E B A0 A n b) : BF n B (k + 1) A ∧ A a ≤ s ∧ (b = false → ∀ t, t < n → A t = B t) := by
  obtain ⟨h1, h2, h3⟩ := h
  refine ⟨⟨fun t ht => ⟨(h1 t ht).1, (h1 t ht).2.1⟩, fun t ht hr => ?_⟩, by have := (h1 a ha).2.2; omega, fun hb => ?_⟩
  · have h4 := h1 t ht
    rcases hB.2.1 t ht with h5 | h5
    · rcases hB.2.2.2 t ht h5 with e | ⟨c, q1, q2, q3, q4⟩
      · subst e
        rw [hB.1] at h4 ⊢
        omega
      · have h6 := rkS_lt (n := n) q1 q3
        have h7 := h0.2 c q1 (by omega)
        have h8 := h2 c t q1 ht (fun e => q2 e.symm) h7
        omega
    · omega
  · have h4 := h3 hb
    intro t ht
    have h5 := sn_le hE (A := A0) ha0 (fun c t hc ht hct hA => h4.2 c t hc ht hct hA) (fun c hc => by rcases (h0.1 c hc).2 with h | h <;> omega) hB _ t ht (Nat.le_refl _)
    have h6 := h0.1 t ht
    rw [h4.1 t ht]
    omega
theorem bf_0 (hE : EP n E) (hB : Sn n E a s B) (hs : s ≤ 999) : BF n B 0 (fun t => if t = a then s else 1000000) := by
  refine ⟨fun t ht => ?_, fun t ht hr => ?_⟩
  · have h1 := hB.le9 t ht
    by_cases e : t = a
    · subst e; simp only [if_true]; rw [hB.1]; omega
    · show B t ≤ (if t = a then s else 1000000) ∧ ((if t = a then s else 1000000) ≤ 999 ∨ (if t = a then s else 1000000) = 1000000)
      rw [if_neg e]; exact ⟨h1, Or.inr rfl⟩
  · by_cases e : t = a
    · subst e; simp only [if_true]; rw [hB.1]
    · simp only [if_neg e]
      rcases hB.2.1 t ht with h5 | h5
      · rcases hB.2.2.2 t ht h5 with e2 | ⟨c, q1, q2, q3, q4⟩
        · exact absurd e2 e
        · have h6 := rkS_lt (n := n) q1 q3
          omega
      · omega
end
noncomputable def snv (d : Tr) (m : Mo) (r a s t : Nat) : Nat := if s ≤ 999 then sn d m r a s t else 1000000
def sof (m : Mo) (r kn : Nat) : Nat := max (max m.sec kn) (if m.gq r then m.en r else 0)
theorem mnr_congr {p : Nat → Bool} {f g : Nat → Nat} {k : Nat} (h : ∀ c, c < k → f c = g c) : mnr p f k = mnr p g k := by
  induction k with
  | zero => rfl
  | succ k ih => rw [mnr_s, mnr_s, ih (fun c hc => h c (by omega)), h k (by omega)]
theorem mnr_no {p : Nat → Bool} {k : Nat} : mnr p (fun _ => 1000000) k = 1000000 := by
  induction k with
  | zero => rfl
  | succ k ih => rw [mnr_s, ih]; split <;> omega
theorem mnr_le9 {p : Nat → Bool} {f : Nat → Nat} {k : Nat} : mnr p f k ≤ 1000000 := by
  induction k with
  | zero => exact Nat.le_refl _
  | succ k ih => rw [mnr_s]; split <;> omega
theorem rt_snv (d : Tr) (m : Mo) (r a s : Nat) : rt d m r a s = mnr (fun c => decide (d.g c = d.ds r)) (snv d m r a s) d.n := by
  unfold rt
  by_cases h : s ≤ 999
  · rw [if_pos h]; exact mnr_congr (fun c _ => by unfold snv; rw [if_pos h])
  · rw [if_neg h]
    have : mnr (fun c => decide (d.g c = d.ds r)) (snv d m r a s) d.n = mnr (fun c => decide (d.g c = d.ds r)) (fun _ => 1000000) d.n := mnr_congr (fun c _ => by unfold snv; rw [if_neg h])
    rw [this, mnr_no]
theorem jmax_m1 {k : Nat} (h : k < 2 ^ 31) : jmax (nI k) (-nI 1) = nI k := by
  unfold jmax
  rw [if_neg (fun h2 => (lt_m1 h).mp h2)]
section
variable {d : Tr} {m : Mo} {T O : Sg} {M : Sg}
theorem sof_le (hm : MoOK d m) {r kn : Nat} (hr : r < d.rd) (hk : kn ≤ 99999) : sof m r kn ≤ 99999 := by
  have h1 := hm.1
  have h2 := hm.2.2.2.2 r hr
  unfold sof
  by_cases h : m.gq r = true
  · have := h2 h; rw [if_pos h]; omega
  · rw [if_neg h]; omega
theorem x_startOf (hd : TrOK d) (hm : MoOK d m) (hO : MoC d m O) {r kn : Nat} (hr : r < d.rd) (hk : kn ≤ 99999) : f_X6_startOf O (nI r) (nI kn) = some (nI (sof m r kn)) := by
  have h0 := hd.r6
  have h1 := hm.1
  have h2 := hm.2.2.2.2 r hr
  have h3 := (hO.2 r hr).2.2.1
  unfold f_X6_startOf sof
  simp (disch := omega) only [ixd_nI, bnd_eq, h3, hO.1.1, nI_max]
  by_cases h : m.gq r = true
  · have := h2 h
    rw [if_pos h, if_pos h, nI_max (by omega) (by omega)]
  · rw [if_neg h, if_neg h, jmax_m1 (by omega)]
    congr 2; omega
theorem x_firstEnd (hd : TrOK d) (hT : TrC d T) (hm : MoOK d m) (hO : MoC d m O) {r c t s : Nat} (hr : r < d.rd) (hc : c < d.n) (ht : t < d.n) (hs : s ≤ 99999) : f_X6_firstEnd T O (nI r) (nI c) (nI t) (nI s) = some (nI (fE d m r c t s)) := by
  have hn := hd.n8
  have h6 := hd.r6
  have hx := sOu_le hd hr hc ht
  have hin := hd.inr hr
  have hoc : oC (sOB d (sOu d r c t) s) ≤ 1000000 := by
    rcases oC_cases (sOB d (sOu d r c t) s) with ⟨h2, h3⟩ | ⟨q, h2, h3⟩
    · omega
    · have := sOB_bd hd h2; omega
  unfold f_X6_firstEnd f_X6_firstEnd_b74 fE
  rw [x_outsideSeconds hd hT hr hc ht, ob1_s, x_outsideBegin hd hT (by omega) (by omega), ob1_s, bnd_eq, nI_abs (by omega) (by omega), dist_comm t c, nI_add]
  have hdl : dist c t < 8 := dist_lt (n := 8) (by omega) (by omega)
  by_cases h : dist c t = 1
  · have hw : min c t + 1 < d.n := by unfold dist at h; split at h <;> omega
    have htr := hd.tr9 _ hw
    have hic : oC (sIB d m r c t s) ≤ 1000000 := by
      unfold sIB oC
      split
      · exact Nat.le_refl _
      · split
        · exact Nat.le_refl _
        · simp only [Option.getD_some]; omega
    rw [if_pos h, if_pos (by rw [h]; rfl), x_insideBegin hd hT hm hO hr hc ht h (by omega), ob1_s]
    simp (disch := omega) only [ixd_nI, (hT.2.2.2.2.2.2 r hr).2.2.2.2.1, nI_add, bnd_eq, nI_min]
  · rw [if_neg h, if_neg (by rw [lit, nI_eq (by omega) (by omega)]; exact h)]
theorem fE_le (hd : TrOK d) {r c t s : Nat} (hr : r < d.rd) (hc : c < d.n) (ht : t < d.n) : fE d m r c t s ≤ 1001000 := by
  have hx := sOu_le hd hr hc ht
  have hoc : oC (sOB d (sOu d r c t) s) ≤ 1000000 := by
    rcases oC_cases (sOB d (sOu d r c t) s) with ⟨h2, h3⟩ | ⟨q, h2, h3⟩
    · omega
    · have := sOB_bd hd h2; omega
  unfold fE
  split <;> omega
theorem x_spreadFrom (hd : TrOK d) (hT : TrC d T) (hm : MoOK d m) (hO : MoC d m O) {S : Sg} {g : Nat → Int32} {A : Nat → Nat} {r c : Nat} (hr : r < d.rd) (hc : c < d.n) (hg : ∀ t, t < d.n → g t = nI (A t)) (hA : ∀ t, t < d.n → A t ≤ 1000000) (hAc : A c ≤ 999) : ∃ g' b, f_X6_spreadFrom (sF S 1 g) T O (nI r) (nI c) = some (b, sF S 1 g') ∧ (∀ t, t < d.n → g' t = nI (rlx (eE d m r) c d.n A t)) ∧ (b = false → ∀ t, t < d.n → t ≠ c → A t ≤ eE d m r c t (A c)) := by
  have hn := hd.n8
  have key : Wp (f_X6_spreadFrom (sF S 1 g) T O (nI r) (nI c)) (fun o => ∃ g', o.2 = sF S 1 g' ∧ (∀ t, t < d.n → g' t = nI (rlx (eE d m r) c d.n A t)) ∧ (o.1 = false → ∀ t, t < d.n → t ≠ c → A t ≤ eE d m r c t (A c))) := by
    unfold f_X6_spreadFrom
    refine wp_fl3 (fun j x y Z => ∃ k b g', x = bI b ∧ y = nI k ∧ Z = sF S 1 g' ∧ k + j = d.n ∧ (∀ t, t < d.n → g' t = nI (rlx (eE d m r) c k A t)) ∧ (b = false → ∀ t, t < k → t ≠ c → A t ≤ eE d m r c t (A c))) ?_ d.n (FU_lt (by omega)) _ _ _ ⟨0, false, g, rfl, rfl, rfl, by omega, fun t ht => by rw [hg t ht]; unfold rlx; rw [if_neg (by omega)], fun _ t ht => by omega⟩
    rintro j K _ _ _ ⟨k, b, g', rfl, rfl, rfl, hkj, hg', hb⟩ ih
    cases j with
    | zero =>
      have e : k = d.n := by omega
      subst e
      unfold f_X6_spreadFrom_b5
      rw [hT.1.1, if_pos (nI_le (Nat.le_refl _) (by omega)), zb_bI]
      exact wp_some.mpr ⟨g', rfl, hg', hb⟩
    | succ j =>
      have hkn : k < d.n := by omega
      unfold f_X6_spreadFrom_b5 f_X6_spreadFrom_b73
      rw [hT.1.1, if_neg (nI_ge hkn (by omega))]
      by_cases e : k = c
      · subst e
        rw [if_pos rfl, wp_bnd]
        refine ih j _ _ _ (by omega) ⟨k + 1, b, g', rfl, (nI_succ k).symm, rfl, by omega, fun t ht => by rw [hg' t ht, rlx_same], fun hbf t ht htc => hb hbf t (by omega) htc⟩
      · rw [if_neg (by rw [nI_eq (by omega) (by omega)]; exact e)]
        have hBc : rlx (eE d m r) c k A c = A c := by unfold rlx; rw [if_neg (by omega)]
        have hBk : rlx (eE d m r) c k A k = A k := by unfold rlx; rw [if_neg (by omega)]
        have hgc : g' c = nI (A c) := by rw [hg' c hc, hBc]
        have hgk : g' k = nI (A k) := by rw [hg' k hkn, hBk]
        have hAk := hA k hkn
        have hfe := fE_le (m := m) hd hr hc hkn (s := A c)
        simp (disch := omega) only [ixd_nI, sF_at, hgc, hgk, bnd_eq, sA_sF]
        rw [x_firstEnd hd hT hm hO hr hc hkn (by omega), ob1_s]
        by_cases c1 : 999 < fE d m r c k (A c)
        · have hee : eE d m r c k (A c) = 1000000 := by unfold eE; rw [if_neg (by omega)]
          rw [if_pos (by rw [lit]; exact nI_lt c1 (by omega))]
          refine ih j _ _ _ (by omega) ⟨k + 1, b, g', rfl, (nI_succ k).symm, rfl, by omega, fun t ht => ?_, fun hbf t ht htc => ?_⟩
          · rw [rlx_s e t]
            by_cases e2 : t = k
            · subst e2; rw [if_pos rfl, hgk, hee]; congr 1; omega
            · rw [if_neg e2]; exact hg' t ht
          · by_cases e2 : t = k
            · subst e2; rw [hee]; exact hAk
            · exact hb hbf t (by omega) htc
        · have hee : eE d m r c k (A c) = fE d m r c k (A c) := by unfold eE; rw [if_pos (by omega)]
          rw [if_neg (by rw [lit]; exact nI_nlt (by omega) (by omega))]
          by_cases c2 : A k ≤ fE d m r c k (A c)
          · rw [if_pos (nI_le c2 (by omega))]
            refine ih j _ _ _ (by omega) ⟨k + 1, b, g', rfl, (nI_succ k).symm, rfl, by omega, fun t ht => ?_, fun hbf t ht htc => ?_⟩
            · rw [rlx_s e t]
              by_cases e2 : t = k
              · subst e2; rw [if_pos rfl, hgk, hee]; congr 1; omega
              · rw [if_neg e2]; exact hg' t ht
            · by_cases e2 : t = k
              · subst e2; rw [hee]; exact c2
              · exact hb hbf t (by omega) htc
          · rw [if_neg (nI_ge (by omega) (by omega))]
            refine ih j _ _ _ (by omega) ⟨k + 1, true, _, rfl, (nI_succ k).symm, rfl, by omega, fun t ht => ?_, fun hbf => by cases hbf⟩
            rw [rlx_s e t, upd_at]
            by_cases e2 : t = k
            · subst e2; rw [if_pos rfl, if_pos rfl, hee]; congr 1; omega
            · rw [if_neg e2, if_neg e2]; exact hg' t ht
  obtain ⟨⟨b, S'⟩, h1, g', h2, h3, h4⟩ := key
  simp only at h2 h4
  exact ⟨g', b, by rw [h1, h2], h3, h4⟩
theorem x_spread (hd : TrOK d) (hT : TrC d T) (hm : MoOK d m) (hO : MoC d m O) (hM : TrM d (M.2.1 20)) (hN : MoM d m (M.2.1 20)) {S : Sg} {r a s : Nat} (hr : r < d.rd) (ha : a < d.n) (hs : s ≤ 99999) : ∃ g, f_X6_spread S T O (nI r) (nI a) (nI s) = some (sF S 1 g) ∧ ∀ t, t < d.n → g t = nI (snv d m r a s t) := by
  have hn := hd.n8
  have hEP := eE_EP (m := m) hd hr
  unfold f_X6_spread
  rw [bnd_eq]
  by_cases hs9 : s ≤ 999
  · have hB := sn_ok hd hM hN hr ha hs9
    rw [if_pos (by rw [lit]; exact nI_le hs9 (by omega))]
    simp (disch := omega) only [ixd_nI, bnd_eq, sA_sF]
    have hsn : ∀ t, snv d m r a s t = sn d m r a s t := fun t => by unfold snv; rw [if_pos hs9]
    simp only [hsn]
    generalize sn d m r a s = B at hB
    have key : Wp (fl3 (f_X6_spread_b30 T O (nI r) (nI a) (nI s)) FU 1 0 (sF S 1 (upd (fillf (S.2.1 1) 8 1000000) a (nI s)))) (fun S' => ∃ g, S' = sF S 1 g ∧ ∀ t, t < d.n → g t = nI (B t)) := by
      refine wp_fl3 (fun j x y Z => ∃ k b g A, x = bI b ∧ y = nI k ∧ Z = sF S 1 g ∧ k + j = 8 ∧ (∀ t, t < d.n → g t = nI (A t)) ∧ BF d.n B k A ∧ A a ≤ s ∧ (b = false → ∀ t, t < d.n → A t = B t)) ?_ 8 (FU_lt (by omega)) _ _ _ ⟨0, true, _, fun t => if t = a then s else 1000000, rfl, rfl, rfl, by omega, ?_, bf_0 hEP hB hs9, by simp, fun h => by cases h⟩
      · rintro j K _ _ _ ⟨k, b, g, A, rfl, rfl, rfl, hkj, hg, hbf, haa, hb⟩ ih
        unfold f_X6_spread_b30
        by_cases e : 8 ≤ k
        · rw [if_pos (by rw [lit]; exact nI_le e (by omega))]
          refine wp_some.mpr ⟨g, rfl, fun t ht => ?_⟩
          rw [hg t ht, hbf.2 t ht (by have := rkS_n (B := B) ht; omega)]
        · rw [if_neg (by rw [lit]; exact nI_ge (by omega) (by omega))]
          cases b with
          | false =>
            rw [if_pos (by decide)]
            exact wp_some.mpr ⟨g, rfl, fun t ht => by rw [hg t ht, hb rfl t ht]⟩
          | true =>
            rw [if_neg (by decide)]
            refine wp_fl4 (fun i x y z Z => ∃ c b g' A', x = bI b ∧ y = nI k ∧ z = nI c ∧ Z = sF S 1 g' ∧ c + i = d.n ∧ (∀ t, t < d.n → g' t = nI (A' t)) ∧ RI d.n (eE d m r) B A A' c b) ?_ d.n (FU_lt (by omega)) _ _ _ _ ⟨0, false, g, A, rfl, rfl, rfl, rfl, by omega, hg, ri_0 hbf⟩
            rintro i K2 _ _ _ _ ⟨c, b, g', A', rfl, rfl, rfl, rfl, hci, hg', hri⟩ ih2
            unfold f_X6_spread_b48 f_X6_spread_b88
            cases i with
            | zero =>
              have e : c = d.n := by omega
              subst e
              rw [hT.1.1, if_pos (nI_le (Nat.le_refl _) (by omega)), wp_bnd]
              obtain ⟨q1, q2, q3⟩ := bf_round hEP ha hB hbf haa hri
              exact ih (j - 1) _ _ _ (by omega) ⟨k + 1, b, g', A', rfl, (nI_succ k).symm, rfl, by omega, hg', q1, q2, q3⟩
            | succ i =>
              have hcn : c < d.n := by omega
              rw [hT.1.1, if_neg (nI_ge hcn (by omega))]
              have hr1 := (hri.1 c hcn).2.1
              simp (disch := omega) only [ixd_nI, sF_at, hg' c hcn, bnd_eq]
              rcases hr1 with h9 | h9
              · rw [if_neg (by rw [lit, nI_eq (by omega) (by omega)]; omega)]
                obtain ⟨g2, b2, w1, w2, w3⟩ := x_spreadFrom hd hT hm hO (S := S) hr hcn hg' (fun t ht => by rcases (hri.1 t ht).2.1 with h | h <;> omega) h9
                rw [w1, ob2_s]
                dsimp only
                have hgo := ri_go hEP hB hcn hri h9 w3
                cases b2 with
                | false =>
                  rw [if_pos (by decide)]
                  rw [Bool.or_false] at hgo
                  exact ih2 i _ _ _ _ (by omega) ⟨c + 1, b, g2, _, rfl, rfl, (nI_succ c).symm, rfl, by omega, w2, hgo⟩
                | true =>
                  rw [if_neg (by decide)]
                  rw [Bool.or_true] at hgo
                  exact ih2 i _ _ _ _ (by omega) ⟨c + 1, true, g2, _, rfl, rfl, (nI_succ c).symm, rfl, by omega, w2, hgo⟩
              · rw [if_pos (by rw [h9]; rfl)]
                exact ih2 i _ _ _ _ (by omega) ⟨c + 1, b, g', A', rfl, rfl, (nI_succ c).symm, rfl, by omega, hg', ri_skip hEP hcn hri h9⟩
      · intro t ht
        rw [upd_at]
        by_cases e : t = a
        · rw [if_pos e]; simp only [if_pos e]
        · rw [if_neg e]; simp only [if_neg e]; unfold fillf; rw [if_pos (by omega)]; rfl
    obtain ⟨x, h1, g, h2, h3⟩ := key
    exact ⟨g, by rw [h1, h2], h3⟩
  · rw [if_neg (by rw [lit]; exact nI_ge (by omega) (by omega))]
    refine ⟨_, rfl, fun t ht => ?_⟩
    unfold fillf snv
    rw [if_pos (by omega), if_neg hs9]
    rfl
theorem snv_le (hd : TrOK d) (hM : TrM d (M.2.1 20)) (hN : MoM d m (M.2.1 20)) {r a s t : Nat} (hr : r < d.rd) (ha : a < d.n) (ht : t < d.n) : snv d m r a s t ≤ 999 ∨ snv d m r a s t = 1000000 := by
  unfold snv
  by_cases h : s ≤ 999
  · rw [if_pos h]; exact (sn_ok hd hM hN hr ha h).2.1 t ht
  · rw [if_neg h]; exact Or.inr rfl
theorem x_soonestOf (hd : TrOK d) (hT : TrC d T) (hm : MoOK d m) (hO : MoC d m O) (hM : TrM d (M.2.1 20)) (hN : MoM d m (M.2.1 20)) {S : Sg} {r kn : Nat} (hr : r < d.rd) (hk : kn ≤ 99999) : ∃ g, f_X6_soonestOf S T O (nI r) (nI kn) = some (nI (rt d m r (plc m r) (sof m r kn)), sF S 1 g) := by
  have hn := hd.n8
  have hp := plc_lt hm hr
  have hso := sof_le hm hr hk
  obtain ⟨g, h1, h2⟩ := x_spread hd hT hm hO hM hN (S := S) hr hp hso
  refine ⟨g, ?_⟩
  unfold f_X6_soonestOf
  rw [x_placeOf hd hm hO hr, ob1_s, x_startOf hd hm hO hr hk, ob1_s, h1, ob1_s, rt_snv]
  refine wp_val.mp (wp_fl3 (fun j x y Z => ∃ k, x = nI (mnr (fun c => decide (d.g c = d.ds r)) (snv d m r (plc m r) (sof m r kn)) k) ∧ y = nI k ∧ Z = sF S 1 g ∧ k + j = d.n) ?_ d.n (FU_lt (by omega)) _ _ _ ⟨0, rfl, rfl, rfl, by omega⟩)
  rintro j K _ _ _ ⟨k, rfl, rfl, rfl, hkj⟩ ih
  unfold f_X6_soonestOf_b25 f_X6_soonestOf_b65
  cases j with
  | zero =>
    have e : k = d.n := by omega
    subst e
    rw [hT.1.1, if_pos (nI_le (Nat.le_refl _) (by omega)), wp_some]
  | succ j =>
    have hkn : k < d.n := by omega
    have h9 := snv_le hd hM hN (s := sof m r kn) hr hp hkn
    have h8 := @mnr_le9 (fun c => decide (d.g c = d.ds r)) (snv d m r (plc m r) (sof m r kn)) k
    rw [hT.1.1, if_neg (nI_ge hkn (by omega)), x_isRight hd hT hr hkn, ob1_s]
    by_cases c1 : d.g k = d.ds r
    · simp only [c1, decide_true]
      rw [if_neg (by decide)]
      simp (disch := omega) only [ixd_nI, sF_at, h2 k hkn, bnd_eq, nI_min]
      exact ih j _ _ _ (by omega) ⟨k + 1, by rw [mnr_s]; simp only [c1, decide_true, if_true], (nI_succ k).symm, rfl, by omega⟩
    · simp only [c1, decide_false]
      rw [if_pos (by decide), wp_bnd]
      exact ih j _ _ _ (by omega) ⟨k + 1, by rw [mnr_s]; simp only [c1, decide_false, Bool.false_eq_true, if_false], (nI_succ k).symm, rfl, by omega⟩
theorem m_whereOf (hd : TrOK d) (hm : MoOK d m) (hN : MoM d m (M.2.1 20)) {r : Nat} (hr : r < d.rd) : f_X12_whereOf M (nI r) = some (nI (plc m r)) := by
  have h0 := hd.r6
  unfold f_X12_whereOf plc
  rw [m_isGoing hd hm hN hr, ob1_s]
  have h1 := (hN.2.2 r hr)
  by_cases h : m.gq r = true
  · rw [h, if_neg (by decide), if_pos rfl, show (5 : Int32) = nI 5 from rfl, m_riderOf (by omega) (by omega), ob1_s, h1.2.1, if_pos h]
  · simp only [Bool.not_eq_true] at h
    rw [h, if_pos (by decide), if_neg (by decide), show (0 : Int32) = nI 0 from rfl, m_riderOf (by omega) (by omega), ob1_s, Nat.add_zero, h1.1]
theorem m_beginOf (hd : TrOK d) (hm : MoOK d m) (hN : MoM d m (M.2.1 20)) {r kn : Nat} (hr : r < d.rd) (hk : kn ≤ 99999) : f_X12_beginOf M (nI r) (nI kn) = some (nI (sof m r kn)) := by
  have h0 := hd.r6
  have hs := hm.1
  have h1 := (hN.2.2 r hr)
  have key : ∀ q, q = max m.sec kn → f_X12_beginOf_b20 M (nI r) (nI kn) (nI q) = some (nI (sof m r kn)) := by
    intro q hq
    unfold f_X12_beginOf_b20 f_X12_beginOf_b50 sof
    rw [m_isGoing hd hm hN hr, ob1_s]
    by_cases h : m.gq r = true
    · have h2 := hm.2.2.2.2 r hr h
      rw [h, if_neg (by decide), if_pos rfl, show (6 : Int32) = nI 6 from rfl, m_riderOf (by omega) (by omega), ob1_s, ob1_s, h1.2.2.1, if_pos h]
      by_cases c : m.en r ≤ q
      · rw [if_pos (nI_le c (by omega))]; congr 2; omega
      · rw [if_neg (nI_ge (by omega) (by omega))]; congr 2; omega
    · simp only [Bool.not_eq_true] at h
      rw [h, if_pos (by decide), if_neg (by decide)]; congr 2; omega
  unfold f_X12_beginOf
  rw [hN.1.1]
  by_cases c : kn ≤ m.sec
  · rw [if_pos (nI_le c (by omega))]; exact key _ (by omega)
  · rw [if_neg (nI_ge (by omega) (by omega))]; exact key _ (by omega)
theorem m_rt (hd : TrOK d) (hm : MoOK d m) (hM : TrM d (M.2.1 20)) (hN : MoM d m (M.2.1 20)) {r : Nat} (hr : r < d.rd) : ∃ g h, f_X12_soonestOf M (nI r) = some (sN (rt d m r (plc m r) (sof m r (d.kn r))), sM M g h) := by
  have h0 := hd.r6
  have hk := (hd.rr r hr).2.2.2
  have hso := sof_le hm hr (show d.kn r ≤ 99999 by omega)
  unfold f_X12_soonestOf
  rw [show (4 : Int32) = nI 4 from rfl, m_riderOf (by omega) (by omega), ob1_s, (hM.2.2.2.2.2 r hr).2.2.2, m_beginOf hd hm hN hr (by omega), ob1_s]
  by_cases c : sof m r (d.kn r) ≤ 999
  · rw [if_pos (by rw [lit]; exact nI_le c (by omega)), m_whereOf hd hm hN hr, ob1_s]
    obtain ⟨g, h, h1⟩ := m_rightFrom hd hM hN hr (plc_lt hm hr) c
    exact ⟨g, h, by rw [h1, ob2_s]⟩
  · rw [if_neg (by rw [lit]; exact nI_ge (by omega) (by omega))]
    refine ⟨M.2.1 24, M.2.1 25, ?_⟩
    rw [sM_id, sN_i (by unfold rt; rw [if_neg c]; omega)]
    rfl
end
