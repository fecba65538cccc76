/-! LINE: the draft of the class and what the reference has read -/
def isN (a k : Nat) (v : Int32) : Prop := ∃ x, v = nI x ∧ a ≤ x ∧ x ≤ k
def kz (M M' : Sg) : Prop := (∀ k, k ≠ 7 → M'.2.1 k = M.2.1 k) ∧ M'.2.2 = M.2.2 ∧ ∀ k, k ≠ 8 → k ≠ 9 → k ≠ 10 → M'.1 k = M.1 k
theorem kz.rf (M : Sg) : kz M M := ⟨fun _ _ => rfl, rfl, fun _ _ _ _ => rfl⟩
theorem kz.tr {M M' M2 : Sg} (h : kz M M') (h2 : kz M' M2) : kz M M2 := ⟨fun k hk => (h2.1 k hk).trans (h.1 k hk), h2.2.1.trans h.2.1, fun k a c d => (h2.2.2 k a c d).trans (h.2.2 k a c d)⟩
theorem kq.z {M M' : Sg} (h : kq M M') : kz M M' := ⟨fun k _ => by rw [h.1], by rw [h.1], fun k a c d => h.2 k a c d⟩
theorem kz.a (M : Sg) (j : Nat) (v : Int32) : kz M (sA M 7 j v) := ⟨fun k hk => sA_ne M j v hk, rfl, fun _ _ _ _ => rfl⟩
theorem kz.s (M : Sg) {j : Nat} (hj : j = 8 ∨ j = 9 ∨ j = 10 ∨ False) (v : Int32) : kz M (sI M j v) := ⟨fun _ _ => rfl, rfl, fun k a c d => by show (if k = j then v else M.1 k) = M.1 k; rw [if_neg (by rcases hj with h | h | h | h; omega; omega; omega; exact h.elim)]⟩
section
variable {b : Nat → Int32} {n : Nat} {M Q : Sg} {p : Nat}
theorem qbm_ne {P c : Nat} (hP : P ≤ 400) (hc : c < 8) : qbm 0 P c ≠ 0 := by
  unfold qbm
  rw [if_pos rfl, show (0 : Int32) = nI 0 from rfl]
  intro e
  rw [nI_eq (by omega) (by omega)] at e
  omega
theorem qbm_f {f : Int32} (hf : f ≠ 0) (P c : Nat) : qbm f P c = f := if_neg hf
theorem lk_num (hn : n ≤ 400) (hQ : TQ b n Q (qsp b n p) 0) (hM : MqR b n M p) (h9 : M.1 9 = 0) (lo hi : Int32) (hlo : 0 ≤ lo) : (∃ v Q' q, f_X8_takeNumber Q lo hi = some (v, Q') ∧ f_X12_numberHere M lo hi = some (true, sI (sI M 8 (nI q)) 10 v) ∧ lo ≤ v ∧ v ≤ hi ∧ TQ b n Q' (qsp b n q) 0 ∧ q ≤ n) ∨ (∃ Q' M', f_X8_takeNumber Q lo hi = some (lo, Q') ∧ f_X12_numberHere M lo hi = some (false, M') ∧ kq M M' ∧ M'.1 9 ≠ 0 ∧ TQ b n Q' n (M'.1 9)) := by
  have hP := hQ.le
  obtain ⟨m1, m2⟩ := m_num hM hn lo hi hlo
  by_cases c : qkd b n (qsp b n p) = 1 ∧ lo ≤ qvl b n (qsp b n p) ∧ qvl b n (qsp b n p) ≤ hi
  · obtain ⟨⟨v, Q'⟩, e, e1, e2⟩ := x_tnYes hQ c.1 c.2.1 c.2.2
    have hlt : qsp b n p < n := by
      have hz := qkd_z (b := b) (n := n) (P := qsp b n p)
      by_cases q : qsp b n p < n
      · exact q
      · have := hz.mpr q; omega
    simp only at e1 e2
    subst e1
    exact Or.inl ⟨_, Q', _, e, m1 c, c.2.1, c.2.2, e2, (qte_gt hlt).2⟩
  · obtain ⟨⟨v, Q'⟩, e, e1, e2⟩ := x_tnNo hQ hn (lo := lo) (hi := hi) c
    obtain ⟨⟨r, M'⟩, f1, f2, f3, f4⟩ := m2 c
    simp only at e1 e2 f2 f3 f4
    subst e1 f2
    rw [h9] at f4
    refine Or.inr ⟨Q', M', e, f1, f3, ?_, ?_⟩
    · rw [f4]; exact qbm_ne (by omega) (by split <;> omega)
    · rw [f4]; exact e2
theorem x_tnE (hn : n ≤ 400) {f : Int32} (hQ : TQ b n Q n f) (hf : f ≠ 0) (lo hi : Int32) : ∃ Q', f_X8_takeNumber Q lo hi = some (lo, Q') ∧ TQ b n Q' n f := by
  have hk : qkd b n n = 0 := qkd_z.mpr (by omega)
  obtain ⟨⟨v, Q'⟩, e, e1, e2⟩ := x_tnNo hQ hn (lo := lo) (hi := hi) (fun h => by rw [hk] at h; omega)
  simp only at e1 e2
  subst e1
  rw [qbm_f hf] at e2
  exact ⟨Q', e, e2⟩
/-- both go on, or both found a FAULT -/
def Lk (b : Nat → Int32) (n : Nat) (M : Sg) (e : Option (Bool × Sg)) (Q' : Sg) (G : Sg → Prop) : Prop := ∃ r M', e = some (r, M') ∧ kz M M' ∧ ((r = true ∧ M'.1 9 = 0 ∧ (∃ p', MqR b n M' p' ∧ TQ b n Q' (qsp b n p') 0) ∧ G M') ∨ (r = false ∧ M'.1 9 ≠ 0 ∧ TQ b n Q' n (M'.1 9)))
def Ln1 (nn st rd : Nat) (T : Sg) (f : Nat → Int32) : Prop := (T.1 0 = nI nn ∧ T.1 1 = nI st ∧ T.1 2 = nI rd) ∧ (f 0 = nI nn ∧ f 1 = nI st ∧ f 2 = nI rd) ∧ nn ≤ 8 ∧ st ≤ 6 ∧ rd ≤ 6 ∧ (0 < nn → 2 ≤ nn) ∧ (nn = 0 → rd = 0)
def Ln2 (nn st tb : Nat) (T L : Sg) (f : Nat → Int32) : Prop := (L.1 2 = nI tb ∧ tb < 1024 ∧ tb.testBit 0 = decide (0 < nn)) ∧ f 7 = nI (if tb.testBit 1 then 1 else 0) ∧ (tb.testBit 3 = true → ∃ ps, T.1 3 = nI ps ∧ f 4 = nI ps ∧ ps < st) ∧ (tb.testBit 3 = false → f 4 = -1) ∧ (tb.testBit 9 = true → ∃ pl, T.1 5 = nI pl ∧ f 5 = nI pl ∧ 1 ≤ pl ∧ pl ≤ 20) ∧ (tb.testBit 9 = false → T.1 5 = 4 ∧ f 5 = -1)
def Ln3 (nn sh : Nat) (T O : Sg) (f : Nat → Int32) : Prop := (O.1 0 = 0 ∧ O.1 1 = nI sh ∧ sh < 128 ∧ (nn = 0 → sh = 0) ∧ f 3 = 0 ∧ f 8 = 0) ∧ ∀ c, c < 8 → (isN 0 3 (T.2.1 6 c) ∧ isN 0 9 (T.2.1 7 c) ∧ isN 0 999 (T.2.1 8 c)) ∧ (0 < nn → f (10 + c) = T.2.1 6 c ∧ f (44 + c) = T.2.1 7 c ∧ (c < 7 → f (37 + c) = T.2.1 8 c ∧ f (30 + c) = nI (if sh.testBit c then 1 else 0))) ∧ (nn = 0 → T.2.1 6 c = 0 ∧ T.2.1 7 c = 4 ∧ T.2.1 8 c = 0)
def Ln4 (st : Nat) (T : Sg) (f : Nat → Int32) : Prop := ∃ hb he : Nat → Nat, (∀ s, s < st → (T.2.1 9 s = nI (hb s) ∧ T.2.1 10 s = nI (he s)) ∧ (f (18 + 2 * s) = nI (hb s) ∧ f (18 + 2 * s + 1) = nI (he s)) ∧ 1 ≤ hb s ∧ hb s < he s ∧ he s ≤ 159 * (s + 1)) ∧ ∀ s, s + 1 < st → he s < hb (s + 1)
def Ln5 (nn rd : Nat) (T O : Sg) (f : Nat → Int32) : Prop := (∀ r, r < rd → (isN 0 (nn - 1) (O.2.1 2 r) ∧ isN 0 3 (T.2.1 11 r) ∧ isN 1 20 (T.2.1 12 r) ∧ isN 0 3 (T.2.1 13 r) ∧ isN 0 999 (T.2.1 14 r)) ∧ (f (52 + 8 * r) = O.2.1 2 r ∧ f (52 + 8 * r + 1) = T.2.1 11 r ∧ f (52 + 8 * r + 2) = T.2.1 12 r ∧ f (52 + 8 * r + 3) = T.2.1 13 r ∧ f (52 + 8 * r + 4) = T.2.1 14 r) ∧ f (52 + 8 * r + 5) = -1 ∧ f (52 + 8 * r + 6) = -1 ∧ f (52 + 8 * r + 7) = 0) ∧ ∀ r, r < 6 → (O.2.1 3 r = -1 ∧ O.2.1 4 r = -1 ∧ O.2.1 5 r = -1 ∧ O.2.1 6 r = 0) ∧ (rd ≤ r → T.2.1 14 r = 0)
def LnR (nn st rd tb sh : Nat) (T O L : Sg) (f : Nat → Int32) : Prop := Ln1 nn st rd T f ∧ Ln2 nn st tb T L f ∧ Ln3 nn sh T O f ∧ Ln4 st T f ∧ Ln5 nn rd T O f
theorem Ln1_c {nn st rd : Nat} {T : Sg} {f g : Nat → Int32} (h : Ln1 nn st rd T f) (e : ∀ i, i ≤ 2 → g i = f i) : Ln1 nn st rd T g := by
  obtain ⟨h1, h2, h3⟩ := h
  exact ⟨h1, by rw [e 0 (by omega), e 1 (by omega), e 2 (by omega)]; exact h2, h3⟩
theorem Ln2_c {nn st tb : Nat} {T L : Sg} {f g : Nat → Int32} (h : Ln2 nn st tb T L f) (e : ∀ i, 4 ≤ i → i ≤ 7 → g i = f i) : Ln2 nn st tb T L g := by
  unfold Ln2
  rw [e 7 (by omega) (by omega), e 4 (by omega) (by omega), e 5 (by omega) (by omega)]
  exact h
theorem Ln2_st {nn st tb : Nat} {T L : Sg} {f : Nat → Int32} (h : Ln2 nn st tb T L f) : Ln2 nn (st + 1) tb T L f := by
  obtain ⟨h1, h2, h3, h4⟩ := h
  refine ⟨h1, h2, fun q => ?_, h4⟩
  obtain ⟨ps, a, c, d⟩ := h3 q
  exact ⟨ps, a, c, by omega⟩
theorem Ln3_c {nn sh : Nat} {T O : Sg} {f g : Nat → Int32} (h : Ln3 nn sh T O f) (e : ∀ i, i = 3 ∨ i = 8 ∨ (10 ≤ i ∧ i ≤ 17) ∨ (30 ≤ i ∧ i ≤ 51) → g i = f i) : Ln3 nn sh T O g := by
  obtain ⟨h1, h2⟩ := h
  refine ⟨by rw [e 3 (by omega), e 8 (by omega)]; exact h1, fun c hc => ?_⟩
  rw [e (10 + c) (by omega), e (44 + c) (by omega)]
  obtain ⟨a1, a2, a3⟩ := h2 c hc
  refine ⟨a1, fun q => ⟨(a2 q).1, (a2 q).2.1, fun h7 => ?_⟩, a3⟩
  rw [e (37 + c) (by omega), e (30 + c) (by omega)]
  exact (a2 q).2.2 h7
theorem Ln4_c {st : Nat} {T : Sg} {f g : Nat → Int32} (h : Ln4 st T f) (h6 : st ≤ 6) (e : ∀ i, 18 ≤ i → i ≤ 29 → g i = f i) : Ln4 st T g := by
  obtain ⟨hb, he, h1, h2⟩ := h
  refine ⟨hb, he, fun s hs => ?_, h2⟩
  rw [e (18 + 2 * s) (by omega) (by omega), e (18 + 2 * s + 1) (by omega) (by omega)]
  exact h1 s hs
theorem Ln5_c {nn rd : Nat} {T O : Sg} {f g : Nat → Int32} (h : Ln5 nn rd T O f) (e : ∀ i, 52 ≤ i → g i = f i) : Ln5 nn rd T O g := by
  obtain ⟨h1, h2⟩ := h
  refine ⟨fun r hr => ?_, h2⟩
  rw [e (52 + 8 * r) (by omega), e (52 + 8 * r + 1) (by omega), e (52 + 8 * r + 2) (by omega), e (52 + 8 * r + 3) (by omega), e (52 + 8 * r + 4) (by omega), e (52 + 8 * r + 5) (by omega), e (52 + 8 * r + 6) (by omega), e (52 + 8 * r + 7) (by omega)]
  exact h1 r hr
theorem rg_nat {v : Int32} {a k : Nat} (ha : a < 2 ^ 31) (hk : k < 2 ^ 31) (h1 : nI a ≤ v) (h2 : v ≤ nI k) : ∃ x, v = nI x ∧ a ≤ x ∧ x ≤ k := nI_rg hk h1 h2 ha
/-! STOP -/
theorem lk_stop (hn : n ≤ 400) {nn st rd tb sh P : Nat} {T O L M1 : Sg} (hL : LnR nn st rd tb sh T O L (M.2.1 7)) (h6 : st < 6) (hpw : f_X12_passWord M = some M1) (hk : kq M M1) (h9 : M1.1 9 = 0) (hQ : TQ b n Q (qsp b n p) 0) (hM : MqR b n M1 p) : Wp (f_X1_readStop Q T) (fun o => Lk b n M (f_X12_isStopHere M (nI P)) o.1 (fun M' => LnR nn (st + 1) rd tb sh o.2 O L (M'.2.1 7))) := by
  obtain ⟨⟨⟨t0, t1, t2⟩, ⟨r0, r1, r2⟩, l8, l6, l66, l2, l0⟩, L2, L3, L4, L5⟩ := hL
  have hL4 := L4
  obtain ⟨hb, he, hh, hhr⟩ := L4
  have e7 : M1.2.1 7 = M.2.1 7 := by rw [hk.1]
  unfold f_X1_readStop f_X12_isStopHere
  rw [t1, r1, if_neg (show ¬ nI st = 6 by rw [show (6 : Int32) = nI 6 from rfl, nI_eq (by omega) (by omega)]; omega), hpw, ob1_s, e7, r1, show (18 : Int32) = nI 18 from rfl, show (2 : Int32) = nI 2 from rfl, nI_mul, nI_add, bnd_eq]
  have hrest : ∀ (v1 v2 : Int32) (Q2 : Sg), Wp (bnd (nI st) fun x4_34 => if x4_34 = 0 then f_X1_readStop_b54 v1 v2 x4_34 0 Q2 T else ixd (x4_34 - 1) 6 fun i53 => f_X1_readStop_b54 v1 v2 x4_34 (T.2.1 10 i53) Q2 T) (fun o => o = (Q2, sI (sA (sA T 9 st ((if st = 0 then 0 else nI (he (st - 1))) + v1)) 10 st ((if st = 0 then 0 else nI (he (st - 1))) + v1 + v2)) 1 (nI (st + 1)))) := by
    intro v1 v2 Q2
    rw [wp_bnd]
    have e1 : (sA (sA T 9 st ((if st = 0 then 0 else nI (he (st - 1))) + v1)) 10 st ((if st = 0 then 0 else nI (he (st - 1))) + v1 + v2)).1 1 = nI st := t1
    by_cases c : st = 0
    · rw [if_pos (show nI st = 0 by rw [c]; rfl)]
      unfold f_X1_readStop_b54
      rw [if_pos c] at e1 ⊢
      rw [ixd_nI (by omega) (by omega), bnd_eq, ixd_nI (by omega) (by omega), bnd_eq, e1, bnd_eq, ← nI_succ]
      exact wp_some.mpr rfl
    · rw [if_neg (show ¬ nI st = 0 by rw [show (0 : Int32) = nI 0 from rfl, nI_eq (by omega) (by omega)]; exact c), show nI st - 1 = nI (st - 1) from nI_sub (b := 1) (by omega), ixd_nI (by omega) (by omega), (hh (st - 1) (by omega)).1.2]
      unfold f_X1_readStop_b54
      rw [if_neg c] at e1 ⊢
      rw [ixd_nI (by omega) (by omega), bnd_eq, ixd_nI (by omega) (by omega), bnd_eq, e1, bnd_eq, ← nI_succ]
      exact wp_some.mpr rfl
  rcases lk_num hn hQ hM h9 1 99 (by decide) with ⟨v1, Q1, q1, a1, a2, a3, a4, a5, a6⟩ | ⟨Q1, M2, a1, a2, a3, a4, a5⟩
  · rw [a1, ob2_s]
    dsimp only
    generalize hM2 : sI (sI M1 8 (nI q1)) 10 v1 = M2 at a2
    have k2 : kz M M2 := by rw [← hM2]; exact hk.z.tr ((kz.s _ (Or.inl rfl) _).tr (kz.s _ (Or.inr (Or.inr (Or.inl rfl))) _))
    have m7 : M2.2.1 7 = M.2.1 7 := by rw [← hM2]; exact e7
    have m10 : M2.1 10 = v1 := by rw [← hM2]; rfl
    have m9 : M2.1 9 = 0 := by rw [← hM2]; exact h9
    have mq : MqR b n M2 q1 := by rw [← hM2]; exact ⟨hM.1, hM.2.1, rfl, a6⟩
    generalize hs0 : (if st = 0 then (0 : Int32) else nI (he (st - 1))) = s0 at hrest
    have href : (if nI st = 0 then f_X12_isStopHere_b72 (nI P) (nI (18 + 2 * st)) (nI (18 + 2 * st)) 0 M2 else ixd (nI (18 + 2 * st) - 1) 100 fun i71 => f_X12_isStopHere_b72 (nI P) (nI (18 + 2 * st)) (nI (18 + 2 * st)) (M.2.1 7 i71) M2) = f_X12_isStopHere_b72 (nI P) (nI (18 + 2 * st)) (nI (18 + 2 * st)) s0 M2 := by
      by_cases c : st = 0
      · rw [if_pos (show nI st = 0 by rw [c]; rfl), ← hs0, if_pos c]
      · rw [if_neg (show ¬ nI st = 0 by rw [show (0 : Int32) = nI 0 from rfl, nI_eq (by omega) (by omega)]; exact c), show nI (18 + 2 * st) - 1 = nI (18 + 2 * st - 1) from nI_sub (b := 1) (by omega), ixd_nI (by omega) (by omega), ← hs0, if_neg c]
        have := (hh (st - 1) (by omega)).2.1.2
        rw [show 18 + 2 * (st - 1) + 1 = 18 + 2 * st - 1 by omega] at this
        rw [this]
    obtain ⟨x1, rfl, x1a, x1b⟩ := rg_nat (a := 1) (k := 99) (by omega) (by omega) a3 a4
    have hs : ∃ z, s0 = nI z ∧ z ≤ 159 * st ∧ ∀ s, s + 1 = st → he s = z := by
      by_cases c : st = 0
      · exact ⟨0, by rw [← hs0, if_pos c]; rfl, by omega, fun s hs => by omega⟩
      · have := (hh (st - 1) (by omega)).2.2.2.2
        exact ⟨he (st - 1), by rw [← hs0, if_neg c], by rw [show st - 1 + 1 = st by omega] at this; exact this, fun s hs => by rw [show s = st - 1 by omega]⟩
    obtain ⟨z, rfl, hz1, hz2⟩ := hs
    have hun : f_X12_isStopHere_b72 (nI P) (nI (18 + 2 * st)) (nI (18 + 2 * st)) (nI z) M2 = ob2 (f_X12_numberHere (sA M2 7 (18 + 2 * st) (nI (z + x1))) 1 60) fun r82 M_82 => if (bI r82) = 0 then (some (false, M_82)) else (ixd (nI (18 + 2 * st)) 100 fun i102 => ixd (nI (18 + 2 * st) + 1) 100 fun i108 => bnd (sA M_82 7 i108 ((M_82.2.1 7 i102) + (M_82.1 10))) fun M_108 => bnd (sA M_108 7 1 ((M_108.2.1 7 1) + 1)) fun M_118 => some (true, M_118)) := by
      unfold f_X12_isStopHere_b72
      rw [ixd_nI (by omega) (by omega), bnd_eq, m10, nI_add]
    generalize hM3 : sA M2 7 (18 + 2 * st) (nI (z + x1)) = M3 at hun
    have k3 : kz M M3 := by rw [← hM3]; exact k2.tr (kz.a _ _ _)
    have mq3 : MqR b n M3 q1 := by rw [← hM3]; exact mq
    have m93 : M3.1 9 = 0 := by rw [← hM3]; exact m9
    rcases lk_num hn a5 mq3 m93 1 60 (by decide) with ⟨v2, Q2, q2, b1, b2, b3, b4, b5, b6⟩ | ⟨Q2, M4, b1, b2, b3, b4, b5⟩
    · obtain ⟨x2, rfl, x2a, x2b⟩ := rg_nat (a := 1) (k := 60) (by omega) (by omega) b3 b4
      rw [b1, ob2_s]
      dsimp only
      refine wp_mono (hrest (nI x1) (nI x2) Q2) ?_
      rintro o rfl
      dsimp only
      rw [a2, ob2_s]
      dsimp only
      rw [itT, m7, r1, href, hun, b2, ob2_s]
      dsimp only
      rw [itT]
      generalize hM4 : sI (sI M3 8 (nI q2)) 10 (nI x2) = M4
      have m74 : M4.2.1 7 = upd (M.2.1 7) (18 + 2 * st) (nI (z + x1)) := by rw [← hM4, ← hM3, ← m7]; rfl
      have m104 : M4.1 10 = nI x2 := by rw [← hM4]; rfl
      have w1 : M4.2.1 7 (18 + 2 * st) = nI (z + x1) := by rw [m74, upd_at, if_pos rfl]
      rw [ixd_nI (by omega) (by omega), ← nI_succ, ixd_nI (by omega) (by omega), bnd_eq, w1, m104, nI_add]
      generalize hM5 : sA M4 7 (18 + 2 * st + 1) (nI (z + x1 + x2)) = M5
      have m75 : M5.2.1 7 = upd (M4.2.1 7) (18 + 2 * st + 1) (nI (z + x1 + x2)) := by rw [← hM5]; rfl
      have w2 : M5.2.1 7 1 = nI st := by rw [m75, upd_at, if_neg (by omega), m74, upd_at, if_neg (by omega)]; exact r1
      rw [w2, ← nI_succ, bnd_eq]
      have m76 : ∀ i, (sA M5 7 1 (nI (st + 1))).2.1 7 i = if i = 1 then nI (st + 1) else if i = 18 + 2 * st + 1 then nI (z + x1 + x2) else if i = 18 + 2 * st then nI (z + x1) else M.2.1 7 i := by
        intro i
        show upd (M5.2.1 7) 1 (nI (st + 1)) i = _
        rw [upd_at, m75, upd_at, m74, upd_at]
      have k4 : kz M M4 := by rw [← hM4]; exact k3.tr ((kz.s _ (Or.inl rfl) _).tr (kz.s _ (Or.inr (Or.inr (Or.inl rfl))) _))
      refine ⟨true, _, rfl, (k4.tr (by rw [← hM5]; exact kz.a _ _ _)).tr (kz.a _ _ _), Or.inl ⟨rfl, ?_, ⟨q2, ?_, b5⟩, ?_⟩⟩
      · show M5.1 9 = 0
        rw [← hM5, ← hM4]; exact m93
      · have : MqR b n M4 q2 := by rw [← hM4]; exact ⟨mq3.1, mq3.2.1, rfl, b6⟩
        rw [← hM5]; exact this
      · rw [nI_add, nI_add]
        refine ⟨⟨⟨t0, rfl, t2⟩, ⟨?_, ?_, ?_⟩, l8, by omega, l66, l2, l0⟩, ?_, ?_, ?_, ?_⟩
        · rw [m76, if_neg (by omega), if_neg (by omega), if_neg (by omega)]; exact r0
        · rw [m76, if_pos rfl]
        · rw [m76, if_neg (by omega), if_neg (by omega), if_neg (by omega)]; exact r2
        · exact Ln2_st (Ln2_c (T := T) L2 (fun i h1 h2 => by rw [m76, if_neg (by omega), if_neg (by omega), if_neg (by omega)]))
        · exact Ln3_c (T := T) L3 (fun i h1 => by rw [m76, if_neg (by omega), if_neg (by omega), if_neg (by omega)])
        · refine ⟨fun s => if s = st then z + x1 else hb s, fun s => if s = st then z + x1 + x2 else he s, fun s hs => ?_, fun s hs => ?_⟩
          · have u1 : (sI (sA (sA T 9 st (nI (z + x1))) 10 st (nI (z + x1 + x2))) 1 (nI (st + 1))).2.1 9 s = if s = st then nI (z + x1) else T.2.1 9 s := rfl
            have u2 : (sI (sA (sA T 9 st (nI (z + x1))) 10 st (nI (z + x1 + x2))) 1 (nI (st + 1))).2.1 10 s = if s = st then nI (z + x1 + x2) else T.2.1 10 s := rfl
            rw [u1, u2, m76, m76]
            by_cases c : s = st
            · subst c
              rw [if_pos rfl, if_pos rfl, if_neg (by omega), if_neg (by omega), if_pos rfl, if_neg (by omega), if_pos rfl]
              simp only [if_true]
              exact ⟨⟨trivial, trivial⟩, ⟨trivial, trivial⟩, by omega, by omega, by omega⟩
            · rw [if_neg c, if_neg c, if_neg (by omega), if_neg (by omega), if_neg (by omega), if_neg (by omega), if_neg (by omega), if_neg (by omega)]
              simp only [if_neg c]
              exact hh s (by omega)
          · by_cases c : s + 1 = st
            · simp only [if_pos c, if_neg (show ¬ s = st by omega)]
              have := hz2 s c
              omega
            · simp only [if_neg c, if_neg (show ¬ s = st by omega)]
              exact hhr s (by omega)
        · exact Ln5_c (T := T) L5 (fun i h1 => by rw [m76, if_neg (by omega), if_neg (by omega), if_neg (by omega)])
    · rw [b1, ob2_s]
      dsimp only
      refine wp_mono (hrest (nI x1) 1 Q2) ?_
      rintro o rfl
      dsimp only
      rw [a2, ob2_s]
      dsimp only
      rw [itT, m7, r1, href, hun, b2, ob2_s]
      dsimp only
      rw [itF]
      exact ⟨false, M4, rfl, k3.tr b3.z, Or.inr ⟨rfl, b4, b5⟩⟩
  · rw [a1, ob2_s]
    dsimp only
    obtain ⟨Q2, b1, b2⟩ := x_tnE hn a5 a4 1 60
    rw [b1, ob2_s]
    dsimp only
    refine wp_mono (hrest 1 1 Q2) ?_
    rintro o rfl
    dsimp only
    rw [a2, ob2_s]
    dsimp only
    rw [itF]
    exact ⟨false, M2, rfl, hk.z.tr a3.z, Or.inr ⟨rfl, a4, b2⟩⟩
end
