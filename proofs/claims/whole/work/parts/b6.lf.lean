/-! LINE: signs alike, and the draft finished -/
theorem and255 : ∀ x : Fin 256, (nI x - 128) &&& 255 = nI ((x.val + 128) % 256) ∧ (nI x - 128).toInt = (x.val : Int) - 128 := by decide +kernel
theorem isB_x {v : Int32} (h : isB v) : ∃ x : Nat, x < 256 ∧ v &&& 255 = nI ((x + 128) % 256) ∧ v.toInt = (x : Int) - 128 := by
  unfold isB at h
  have hx : (v.toInt + 128).toNat < 256 := by omega
  have h1 := and255 ⟨(v.toInt + 128).toNat, hx⟩
  have e : v = nI (v.toInt + 128).toNat - 128 := by
    rw [← Int32.toInt_inj, h1.2]
    show v.toInt = ((v.toInt + 128).toNat : Int) - 128
    omega
  refine ⟨(v.toInt + 128).toNat, hx, ?_, by omega⟩
  have h2 := h1.1
  rw [← e] at h2
  exact h2
theorem bAnd {v : Int32} (h : isB v) {c : Nat} (hc : c < 128) : v &&& 255 = nI c ↔ v = nI c := by
  obtain ⟨x, h1, h2, h3⟩ := isB_x h
  rw [h2, nI_eq (by omega) (by omega), ← Int32.toInt_inj, nI_toInt (by omega), h3]
  omega
theorem bAnd1 {v : Int32} (h : isB v) : ¬ v &&& 255 = -1 := by
  obtain ⟨x, h1, h2, h3⟩ := isB_x h
  rw [h2]
  intro e
  exact (eq_m1 (by omega)).mp e
def sgC (c : Nat) : Prop := c < 128 ∧ c ≠ 0 ∧ (c < 48 ∨ 57 < c) ∧ (c < 97 ∨ 122 < c) ∧ c ≠ 60 ∧ c ≠ 62
section
variable {b : Nat → Int32} {n P : Nat}
theorem sg_b {c : Nat} (hc0 : c < 128 ∧ c ≠ 0 ∧ (c < 48 ∨ 57 < c) ∧ (c < 97 ∨ 122 < c)) (hP : P < n) (e : b P = nI c) : qdg b n P = false ∧ qlt b n P = false ∧ qkd b n P = 3 := by
  have h1 : qdg b n P = false := by
    cases h : qdg b n P with
    | false => rfl
    | true =>
      obtain ⟨_, d, g, d1, d2⟩ := qdg_c h
      rw [e, nI_eq (by omega) (by omega)] at g
      omega
  have h2 : qlt b n P = false := by
    cases h : qlt b n P with
    | false => rfl
    | true =>
      obtain ⟨_, d, g, d1, d2⟩ := qlt_c h
      rw [e, nI_eq (by omega) (by omega)] at g
      omega
  refine ⟨h1, h2, ?_⟩
  unfold qkd
  rw [if_pos hP, h1, h2]
  rfl
theorem sg_in {c : Nat} (hc : sgC c) (h : qsg b n P = nI c) : P < n ∧ b P = nI c ∧ qte b n P = P + 1 := by
  unfold sgC at hc
  unfold qsg at h
  by_cases k3 : qkd b n P = 3
  · rw [if_pos k3] at h
    have hP : P < n := by
      have hz := qkd_z (b := b) (n := n) (P := P)
      by_cases q : P < n
      · exact q
      · have := hz.mpr q; omega
    have h1 : ¬ qdg b n P = true := fun e => by have := qkd_1.mpr e; omega
    have h2 : ¬ qlt b n P = true := fun e => by have := qkd_2.mpr e; omega
    unfold qvl at h
    rw [if_pos hP, if_neg h1, if_neg h2] at h
    unfold qte
    rw [if_pos hP, if_neg h1, if_neg h2]
    by_cases t : qtw b n P = true
    · rw [if_pos t] at h
      have ht : (b P = 60 ∨ b P = 62) ∧ P + 1 < n ∧ b (P + 1) = 61 := of_decide_eq_true t
      rcases ht.1 with e | e
      · rw [e, show (256 : Int32) + 60 = nI 316 from rfl, nI_eq (by omega) (by omega)] at h; omega
      · rw [e, show (256 : Int32) + 62 = nI 318 from rfl, nI_eq (by omega) (by omega)] at h; omega
    · rw [if_neg t] at h
      rw [if_neg t]
      exact ⟨hP, h, rfl⟩
  · rw [if_neg k3, show (0 : Int32) = nI 0 from rfl, nI_eq (by omega) (by omega)] at h
    omega
theorem ch_sg (hB : ∀ i, i < n → isB (b i)) {c : Nat} (hc : sgC c) : qch b n P = nI c ↔ qsg b n P = nI c := by
  have hc2 := hc
  unfold sgC at hc
  refine ⟨fun h => ?_, fun h => ?_⟩
  · unfold qch at h
    by_cases hP : P < n
    · rw [if_pos hP, bAnd (hB P hP) (by omega)] at h
      obtain ⟨h1, h2, h3⟩ := sg_b (b := b) (n := n) (P := P) (c := c) ⟨hc.1, hc.2.1, hc.2.2.1, hc.2.2.2.1⟩ hP h
      have t : ¬ qtw b n P = true := by
        intro t
        have ht : (b P = 60 ∨ b P = 62) ∧ P + 1 < n ∧ b (P + 1) = 61 := of_decide_eq_true t
        rcases ht.1 with e | e
        · rw [h, show (60 : Int32) = nI 60 from rfl, nI_eq (by omega) (by omega)] at e; omega
        · rw [h, show (62 : Int32) = nI 62 from rfl, nI_eq (by omega) (by omega)] at e; omega
      unfold qsg qvl
      rw [if_pos h3, if_pos hP, h1, h2, if_neg (by decide), if_neg (by decide), if_neg t]
      exact h
    · rw [if_neg hP] at h
      exact absurd h.symm (fun e => (eq_m1 (by omega)).mp e)
  · obtain ⟨h1, h2, _⟩ := sg_in hc2 h
    unfold qch
    rw [if_pos h1, bAnd (hB P h1) (by omega)]
    exact h2
theorem ch_m1 (hB : ∀ i, i < n → isB (b i)) (hP : P ≤ n) : qch b n P = -1 ↔ P = n := by
  unfold qch
  by_cases h : P < n
  · rw [if_pos h]
    exact ⟨fun e => absurd e (bAnd1 (hB P h)), fun e => by omega⟩
  · rw [if_neg h]
    exact ⟨fun _ => by omega, fun _ => rfl⟩
end
/-- what stands in a cell, as a number -/
def zN (v : Int32) : Nat := v.toInt.toNat
theorem isN_z {a k : Nat} {v : Int32} (hk : k < 2 ^ 31) (h : isN a k v) : v = nI (zN v) ∧ a ≤ zN v ∧ zN v ≤ k := by
  obtain ⟨x, rfl, h1, h2⟩ := h
  unfold zN
  rw [nI_toInt (by omega), Int.toNat_natCast]
  exact ⟨rfl, h1, h2⟩
def dLn (nn st rd ps pl : Nat) (T : Sg) : Tr := (fun i => [nn, st, rd, ps, pl].getD i 0, fun q i => zN ([T.2.1 6 i, T.2.1 7 i, T.2.1 8 i, T.2.1 9 i, T.2.1 10 i, T.2.1 11 i, T.2.1 12 i, T.2.1 13 i, T.2.1 14 i].getD q 0))
theorem bit8 : ∀ v : Fin 1024, (nI v &&& 8 = 0) ↔ v.val.testBit 3 = false := by decide +kernel
/-- the draft, finished -/
theorem x_finish {nn st rd tb sh : Nat} {T O L : Sg} {f : Nat → Int32} (hL : LnR nn st rd tb sh T O L f) (h0 : 0 < nn) (hs0 : 0 < st) : ∃ T' ps pl, f_X1_finish L T = some T' ∧ TrOK (dLn nn st rd ps pl T) ∧ TrC (dLn nn st rd ps pl T) T' ∧ ((f 4 = -1 ∧ ps = st - 1) ∨ f 4 = nI ps) ∧ ((f 5 = -1 ∧ pl = 4) ∨ f 5 = nI pl) ∧ T'.1 2 = nI rd := by
  obtain ⟨⟨⟨t0, t1, t2⟩, ⟨r0, r1, r2⟩, l8, l6, l66, l2, l0⟩, ⟨⟨i1, i2, i3⟩, i4, i5, i6, i7, i8⟩, ⟨L31, L32⟩, ⟨hb, he, hh, hhr⟩, L5⟩ := hL
  have hps : ∃ ps, ps < st ∧ f_X1_finish L T = f_X1_finish_b28 L (sI T 3 (nI ps)) ∧ ((f 4 = -1 ∧ ps = st - 1) ∨ f 4 = nI ps) := by
    unfold f_X1_finish
    rw [i1]
    have hb8 := bit8 ⟨tb, i2⟩
    cases h3 : tb.testBit 3 with
    | false =>
      rw [if_pos (hb8.mpr h3), bnd_eq, t1, show nI st - 1 = nI (st - 1) from nI_sub (b := 1) (by omega)]
      exact ⟨st - 1, by omega, rfl, Or.inl ⟨i6 h3, rfl⟩⟩
    | true =>
      obtain ⟨ps, a1, a2, a3⟩ := i5 h3
      rw [if_neg (fun e => by have := hb8.mp e; rw [h3] at this; cases this)]
      exact ⟨ps, a3, by rw [sI_se a1], Or.inr a2⟩
  have hpl : ∃ pl, (1 ≤ pl ∧ pl ≤ 20) ∧ T.1 5 = nI pl ∧ ((f 5 = -1 ∧ pl = 4) ∨ f 5 = nI pl) := by
    cases h9 : tb.testBit 9 with
    | false => exact ⟨4, by omega, (i8 h9).1, Or.inl ⟨(i8 h9).2, rfl⟩⟩
    | true =>
      obtain ⟨pl, a1, a2, a3, a4⟩ := i7 h9
      exact ⟨pl, ⟨a3, a4⟩, a1, Or.inr a2⟩
  obtain ⟨ps, p1, p2, p3⟩ := hps
  obtain ⟨pl, q1, q2, q3⟩ := hpl
  have hzb : ∀ s, s < st → zN (T.2.1 9 s) = hb s ∧ zN (T.2.1 10 s) = he s := by
    intro s hs
    obtain ⟨⟨a1, a2⟩, _, a3, a4, a5⟩ := hh s hs
    have : 159 * (s + 1) ≤ 159 * 6 := Nat.mul_le_mul_left _ (by omega)
    unfold zN
    rw [a1, a2, nI_toInt (by omega), nI_toInt (by omega), Int.toNat_natCast, Int.toNat_natCast]
    exact ⟨rfl, rfl⟩
  generalize hd : dLn nn st rd ps pl T = d
  have dn : d.n = nn := by rw [← hd]; rfl
  have dst : d.st = st := by rw [← hd]; rfl
  have drd : d.rd = rd := by rw [← hd]; rfl
  have dps : d.ps = ps := by rw [← hd]; rfl
  have dpl : d.pl = pl := by rw [← hd]; rfl
  have dg : ∀ c, d.g c = zN (T.2.1 6 c) := by rw [← hd]; intro c; rfl
  have dse : ∀ c, d.se c = zN (T.2.1 7 c) := by rw [← hd]; intro c; rfl
  have dtr : ∀ c, d.tr c = zN (T.2.1 8 c) := by rw [← hd]; intro c; rfl
  have dhb : ∀ c, d.hb c = zN (T.2.1 9 c) := by rw [← hd]; intro c; rfl
  have dhe : ∀ c, d.he c = zN (T.2.1 10 c) := by rw [← hd]; intro c; rfl
  have dds : ∀ c, d.ds c = zN (T.2.1 11 c) := by rw [← hd]; intro c; rfl
  have dpc : ∀ c, d.pc c = zN (T.2.1 12 c) := by rw [← hd]; intro c; rfl
  have dld : ∀ c, d.ld c = zN (T.2.1 13 c) := by rw [← hd]; intro c; rfl
  have dkn : ∀ c, d.kn c = zN (T.2.1 14 c) := by rw [← hd]; intro c; rfl
  have hok : TrOK d := by
    unfold TrOK
    rw [dn, dst, drd, dps, dpl]
    refine ⟨⟨l2 h0, l8⟩, ⟨hs0, l6⟩, l66, p1, q1, fun c hc => ?_, fun c hc => ?_, fun c hc => ?_, fun s hs => ?_, fun s hs => ?_, fun r hr => ?_⟩
    · rw [dg]; exact (isN_z (by omega) (L32 c (by omega)).1.1).2.2
    · rw [dse]; exact (isN_z (by omega) (L32 c (by omega)).1.2.1).2.2
    · rw [dtr]; exact (isN_z (by omega) (L32 c (by omega)).1.2.2).2.2
    · rw [dhb, dhe, (hzb s hs).1, (hzb s hs).2]; exact (hh s hs).2.2
    · rw [dhb, dhe, (hzb s (by omega)).2, (hzb (s + 1) hs).1]; exact hhr s hs
    · obtain ⟨⟨a1, a2, a3, a4, a5⟩, _⟩ := L5.1 r hr
      rw [dds, dpc, dld, dkn]
      exact ⟨(isN_z (by omega) a2).2.2, (isN_z (by omega) a3).2, (isN_z (by omega) a4).2.2, (isN_z (by omega) a5).2.2⟩
  have key : Wp (f_X1_finish_b28 L (sI T 3 (nI ps))) (fun T' => TrC d T' ∧ T'.1 2 = nI rd) := by
    unfold f_X1_finish_b28
    have e3 : (sI T 3 (nI ps)).1 3 = nI ps := rfl
    have e10 : (sI T 3 (nI ps)).2.1 10 ps = nI d.pa := by
      show T.2.1 10 ps = nI (d.he d.ps)
      rw [dps, dhe, (hzb ps p1).2]; exact (hh ps p1).1.2
    rw [e3, ixd_nI (by omega) (by omega), bnd_eq, e10]
    generalize hT1 : sI (sI T 3 (nI ps)) 4 (nI d.pa) = T1
    have u2 : T1.1 2 = nI rd := by rw [← hT1]; exact t2
    have u5 : T1.1 5 = nI pl := by rw [← hT1]; exact q2
    have ua : ∀ q, T1.2.1 q = T.2.1 q := by rw [← hT1]; intro q; rfl
    refine wp_fl2 (fun j x Z => ∃ i, j = rd - i ∧ x = nI i ∧ i ≤ rd ∧ Z.1 = T1.1 ∧ (∀ q, q ≠ 15 → q ≠ 16 → Z.2.1 q = T1.2.1 q) ∧ ∀ r, r < i → Z.2.1 15 r = nI (d.ins r) ∧ Z.2.1 16 r = nI (d.tm r * d.pl)) ?_ rd (FU_lt (by omega)) _ _ ⟨0, rfl, rfl, by omega, rfl, fun _ _ _ => rfl, fun r hr => by omega⟩
    rintro j K _ Z ⟨i, rfl, rfl, hi, z1, z2, z3⟩ ih
    unfold f_X1_finish_b43
    rw [z1, u2]
    by_cases c : rd ≤ i
    · have ei : i = rd := by omega
      subst ei
      rw [if_pos (nI_le c (by omega))]
      refine wp_some.mpr ⟨?_, by rw [z1]; exact u2⟩
      unfold TrC
      rw [dn, dst, drd, dps, dpl, z1]
      refine ⟨⟨by rw [← hT1]; exact t0, by rw [← hT1]; exact t1, u2⟩, fun _ => ⟨by rw [← hT1]; rfl, by rw [← hT1]; rfl, u5⟩, fun e => by omega, fun c hc => ?_, fun w hw => ?_, fun s hs => ?_, fun r hr => ?_⟩
      · rw [z2 6 (by omega) (by omega), z2 7 (by omega) (by omega), ua, ua, dg, dse]
        exact ⟨(isN_z (by omega) (L32 c (by omega)).1.1).1, (isN_z (by omega) (L32 c (by omega)).1.2.1).1⟩
      · rw [z2 8 (by omega) (by omega), ua, dtr]
        exact (isN_z (by omega) (L32 w (by omega)).1.2.2).1
      · rw [z2 9 (by omega) (by omega), z2 10 (by omega) (by omega), ua, ua, dhb, dhe, (hzb s hs).1, (hzb s hs).2]
        exact (hh s hs).1
      · obtain ⟨⟨a1, a2, a3, a4, a5⟩, _⟩ := L5.1 r hr
        rw [z2 11 (by omega) (by omega), z2 12 (by omega) (by omega), z2 13 (by omega) (by omega), z2 14 (by omega) (by omega), ua, ua, ua, ua, dds, dpc, dld, dkn]
        have := z3 r hr
        rw [dpl] at this
        exact ⟨(isN_z (by omega) a2).1, (isN_z (by omega) a3).1, (isN_z (by omega) a4).1, (isN_z (by omega) a5).1, this.1, this.2⟩
    · obtain ⟨⟨a1, a2, a3, a4, a5⟩, _⟩ := L5.1 i (by omega)
      have e12 : Z.2.1 12 i = nI (d.pc i) := by rw [z2 12 (by omega) (by omega), ua, dpc]; exact (isN_z (by omega) a3).1
      have e13 : Z.2.1 13 i = nI (d.ld i) := by rw [z2 13 (by omega) (by omega), ua, dld]; exact (isN_z (by omega) a4).1
      have b13 : d.ld i ≤ 3 := by rw [dld]; exact (isN_z (by omega) a4).2.2
      have h75 : ∀ s0 : Int32, s0 = nI (d.tm i) → Wp (f_X1_finish_b75 L K (nI i) s0 Z) (fun T' => TrC d T' ∧ T'.1 2 = nI rd) := by
        intro s0 hs
        unfold f_X1_finish_b75
        have e5 : (sA Z 15 i (nI (d.tm i * d.pc i))).1 5 = nI pl := by show Z.1 5 = nI pl; rw [z1]; exact u5
        rw [hs, ixd_nI (by omega) (by omega), ixd_nI (by omega) (by omega), e12, nI_mul, bnd_eq, ixd_nI (by omega) (by omega), e5, nI_mul, bnd_eq, wp_bnd, ← nI_succ]
        refine ih _ _ _ (by omega) ⟨i + 1, rfl, rfl, by omega, z1, fun q h15 h16 => ?_, fun r hr => ?_⟩
        · rw [sA_ne _ _ _ h16, sA_ne _ _ _ h15]; exact z2 q h15 h16
        · have v15 : (sA (sA Z 15 i (nI (d.tm i * d.pc i))) 16 i (nI (d.tm i * pl))).2.1 15 r = if r = i then nI (d.tm i * d.pc i) else Z.2.1 15 r := rfl
          have v16 : (sA (sA Z 15 i (nI (d.tm i * d.pc i))) 16 i (nI (d.tm i * pl))).2.1 16 r = if r = i then nI (d.tm i * pl) else Z.2.1 16 r := rfl
          rw [v15, v16]
          by_cases cx : r = i
          · rw [if_pos cx, if_pos cx, cx, dpl]; exact ⟨rfl, rfl⟩
          · rw [if_neg cx, if_neg cx]; exact z3 r (by omega)
      rw [if_neg (nI_ge (by omega) (by omega)), ixd_nI (by omega) (by omega), e13]
      by_cases c2 : 2 ≤ d.ld i
      · rw [if_pos (show (2 : Int32) ≤ nI (d.ld i) from nI_le (a := 2) c2 (by omega)), ixd_nI (by omega) (by omega), e13]
        refine h75 _ ?_
        rw [show (2 : Int32) = nI 2 from rfl, nI_mul, show nI (2 * d.ld i) - 1 = nI (2 * d.ld i - 1) from nI_sub (b := 1) (by omega)]
        unfold Tr.tm
        rw [if_neg (by omega)]
      · rw [if_neg (show ¬ (2 : Int32) ≤ nI (d.ld i) from nI_ge (b := 2) (by omega) (by omega))]
        refine h75 _ ?_
        unfold Tr.tm
        rw [if_pos (by omega)]
        rfl
  obtain ⟨T', k1, k2, k3⟩ := key
  exact ⟨T', ps, pl, p2.trans k1, by rw [hd]; exact hok, by rw [hd]; exact k2, p3, q3, k3⟩
