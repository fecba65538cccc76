/-! image, back, seen -/
theorem TrC_congr {d : Tr} (hG : TrG d) {T U : Sg} (h : TrC d U) (e1 : ∀ k, k < 6 → T.1 k = U.1 k) (e2 : ∀ q i, 6 ≤ q → q ≤ 8 → i < 8 → T.2.1 q i = U.2.1 q i) (e3 : ∀ q i, 9 ≤ q → q ≤ 16 → i < 6 → T.2.1 q i = U.2.1 q i) : TrC d T := by
  have hb := hG.b
  obtain ⟨⟨h1, h2, h3⟩, h4, h5, h6, h7, h8, h9⟩ := h
  refine ⟨⟨by rw [e1 0 (by omega)]; exact h1, by rw [e1 1 (by omega)]; exact h2, by rw [e1 2 (by omega)]; exact h3⟩, fun q => ?_, fun q => ?_, fun c hc => ?_, fun w hw => ?_, fun s hs => ?_, fun r hr => ?_⟩
  · rw [e1 3 (by omega), e1 4 (by omega), e1 5 (by omega)]; exact h4 q
  · rw [e1 4 (by omega)]; exact h5 q
  · rw [e2 6 c (by omega) (by omega) (by omega), e2 7 c (by omega) (by omega) (by omega)]; exact h6 c hc
  · rw [e2 8 w (by omega) (by omega) (by omega)]; exact h7 w hw
  · rw [e3 9 s (by omega) (by omega) (by omega), e3 10 s (by omega) (by omega) (by omega)]; exact h8 s hs
  · rw [e3 11 r (by omega) (by omega) (by omega), e3 12 r (by omega) (by omega) (by omega), e3 13 r (by omega) (by omega) (by omega), e3 14 r (by omega) (by omega) (by omega), e3 15 r (by omega) (by omega) (by omega), e3 16 r (by omega) (by omega) (by omega)]; exact h9 r hr
theorem x_cpT (T U : Sg) : ∃ T', f_X9_copyFrom T U = some T' ∧ (∀ k, k < 6 → T'.1 k = U.1 k) ∧ (∀ q i, 6 ≤ q → q ≤ 8 → i < 8 → T'.2.1 q i = U.2.1 q i) ∧ (∀ q i, 9 ≤ q → q ≤ 16 → i < 6 → T'.2.1 q i = U.2.1 q i) := by
  refine ⟨_, rfl, fun k hk => ?_, fun q i h1 h2 hi => ?_, fun q i h1 h2 hi => ?_⟩
  · have h3 : k = 0 ∨ k = 1 ∨ k = 2 ∨ k = 3 ∨ k = 4 ∨ k = 5 := by omega
    rcases h3 with rfl | rfl | rfl | rfl | rfl | rfl <;> rfl
  · have h3 : q = 6 ∨ q = 7 ∨ q = 8 := by omega
    rcases h3 with rfl | rfl | rfl
    · exact cpy0 _ _ hi
    · exact cpy0 _ _ hi
    · exact cpy0 _ _ hi
  · have h3 : q = 9 ∨ q = 10 ∨ q = 11 ∨ q = 12 ∨ q = 13 ∨ q = 14 ∨ q = 15 ∨ q = 16 := by omega
    rcases h3 with rfl | rfl | rfl | rfl | rfl | rfl | rfl | rfl
    · exact cpy0 _ _ hi
    · exact cpy0 _ _ hi
    · exact cpy0 _ _ hi
    · exact cpy0 _ _ hi
    · exact cpy0 _ _ hi
    · exact cpy0 _ _ hi
    · exact cpy0 _ _ hi
    · exact cpy0 _ _ hi
theorem x_cpE (E F : Sg) : ∃ E', f_X7_copyFrom E F = some E' ∧ E'.1 0 = F.1 0 ∧ ∀ q i, 1 ≤ q → q ≤ 3 → i < 12 → E'.2.1 q i = F.2.1 q i := by
  refine ⟨_, rfl, rfl, fun q i h1 h2 hi => ?_⟩
  have h3 : q = 1 ∨ q = 2 ∨ q = 3 := by omega
  rcases h3 with rfl | rfl | rfl
  · exact cpy0 _ _ hi
  · exact cpy0 _ _ hi
  · exact cpy0 _ _ hi
theorem SR_congrE {d : Tr} {n : Nat} {a : Nat → Nat → Nat} {π : Nat → Nat} {E F : Sg} {f : Nat → Int32} (h : SR d n a π F f) (e0 : E.1 0 = F.1 0) (e : ∀ q i, 1 ≤ q → q ≤ 3 → i < 12 → E.2.1 q i = F.2.1 q i) : SR d n a π E f := by
  obtain ⟨h1, h2, h3, h4, h5, h6⟩ := h
  refine ⟨h1, h2, by rw [e0]; exact h3, h4, fun i hi => ?_, h6⟩
  rw [e 1 i (by omega) (by omega) (by omega), e 2 i (by omega) (by omega) (by omega), e 3 i (by omega) (by omega) (by omega)]
  exact h5 i hi
/-- a world copied, on both sides -/
theorem WR_copy {d : Tr} {m : Mo} {n : Nat} {a : Nat → Nat → Nat} {π : Nat → Nat} {T O E X T0 O0 E0 X0 : Sg} {f g : Nat → Int32} {y : Int32} (h : WR d m n a π T O E X f y) (hg : ∀ i, i < 137 → g i = f i) : ∃ T1 O1 E1 X1, f_X10_copyFrom T0 O0 E0 X0 T O E X = some (T1, O1, E1, X1) ∧ WR d m n a π T1 O1 E1 X1 g y ∧ O1.1 0 = O.1 0 := by
  obtain ⟨hG, hT, hM, hm, hO, hN, hS, hX, hX0⟩ := h
  obtain ⟨T1, t1, t2, t3, t4⟩ := x_cpT T0 T
  obtain ⟨O1, o1, o2, o3⟩ := x_cpO O0 O
  obtain ⟨E1, e1, e2, e3⟩ := x_cpE E0 E
  refine ⟨T1, O1, E1, sI X0 3 (X.1 3), ?_, ⟨hG, TrC_congr hG hT t2 t3 t4, TrM_congr hG hM (fun k hk => hg k (by omega)), hm, MoC_congr hG hO o2 o3, MoM_congr hG hN (fun k hk => hg k (by omega)), SR_congr (SR_congrE hS e2 e3) (fun k _ hk => hg k hk), hX, hX0⟩, o2.1⟩
  unfold f_X10_copyFrom
  rw [t1, ob1_s, o1, ob1_s, e1, ob1_s, bnd_eq]
theorem WR_f {d : Tr} {m : Mo} {n : Nat} {a : Nat → Nat → Nat} {π : Nat → Nat} {T O E X : Sg} {f g : Nat → Int32} {y : Int32} (h : WR d m n a π T O E X f y) (hg : ∀ i, i < 137 → g i = f i) : WR d m n a π T O E X g y := by
  obtain ⟨hG, hT, hM, hm, hO, hN, hS, hX, hX0⟩ := h
  exact ⟨hG, hT, TrM_congr hG hM (fun k hk => hg k (by omega)), hm, hO, MoM_congr hG hN (fun k hk => hg k (by omega)), SR_congr hS (fun k _ hk => hg k hk), hX, hX0⟩
def iM (M : Sg) (u v w : Nat → Int32) : Sg := sF (sF (sF M 38 u) 37 v) 36 w
theorem iM_A (M : Sg) (u v w : Nat → Int32) (i : Nat) (x : Int32) : sA (iM M u v w) 36 i x = iM M u v (upd w i x) := sA_sF _ 36 w i x
theorem st_image : St_image RR := by
  intro s M p1 hR
  have hR0 := hR; obtain ⟨hTp, ⟨d, m, n, a, π, ⟨hG, hT, hM, hm, hO, hN, hS, hX, hX0⟩, hH⟩, hI, hU⟩ := hR
  unfold f_X11_image f_X12_image f_X11_image_b9
  rcases csI p1 4 with ⟨k, hk, rfl⟩ | hno
  · have hW : WR d m n a π (s.1 2) (s.1 3) (s.1 4) (s.1 5) (M.2.1 20) (M.1 21) := ⟨hG, hT, hM, hm, hO, hN, hS, hX, hX0⟩
    have km : Wp (fl2 (f_X12_image_b33 (nI k)) FU 0 (iM M (upd (M.2.1 38) k (bI true)) (upd (M.2.1 37) k (M.1 21)) (M.2.1 36))) (fun o => ∃ w, o = (nI m.sec, iM M (upd (M.2.1 38) k (bI true)) (upd (M.2.1 37) k (M.1 21)) w) ∧ (∀ i, i < 137 → w (137 * k + i) = M.2.1 20 i) ∧ ∀ q, q < 137 * k ∨ 137 * k + 137 ≤ q → w q = M.2.1 36 q) := by
      refine wp_fl2 (fun j x Z => ∃ i w, x = nI i ∧ Z = iM M (upd (M.2.1 38) k (bI true)) (upd (M.2.1 37) k (M.1 21)) w ∧ i + j = 137 ∧ (∀ q, q < i → w (137 * k + q) = M.2.1 20 q) ∧ ∀ q, q < 137 * k ∨ 137 * k + 137 ≤ q → w q = M.2.1 36 q) ?_ 137 (FU_lt (by omega)) _ _ ⟨0, M.2.1 36, rfl, rfl, by omega, fun q hq => by omega, fun q _ => rfl⟩
      rintro j K _ _ ⟨i, w, rfl, rfl, hij, w1, w2⟩ ih
      unfold f_X12_image_b33
      have e20 : (iM M (upd (M.2.1 38) k (bI true)) (upd (M.2.1 37) k (M.1 21)) w).2.1 20 = M.2.1 20 := rfl
      cases j with
      | zero =>
        have e : i = 137 := by omega
        subst e
        rw [if_pos (by decide), e20, hN.1.1]
        exact wp_some.mpr ⟨w, rfl, w1, w2⟩
      | succ j =>
        rw [if_neg (by rw [show (137 : Int32) = nI 137 from rfl]; exact nI_ge (by omega) (by omega)), ixd_nI (by omega) (by omega), show (137 : Int32) = nI 137 from rfl, nI_mul, nI_add, ixd_nI (by omega) (by omega), bnd_eq, iM_A, e20, wp_bnd]
        refine ih j _ _ (by omega) ⟨i + 1, _, (nI_succ i).symm, rfl, by omega, fun q hq => ?_, fun q hq => ?_⟩
        · rw [upd_at]
          by_cases e : q = i
          · rw [if_pos (by omega), e]
          · rw [if_neg (by omega)]; exact w1 q (by omega)
        · rw [upd_at, if_neg (by omega)]; exact w2 q hq
    obtain ⟨x, h1, w, h2, h3, h4⟩ := km
    subst h2
    obtain ⟨T1, O1, E1, X1, c1, c2, c3⟩ := WR_copy (T0 := s.2.1 1 k) (O0 := s.2.1 2 k) (E0 := s.2.1 3 k) (X0 := s.2.1 4 k) (g := fun i => w (137 * k + i)) hW h3
    refine ⟨k, nI m.sec, sA (s.1 0) 4 k (bI true), T1, O1, E1, X1, iM M (upd (M.2.1 38) k (bI true)) (upd (M.2.1 37) k (M.1 21)) w, hk, ?_, ?_, hTp, ⟨d, m, n, a, π, hW, hH⟩, ?_, hU⟩
    · rw [if_neg (nI_pos (by omega)), if_pos (by rw [show (4 : Int32) = nI 4 from rfl]; exact nI_lt hk (by omega)), ixd_nI hk (by omega)]
      unfold gE
      rw [if_pos rfl, c1]
      unfold ob4
      simp only [Option.bind_some]
      rw [ixd_nI hk (by omega), bnd_eq, nar_b1, hO.1.1]
    · rw [in_ok (b := 3) (by decide) (by omega) (by omega), ob1_s, itT, ixd_nI hk (by omega), bnd_eq, ixd_nI hk (by omega), bnd_eq, nar_b1]
      have e9 : sA (sA M 38 k (bI true)) 37 k ((sA M 38 k (bI true)).1 21) = iM M (upd (M.2.1 38) k (bI true)) (upd (M.2.1 37) k (M.1 21)) (M.2.1 36) := (sF_self (sF (sF M 38 (upd (M.2.1 38) k (bI true))) 37 (upd (M.2.1 37) k (M.1 21))) 36).symm
      rw [e9]
      exact h1
    · intro q hq
      have hi := hI q hq
      obtain ⟨b, i1, i2, i3⟩ := hi
      by_cases e : q = k
      · subst e
        refine ⟨true, ?_, ?_, fun _ => ⟨d, m, n, a, π, ?_⟩⟩
        · show upd ((s.1 0).2.1 4) q (bI true) q = bI true
          rw [upd_at, if_pos rfl]
        · show upd (M.2.1 38) q (bI true) q = bI true
          rw [upd_at, if_pos rfl]
        · have e1 : ∀ z, imU s.2.1 q T1 O1 E1 X1 1 q = T1 ∧ imU s.2.1 q T1 O1 E1 X1 2 q = O1 ∧ imU s.2.1 q T1 O1 E1 X1 3 q = E1 ∧ imU s.2.1 q T1 O1 E1 X1 4 q = X1 ∧ upd (M.2.1 37) q z q = z := fun z => ⟨if_pos rfl, if_pos rfl, if_pos rfl, if_pos rfl, if_pos rfl⟩
          have e2 := e1 (M.1 21)
          show WR d m n a π (imU s.2.1 q T1 O1 E1 X1 1 q) (imU s.2.1 q T1 O1 E1 X1 2 q) (imU s.2.1 q T1 O1 E1 X1 3 q) (imU s.2.1 q T1 O1 E1 X1 4 q) (fun i => w (137 * q + i)) (upd (M.2.1 37) q (M.1 21) q)
          rw [e2.1, e2.2.1, e2.2.2.1, e2.2.2.2.1, e2.2.2.2.2]
          exact c2
      · refine ⟨b, ?_, ?_, fun hb => ?_⟩
        · show upd ((s.1 0).2.1 4) k (bI true) q = bI b
          rw [upd_at, if_neg e]; exact i1
        · show upd (M.2.1 38) k (bI true) q = bI b
          rw [upd_at, if_neg e]; exact i2
        · obtain ⟨d', m', n', a', π', hw'⟩ := i3 hb
          refine ⟨d', m', n', a', π', ?_⟩
          have e2 : imU s.2.1 k T1 O1 E1 X1 1 q = s.2.1 1 q ∧ imU s.2.1 k T1 O1 E1 X1 2 q = s.2.1 2 q ∧ imU s.2.1 k T1 O1 E1 X1 3 q = s.2.1 3 q ∧ imU s.2.1 k T1 O1 E1 X1 4 q = s.2.1 4 q ∧ upd (M.2.1 37) k (M.1 21) q = M.2.1 37 q := ⟨if_neg e, if_neg e, if_neg e, if_neg e, if_neg e⟩
          show WR d' m' n' a' π' (imU s.2.1 k T1 O1 E1 X1 1 q) (imU s.2.1 k T1 O1 E1 X1 2 q) (imU s.2.1 k T1 O1 E1 X1 3 q) (imU s.2.1 k T1 O1 E1 X1 4 q) (fun i => w (137 * q + i)) (upd (M.2.1 37) k (M.1 21) q)
          rw [e2.1, e2.2.1, e2.2.2.1, e2.2.2.2.1, e2.2.2.2.2]
          exact WR_f hw' (fun i hi => h4 _ (by omega))
  · rw [in_no (b := 3) (by decide) (fun k hk => hno k (by omega)), ob1_s, itF]
    have hsame : ((va_up s.1 0 (s.1 0), imU s.2.1 0 (s.2.1 1 0) (s.2.1 2 0) (s.2.1 3 0) (s.2.1 4 0), s.2.2) : XS) = s := by
      unfold imU
      rw [va_up_se, va_up_se, va_up_se, va_up_se, va_up_se, va_up_se, va_up_se, va_up_se, va_up_se]
    refine ⟨0, -1, _, _, _, _, _, M, by omega, ?_, rfl, by rw [hsame]; exact hR0⟩
    rcases nI_out (by omega) hno with h | h
    · rw [if_pos h]
    · by_cases h0 : p1 < 0
      · rw [if_pos h0]
      · have h9 : ¬ p1 < 4 := fun h2 => (Int32.not_le.mpr h2) h
        rw [if_neg h0, if_neg h9]
theorem st_back : St_back RR := by
  intro s M p1 hR
  have hR0 := hR; obtain ⟨hTp, ⟨d, m, n, a, π, ⟨hG, hT, hM, hm, hO, hN, hS, hX, hX0⟩, hH⟩, hI, hU⟩ := hR
  unfold f_X11_back f_X12_back f_X11_back_b18 f_X12_back_b21
  have hsame : ∀ j, ((va_up (va_up (va_up (va_up (va_up s.1 2 (s.1 2)) 3 (s.1 3)) 4 (s.1 4)) 5 (s.1 5)) 14 (s.1 14), imU s.2.1 j (s.2.1 1 j) (s.2.1 2 j) (s.2.1 3 j) (s.2.1 4 j), s.2.2) : XS) = s := by
    intro j
    unfold imU
    rw [va_up_se, va_up_se, va_up_se, va_up_se, va_up_se, va_up_se, va_up_se, va_up_se, va_up_se, va_up_se, va_up_se, va_up_se, va_up_se]
  rcases csI p1 4 with ⟨k, hk, rfl⟩ | hno
  · obtain ⟨b, i1, i2, i3⟩ := hI k hk
    rw [in_ok (b := 3) (by decide) (by omega) (by omega), ob1_s, itT, ixd_nI hk (by omega), i2]
    cases b with
    | false =>
      refine ⟨k, -1, _, _, _, _, _, M, hk, ?_, rfl, by rw [hsame]; exact hR0⟩
      rw [if_neg (nI_pos (by omega)), if_neg (by rw [show (4 : Int32) = nI 4 from rfl]; exact nI_ge hk (by omega)), ixd_nI hk (by omega), i1]
      rfl
    | true =>
      obtain ⟨d', m', n', a', π', hw'⟩ := i3 rfl
      have hw2 := hw'
      obtain ⟨hG', hT', hM', hm', hO', hN', hS', hX', hX0'⟩ := hw'
      have km : Wp (fl2 (f_X12_back_b40 (nI k)) FU 0 (sI (sI M 21 (M.2.1 37 k)) 23 0)) (fun o => ∃ f, o = (nI m'.sec, sF (sI (sI M 21 (M.2.1 37 k)) 23 0) 20 f) ∧ ∀ i, i < 137 → f i = M.2.1 36 (137 * k + i)) := by
        refine wp_fl2 (fun j x Z => ∃ i f, x = nI i ∧ Z = sF (sI (sI M 21 (M.2.1 37 k)) 23 0) 20 f ∧ i + j = 137 ∧ ∀ q, q < i → f q = M.2.1 36 (137 * k + q)) ?_ 137 (FU_lt (by omega)) _ _ ⟨0, M.2.1 20, rfl, (sF_self (sI (sI M 21 (M.2.1 37 k)) 23 0) 20).symm, by omega, fun q hq => by omega⟩
        rintro j K _ _ ⟨i, f, rfl, rfl, hij, w1⟩ ih
        unfold f_X12_back_b40
        have e36 : (sF (sI (sI M 21 (M.2.1 37 k)) 23 0) 20 f).2.1 36 = M.2.1 36 := rfl
        cases j with
        | zero =>
          have e : i = 137 := by omega
          subst e
          rw [if_pos (by decide), sF_at, w1 3 (by omega)]
          have e3 : M.2.1 36 (137 * k + 3) = nI m'.sec := hN'.1.1
          rw [e3]
          exact wp_some.mpr ⟨f, rfl, w1⟩
        | succ j =>
          rw [if_neg (by rw [show (137 : Int32) = nI 137 from rfl]; exact nI_ge (by omega) (by omega)), show (137 : Int32) = nI 137 from rfl, nI_mul, nI_add, ixd_nI (by omega) (by omega), ixd_nI (by omega) (by omega), bnd_eq, sA_sF, e36, wp_bnd]
          refine ih j _ _ (by omega) ⟨i + 1, _, (nI_succ i).symm, rfl, by omega, fun q hq => ?_⟩
          rw [upd_at]
          by_cases e : q = i
          · rw [if_pos e, e]
          · rw [if_neg e]; exact w1 q (by omega)
      obtain ⟨x, h1, f, h2, h3⟩ := km
      subst h2
      obtain ⟨T1, O1, E1, X1, c1, c2, c3⟩ := WR_copy (T0 := s.1 2) (O0 := s.1 3) (E0 := s.1 4) (X0 := s.1 5) (g := f) hw2 h3
      obtain ⟨nx, sz, ms, u1, u2, u3, u4, u5, u6⟩ := hH
      refine ⟨k, nI m'.sec, T1, O1, E1, X1, sI (s.1 14) 2 0, sF (sI (sI M 21 (M.2.1 37 k)) 23 0) 20 f, hk, ?_, ?_, hTp, ⟨d', m', n', a', π', c2, nx, 0, ms, u1, by omega, u3, rfl, rfl, fun j hj => by omega⟩, ?_, hU⟩
      · rw [if_neg (nI_pos (by omega)), if_neg (by rw [show (4 : Int32) = nI 4 from rfl]; exact nI_ge hk (by omega)), ixd_nI hk (by omega), i1, itT, ixd_nI hk (by omega)]
        unfold gE
        rw [if_pos rfl, c1]
        unfold ob4
        simp only [Option.bind_some]
        rw [bnd_eq, c3, hO'.1.1]
      · rw [itT, ixd_nI hk (by omega), bnd_eq, bnd_eq]
        exact h1
      · have e0 : imU s.2.1 k (s.2.1 1 k) (s.2.1 2 k) (s.2.1 3 k) (s.2.1 4 k) = s.2.1 := by
          unfold imU
          rw [va_up_se, va_up_se, va_up_se, va_up_se, va_up_se, va_up_se, va_up_se, va_up_se]
        show IR (s.1 0) (imU s.2.1 k (s.2.1 1 k) (s.2.1 2 k) (s.2.1 3 k) (s.2.1 4 k) 1) (imU s.2.1 k (s.2.1 1 k) (s.2.1 2 k) (s.2.1 3 k) (s.2.1 4 k) 2) (imU s.2.1 k (s.2.1 1 k) (s.2.1 2 k) (s.2.1 3 k) (s.2.1 4 k) 3) (imU s.2.1 k (s.2.1 1 k) (s.2.1 2 k) (s.2.1 3 k) (s.2.1 4 k) 4) (M.2.1 36) (M.2.1 37) (M.2.1 38)
        rw [e0]
        exact hI
  · rw [in_no (b := 3) (by decide) (fun k hk => hno k (by omega)), ob1_s, itF]
    refine ⟨0, -1, _, _, _, _, _, M, by omega, ?_, rfl, by rw [hsame]; exact hR0⟩
    rcases nI_out (by omega) hno with h | h
    · rw [if_pos h]
    · by_cases h0 : p1 < 0
      · rw [if_pos h0]
      · have h9 : (4 : Int32) ≤ p1 := h
        rw [if_neg h0, if_pos h9]
