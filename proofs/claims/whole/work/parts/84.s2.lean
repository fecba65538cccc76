/-! seed, end, feed, count, sit -/
theorem itT {α : Type} (a b : α) : (if bI true = 0 then a else b) = b := rfl
theorem itF {α : Type} (a b : α) : (if bI false = 0 then a else b) = a := rfl
theorem m_rO0 {M : Sg} {r : Nat} (hr : r < 6) : f_X12_riderOf M (nI r) 0 = some (M.2.1 20 (52 + 8 * r)) := m_riderOf (w := 0) hr (by omega)
theorem st_seed : St_seed RR := by
  intro s M p1 hR
  have hR0 := hR; obtain ⟨hTp, ⟨d, m, n, a, π, ⟨hG, hT, hM, hm, hO, hN, hS, hX, hX0⟩, hH⟩, hI, hU⟩ := hR
  unfold f_X11_seed f_X12_seed
  by_cases c : 0 ≤ p1
  · rw [if_pos c, if_pos c, hX]
    exact ⟨_, _, _, rfl, rfl, hTp, ⟨d, m, n, a, π, ⟨hG, hT, hM, hm, hO, hN, hS, rfl, Int32.not_lt.mpr c⟩, hH⟩, hI, hU⟩
  · rw [if_neg c, if_neg c]
    exact ⟨_, _, _, rfl, rfl, hTp, ⟨d, m, n, a, π, ⟨hG, hT, hM, hm, hO, hN, hS, hX, hX0⟩, hH⟩, hI, hU⟩
theorem st_end : St_end RR := by
  intro s M p1 hR
  have hR0 := hR; obtain ⟨hTp, ⟨d, m, n, a, π, ⟨hG, hT, hM, hm, hO, hN, hS, hX, hX0⟩, hH⟩, hI, hU⟩ := hR
  obtain ⟨n0, h1, h2, h3, h4⟩ := hTp
  unfold f_X11_end f_X12_end f_X11_end_b15 f_X12_end_b12
  rw [h2, h3]
  by_cases c : p1 < 0
  · rw [if_pos c, if_pos c]
    exact ⟨_, _, _, rfl, rfl, ⟨n0, h1, h2, h3, h4⟩, ⟨d, m, n, a, π, ⟨hG, hT, hM, hm, hO, hN, hS, hX, hX0⟩, hH⟩, hI, hU⟩
  · obtain ⟨k, hk, rfl⟩ := nI_of c
    rw [if_neg c, if_neg c]
    by_cases c2 : k ≤ n0
    · rw [if_pos (nI_le c2 (by omega)), if_pos (nI_le c2 (by omega))]
      exact ⟨_, _, _, rfl, rfl, ⟨k, by omega, rfl, rfl, fun i hi => h4 i (by omega)⟩, ⟨d, m, n, a, π, ⟨hG, hT, hM, hm, hO, hN, hS, hX, hX0⟩, hH⟩, hI, hU⟩
    · rw [if_neg (nI_ge (by omega) hk), if_neg (nI_ge (by omega) hk)]
      exact ⟨_, _, _, rfl, rfl, ⟨n0, h1, h2, h3, h4⟩, ⟨d, m, n, a, π, ⟨hG, hT, hM, hm, hO, hN, hS, hX, hX0⟩, hH⟩, hI, hU⟩
/-- a tape of so many bytes -/
def mT (M : Sg) (f : Nat → Int32) (l : Int32) : Sg := sI (sF M 0 f) 1 l
theorem upd_upd (f : Nat → Int32) (k : Nat) (u v : Int32) : upd (upd f k u) k v = upd f k v := by
  funext j; unfold upd; by_cases h : j = k <;> simp [h]
theorem upd_se (f : Nat → Int32) (k : Nat) : upd f k (f k) = f := by
  funext j; unfold upd; by_cases h : j = k <;> simp [h]
theorem mT_id (M : Sg) : mT M (M.2.1 0) (M.1 1) = M := by
  unfold mT
  rw [sF_self]
  show (upd M.1 1 (M.1 1), M.2) = M
  rw [upd_se]
theorem mT_A (M : Sg) (f : Nat → Int32) (l : Int32) (i : Nat) (v : Int32) : sA (mT M f l) 0 i v = mT M (upd f i v) l := by
  show (upd M.1 1 l, va_up (va_up M.2.1 0 f) 0 (upd f i v), M.2.2) = (upd M.1 1 l, va_up M.2.1 0 (upd f i v), M.2.2)
  rw [va_up_up]
theorem mT_I (M : Sg) (f : Nat → Int32) (l l' : Int32) : sI (mT M f l) 1 l' = mT M f l' := by
  show (upd (upd M.1 1 l) 1 l', va_up M.2.1 0 f, M.2.2) = (upd M.1 1 l', va_up M.2.1 0 f, M.2.2)
  rw [upd_upd]
def shf (i : Nat) : Int32 := [24, 16, 8, 0, -8].getD i 0
def bt (p : Int32) (i : Nat) : Int32 := vp_nar .byte ((p >>> (shf i &&& 31)).toInt8.toInt32)
theorem bt_B (p : Int32) (i : Nat) : isB (bt p i) := by
  unfold bt isB
  rw [pk_vb, Int8.toInt_toInt32]
  have h1 := Int8.le_toInt (p >>> (shf i &&& 31)).toInt8
  have h2 := Int8.toInt_lt (p >>> (shf i &&& 31)).toInt8
  omega
theorem shf_s {i : Nat} (h : i < 4) : shf i + (-8) = shf (i + 1) ∧ ¬ shf i < 0 := by
  have h2 : i = 0 ∨ i = 1 ∨ i = 2 ∨ i = 3 := by omega
  rcases h2 with rfl | rfl | rfl | rfl <;> decide
theorem x_append {Q : Sg} {f : Nat → Int32} {n : Nat} (p : Int32) (hn : n + 4 ≤ 400) : ∃ f', f_X8_append (mT Q f (nI n)) p = some (mT Q f' (nI (n + 4))) ∧ (∀ k, k < n → f' k = f k) ∧ ∀ k, k < 4 → f' (n + k) = bt p k := by
  have key : Wp (f_X8_append (mT Q f (nI n)) p) (fun o => ∃ f', o = mT Q f' (nI (n + 4)) ∧ (∀ k, k < n → f' k = f k) ∧ ∀ k, k < 4 → f' (n + k) = bt p k) := by
    unfold f_X8_append
    refine wp_fl2 (fun j x Z => ∃ i f', x = shf i ∧ Z = mT Q f' (nI (n + i)) ∧ i + j = 4 ∧ (∀ k, k < n → f' k = f k) ∧ ∀ k, k < i → f' (n + k) = bt p k) ?_ 4 (FU_lt (by omega)) _ _ ⟨0, f, rfl, rfl, by omega, fun k _ => rfl, fun k hk => by omega⟩
    rintro j K _ _ ⟨i, f', rfl, rfl, hij, h1, h2⟩ ih
    unfold f_X8_append_b3 f_X8_append_b40
    cases j with
    | zero =>
      have e : i = 4 := by omega
      subst e
      rw [if_pos (by decide)]
      exact wp_some.mpr ⟨f', rfl, h1, h2⟩
    | succ j =>
      have h3 := shf_s (i := i) (by omega)
      have e1 : (mT Q f' (nI (n + i))).1 1 = nI (n + i) := rfl
      rw [if_neg h3.2, e1, if_neg (by rw [lit]; exact nI_ge (by omega) (by omega)), ixd_nI (by omega) (by omega), bnd_eq, bnd_eq, mT_A, wp_bnd, h3.1]
      have e2 : ∀ g, (mT Q g (nI (n + i))).1 1 = nI (n + i) := fun _ => rfl
      rw [e2, mT_I, ← nI_succ]
      refine ih j _ _ (by omega) ⟨i + 1, _, rfl, rfl, by omega, fun k hk => ?_, fun k hk => ?_⟩
      · rw [upd_at, if_neg (by omega)]; exact h1 k hk
      · rw [upd_at]
        by_cases e : k = i
        · rw [if_pos (by omega), e]; rfl
        · rw [if_neg (by omega)]; exact h2 k (by omega)
  obtain ⟨x, h1, f', h2, h3, h4⟩ := key
  exact ⟨f', by rw [h1, h2], h3, h4⟩
theorem m_four {M : Sg} {f : Nat → Int32} {n : Nat} (p : Int32) (hn : n + 4 ≤ 400) : ∃ f', f_X12_four (mT M f (nI n)) p = some (mT M f' (nI (n + 4))) ∧ (∀ k, k < n → f' k = f k) ∧ ∀ k, k < 4 → f' (n + k) = bt p k := by
  have key : Wp (f_X12_four (mT M f (nI n)) p) (fun o => ∃ f', o = mT M f' (nI (n + 4)) ∧ (∀ k, k < n → f' k = f k) ∧ ∀ k, k < 4 → f' (n + k) = bt p k) := by
    unfold f_X12_four
    refine wp_fl2 (fun j x Z => ∃ i f', x = shf i ∧ Z = mT M f' (nI (n + i)) ∧ i + j = 4 ∧ (∀ k, k < n → f' k = f k) ∧ ∀ k, k < i → f' (n + k) = bt p k) ?_ 4 (FU_lt (by omega)) _ _ ⟨0, f, rfl, rfl, by omega, fun k _ => rfl, fun k hk => by omega⟩
    rintro j K _ _ ⟨i, f', rfl, rfl, hij, h1, h2⟩ ih
    unfold f_X12_four_b3
    cases j with
    | zero =>
      have e : i = 4 := by omega
      subst e
      rw [if_pos (by decide)]
      exact wp_some.mpr ⟨f', rfl, h1, h2⟩
    | succ j =>
      have h3 := shf_s (i := i) (by omega)
      have e1 : ∀ g, (mT M g (nI (n + i))).1 1 = nI (n + i) := fun _ => rfl
      rw [if_neg h3.2, e1, ixd_nI (by omega) (by omega), bnd_eq, bnd_eq, mT_A, wp_bnd, h3.1, e1, mT_I, ← nI_succ]
      refine ih j _ _ (by omega) ⟨i + 1, _, rfl, rfl, by omega, fun k hk => ?_, fun k hk => ?_⟩
      · rw [upd_at, if_neg (by omega)]; exact h1 k hk
      · rw [upd_at]
        by_cases e : k = i
        · rw [if_pos (by omega), e]; rfl
        · rw [if_neg (by omega)]; exact h2 k (by omega)
  obtain ⟨x, h1, f', h2, h3, h4⟩ := key
  exact ⟨f', by rw [h1, h2], h3, h4⟩
theorem feed1 {Q M : Sg} {f g : Nat → Int32} {n : Nat} (p : Int32) (hn : n + 4 ≤ 400) (h : ∀ i, i < n → f i = g i ∧ isB (g i)) : ∃ f' g', f_X8_append (mT Q f (nI n)) p = some (mT Q f' (nI (n + 4))) ∧ f_X12_four (mT M g (nI n)) p = some (mT M g' (nI (n + 4))) ∧ ∀ i, i < n + 4 → f' i = g' i ∧ isB (g' i) := by
  obtain ⟨f', a1, a2, a3⟩ := x_append (Q := Q) (f := f) p hn
  obtain ⟨g', b1, b2, b3⟩ := m_four (M := M) (f := g) p hn
  refine ⟨f', g', a1, b1, fun i hi => ?_⟩
  by_cases e : i < n
  · rw [a2 i e, b2 i e]; exact h i e
  · have e2 : i = n + (i - n) := by omega
    rw [e2, a3 _ (by omega), b3 _ (by omega)]
    exact ⟨rfl, bt_B _ _⟩
theorem st_feed : St_feed RR := by
  intro s M p1 p2 p3 p4 p5 hR
  have hR0 := hR; obtain ⟨hTp, ⟨d, m, n, a, π, ⟨hG, hT, hM, hm, hO, hN, hS, hX, hX0⟩, hH⟩, hI, hU⟩ := hR
  obtain ⟨n0, h1, h2, h3, h4⟩ := hTp
  unfold f_X11_feed f_X12_feed
  rw [h2, h3, lit, lit, nI_add]
  by_cases c : n0 + 20 ≤ 400
  · rw [if_pos (nI_le c (by omega)), if_pos (nI_le c (by omega))]
    have e1 : mT (s.1 1) ((s.1 1).2.1 0) (nI n0) = s.1 1 := by rw [← h2]; exact mT_id _
    have e2 : mT M (M.2.1 0) (nI n0) = M := by rw [← h3]; exact mT_id _
    obtain ⟨f1, g1, a1, b1, c1⟩ := feed1 (Q := s.1 1) (M := M) p1 (by omega) h4
    obtain ⟨f2, g2, a2, b2, c2⟩ := feed1 (Q := s.1 1) (M := M) p2 (by omega) c1
    obtain ⟨f3, g3, a3, b3, c3⟩ := feed1 (Q := s.1 1) (M := M) p3 (by omega) c2
    obtain ⟨f4, g4, a4, b4, c4⟩ := feed1 (Q := s.1 1) (M := M) p4 (by omega) c3
    obtain ⟨f5, g5, a5, b5, c5⟩ := feed1 (Q := s.1 1) (M := M) p5 (by omega) c4
    rw [e1] at a1
    rw [e2] at b1
    refine ⟨nI (n0 + 4 + 4 + 4 + 4 + 4), mT (s.1 1) f5 (nI (n0 + 4 + 4 + 4 + 4 + 4)), mT M g5 (nI (n0 + 4 + 4 + 4 + 4 + 4)), ?_, ?_, ⟨n0 + 4 + 4 + 4 + 4 + 4, by omega, rfl, rfl, c5⟩, ⟨d, m, n, a, π, ⟨hG, hT, hM, hm, hO, hN, hS, hX, hX0⟩, hH⟩, hI, hU⟩
    · rw [a1, ob1_s, a2, ob1_s, a3, ob1_s, a4, ob1_s, a5, ob1_s]; rfl
    · rw [b1, ob1_s, b2, ob1_s, b3, ob1_s, b4, ob1_s, b5, ob1_s]; rfl
  · rw [if_neg (nI_ge (by omega) (by omega)), if_neg (nI_ge (by omega) (by omega))]
    exact ⟨_, _, _, rfl, rfl, ⟨n0, h1, h2, h3, h4⟩, ⟨d, m, n, a, π, ⟨hG, hT, hM, hm, hO, hN, hS, hX, hX0⟩, hH⟩, hI, hU⟩
theorem m_cnt {d : Tr} {m : Mo} {M : Sg} (hG : TrG d) (hM : TrM d (M.2.1 20)) (hm : MoOK d m) (hN : MoM d m (M.2.1 20)) {p : Int32} {P : Nat → Bool} (hp : ∀ k, k < d.rd → ∀ (k116 : Int32 → Int32 → Option Int32) x2, f_X12_count_b116 M p k116 x2 (nI k) = if P k then k116 (x2 + 1) (nI (k + 1)) else k116 x2 (nI (k + 1))) : fl2 (f_X12_count_b116 M p) FU 0 0 = some (nI (cnt P d.rd 0 0)) := by
  have hb := hG.b
  generalize hv : cnt P d.rd 0 0 = v
  refine wp_val.mp (wp_fl2 (fun j x y => ∃ k c, x = nI c ∧ y = nI k ∧ k + j = d.rd ∧ cnt P j k c = v) ?_ d.rd (FU_lt (by omega)) _ _ ⟨0, 0, rfl, rfl, by omega, hv⟩)
  rintro j K _ _ ⟨k, c, rfl, rfl, hkj, hc⟩ ih
  cases j with
  | zero =>
    have e : k = d.rd := by omega
    subst e
    unfold f_X12_count_b116
    rw [hM.1.2.2, if_pos (nI_le (Nat.le_refl _) (by omega)), wp_some, ← hc]
    rfl
  | succ j =>
    rw [hp k (by omega)]
    rw [cnt_s] at hc
    by_cases e : P k = true
    · rw [if_pos e] at hc ⊢
      exact ih j _ _ (by omega) ⟨k + 1, c + 1, (nI_succ c).symm, rfl, by omega, hc⟩
    · rw [if_neg e] at hc ⊢
      exact ih j _ _ (by omega) ⟨k + 1, c, rfl, rfl, by omega, hc⟩
theorem add_0 (x : Int32) : x + 0 = x := by
  apply Int32.toBitVec_inj.mp
  simp
theorem st_count : St_count RR := by
  intro s M p1 hR
  have hR0 := hR; obtain ⟨hTp, ⟨d, m, n, a, π, ⟨hG, hT, hM, hm, hO, hN, hS, hX, hX0⟩, hH⟩, hI, hU⟩ := hR
  have hb := hG.b
  obtain ⟨n0, t1, t2, t3, t4⟩ := hTp
  obtain ⟨nx, sz, ms, u1, u2, u3, u4, u5, u6⟩ := hH
  obtain ⟨w1, w2, w3, w4⟩ := hU
  have key : ∃ r, f_X11_count (s.1 0) (s.1 1) (s.1 2) (s.1 3) (s.1 4) (s.1 5) (s.1 14) p1 = some r ∧ f_X12_count M p1 = some r := by
    unfold f_X11_count f_X12_count
    rw [bnd_eq, bnd_eq]
    by_cases c0 : p1 = 0
    · rw [if_pos c0, if_pos c0, c0, lit, ixd_nI (by omega) (by omega)]; exact ⟨_, rfl, by rw [hM.1.1, hT.1.1]⟩
    rw [if_neg c0, if_neg c0]
    by_cases c1 : p1 = 1
    · rw [if_pos c1, if_pos c1, c1, lit, ixd_nI (by omega) (by omega)]; exact ⟨_, rfl, by rw [hM.1.2.1, hT.1.2.1]⟩
    rw [if_neg c1, if_neg c1]
    by_cases c2 : p1 = 2
    · rw [if_pos c2, if_pos c2, c2, lit, ixd_nI (by omega) (by omega)]; exact ⟨_, rfl, by rw [hM.1.2.2, hT.1.2.2]⟩
    rw [if_neg c2, if_neg c2]
    by_cases c3 : p1 = 3
    · rw [if_pos c3, if_pos c3]; exact ⟨_, rfl, by rw [w2, w3]⟩
    rw [if_neg c3, if_neg c3]
    by_cases c4 : p1 = 4
    · rw [if_pos c4, if_pos c4]; exact ⟨_, rfl, by rw [hN.1.1, hO.1.1]⟩
    rw [if_neg c4, if_neg c4]
    by_cases c5 : p1 = 5
    · rw [if_pos c5, if_pos c5, m_isLine hG hM, ob1_s]
      by_cases e : 0 < d.n
      · simp only [e, decide_true]
        rw [if_neg (by decide), m_parting (hG.ok e) hM]; exact ⟨_, rfl, by rw [(hT.2.1 e).2.1]; rfl⟩
      · simp only [e, decide_false]
        rw [if_pos (by decide)]; exact ⟨_, rfl, by rw [hT.2.2.1 (by omega)]; rfl⟩
    rw [if_neg c5, if_neg c5]
    by_cases c6 : p1 = 6
    · rw [if_pos c6, if_pos c6, x_haltingStop hG hT hm hO, hN.1.1, m_haltAt hG hM (by have := hm.1; omega)]; exact ⟨_, rfl, rfl⟩
    rw [if_neg c6, if_neg c6]
    by_cases c7 : p1 = 7
    · rw [if_pos c7, if_pos c7, x_goers hG hT hm hO, m_cnt hG hM hm hN (P := m.gq)]
      · exact ⟨_, rfl, rfl⟩
      · intro k hk k116 x2
        unfold f_X12_count_b116 f_X12_count_b158 f_X12_count_b162 f_X12_count_b163
        rw [hM.1.2.2, if_neg (nI_ge hk (by omega)), if_pos c7, m_isGoing (hG.okr hk) hm hN hk, ob1_s]
        by_cases e : m.gq k = true
        · rw [e, if_neg (by decide), if_pos rfl, bnd_eq, bnd_eq, ← nI_succ]
        · simp only [Bool.not_eq_true] at e
          rw [e, if_pos (by decide), if_neg (by decide), bnd_eq, bnd_eq, ← nI_succ, add_0]
    rw [if_neg c7, if_neg c7]
    by_cases c8 : p1 = 8
    · rw [if_pos c8, if_pos c8, x_whoRight hG hT hm hO, m_cnt hG hM hm hN (P := fun r => decide (d.g (m.co r) = d.ds r))]
      · exact ⟨_, rfl, rfl⟩
      · intro k hk k116 x2
        have hd := hG.okr hk
        have h6 := hd.r6
        unfold f_X12_count_b116 f_X12_count_b158 f_X12_count_b162 f_X12_count_b163
        rw [hM.1.2.2, if_neg (nI_ge hk (by omega)), if_neg c7, m_rO0 (by omega), ob1_s, (hN.2.2 k hk).1, m_isRight hd hM hk (hm.2.2.2.1 k hk), ob1_s]
        by_cases e : d.g (m.co k) = d.ds k
        · simp only [e, decide_true]
          rw [itT, if_pos trivial, bnd_eq, bnd_eq, ← nI_succ]
        · simp only [e, decide_false]
          rw [itF, if_neg (by decide), bnd_eq, bnd_eq, ← nI_succ, add_0]
    rw [if_neg c8, if_neg c8]
    by_cases c9 : p1 = 9
    · rw [if_pos c9, if_pos c9]; exact ⟨_, rfl, by rw [hS.2.1, hS.2.2.1]⟩
    rw [if_neg c9, if_neg c9]
    by_cases c10 : p1 = 10
    · rw [if_pos c10, if_pos c10]; exact ⟨_, rfl, by rw [u4, u5]⟩
    rw [if_neg c10, if_neg c10]
    by_cases c11 : p1 = 11
    · rw [if_pos c11, if_pos c11]; exact ⟨_, rfl, by rw [hX]⟩
    rw [if_neg c11, if_neg c11]
    by_cases c12 : p1 = 12
    · rw [if_pos c12, if_pos c12]; exact ⟨_, rfl, by rw [t2, t3]⟩
    rw [if_neg c12, if_neg c12]
    exact ⟨_, rfl, rfl⟩
  obtain ⟨r, h1, h2⟩ := key
  exact ⟨r, h1, h2, hR0⟩
theorem sit_both {s : XS} {M : Sg} {d : Tr} {m : Mo} (hG : TrG d) (hd : TrOK d) (hT : TrC d (s.1 2)) (hM : TrM d (M.2.1 20)) (hm : MoOK d m) (hO : MoC d m (s.1 3)) (hN : MoM d m (M.2.1 20)) {e : Nat} (he : e < 4) {N0 : Nat} (hN0 : d.n < N0) : ∃ r, fl3 (f_X11_sit_b29 (s.1 2) (s.1 3) (nI e)) N0 (-2) 0 0 = some r ∧ fl3 (f_X12_sit_b29 M (nI e)) N0 (-2) 0 0 = some r := by
  have hn := hd.n8
  have stp : ∀ (K1 K2 : Int32 → Int32 → Int32 → Option Int32) (k : Nat) (x2 x3 : Int32), k < d.n → (∀ x y, K1 x y (nI (k + 1)) = K2 x y (nI (k + 1)) ∧ (K1 x y (nI (k + 1))).isSome = true) → f_X11_sit_b29 (s.1 2) (s.1 3) (nI e) K1 x2 x3 (nI k) = f_X12_sit_b29 M (nI e) K2 x2 x3 (nI k) ∧ (f_X11_sit_b29 (s.1 2) (s.1 3) (nI e) K1 x2 x3 (nI k)).isSome = true := by
    intro K1 K2 k x2 x3 hk ih1
    unfold f_X11_sit_b29 f_X12_sit_b29 f_X11_sit_b101 f_X12_sit_b91
    obtain ⟨w, hw, hw2⟩ := bset_lt (fun r => decide (m.co r = k)) (m := d.rd) (k := 0) (v := 0) (by have := hd.r6; omega) (by omega)
    rw [hT.1.1, hM.1.1, if_neg (nI_ge hk (by omega)), if_neg (nI_ge hk (by omega))]
    rw [ixd_nI (i := k) (n := 8) (by omega) (by omega), x_ridersIn hG hT hm hO hk, hw2, ob1_s, x_bitCount hw, ob1_s, bnd_eq, ixd_nI (i := k) (n := 8) (by omega) (by omega), (hT.2.2.2.1 k hk).1, (hT.2.2.2.1 k hk).2]
    rw [show (44 : Int32) + nI k = nI (44 + k) from nI_add 44 k, show (10 : Int32) + nI k = nI (10 + k) from nI_add 10 k, ixd_nI (i := 44 + k) (by omega) (by omega), m_ridersIn hG hM hm hN hk, hw2, ob1_s, m_bits hw, ob1_s]
    simp only [bnd_eq]
    rw [ixd_nI (i := 10 + k) (by omega) (by omega), (hM.2.2.1 k hk).1, (hM.2.2.1 k hk).2, ← nI_succ]
    by_cases c1 : nI (d.g k) = nI e
    · rw [if_pos c1, if_pos c1]
      by_cases c2 : nI (d.se k) - nI (popc w) ≤ x3
      · rw [if_pos c2, if_neg (Int32.not_lt.mpr c2)]; exact ih1 _ _
      · rw [if_neg c2, if_pos (Int32.not_le.mp c2)]; exact ih1 _ _
    · rw [if_neg c1, if_neg c1]; exact ih1 _ _
  have both : ∀ (N : Nat) (j k : Nat) (x2 x3 : Int32), k + j = d.n → j < N → fl3 (f_X11_sit_b29 (s.1 2) (s.1 3) (nI e)) N x2 x3 (nI k) = fl3 (f_X12_sit_b29 M (nI e)) N x2 x3 (nI k) ∧ (fl3 (f_X11_sit_b29 (s.1 2) (s.1 3) (nI e)) N x2 x3 (nI k)).isSome = true := by
    intro N
    induction N with
    | zero => intro j k x2 x3 hkj hj; omega
    | succ N ih =>
      intro j k x2 x3 hkj hj
      show f_X11_sit_b29 (s.1 2) (s.1 3) (nI e) (fl3 (f_X11_sit_b29 (s.1 2) (s.1 3) (nI e)) N) x2 x3 (nI k) = f_X12_sit_b29 M (nI e) (fl3 (f_X12_sit_b29 M (nI e)) N) x2 x3 (nI k) ∧ (f_X11_sit_b29 (s.1 2) (s.1 3) (nI e) (fl3 (f_X11_sit_b29 (s.1 2) (s.1 3) (nI e)) N) x2 x3 (nI k)).isSome = true
      by_cases e2 : d.n ≤ k
      · generalize fl3 (f_X11_sit_b29 (s.1 2) (s.1 3) (nI e)) N = K1
        generalize fl3 (f_X12_sit_b29 M (nI e)) N = K2
        unfold f_X11_sit_b29 f_X12_sit_b29
        rw [hT.1.1, hM.1.1, if_pos (nI_le e2 (by omega)), if_pos (nI_le e2 (by omega))]; exact ⟨rfl, rfl⟩
      · exact stp _ _ k x2 x3 (by omega) (fun x y => ih (j - 1) (k + 1) x y (by omega) (by omega))
  have h := both N0 d.n 0 (-2) 0 (by omega) hN0
  rw [show nI 0 = (0 : Int32) from rfl] at h
  obtain ⟨r, hr⟩ := Option.isSome_iff_exists.mp h.2
  exact ⟨r, hr, by rw [← hr]; exact h.1.symm⟩
theorem st_sit : St_sit RR := by
  intro s M p1 hR
  have hR0 := hR; obtain ⟨hTp, ⟨d, m, n, a, π, ⟨hG, hT, hM, hm, hO, hN, hS, hX, hX0⟩, hH⟩, hI, hU⟩ := hR
  have key : ∃ r, f_X11_sit (s.1 2) (s.1 3) p1 = some r ∧ f_X12_sit M p1 = some r := by
    unfold f_X11_sit f_X12_sit f_X11_sit_b19 f_X12_sit_b19
    rw [x_hasLine hG hT, m_isLine hG hM, ob1_s, ob1_s]
    by_cases c0 : 0 < d.n
    · have hd := hG.ok c0
      have hn := hd.n8
      simp only [c0, decide_true]
      rw [itT, itT]
      rcases csI p1 4 with ⟨e, he, rfl⟩ | hno
      · rw [in_ok (b := 3) (by decide) (by omega) (by omega), ob1_s, if_neg (nI_pos (by omega)), if_pos (by rw [lit]; exact nI_lt he (by omega)), itT]
        exact sit_both hG hd hT hM hm hO hN he (N0 := FU) (FU_lt (by omega))
      · rw [in_no (b := 3) (by decide) (fun k hk => hno k (by omega)), ob1_s, itF]
        rcases nI_out (by omega) hno with h | h
        · rw [if_pos h]; exact ⟨_, rfl, rfl⟩
        · by_cases h0 : p1 < 0
          · rw [if_pos h0]; exact ⟨_, rfl, rfl⟩
          · have h9 : ¬ p1 < 4 := fun h2 => (Int32.not_le.mpr h2) h
            rw [if_neg h0, if_neg h9]; exact ⟨_, rfl, rfl⟩
    · simp only [c0, decide_false]
      rw [itF, itF]
      exact ⟨_, rfl, rfl⟩
  obtain ⟨r, h1, h2⟩ := key
  exact ⟨r, h1, h2, hR0⟩
