/-! pass, image, back -/
/-- seconds went by for those below a number -/
def bm (m : Mo) (s i : Nat) : Mo := (fun k => if k = 0 then s else m.1 k, fun q r => if r < i then (byM m s).2.1 q r else m.2.1 q r, fun r => if r < i then (byM m s).2.2 r else m.2.2 r)
theorem MoC_pt {d : Tr} {m1 m2 : Mo} {O : Sg} (h : MoC d m1 O) (e : m2.sec = m1.sec ∧ m2.sh = m1.sh ∧ m2.ib = m1.ib) (e2 : ∀ r, r < d.rd → m2.co r = m1.co r ∧ m2.to r = m1.to r ∧ m2.en r = m1.en r ∧ m2.mv r = m1.mv r ∧ m2.gq r = m1.gq r) : MoC d m2 O := by
  refine ⟨by rw [e.1, e.2.1]; exact h.1, fun r hr => ?_⟩
  obtain ⟨a1, a2, a3, a4, a5⟩ := e2 r hr
  rw [a1, a2, a3, a4, a5, e.2.2]
  exact h.2 r hr
theorem MoM_pt {d : Tr} {m1 m2 : Mo} {f : Nat → Int32} (h : MoM d m1 f) (e : m2.sec = m1.sec ∧ m2.sh = m1.sh ∧ m2.ib = m1.ib) (e2 : ∀ r, r < d.rd → m2.co r = m1.co r ∧ m2.to r = m1.to r ∧ m2.en r = m1.en r ∧ m2.mv r = m1.mv r ∧ m2.gq r = m1.gq r) : MoM d m2 f := by
  refine ⟨by rw [e.1, e.2.2]; exact h.1, by rw [e.2.1]; exact h.2.1, fun r hr => ?_⟩
  obtain ⟨a1, a2, a3, a4, a5⟩ := e2 r hr
  rw [a1, a2, a3, a4, a5]
  exact h.2.2 r hr
theorem bm_lt {m : Mo} {s i r : Nat} (h : r < i) : (bm m s i).co r = (byM m s).co r ∧ (bm m s i).to r = m.to r ∧ (bm m s i).en r = m.en r ∧ (bm m s i).mv r = m.mv r ∧ (bm m s i).gq r = (byM m s).gq r := ⟨if_pos h, (if_pos h : (if r < i then (byM m s).2.1 1 r else m.2.1 1 r) = _), (if_pos h : (if r < i then (byM m s).2.1 2 r else m.2.1 2 r) = _), (if_pos h : (if r < i then (byM m s).2.1 3 r else m.2.1 3 r) = _), if_pos h⟩
theorem bm_ge {m : Mo} {s i r : Nat} (h : ¬ r < i) : (bm m s i).co r = m.co r ∧ (bm m s i).to r = m.to r ∧ (bm m s i).en r = m.en r ∧ (bm m s i).mv r = m.mv r ∧ (bm m s i).gq r = m.gq r := ⟨if_neg h, if_neg h, if_neg h, if_neg h, if_neg h⟩
theorem byM_at (m : Mo) (s r : Nat) : (byM m s).co r = (if m.gq r && decide (m.en r ≤ s) then m.to r else m.co r) ∧ (byM m s).to r = m.to r ∧ (byM m s).en r = m.en r ∧ (byM m s).mv r = m.mv r ∧ (byM m s).gq r = (m.gq r && !(decide (m.en r ≤ s))) := ⟨rfl, rfl, rfl, rfl, rfl⟩
theorem x_isGo {O : Sg} {r t : Nat} {g : Bool} (hr : r < 6) (ht : t < 2 ^ 30) (h : O.2.1 3 r = if g then nI t else -nI 1) : f_X10_isGoing O (nI r) = some g := by
  unfold f_X10_isGoing
  rw [ixd_nI hr (by omega), h]
  cases g with
  | true =>
    have e9 : ¬ nI t = (-1 : Int32) := fun e => (eq_m1 (k := t) (by omega)).mp e
    rw [if_pos rfl, if_neg e9]
  | false => rfl
section
variable {d : Tr} {m : Mo} {T O : Sg} {M : Sg}
theorem x_goBy (hd : TrOK d) (hT : TrC d T) (hm : MoOK d m) (hO : MoC d m O) {k s : Nat} (hs : s = m.sec + k) (hs9 : s ≤ 999) : ∃ O', f_X10_goBy T O (nI k) = some O' ∧ MoC d (byM m s) O' := by
  have h6 := hd.r6
  have h8 := hd.n8
  have key : Wp (f_X10_goBy T O (nI k)) (fun O' => MoC d (byM m s) O') := by
    unfold f_X10_goBy
    rw [bnd_eq, hO.1.1, nI_add, ← hs]
    refine wp_fl2 (fun j x Z => ∃ i, x = nI i ∧ i + j = d.rd ∧ MoC d (bm m s i) Z) ?_ d.rd (FU_lt (by omega)) _ _ ⟨0, rfl, by omega, ⟨rfl, hO.1.2⟩, hO.2⟩
    rintro j K _ Z ⟨i, rfl, hij, hZ⟩ ih
    unfold f_X10_goBy_b15 f_X10_goBy_b101
    cases j with
    | zero =>
      have e : i = d.rd := by omega
      subst e
      rw [hT.1.2.2, if_pos (nI_le (Nat.le_refl _) (by omega))]
      refine wp_some.mpr (MoC_pt hZ ⟨rfl, rfl, rfl⟩ (fun r hr => ?_))
      obtain ⟨a1, a2, a3, a4, a5⟩ := bm_lt (m := m) (s := s) hr
      exact ⟨a1.symm, a2.symm, a3.symm, a4.symm, a5.symm⟩
    | succ j =>
      have hi : i < d.rd := by omega
      have a := hZ.2 i hi
      obtain ⟨b1, b2, b3, b4, b5⟩ := bm_ge (m := m) (s := s) (show ¬ i < i by omega)
      rw [b1, b2, b3, b4, b5] at a
      have c2 := hm.2.2.2.2 i hi
      have hskip : ¬ (m.gq i = true ∧ m.en i ≤ s) → Wp (K (nI (i + 1)) Z) (fun O' => MoC d (byM m s) O') := by
        intro hn
        refine ih j _ _ (by omega) ⟨i + 1, rfl, by omega, MoC_pt hZ ⟨rfl, rfl, rfl⟩ (fun r hr => ?_)⟩
        by_cases e : r < i
        · obtain ⟨q1, q2, q3, q4, q5⟩ := bm_lt (m := m) (s := s) e
          obtain ⟨p1, p2, p3, p4, p5⟩ := bm_lt (m := m) (s := s) (show r < i + 1 by omega)
          exact ⟨by rw [p1, q1], by rw [p2, q2], by rw [p3, q3], by rw [p4, q4], by rw [p5, q5]⟩
        · by_cases e2 : r = i
          · subst e2
            obtain ⟨p1, p2, p3, p4, p5⟩ := bm_lt (m := m) (s := s) (show r < r + 1 by omega)
            obtain ⟨y1, y2, y3, y4, y5⟩ := byM_at m s r
            refine ⟨?_, by rw [p2, b2], by rw [p3, b3], by rw [p4, b4], ?_⟩
            · rw [p1, b1, y1, if_neg]
              simp only [Bool.and_eq_true, decide_eq_true_eq]
              exact hn
            · rw [p5, b5, y5]
              cases hg : m.gq r with
              | false => rfl
              | true =>
                have : ¬ m.en r ≤ s := fun h => hn ⟨hg, h⟩
                simp [this]
          · obtain ⟨q1, q2, q3, q4, q5⟩ := bm_ge (m := m) (s := s) e
            obtain ⟨p1, p2, p3, p4, p5⟩ := bm_ge (m := m) (s := s) (show ¬ r < i + 1 by omega)
            exact ⟨by rw [p1, q1], by rw [p2, q2], by rw [p3, q3], by rw [p4, q4], by rw [p5, q5]⟩
      rw [hT.1.2.2, if_neg (nI_ge hi (by omega)), ← nI_succ]
      by_cases hg : m.gq i = true
      · obtain ⟨t1, t2, t3, t4⟩ := c2 hg
        rw [x_isGo (by omega) (show m.to i < 2 ^ 30 by omega) a.2.1, ob1_s, hg, itT, ixd_nI (by omega) (by omega), hZ.1.1, a.2.2.1, if_pos hg]
        have es : (bm m s i).sec = s := rfl
        rw [es]
        by_cases c3 : m.en i ≤ s
        · rw [if_neg (nI_nlt c3 (by omega)), ixd_nI (by omega) (by omega), ixd_nI (by omega) (by omega), bnd_eq, ixd_nI (by omega) (by omega), bnd_eq, ixd_nI (by omega) (by omega), bnd_eq, ixd_nI (by omega) (by omega), bnd_eq, bnd_eq, a.2.1, if_pos hg]
          refine ih j _ _ (by omega) ⟨i + 1, rfl, by omega, ⟨hZ.1.1, hZ.1.2⟩, fun r hr => ?_⟩
          show upd (Z.2.1 2) i (nI (m.to i)) r = _ ∧ upd (Z.2.1 3) i (-1) r = _ ∧ upd (Z.2.1 4) i (-1) r = _ ∧ upd (Z.2.1 5) i (-1) r = _ ∧ Z.2.1 6 r = _
          rw [upd_at, upd_at, upd_at, upd_at]
          have ar := hZ.2 r hr
          by_cases e2 : r = i
          · subst e2
            obtain ⟨p1, p2, p3, p4, p5⟩ := bm_lt (m := m) (s := s) (show r < r + 1 by omega)
            obtain ⟨y1, y2, y3, y4, y5⟩ := byM_at m s r
            have g1 : (byM m s).gq r = false := by rw [y5, hg]; simp [c3]
            have g2 : (byM m s).co r = m.to r := by rw [y1, hg]; simp [c3]
            rw [p1, p2, p3, p4, p5, g1, g2]
            simp only [if_true, Bool.false_and, Bool.false_eq_true, if_false]
            exact ⟨trivial, rfl, rfl, rfl, a.2.2.2.2⟩
          · simp only [if_neg e2]
            by_cases e : r < i
            · obtain ⟨q1, q2, q3, q4, q5⟩ := bm_lt (m := m) (s := s) e
              obtain ⟨p1, p2, p3, p4, p5⟩ := bm_lt (m := m) (s := s) (show r < i + 1 by omega)
              rw [q1, q2, q3, q4, q5] at ar
              rw [p1, p2, p3, p4, p5]
              exact ar
            · obtain ⟨q1, q2, q3, q4, q5⟩ := bm_ge (m := m) (s := s) e
              obtain ⟨p1, p2, p3, p4, p5⟩ := bm_ge (m := m) (s := s) (show ¬ r < i + 1 by omega)
              rw [q1, q2, q3, q4, q5] at ar
              rw [p1, p2, p3, p4, p5]
              exact ar
        · rw [if_pos (nI_lt (by omega) (by omega)), wp_bnd]
          exact hskip (fun h => c3 h.2)
      · have hg2 : m.gq i = false := by simpa using hg
        rw [x_isGo (t := 0) (g := false) (by omega) (by omega) (by rw [a.2.1, hg2]; rfl), ob1_s, itF, wp_bnd]
        exact hskip (fun h => hg h.1)
  obtain ⟨O', h1, h2⟩ := key
  exact ⟨O', h1, h2⟩
theorem m_secondComes (hd : TrOK d) (hM : TrM d (M.2.1 20)) (hm : MoOK d m) (hN : MoM d m (M.2.1 20)) : ∃ f, f_X12_secondComes M = some (sF M 20 f) ∧ TrM d f ∧ MoM d (byM m (m.sec + 1)) f ∧ ∀ k, 100 ≤ k → f k = M.2.1 20 k := by
  have h6 := hd.r6
  have h8 := hd.n8
  have hG : TrG d := Or.inl hd
  have hs9 := hm.1
  have key : Wp (f_X12_secondComes M) (fun o => ∃ f, o = sF M 20 f ∧ TrM d f ∧ MoM d (byM m (m.sec + 1)) f ∧ ∀ k, 100 ≤ k → f k = M.2.1 20 k) := by
    unfold f_X12_secondComes
    have e0 : sA M 20 3 (M.2.1 20 3 + 1) = sF M 20 (upd (M.2.1 20) 3 (nI (m.sec + 1))) := by
      rw [hN.1.1, ← nI_succ]; rfl
    rw [bnd_eq, e0]
    refine wp_fl2 (fun j x Z => ∃ i f, x = nI i ∧ Z = sF M 20 f ∧ i + j = d.rd ∧ TrM d f ∧ MoM d (bm m (m.sec + 1) i) f ∧ ∀ k, 100 ≤ k → f k = M.2.1 20 k) ?_ d.rd (FU_lt (by omega)) _ _ ⟨0, _, rfl, rfl, by omega, ?_, ⟨⟨rfl, hN.1.2⟩, fun w hw => ?_, fun r hr => ?_⟩, fun k hk => by rw [upd_at, if_neg (by omega)]⟩
    · rintro j K _ _ ⟨i, f, rfl, rfl, hij, hT, hZ, hf⟩ ih
      have e20 : (sF M 20 f).2.1 20 = f := rfl
      unfold f_X12_secondComes_b12 f_X12_secondComes_b95
      rw [e20, hT.1.2.2]
      cases j with
      | zero =>
        have e : i = d.rd := by omega
        subst e
        rw [if_pos (nI_le (Nat.le_refl _) (by omega))]
        refine wp_some.mpr ⟨f, rfl, hT, MoM_pt hZ ⟨rfl, rfl, rfl⟩ (fun r hr => ?_), hf⟩
        obtain ⟨a1, a2, a3, a4, a5⟩ := bm_lt (m := m) (s := m.sec + 1) hr
        exact ⟨a1.symm, a2.symm, a3.symm, a4.symm, a5.symm⟩
      | succ j =>
        have hi : i < d.rd := by omega
        have a := hZ.2.2 i hi
        obtain ⟨b1, b2, b3, b4, b5⟩ := bm_ge (m := m) (s := m.sec + 1) (show ¬ i < i by omega)
        rw [b1, b2, b3, b4, b5] at a
        have c2 := hm.2.2.2.2 i hi
        have hskip : ¬ (m.gq i = true ∧ m.en i ≤ m.sec + 1) → Wp (K (nI (i + 1)) (sF M 20 f)) (fun o => ∃ f, o = sF M 20 f ∧ TrM d f ∧ MoM d (byM m (m.sec + 1)) f ∧ ∀ k, 100 ≤ k → f k = M.2.1 20 k) := by
          intro hn
          refine ih j _ _ (by omega) ⟨i + 1, f, rfl, rfl, by omega, hT, MoM_pt hZ ⟨rfl, rfl, rfl⟩ (fun r hr => ?_), hf⟩
          by_cases e : r < i
          · obtain ⟨q1, q2, q3, q4, q5⟩ := bm_lt (m := m) (s := m.sec + 1) e
            obtain ⟨p1, p2, p3, p4, p5⟩ := bm_lt (m := m) (s := m.sec + 1) (show r < i + 1 by omega)
            exact ⟨by rw [p1, q1], by rw [p2, q2], by rw [p3, q3], by rw [p4, q4], by rw [p5, q5]⟩
          · by_cases e2 : r = i
            · subst e2
              obtain ⟨p1, p2, p3, p4, p5⟩ := bm_lt (m := m) (s := m.sec + 1) (show r < r + 1 by omega)
              obtain ⟨y1, y2, y3, y4, y5⟩ := byM_at m (m.sec + 1) r
              refine ⟨?_, by rw [p2, b2], by rw [p3, b3], by rw [p4, b4], ?_⟩
              · rw [p1, b1, y1, if_neg]
                simp only [Bool.and_eq_true, decide_eq_true_eq]
                exact hn
              · rw [p5, b5, y5]
                cases hg : m.gq r with
                | false => rfl
                | true =>
                  have : ¬ m.en r ≤ m.sec + 1 := fun h => hn ⟨hg, h⟩
                  simp [this]
            · obtain ⟨q1, q2, q3, q4, q5⟩ := bm_ge (m := m) (s := m.sec + 1) e
              obtain ⟨p1, p2, p3, p4, p5⟩ := bm_ge (m := m) (s := m.sec + 1) (show ¬ r < i + 1 by omega)
              exact ⟨by rw [p1, q1], by rw [p2, q2], by rw [p3, q3], by rw [p4, q4], by rw [p5, q5]⟩
        rw [if_neg (nI_ge hi (by omega)), ← nI_succ, show (52 : Int32) = nI 52 from rfl, show (8 : Int32) = nI 8 from rfl, nI_mul, nI_add, bnd_eq, show (5 : Int32) = nI 5 from rfl, nI_add, show (6 : Int32) = nI 6 from rfl, nI_add, ixd_nI (by omega) (by omega), a.2.1]
        by_cases hg : m.gq i = true
        · obtain ⟨t1, t2, t3, t4⟩ := c2 hg
          rw [if_pos hg, if_neg (nI_pos (by omega)), ixd_nI (by omega) (by omega), a.2.2.1, if_pos hg, hZ.1.1]
          have es : (bm m (m.sec + 1) i).sec = m.sec + 1 := rfl
          rw [es]
          by_cases c3 : m.en i = m.sec + 1
          · rw [if_pos (by rw [c3]), ixd_nI (by omega) (by omega), ixd_nI (by omega) (by omega), a.2.1, if_pos hg, bnd_eq, ixd_nI (by omega) (by omega), bnd_eq, ixd_nI (by omega) (by omega), bnd_eq, bnd_eq, sA_sF, sA_sF, sA_sF]
            have hsame : ∀ k, k ≠ 52 + 8 * i → k ≠ 52 + 8 * i + 5 → k ≠ 52 + 8 * i + 6 → upd (upd (upd f (52 + 8 * i) (nI (m.to i))) (52 + 8 * i + 5) (-1)) (52 + 8 * i + 6) (-1) k = f k := by
              intro k k1 k2 k3
              rw [upd_at, if_neg k3, upd_at, if_neg k2, upd_at, if_neg k1]
            refine ih j _ _ (by omega) ⟨i + 1, _, rfl, rfl, by omega, TrM_congr2 hG hT (fun k hk => ?_), ⟨⟨?_, ?_⟩, fun w hw => ?_, fun r hr => ?_⟩, fun k hk => ?_⟩
            · unfold trC at hk
              exact hsame k (by omega) (by omega) (by omega)
            · rw [hsame 3 (by omega) (by omega) (by omega)]; exact hZ.1.1
            · rw [hsame 8 (by omega) (by omega) (by omega)]; exact hZ.1.2
            · rw [hsame (30 + w) (by omega) (by omega) (by omega)]; exact hZ.2.1 w hw
            · have ar := hZ.2.2 r hr
              by_cases e2 : r = i
              · subst e2
                obtain ⟨p1, p2, p3, p4, p5⟩ := bm_lt (m := m) (s := m.sec + 1) (show r < r + 1 by omega)
                obtain ⟨y1, y2, y3, y4, y5⟩ := byM_at m (m.sec + 1) r
                have g1 : (byM m (m.sec + 1)).gq r = false := by rw [y5, hg]; simp [c3]
                have g2 : (byM m (m.sec + 1)).co r = m.to r := by rw [y1, hg]; simp [c3]
                rw [p1, p2, p3, p4, p5, g1, g2]
                refine ⟨?_, ?_, ?_, ?_⟩
                · rw [upd_at, if_neg (by omega), upd_at, if_neg (by omega), upd_at, if_pos rfl]
                · rw [upd_at, if_neg (by omega), upd_at, if_pos rfl]; rfl
                · rw [upd_at, if_pos rfl]; rfl
                · rw [hsame (52 + 8 * r + 7) (by omega) (by omega) (by omega)]; exact a.2.2.2
              · rw [hsame (52 + 8 * r) (by omega) (by omega) (by omega), hsame (52 + 8 * r + 5) (by omega) (by omega) (by omega), hsame (52 + 8 * r + 6) (by omega) (by omega) (by omega), hsame (52 + 8 * r + 7) (by omega) (by omega) (by omega)]
                by_cases e : r < i
                · obtain ⟨q1, q2, q3, q4, q5⟩ := bm_lt (m := m) (s := m.sec + 1) e
                  obtain ⟨p1, p2, p3, p4, p5⟩ := bm_lt (m := m) (s := m.sec + 1) (show r < i + 1 by omega)
                  rw [q1, q2, q3, q4, q5] at ar
                  rw [p1, p2, p3, p4, p5]
                  exact ar
                · obtain ⟨q1, q2, q3, q4, q5⟩ := bm_ge (m := m) (s := m.sec + 1) e
                  obtain ⟨p1, p2, p3, p4, p5⟩ := bm_ge (m := m) (s := m.sec + 1) (show ¬ r < i + 1 by omega)
                  rw [q1, q2, q3, q4, q5] at ar
                  rw [p1, p2, p3, p4, p5]
                  exact ar
            · rw [hsame k (by omega) (by omega) (by omega)]; exact hf k hk
          · rw [if_neg (by rw [nI_eq (by omega) (by omega)]; exact c3), wp_bnd]
            exact hskip (fun h => by omega)
        · rw [if_neg hg, if_pos (by decide), wp_bnd]
          exact hskip (fun h => hg h.1)
    · refine TrM_congr2 hG hM (fun k hk => ?_)
      unfold trC at hk
      rw [upd_at, if_neg (by omega)]
    · rw [upd_at, if_neg (by omega)]; exact hN.2.1 w hw
    · have hs3 : ∀ k, k ≠ 3 → upd (M.2.1 20) 3 (nI (m.sec + 1)) k = M.2.1 20 k := fun k hk => if_neg hk
      rw [hs3 (52 + 8 * r) (by omega), hs3 (52 + 8 * r + 5) (by omega), hs3 (52 + 8 * r + 6) (by omega), hs3 (52 + 8 * r + 7) (by omega)]
      obtain ⟨b1, b2, b3, b4, b5⟩ := bm_ge (m := m) (s := m.sec + 1) (show ¬ r < 0 by omega)
      rw [b1, b2, b3, b4, b5]
      exact hN.2.2 r hr
  obtain ⟨x, h1, f, h2, h3⟩ := key
  exact ⟨f, by rw [h1, h2], h3⟩
theorem byM_0 (hm : MoOK d m) {f : Nat → Int32} (h : MoM d m f) : MoM d (byM m m.sec) f := by
  refine MoM_pt h ⟨rfl, rfl, rfl⟩ (fun r hr => ?_)
  obtain ⟨y1, y2, y3, y4, y5⟩ := byM_at m m.sec r
  refine ⟨?_, y2, y3, y4, ?_⟩
  · rw [y1, if_neg]
    simp only [Bool.and_eq_true, decide_eq_true_eq]
    intro h2; have := hm.2.2.2.2 r hr h2.1; omega
  · rw [y5]
    cases hg : m.gq r with
    | false => rfl
    | true =>
      have := hm.2.2.2.2 r hr hg
      have h3 : ¬ m.en r ≤ m.sec := by omega
      simp [h3]
theorem x_canGoBy (hG : TrG d) (hT : TrC d T) (hm : MoOK d m) (hO : MoC d m O) (p : Int32) : (∃ k, p = nI k ∧ 1 ≤ k ∧ k ≤ 99 ∧ m.sec + k ≤ 999 ∧ 0 < d.n ∧ f_X11_canGoBy T O p = some true) ∨ (¬ (∃ k, p = nI k ∧ 1 ≤ k ∧ k ≤ 99 ∧ m.sec + k ≤ 999 ∧ 0 < d.n) ∧ f_X11_canGoBy T O p = some false) := by
  have hs := hm.1
  unfold f_X11_canGoBy f_X11_canGoBy_b15 f_X11_canGoBy_b16 f_X11_canGoBy_b53
  rw [x_hasLine hG hT, ob1_s, hO.1.1, if_pos (show (0 : Int32) = 0 from rfl), if_neg (show ¬ (1 : Int32) = 0 by decide)]
  have hsm : (if bI (decide (0 < d.n)) = 0 then some false else some false : Option Bool) = some false := by split <;> rfl
  rw [hsm]
  by_cases k1 : p < 1
  · rw [if_pos k1]
    right
    refine ⟨?_, rfl⟩
    rintro ⟨k, rfl, h1, h2, -⟩
    rw [show (1 : Int32) = nI 1 from rfl, nI_ltI (by omega) (by omega)] at k1; omega
  · rw [if_neg k1]
    by_cases k2 : 99 < p
    · rw [if_pos k2]
      right
      refine ⟨?_, rfl⟩
      rintro ⟨k, rfl, h1, h2, -⟩
      rw [show (99 : Int32) = nI 99 from rfl, nI_ltI (by omega) (by omega)] at k2; omega
    · rw [if_neg k2]
      have k0 : ¬ p < 0 := fun h => k1 (Int32.lt_trans h (by decide))
      obtain ⟨N, hN1, rfl⟩ := nI_of k0
      rw [show (1 : Int32) = nI 1 from rfl, nI_ltI (by omega) (by omega)] at k1
      rw [show (99 : Int32) = nI 99 from rfl, nI_ltI (by omega) (by omega)] at k2
      by_cases c0 : 0 < d.n
      · simp only [c0, decide_true]
        rw [ob1_s, itT, nI_add, show (999 : Int32) = nI 999 from rfl]
        by_cases c1 : 999 < m.sec + N
        · rw [if_pos (nI_lt c1 (by omega))]
          right
          refine ⟨?_, rfl⟩
          rintro ⟨k, h0, h1, h2, h3, -⟩
          rw [nI_eq (by omega) (by omega)] at h0; omega
        · rw [if_neg (nI_nlt (by omega) (by omega))]
          exact Or.inl ⟨N, rfl, by omega, by omega, by omega, trivial, rfl⟩
      · simp only [c0, decide_false]
        right
        exact ⟨fun ⟨k, h⟩ => h.2.2.2.2, rfl⟩
theorem m_cgb (hG : TrG d) (hM : TrM d (M.2.1 20)) (hm : MoOK d m) (hN : MoM d m (M.2.1 20)) {p : Int32} (hno : ¬ (∃ k, p = nI k ∧ 1 ≤ k ∧ k ≤ 99 ∧ m.sec + k ≤ 999 ∧ 0 < d.n)) : (0 < d.n → ∀ (α : Type) (A : Option α) (B : Option α), (ob1 (f_X12_in p.toInt64 (1 : Int64) (99 : Int64)) fun r13 => if bI r13 = 0 then A else (if (M.2.1 20 3) + p ≤ 999 then B else A)) = A) := by
  intro c0 α A B
  have hs := hm.1
  by_cases h : ∃ k, 1 ≤ k ∧ k ≤ 99 ∧ p = nI k
  · obtain ⟨k, h1, h2, rfl⟩ := h
    have h9 : ¬ m.sec + k ≤ 999 := fun q => hno ⟨k, rfl, h1, h2, q, c0⟩
    rw [m_inT (a := 1) (b := 99) (by decide) (by decide) h1 h2 (by omega), ob1_s, itT, hN.1.1, nI_add, show (999 : Int32) = nI 999 from rfl, if_neg (nI_ge (by omega) (by omega))]
  · rw [m_inF (a := 1) (b := 99) (by decide) (by decide) (fun k h1 h2 _ e => h ⟨k, h1, h2, e⟩), ob1_s, itF]
end
theorem st_pass : St_pass RR := by
  intro s M p1 hR
  have hR0 := hR; obtain ⟨hTp, ⟨d, m, n, a, π, ⟨hG, hT, hM, hm, hO, hN, hS, hX, hX0⟩, hH⟩, hI, hU⟩ := hR
  unfold f_X11_pass f_X12_pass f_X12_pass_b33
  rw [m_isLine hG hM, ob1_s]
  rcases x_canGoBy hG hT hm hO p1 with ⟨k, rfl, h1, h2, h3, c0, h4⟩ | ⟨hno, h4⟩
  · have hd := hG.ok c0
    simp only [c0, decide_true]
    obtain ⟨j, Om1, H1, w, l, k1, k2, k3, k4⟩ := HR_keep hG hH hM hm hO hN
    obtain ⟨O', g1, g2⟩ := x_goBy hd hT hm hO (k := k) rfl h3
    have km : Wp (fl2 (f_X12_pass_b41 (nI k)) FU 0 (kM M w l)) (fun o => ∃ f, o = (nI (m.sec + k), sF (kM M w l) 20 f) ∧ TrM d f ∧ MoM d (byM m (m.sec + k)) f ∧ ∀ q, 100 ≤ q → f q = M.2.1 20 q) := by
      refine wp_fl2 (fun j x Z => ∃ i f, x = nI i ∧ Z = sF (kM M w l) 20 f ∧ i + j = k ∧ TrM d f ∧ MoM d (byM m (m.sec + i)) f ∧ ∀ q, 100 ≤ q → f q = M.2.1 20 q) ?_ k (FU_lt (by omega)) _ _ ⟨0, M.2.1 20, rfl, (sF_self (kM M w l) 20).symm, by omega, hM, byM_0 hm hN, fun _ _ => rfl⟩
      rintro j K _ _ ⟨i, f, rfl, rfl, hij, f1, f2, f3⟩ ih
      unfold f_X12_pass_b41
      cases j with
      | zero =>
        have e : i = k := by omega
        subst e
        rw [if_pos (nI_le (Nat.le_refl _) (by omega))]
        exact wp_some.mpr ⟨f, by rw [sF_at, f2.1.1]; rfl, f1, f2, f3⟩
      | succ j =>
        rw [if_neg (nI_ge (by omega) (by omega))]
        have e20 : (sF (kM M w l) 20 f).2.1 20 = f := rfl
        obtain ⟨f', q1, q2, q3, q4⟩ := m_secondComes (M := sF (kM M w l) 20 f) hd f1 (byM_ok hm (show m.sec + i ≤ 999 by omega)) f2
        have es : (byM m (m.sec + i)).sec = m.sec + i := rfl
        rw [es, byM_by m (by omega)] at q3
        rw [q1, ob1_s, wp_bnd, sF_sF]
        exact ih j _ _ (by omega) ⟨i + 1, f', (nI_succ i).symm, rfl, by omega, q2, q3, fun q hq => by rw [q4 q hq, e20]; exact f3 q hq⟩
    obtain ⟨x, e1, f, e2, f1, f2, f3⟩ := km
    subst e2
    refine ⟨j, nI (m.sec + k), O', H1, Om1, sF (kM M w l) 20 f, k1, ?_, ?_, RR_go hR0 hG hT hS hX hX0 f1 (byM_ok hm h3) g2 f2 f3 k4⟩
    · rw [h4, ob1_s, itT, k2, ob2_s, g1, ob1_s, g2.1.1]; rfl
    · rw [itT, m_inT (a := 1) (b := 99) (by decide) (by decide) h1 h2 (by omega), ob1_s, itT, hN.1.1, nI_add, show (999 : Int32) = nI 999 from rfl, if_pos (nI_le h3 (by omega)), k3, ob1_s]
      exact e1
  · refine no_go hR0 (fun j => by rw [h4, ob1_s, itF]) ?_
    by_cases c0 : 0 < d.n
    · simp only [c0, decide_true]
      rw [itT]
      exact m_cgb hG hM hm hN hno c0 _ _ _
    · simp only [c0, decide_false]
      rfl
