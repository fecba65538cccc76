/-! goings begun, seconds that go by -/
def goM (m : Mo) (r t en : Nat) (b : Bool) : Mo := (fun k => if k = 2 then (if b then m.ib ||| 2 ^ r else m.ib &&& (63 ^^^ 2 ^ r)) else m.1 k, fun q i => if i = r then (if q = 1 then t else if q = 2 then en else if q = 3 then m.mv r + 1 else m.2.1 q i) else m.2.1 q i, fun i => if i = r then true else m.2.2 i)
def byM (m : Mo) (s : Nat) : Mo := (fun k => if k = 0 then s else m.1 k, fun q i => if q = 0 then (if m.gq i && decide (m.en i ≤ s) then m.to i else m.co i) else m.2.1 q i, fun i => m.gq i && !(decide (m.en i ≤ s)))
theorem byM_by (m : Mo) {s1 s2 : Nat} (h : s1 ≤ s2) : byM (byM m s1) s2 = byM m s2 := by
  unfold byM
  refine Prod.ext ?_ (Prod.ext ?_ ?_)
  · funext k; by_cases e : k = 0 <;> simp [e]
  · funext q i
    by_cases e : q = 0
    · subst e
      simp only [if_true, Mo.gq, Mo.en, Mo.to, Mo.co]
      by_cases c1 : m.2.2 i = true
      · by_cases c2 : m.2.1 2 i ≤ s1
        · have c3 : m.2.1 2 i ≤ s2 := by omega
          simp [c1, c2, c3]
        · by_cases c3 : m.2.1 2 i ≤ s2 <;> simp [c1, c2, c3]
      · simp only [Bool.not_eq_true] at c1
        simp [c1]
    · simp [e]
  · funext i
    simp only [Mo.gq, Mo.en]
    by_cases c1 : m.2.2 i = true
    · by_cases c2 : m.2.1 2 i ≤ s1
      · have c3 : m.2.1 2 i ≤ s2 := by omega
        simp [c1, c2, c3]
      · by_cases c3 : m.2.1 2 i ≤ s2 <;> simp [c1, c2, c3]
    · simp only [Bool.not_eq_true] at c1
      simp [c1]
theorem byM_ok {d : Tr} {m : Mo} (hm : MoOK d m) {s : Nat} (hs : s ≤ 999) : MoOK d (byM m s) := by
  obtain ⟨h1, h2, h3, h4, h5⟩ := hm
  refine ⟨hs, h2, h3, fun r hr => ?_, fun r hr hg => ?_⟩
  · show (if m.gq r && decide (m.en r ≤ s) then m.to r else m.co r) < d.n
    by_cases c : (m.gq r && decide (m.en r ≤ s)) = true
    · rw [if_pos c]
      simp only [Bool.and_eq_true] at c
      exact (h5 r hr c.1).1
    · rw [if_neg c]; exact h4 r hr
  · have hg2 : (m.gq r && !(decide (m.en r ≤ s))) = true := hg
    simp only [Bool.and_eq_true, Bool.not_eq_true', decide_eq_false_iff_not] at hg2
    obtain ⟨a1, a2, a3, a4⟩ := h5 r hr hg2.1
    refine ⟨a1, ?_, ?_, a4⟩
    · show m.to r ≠ (if m.gq r && decide (m.en r ≤ s) then m.to r else m.co r)
      rw [if_neg (by simp [hg2.2])]; exact a2
    · show s < m.en r; omega
theorem and_step : ∀ (v : Fin 64) (k : Fin 6), nI v &&& (((1 : Int32) <<< (nI k &&& 31)) ^^^ (-1)) = nI (v &&& (63 ^^^ 2 ^ k.val)) ∧ (v.val &&& (63 ^^^ 2 ^ k.val)) < 64 := by decide +kernel
theorem or_tst : ∀ (v : Fin 64) (k i : Fin 6), (v.val ||| 2 ^ k.val).testBit i = (if i = k then true else v.val.testBit i) := by decide +kernel
theorem and_tst : ∀ (v : Fin 64) (k i : Fin 6), (v.val &&& (63 ^^^ 2 ^ k.val)).testBit i = (if i = k then false else v.val.testBit i) := by decide +kernel
theorem goM_bit {m : Mo} (h : m.ib < 64) {r t en i : Nat} {b : Bool} (hr : r < 6) (hi : i < 6) : (goM m r t en b).ib.testBit i = if i = r then b else m.ib.testBit i := by
  show (if b then m.ib ||| 2 ^ r else m.ib &&& (63 ^^^ 2 ^ r)).testBit i = _
  cases b with
  | true =>
    have h1 := or_tst ⟨m.ib, h⟩ ⟨r, hr⟩ ⟨i, hi⟩
    simp only [Fin.mk.injEq] at h1
    rw [if_pos rfl, h1]
  | false =>
    have h1 := and_tst ⟨m.ib, h⟩ ⟨r, hr⟩ ⟨i, hi⟩
    simp only [Fin.mk.injEq] at h1
    rw [if_neg (by decide), h1]
theorem goM_ib {m : Mo} (h : m.ib < 64) {r t en : Nat} {b : Bool} (hr : r < 6) : (goM m r t en b).ib < 64 := by
  show (if b then m.ib ||| 2 ^ r else m.ib &&& (63 ^^^ 2 ^ r)) < 64
  cases b with
  | true => exact (or_step ⟨m.ib, h⟩ ⟨r, hr⟩).2
  | false => exact (and_step ⟨m.ib, h⟩ ⟨r, hr⟩).2
section
variable {d : Tr} {m : Mo} {T O : Sg} {M : Sg}
theorem goM_ok (hd : TrOK d) (hm : MoOK d m) {r t en : Nat} {b : Bool} (hr : r < d.rd) (ht : t < d.n) (htc : t ≠ m.co r) (he : m.sec < en ∧ en ≤ 1999) : MoOK d (goM m r t en b) := by
  have h6 := hd.r6
  refine ⟨hm.1, hm.2.1, goM_ib hm.2.2.1 (by omega), fun i hi => ?_, fun i hi hg => ?_⟩
  · show (if i = r then _ else m.2.1 0 i) < d.n
    by_cases e : i = r
    · subst e; rw [if_pos rfl]; exact hm.2.2.2.1 i hi
    · rw [if_neg e]; exact hm.2.2.2.1 i hi
  · by_cases e : i = r
    · subst e
      have e1 : (goM m i t en b).to i = t := by show (if i = i then _ else _) = t; rw [if_pos rfl]; rfl
      have e2 : (goM m i t en b).co i = m.co i := by show (if i = i then _ else _) = _; rw [if_pos rfl]; rfl
      have e3 : (goM m i t en b).en i = en := by show (if i = i then _ else _) = _; rw [if_pos rfl]; rfl
      rw [e1, e2, e3]
      exact ⟨ht, htc, he.1, he.2⟩
    · have e1 : (goM m r t en b).to i = m.to i := by show (if i = r then _ else _) = _; rw [if_neg e]; rfl
      have e2 : (goM m r t en b).co i = m.co i := by show (if i = r then _ else _) = _; rw [if_neg e]; rfl
      have e3 : (goM m r t en b).en i = m.en i := by show (if i = r then _ else _) = _; rw [if_neg e]; rfl
      have e4 : (goM m r t en b).gq i = m.gq i := by show (if i = r then _ else _) = _; rw [if_neg e]; rfl
      rw [e4] at hg
      rw [e1, e2, e3]
      exact hm.2.2.2.2 i hi hg
theorem x_go (hd : TrOK d) (hm : MoOK d m) (hO : MoC d m O) {r t x : Nat} {b : Bool} {v : Int32} (hr : r < d.rd) (hb : v = if b then nI (min (m.co r) t) else -nI 1) : ∃ O', f_X10_go (sA O 5 r v) (nI r) (nI t) (nI x) = some (nI (m.sec + x), O') ∧ MoC d (goM m r t (m.sec + x) b) O' := by
  have h6 := hd.r6
  have h1 := hO.2 r hr
  unfold f_X10_go
  rw [ixd_nI (by omega) (by omega), bnd_eq, ixd_nI (by omega) (by omega), bnd_eq, ixd_nI (by omega) (by omega), ixd_nI (by omega) (by omega), bnd_eq, ixd_nI (by omega) (by omega)]
  have e1 : (sA (sA O 5 r v) 3 r (nI t)).1 0 = nI m.sec := hO.1.1
  have e2 : ∀ z, (sA (sA (sA O 5 r v) 3 r (nI t)) 4 r z).2.1 6 r = nI (m.mv r) := fun z => h1.2.2.2.2
  have e3 : ∀ z y, (sA (sA (sA (sA O 5 r v) 3 r (nI t)) 4 r z) 6 r y).2.1 4 r = z := fun z y => by
    show upd _ r z r = z
    rw [upd_at, if_pos rfl]
  rw [e1, e2, e3, nI_add, ← nI_succ]
  refine ⟨_, rfl, ⟨hO.1.1, hO.1.2⟩, fun i hi => ?_⟩
  have a := hO.2 i hi
  have hbit := goM_bit hm.2.2.1 (r := r) (t := t) (en := m.sec + x) (b := b) (show r < 6 by omega) (show i < 6 by omega)
  show O.2.1 2 i = _ ∧ upd (O.2.1 3) r (nI t) i = _ ∧ upd (O.2.1 4) r (nI (m.sec + x)) i = _ ∧ upd (O.2.1 5) r v i = _ ∧ upd (O.2.1 6) r (nI (m.mv r + 1)) i = _
  rw [upd_at, upd_at, upd_at, upd_at, hbit]
  by_cases e : i = r
  · subst e
    have f1 : (goM m i t (m.sec + x) b).to i = t := by show (if i = i then _ else _) = t; rw [if_pos rfl]; rfl
    have f2 : (goM m i t (m.sec + x) b).co i = m.co i := by show (if i = i then _ else _) = _; rw [if_pos rfl]; rfl
    have f3 : (goM m i t (m.sec + x) b).en i = m.sec + x := by show (if i = i then _ else _) = _; rw [if_pos rfl]; rfl
    have f4 : (goM m i t (m.sec + x) b).gq i = true := by show (if i = i then _ else _) = _; rw [if_pos rfl]
    have f5 : (goM m i t (m.sec + x) b).mv i = m.mv i + 1 := by show (if i = i then _ else _) = _; rw [if_pos rfl]; rfl
    rw [f1, f2, f3, f4, f5]
    simp only [if_true, Bool.true_and]
    refine ⟨a.1, trivial, trivial, ?_, trivial⟩
    rw [hb]
  · have f1 : (goM m r t (m.sec + x) b).to i = m.to i := by show (if i = r then _ else _) = _; rw [if_neg e]; rfl
    have f2 : (goM m r t (m.sec + x) b).co i = m.co i := by show (if i = r then _ else _) = _; rw [if_neg e]; rfl
    have f3 : (goM m r t (m.sec + x) b).en i = m.en i := by show (if i = r then _ else _) = _; rw [if_neg e]; rfl
    have f4 : (goM m r t (m.sec + x) b).gq i = m.gq i := by show (if i = r then _ else _) = _; rw [if_neg e]; rfl
    have f5 : (goM m r t (m.sec + x) b).mv i = m.mv i := by show (if i = r then _ else _) = _; rw [if_neg e]; rfl
    rw [f1, f2, f3, f4, f5]
    simp only [if_neg e]
    exact a
theorem x_goInside (hd : TrOK d) (hT : TrC d T) (hm : MoOK d m) (hO : MoC d m O) {r t : Nat} (hr : r < d.rd) (ht : t < d.n) : ∃ O', f_X10_goInside T O (nI r) (nI t) = some (nI (m.sec + d.ins r), O') ∧ MoC d (goM m r t (m.sec + d.ins r) true) O' := by
  have h6 := hd.r6
  have h8 := hd.n8
  have hc := hm.2.2.2.1 r hr
  obtain ⟨O', h1, h2⟩ := x_go (t := t) (x := d.ins r) (b := true) hd hm hO hr rfl
  refine ⟨O', ?_, h2⟩
  unfold f_X10_goInside
  rw [ixd_nI (by omega) (by omega), ixd_nI (by omega) (by omega), bnd_eq, ixd_nI (by omega) (by omega), (hO.2 r hr).1, nI_min (by omega) (by omega), (hT.2.2.2.2.2.2 r hr).2.2.2.2.1]
  rw [if_pos rfl] at h1
  rw [h1, ob2_s]
theorem x_goOutside (hd : TrOK d) (hT : TrC d T) (hm : MoOK d m) (hO : MoC d m O) {r t : Nat} (hr : r < d.rd) (ht : t < d.n) (hg : m.gq r = false) : ∃ O', f_X10_goOutside T O (nI r) (nI t) = some (nI (m.sec + sOu d r (m.co r) t), O') ∧ MoC d (goM m r t (m.sec + sOu d r (m.co r) t) false) O' := by
  have h6 := hd.r6
  have hc := hm.2.2.2.1 r hr
  obtain ⟨O', h1, h2⟩ := x_go (t := t) (x := sOu d r (m.co r) t) (b := false) hd hm hO hr rfl
  refine ⟨O', ?_, h2⟩
  unfold f_X10_goOutside
  have e1 : sA O 5 r (if false = true then nI (min (m.co r) t) else -nI 1) = O := by
    have e2 : (if false = true then nI (min (m.co r) t) else -nI 1) = O.2.1 5 r := by
      rw [(hO.2 r hr).2.2.2.1, hg]; rfl
    rw [e2]
    show (O.1, va_up O.2.1 5 (upd (O.2.1 5) r (O.2.1 5 r)), O.2.2) = O
    rw [upd_se, va_up_se]
  rw [e1] at h1
  rw [ixd_nI (by omega) (by omega), (hO.2 r hr).1, x_outsideSeconds hd hT hr hc ht, ob1_s, h1, ob2_s]
theorem m_goes (hd : TrOK d) (hM : TrM d (M.2.1 20)) (hm : MoOK d m) (hN : MoM d m (M.2.1 20)) {r t : Nat} {b : Bool} (hr : r < d.rd) (ht : t < d.n) : ∃ f, f_X12_goes M (nI r) (nI t) b = some (sF M 20 f) ∧ TrM d f ∧ MoM d (goM m r t (m.sec + (if b then d.ins r else sOu d r (m.co r) t)) b) f ∧ ∀ k, 100 ≤ k → f k = M.2.1 20 k := by
  have h6 := hd.r6
  have h8 := hd.n8
  have hc := hm.2.2.2.1 r hr
  have h1 := hN.2.2 r hr
  generalize hx : (if b then d.ins r else sOu d r (m.co r) t) = x
  have htm : f_X12_timeOf M (nI r) (nI (m.co r)) (nI t) b = some (nI x) := by
    cases b with
    | true => rw [m_timeI hd hM _ _ hr, ← hx]; rfl
    | false => rw [m_timeO hd hM hr hc ht, ← hx]; rfl
  have hgen : ∀ v, v = nI (goM m r t (m.sec + x) b).ib → TrM d (upd (upd (upd (upd (M.2.1 20) (52 + 8 * r + 6) (nI (m.sec + x))) (52 + 8 * r + 5) (nI t)) (52 + 8 * r + 7) (nI (m.mv r + 1))) 8 v) ∧ MoM d (goM m r t (m.sec + x) b) (upd (upd (upd (upd (M.2.1 20) (52 + 8 * r + 6) (nI (m.sec + x))) (52 + 8 * r + 5) (nI t)) (52 + 8 * r + 7) (nI (m.mv r + 1))) 8 v) ∧ ∀ k, 100 ≤ k → upd (upd (upd (upd (M.2.1 20) (52 + 8 * r + 6) (nI (m.sec + x))) (52 + 8 * r + 5) (nI t)) (52 + 8 * r + 7) (nI (m.mv r + 1))) 8 v k = M.2.1 20 k := by
    intro v hv
    have hsame : ∀ k, k ≠ 8 → k ≠ 52 + 8 * r + 5 → k ≠ 52 + 8 * r + 6 → k ≠ 52 + 8 * r + 7 → upd (upd (upd (upd (M.2.1 20) (52 + 8 * r + 6) (nI (m.sec + x))) (52 + 8 * r + 5) (nI t)) (52 + 8 * r + 7) (nI (m.mv r + 1))) 8 v k = M.2.1 20 k := by
      intro k k1 k2 k3 k4
      rw [upd_at, if_neg k1, upd_at, if_neg k4, upd_at, if_neg k2, upd_at, if_neg k3]
    refine ⟨TrM_congr2 (Or.inl hd) hM (fun k hk => ?_), ⟨⟨?_, ?_⟩, fun w hw => ?_, fun i hi => ?_⟩, fun k hk => hsame k (by omega) (by omega) (by omega) (by omega)⟩
    · unfold trC at hk
      exact hsame k (by omega) (by omega) (by omega) (by omega)
    · rw [hsame 3 (by omega) (by omega) (by omega) (by omega)]; exact hN.1.1
    · rw [upd_at, if_pos rfl]; exact hv
    · rw [hsame (30 + w) (by omega) (by omega) (by omega) (by omega)]; exact hN.2.1 w hw
    · by_cases e : i = r
      · subst e
        have f1 : (goM m i t (m.sec + x) b).to i = t := by show (if i = i then _ else _) = t; rw [if_pos rfl]; rfl
        have f2 : (goM m i t (m.sec + x) b).co i = m.co i := by show (if i = i then _ else _) = _; rw [if_pos rfl]; rfl
        have f3 : (goM m i t (m.sec + x) b).en i = m.sec + x := by show (if i = i then _ else _) = _; rw [if_pos rfl]; rfl
        have f4 : (goM m i t (m.sec + x) b).gq i = true := by show (if i = i then _ else _) = _; rw [if_pos rfl]
        have f5 : (goM m i t (m.sec + x) b).mv i = m.mv i + 1 := by show (if i = i then _ else _) = _; rw [if_pos rfl]; rfl
        rw [f1, f2, f3, f4, f5]
        refine ⟨?_, ?_, ?_, ?_⟩
        · rw [hsame (52 + 8 * i) (by omega) (by omega) (by omega) (by omega)]; exact h1.1
        · rw [upd_at, if_neg (by omega), upd_at, if_neg (by omega), upd_at, if_pos rfl]; rfl
        · rw [upd_at, if_neg (by omega), upd_at, if_neg (by omega), upd_at, if_neg (by omega), upd_at, if_pos rfl]; rfl
        · rw [upd_at, if_neg (by omega), upd_at, if_pos rfl]
      · have f1 : (goM m r t (m.sec + x) b).to i = m.to i := by show (if i = r then _ else _) = _; rw [if_neg e]; rfl
        have f2 : (goM m r t (m.sec + x) b).co i = m.co i := by show (if i = r then _ else _) = _; rw [if_neg e]; rfl
        have f3 : (goM m r t (m.sec + x) b).en i = m.en i := by show (if i = r then _ else _) = _; rw [if_neg e]; rfl
        have f4 : (goM m r t (m.sec + x) b).gq i = m.gq i := by show (if i = r then _ else _) = _; rw [if_neg e]; rfl
        have f5 : (goM m r t (m.sec + x) b).mv i = m.mv i := by show (if i = r then _ else _) = _; rw [if_neg e]; rfl
        rw [f1, f2, f3, f4, f5, hsame (52 + 8 * i) (by omega) (by omega) (by omega) (by omega), hsame (52 + 8 * i + 5) (by omega) (by omega) (by omega) (by omega), hsame (52 + 8 * i + 6) (by omega) (by omega) (by omega) (by omega), hsame (52 + 8 * i + 7) (by omega) (by omega) (by omega) (by omega)]
        exact hN.2.2 i hi
  unfold f_X12_goes f_X12_goes_b101
  rw [show (52 : Int32) = nI 52 from rfl, show (8 : Int32) = nI 8 from rfl, nI_mul, nI_add, bnd_eq, ixd_nI (by omega) (by omega), h1.1, htm, ob1_s, show (6 : Int32) = nI 6 from rfl, nI_add, ixd_nI (by omega) (by omega), bnd_eq, hN.1.1, nI_add, show (5 : Int32) = nI 5 from rfl, nI_add, ixd_nI (by omega) (by omega), bnd_eq, show (7 : Int32) = nI 7 from rfl, nI_add, ixd_nI (by omega) (by omega), ixd_nI (by omega) (by omega), bnd_eq]
  have e7 : (sA (sA M 20 (52 + 8 * r + 6) (nI (m.sec + x))) 20 (52 + 8 * r + 5) (nI t)).2.1 20 (52 + 8 * r + 7) = nI (m.mv r) := by
    show upd (upd (M.2.1 20) (52 + 8 * r + 6) (nI (m.sec + x))) (52 + 8 * r + 5) (nI t) (52 + 8 * r + 7) = _
    rw [upd_at, if_neg (by omega), upd_at, if_neg (by omega)]; exact h1.2.2.2
  rw [e7, ← nI_succ]
  have e8 : (sA (sA (sA M 20 (52 + 8 * r + 6) (nI (m.sec + x))) 20 (52 + 8 * r + 5) (nI t)) 20 (52 + 8 * r + 7) (nI (m.mv r + 1))).2.1 20 8 = nI m.ib := by
    show upd (upd (upd (M.2.1 20) (52 + 8 * r + 6) (nI (m.sec + x))) (52 + 8 * r + 5) (nI t)) (52 + 8 * r + 7) (nI (m.mv r + 1)) 8 = _
    rw [upd_at, if_neg (by omega), upd_at, if_neg (by omega), upd_at, if_neg (by omega)]; exact hN.1.2
  have e9 : ∀ v, sA (sA (sA (sA M 20 (52 + 8 * r + 6) (nI (m.sec + x))) 20 (52 + 8 * r + 5) (nI t)) 20 (52 + 8 * r + 7) (nI (m.mv r + 1))) 20 8 v = sF M 20 (upd (upd (upd (upd (M.2.1 20) (52 + 8 * r + 6) (nI (m.sec + x))) (52 + 8 * r + 5) (nI t)) (52 + 8 * r + 7) (nI (m.mv r + 1))) 8 v) := by
    intro v
    have q : ∀ i z, sA M 20 i z = sF M 20 (upd (M.2.1 20) i z) := fun _ _ => rfl
    rw [q, sA_sF, sA_sF, sA_sF]
  rw [e8, ixd_nI (by omega) (by omega), ixd_nI (by omega) (by omega), bnd_eq, bnd_eq, e9, e9]
  cases b with
  | true =>
    rw [itT]
    exact ⟨_, rfl, hgen _ (or_step ⟨m.ib, hm.2.2.1⟩ ⟨r, by omega⟩).1⟩
  | false =>
    rw [itF]
    exact ⟨_, rfl, hgen _ (and_step ⟨m.ib, hm.2.2.1⟩ ⟨r, by omega⟩).1⟩
/-- whether a way is free -/
def wfr (d : Tr) (m : Mo) (w : Nat) : Bool := (fnd (fun r => m.gq r && m.ib.testBit r && decide (min (m.co r) (m.to r) = w)) d.rd 0).isNone
theorem oM_m1 {o : Option Nat} {n : Nat} (h : ∀ k, o = some k → k < n) (hn : n ≤ 2 ^ 30) : (oM o = -1 ↔ o.isNone = true) ∧ (0 ≤ oM o ↔ o.isNone = false) := by
  cases o with
  | none => exact ⟨⟨fun _ => rfl, fun _ => rfl⟩, ⟨fun h => absurd h (by decide), fun h => by cases h⟩⟩
  | some k =>
    have hk := h k rfl
    refine ⟨⟨fun h => ?_, fun h => by cases h⟩, ⟨fun _ => rfl, fun _ => ?_⟩⟩
    · exact absurd h (fun h2 => (eq_m1 (k := k) (by omega)).mp h2)
    · show 0 ≤ nI k
      rw [show (0 : Int32) = nI 0 from rfl, nI_leI (by omega) (by omega)]; omega
theorem x_mayIn (hd : TrOK d) (hT : TrC d T) (hm : MoOK d m) (hO : MoC d m O) {r t : Nat} (hr : r < d.rd) (ht : t < d.n) (hct : dist (m.co r) t = 1) (hg : m.gq r = false) : f_X10_mayGoInside T O (nI r) (nI t) = some (wfr d m (min (m.co r) t) && mI d m r (m.co r) t m.sec) := by
  have h6 := hd.r6
  have h8 := hd.n8
  have hs := hm.1
  have hc := hm.2.2.2.1 r hr
  have hG : TrG d := Or.inl hd
  unfold f_X10_mayGoInside f_X10_mayGoInside_b46 f_X10_mayGoInside_b16 f_X10_mayGoInside_b81
  rw [x_isGoing hd hm hO hr, ob1_s, hg, itF, x_hasCoach hG hT ht, ob1_s, itT, ixd_nI (by omega) (by omega), (hO.2 r hr).1, bnd_eq, nI_min (by omega) (by omega), x_goerThrough hG hT hm hO (by omega), ob1_s, hO.1.1, x_insideBegin hd hT hm hO hr hc ht hct (by omega), ob1_s]
  have hmi := mI_iff (d := d) (m := m) (r := r) (a := m.co r) (b := t) (s := m.sec) (by omega)
  have hoc : oC (sIB d m r (m.co r) t m.sec) ≤ 1000000 := by
    have hw : min (m.co r) t + 1 < d.n := by unfold dist at hct; split at hct <;> omega
    have htr := hd.tr9 _ hw
    unfold sIB oC
    split
    · exact Nat.le_refl _
    · split
      · exact Nat.le_refl _
      · simp only [Option.getD_some]; omega
  have h9 := oM_m1 (o := fnd (fun r_1 => m.gq r_1 && m.ib.testBit r_1 && decide (min (m.co r_1) (m.to r_1) = min (m.co r) t)) d.rd 0) (n := d.rd) (fun k hk => fnd_lt hk) (by omega)
  unfold wfr
  by_cases c1 : (fnd (fun r_1 => m.gq r_1 && m.ib.testBit r_1 && decide (min (m.co r_1) (m.to r_1) = min (m.co r) t)) d.rd 0).isNone = true
  · rw [if_pos (h9.1.mpr c1), if_neg (show ¬ (1 : Int32) = 0 by decide), c1, Bool.true_and]
    by_cases c2 : mI d m r (m.co r) t m.sec = true
    · rw [if_pos (by rw [hmi.mpr c2]), c2]
    · rw [if_neg (by rw [nI_eq (by omega) (by omega)]; exact fun h => c2 (hmi.mp h))]
      simp only [Bool.not_eq_true] at c2
      rw [c2]
  · rw [if_neg (fun h => c1 (h9.1.mp h)), if_pos (show (0 : Int32) = 0 from rfl)]
    simp only [Bool.not_eq_true] at c1
    rw [c1, Bool.false_and]
theorem m_canIn (hd : TrOK d) (hM : TrM d (M.2.1 20)) (hm : MoOK d m) (hN : MoM d m (M.2.1 20)) {r t : Nat} (hr : r < d.rd) (ht : t < d.n) (hct : dist (m.co r) t = 1) : f_X12_canInside M (nI r) (nI t) = some (wfr d m (min (m.co r) t) && mI d m r (m.co r) t m.sec) := by
  have h6 := hd.r6
  have h8 := hd.n8
  have hs := hm.1
  have hc := hm.2.2.2.1 r hr
  have hG : TrG d := Or.inl hd
  unfold f_X12_canInside f_X12_canInside_b39
  rw [m_rO0 (by omega), ob1_s, (hN.2.2 r hr).1, hN.1.1, m_mayInside hd hM hN hr hc ht hct (by omega), ob1_s, m_wayOf (by omega) (by omega), ob1_s, m_goerIn hG hM hm hN (by omega), ob1_s]
  have h9 := oM_m1 (o := fnd (fun r_1 => m.gq r_1 && m.ib.testBit r_1 && decide (min (m.co r_1) (m.to r_1) = min (m.co r) t)) d.rd 0) (n := d.rd) (fun k hk => fnd_lt hk) (by omega)
  unfold wfr
  by_cases c2 : mI d m r (m.co r) t m.sec = true
  · rw [c2, itT, Bool.and_true]
    by_cases c1 : (fnd (fun r_1 => m.gq r_1 && m.ib.testBit r_1 && decide (min (m.co r_1) (m.to r_1) = min (m.co r) t)) d.rd 0).isNone = true
    · rw [if_neg (fun h => by rw [h9.2.mp h] at c1; cases c1), c1]
    · simp only [Bool.not_eq_true] at c1
      rw [if_pos (h9.2.mpr c1), c1]
  · simp only [Bool.not_eq_true] at c2
    rw [c2, itF, Bool.and_false]
theorem x_mayOut (hd : TrOK d) (hT : TrC d T) (hm : MoOK d m) (hO : MoC d m O) {r t : Nat} (hr : r < d.rd) (ht : t < d.n) (hct : t ≠ m.co r) (hg : m.gq r = false) : f_X10_mayGoOutside T O (nI r) (nI t) = some (mOu d (sOu d r (m.co r) t) m.sec) := by
  have h6 := hd.r6
  have h8 := hd.n8
  have hs := hm.1
  have hc := hm.2.2.2.1 r hr
  have hG : TrG d := Or.inl hd
  have hx := sOu_le hd hr hc ht
  have hx1 := sOu_pos hd hr (fun e => hct e.symm : m.co r ≠ t)
  unfold f_X10_mayGoOutside f_X10_mayGoOutside_b31
  rw [ixd_nI (by omega) (by omega), bnd_eq, x_isGoing hd hm hO hr, ob1_s, hg, itF, x_hasCoach hG hT ht, ob1_s, itT, (hO.2 r hr).1, if_neg (by rw [nI_eq (by omega) (by omega)]; exact hct), x_outsideSeconds hd hT hr hc ht, ob1_s, hO.1.1, x_outsideBegin hd hT (by omega) (by omega), ob1_s]
  have hmi := mOu_iff hd (s := m.sec) hx1 (by omega)
  have hoc : oC (sOB d (sOu d r (m.co r) t) m.sec) ≤ 1000000 := by
    rcases oC_cases (sOB d (sOu d r (m.co r) t) m.sec) with ⟨h2, h3⟩ | ⟨q, h2, h3⟩
    · omega
    · have := sOB_bd hd h2; omega
  by_cases c2 : mOu d (sOu d r (m.co r) t) m.sec = true
  · rw [if_pos (by rw [hmi.mpr c2]), c2]
  · rw [if_neg (by rw [nI_eq (by omega) (by omega)]; exact fun h => c2 (hmi.mp h))]
    simp only [Bool.not_eq_true] at c2
    rw [c2]
end
theorem RR_go {s : XS} {M : Sg} {d : Tr} {m' : Mo} {n : Nat} {a : Nat → Nat → Nat} {π : Nat → Nat} {O1 H1 Om1 : Sg} {w f : Nat → Int32} {l : Int32} {j : Nat} (hR : RR s M) (hG : TrG d) (hT : TrC d (s.1 2)) (hS : SR d n a π (s.1 4) (M.2.1 20)) (hX : (s.1 5).1 3 = M.1 21) (hX0 : ¬ M.1 21 < 0) (h1 : TrM d f) (h2 : MoOK d m') (h3 : MoC d m' O1) (h4 : MoM d m' f) (h5 : ∀ k, 100 ≤ k → f k = M.2.1 20 k) (h6 : HR d H1 (va_up (s.2.1 0) j Om1) w l) : RR (va_up (va_up s.1 3 O1) 14 H1, va_up s.2.1 0 (va_up (s.2.1 0) j Om1), s.2.2) (sF (kM M w l) 20 f) := by
  obtain ⟨hTp, -, hI, hU⟩ := hR
  exact ⟨hTp, ⟨d, m', n, a, π, ⟨hG, hT, h1, h2, h3, h4, SR_congr hS (fun k hk _ => h5 k hk), hX, hX0⟩, h6⟩, hI, hU⟩
theorem no_go {α : Type} {z : α} {s : XS} {M : Sg} (hR : RR s M) {A : Nat → Option (α × Sg × Sg × Sg)} {B : Option (α × Sg)} (h1 : ∀ j, A j = some (z, s.1 3, s.1 14, s.2.1 0 j)) (h2 : B = some (z, M)) : ∃ (j : Nat) (r : α) (O1 : Sg) (H1 : Sg) (Om1 : Sg) (M1 : Sg), j < 20 ∧ A j = some (r, O1, H1, Om1) ∧ B = some (r, M1) ∧ RR (va_up (va_up s.1 3 O1) 14 H1, va_up s.2.1 0 (va_up (s.2.1 0) j Om1), s.2.2) M1 := ⟨0, _, _, _, _, _, by omega, h1 0, h2, by rw [same_s]; exact hR⟩
theorem m_rO6 {M : Sg} {r : Nat} (hr : r < 6) : f_X12_riderOf M (nI r) 6 = some (M.2.1 20 (52 + 8 * r + 6)) := m_riderOf (w := 6) hr (by omega)
theorem goM_en {m : Mo} {r t en : Nat} {b : Bool} : (goM m r t en b).en r = en ∧ (goM m r t en b).gq r = true := by
  constructor
  · show (if r = r then _ else _) = en; rw [if_pos rfl]; rfl
  · show (if r = r then _ else _) = true; rw [if_pos rfl]
theorem sOu_en {d : Tr} (hd : TrOK d) {m : Mo} (hm : MoOK d m) {r t : Nat} (hr : r < d.rd) (ht : t < d.n) (hct : t ≠ m.co r) : m.sec < m.sec + sOu d r (m.co r) t ∧ m.sec + sOu d r (m.co r) t ≤ 1999 := by
  have := hm.1
  have := sOu_le hd hr (hm.2.2.2.1 r hr) ht
  have := sOu_pos hd hr (fun e => hct e.symm : m.co r ≠ t)
  omega
theorem st_outside : St_outside RR := by
  intro s M p1 p2 hR
  have hR0 := hR; obtain ⟨hTp, ⟨d, m, n, a, π, ⟨hG, hT, hM, hm, hO, hN, hS, hX, hX0⟩, hH⟩, hI, hU⟩ := hR
  unfold f_X11_outside f_X12_outside f_X11_outside_b23 f_X12_outside_b55
  rcases csI p1 d.rd with ⟨r, hr, rfl⟩ | hno
  · have hd := hG.okr hr
    have h6 := hd.r6
    have h8 := hd.n8
    have hc := hm.2.2.2.1 r hr
    rw [m_isRider hG hM hr, x_hasRider hG hT hr, ob1_s, itT, m_isGoing hd hm hN hr]
    rcases csI p2 d.n with ⟨t, ht, rfl⟩ | hno2
    · rw [m_isCoach hG hM ht, ob1_s, itT, ob1_s]
      by_cases hg : m.gq r = true
      · refine no_go hR0 (fun j => ?_) (by rw [hg, itT])
        unfold f_X10_mayGoOutside f_X10_mayGoOutside_b31
        rw [ob1_s, itT, ixd_nI (by omega) (by omega), bnd_eq, x_isGoing hd hm hO hr, ob1_s, hg, itT, ob1_s, itF]
      · simp only [Bool.not_eq_true] at hg
        rw [hg, itF, m_rO0 (by omega), ob1_s, ob1_s, (hN.2.2 r hr).1, hN.1.1]
        by_cases e : m.co r = t
        · refine no_go hR0 (fun j => ?_) (by rw [if_pos (by rw [e])])
          unfold f_X10_mayGoOutside f_X10_mayGoOutside_b31
          rw [ob1_s, itT, ixd_nI (by omega) (by omega), bnd_eq, x_isGoing hd hm hO hr, ob1_s, hg, itF, x_hasCoach hG hT ht, ob1_s, itT, (hO.2 r hr).1, if_pos (by rw [e]), ob1_s, itF]
        · have e2 : t ≠ m.co r := fun h => e h.symm
          rw [if_neg (by rw [nI_eq (by omega) (by omega)]; exact e), m_mayOutside hd hM hr hc ht (by have := hm.1; omega), ob1_s, x_mayOut hd hT hm hO hr ht e2 hg]
          by_cases c : mOu d (sOu d r (m.co r) t) m.sec = true
          · obtain ⟨j, Om1, H1, w, l, k1, k2, k3, k4⟩ := HR_keep hG hH hM hm hO hN
            obtain ⟨O', g1, g2⟩ := x_goOutside hd hT hm hO hr ht hg
            have hM' : TrM d ((kM M w l).2.1 20) := hM
            have hN' : MoM d m ((kM M w l).2.1 20) := hN
            obtain ⟨f, f1, f2, f3, f4⟩ := m_goes (b := false) hd hM' hm hN' hr ht
            rw [if_neg (by decide)] at f3
            refine ⟨j, nI (m.sec + sOu d r (m.co r) t), O', H1, Om1, sF (kM M w l) 20 f, k1, ?_, ?_, RR_go hR0 hG hT hS hX hX0 f2 (goM_ok hd hm hr ht e2 (sOu_en hd hm hr ht e2)) g2 f3 f4 k4⟩
            · rw [ob1_s, itT, ob1_s, c, itT, k2, ob2_s, g1, ob2_s]
            · rw [c, itT, k3, ob1_s, f1, ob1_s, m_rO6 (by omega), ob1_s]
              have e9 : (sF (kM M w l) 20 f).2.1 20 = f := rfl
              rw [e9, (f3.2.2 r hr).2.2.1, goM_en.2, goM_en.1]
              rfl
          · simp only [Bool.not_eq_true] at c
            exact no_go hR0 (fun j => by rw [ob1_s, itT, ob1_s, c, itF]) (by rw [c, itF])
    · refine no_go hR0 (fun j => ?_) (by rw [m_isCoachN hG hM hno2, ob1_s, itF])
      have e9 : f_X10_mayGoOutside (s.1 2) (s.1 3) (nI r) p2 = some false := by
        unfold f_X10_mayGoOutside f_X10_mayGoOutside_b31
        rw [ixd_nI (by omega) (by omega), bnd_eq, x_isGoing hd hm hO hr, ob1_s, x_hasCoachN hG hT hno2, ob1_s, itF]
        split <;> rfl
      rw [ob1_s, itT, e9, ob1_s, itF]
  · refine no_go hR0 (fun j => ?_) (by rw [m_isRiderN hG hM hno, ob1_s, itF])
    rw [x_hasRiderN hG hT hno, ob1_s, itF]
theorem st_inside : St_inside RR := by
  intro s M p1 p2 hR
  have hR0 := hR; obtain ⟨hTp, ⟨d, m, n, a, π, ⟨hG, hT, hM, hm, hO, hN, hS, hX, hX0⟩, hH⟩, hI, hU⟩ := hR
  unfold f_X11_inside f_X12_inside f_X11_inside_b21 f_X12_inside_b26
  rcases csI p1 d.rd with ⟨r, hr, rfl⟩ | hno
  · have hd := hG.okr hr
    have h6 := hd.r6
    have h8 := hd.n8
    have hc := hm.2.2.2.1 r hr
    have main : ((∃ t, t < d.n ∧ nI (m.co r) + p2 = nI t ∧ dist (m.co r) t = 1) ∨ (∀ c, c < d.n → nI (m.co r) + p2 ≠ nI c)) → ∃ (j : Nat) (z : Int32) (O1 : Sg) (H1 : Sg) (Om1 : Sg) (M1 : Sg), j < 20 ∧ f_X11_inside_b23 j (s.1 2) (nI r) p2 (s.1 3) (s.1 14) (s.2.1 0 j) = some (z, O1, H1, Om1) ∧ f_X12_inside_b18 (nI r) p2 M = some (z, M1) ∧ RR (va_up (va_up s.1 3 O1) 14 H1, va_up s.2.1 0 (va_up (s.2.1 0) j Om1), s.2.2) M1 := by
      intro hcase
      unfold f_X11_inside_b23 f_X12_inside_b18 f_X12_inside_b54 f_X12_inside_b26
      rw [m_isGoing hd hm hN hr, ob1_s, m_rO0 (by omega), ob1_s, (hN.2.2 r hr).1, bnd_eq]
      by_cases hg : m.gq r = true
      · refine no_go hR0 (fun j => ?_) (by rw [hg, itT])
        have e9 : f_X10_mayGoInside (s.1 2) (s.1 3) (nI r) (nI (m.co r) + p2) = some false := by
          unfold f_X10_mayGoInside f_X10_mayGoInside_b16
          rw [x_isGoing hd hm hO hr, ob1_s, hg, itT]
        rw [ixd_nI (by omega) (by omega), bnd_eq, (hO.2 r hr).1, e9, ob1_s, itF]
      · simp only [Bool.not_eq_true] at hg
        rw [hg, itF]
        rcases hcase with ⟨t, ht, he, hct⟩ | hnc
        · have e2 : t ≠ m.co r := by intro e; rw [e] at hct; unfold dist at hct; split at hct <;> omega
          rw [he, m_isCoach hG hM ht, ob1_s, itT, m_canIn hd hM hm hN hr ht hct, ob1_s]
          by_cases c : (wfr d m (min (m.co r) t) && mI d m r (m.co r) t m.sec) = true
          · obtain ⟨j, Om1, H1, w, l, k1, k2, k3, k4⟩ := HR_keep hG hH hM hm hO hN
            obtain ⟨O', g1, g2⟩ := x_goInside hd hT hm hO hr ht
            have hM' : TrM d ((kM M w l).2.1 20) := hM
            have hN' : MoM d m ((kM M w l).2.1 20) := hN
            obtain ⟨f, f1, f2, f3, f4⟩ := m_goes (b := true) hd hM' hm hN' hr ht
            rw [if_pos rfl] at f3
            have hin := hd.inr hr
            have hsec := hm.1
            refine ⟨j, nI (m.sec + d.ins r), O', H1, Om1, sF (kM M w l) 20 f, k1, ?_, ?_, RR_go hR0 hG hT hS hX hX0 f2 (goM_ok hd hm hr ht e2 ⟨by omega, by omega⟩) g2 f3 f4 k4⟩
            · rw [ixd_nI (by omega) (by omega), bnd_eq, (hO.2 r hr).1, he, x_mayIn hd hT hm hO hr ht hct hg, ob1_s, c, itT, k2, ob2_s, g1, ob2_s]
            · rw [c, itT, k3, ob1_s, f1, ob1_s, m_rO6 (by omega), ob1_s]
              have e9 : (sF (kM M w l) 20 f).2.1 20 = f := rfl
              rw [e9, (f3.2.2 r hr).2.2.1, goM_en.2, goM_en.1]
              rfl
          · simp only [Bool.not_eq_true] at c
            refine no_go hR0 (fun j => ?_) (by rw [c, itF])
            rw [ixd_nI (by omega) (by omega), bnd_eq, (hO.2 r hr).1, he, x_mayIn hd hT hm hO hr ht hct hg, ob1_s, c, itF]
        · refine no_go hR0 (fun j => ?_) (by rw [m_isCoachN hG hM hnc, ob1_s, itF])
          have e9 : f_X10_mayGoInside (s.1 2) (s.1 3) (nI r) (nI (m.co r) + p2) = some false := by
            unfold f_X10_mayGoInside f_X10_mayGoInside_b16
            rw [x_isGoing hd hm hO hr, ob1_s, hg, itF, x_hasCoachN hG hT hnc, ob1_s, itF]
          rw [ixd_nI (by omega) (by omega), bnd_eq, (hO.2 r hr).1, e9, ob1_s, itF]
    rw [m_isRider hG hM hr, ob1_s, itT]
    by_cases c1 : p2 = -1
    · have h := main (by
        rw [c1]
        by_cases e : m.co r = 0
        · right; intro c hcn h
          rw [e, show nI 0 + (-1) = -nI 1 from rfl] at h
          exact (m1_eq (by omega)).mp h
        · left
          refine ⟨m.co r - 1, by omega, ?_, by unfold dist; split <;> omega⟩
          rw [show (-1 : Int32) = -nI 1 from rfl, nI_addm (by omega)])
      obtain ⟨j, z, O1, H1, Om1, M1, q1, q2, q3, q4⟩ := h
      exact ⟨j, z, O1, H1, Om1, M1, q1, by rw [x_hasRider hG hT hr, ob1_s, itT, if_pos c1]; exact q2, by rw [if_pos c1]; exact q3, q4⟩
    · by_cases c2 : p2 = 1
      · have h := main (by
          rw [c2]
          by_cases e : m.co r + 1 < d.n
          · left
            exact ⟨m.co r + 1, e, (nI_succ _).symm, by unfold dist; split <;> omega⟩
          · right; intro c hcn h
            rw [← nI_succ, nI_eq (by omega) (by omega)] at h
            omega)
        obtain ⟨j, z, O1, H1, Om1, M1, q1, q2, q3, q4⟩ := h
        exact ⟨j, z, O1, H1, Om1, M1, q1, by rw [x_hasRider hG hT hr, ob1_s, itT, if_neg c1, if_pos c2]; exact q2, by rw [if_neg c1, if_pos c2]; exact q3, q4⟩
      · exact no_go hR0 (fun j => by rw [x_hasRider hG hT hr, ob1_s, itT, if_neg c1, if_neg c2]) (by rw [if_neg c1, if_neg c2])
  · exact no_go hR0 (fun j => by rw [x_hasRiderN hG hT hno, ob1_s, itF]) (by rw [m_isRiderN hG hM hno, ob1_s, itF])
