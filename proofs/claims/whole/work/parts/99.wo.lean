/-! the words of a rule -/
def nrD (m : Mo) (r : Nat) (o : Option Nat) : Nat := match o with | none => 1000000 | some b => dist (m.co r) b
def nrO (d : Tr) (m : Mo) (r : Nat) : Nat → Nat → Option Nat → Option Nat
  | 0, _, o => o
  | j + 1, c, o => nrO d m r j (c + 1) (if d.g c = d.ds r ∧ dist (m.co r) c < nrD m r o then some c else o)
theorem nrO_s (d : Tr) (m : Mo) (r j c : Nat) (o : Option Nat) : nrO d m r (j + 1) c o = nrO d m r j (c + 1) (if d.g c = d.ds r ∧ dist (m.co r) c < nrD m r o then some c else o) := rfl
def near (d : Tr) (m : Mo) (r : Nat) : Option Nat := nrO d m r d.n 0 none
def n99 (o : Option Nat) : Int32 := match o with | none => 99 | some b => nI b
def hlt (d : Tr) (m : Mo) : Option Nat := fnd (fun s => decide (d.hb s ≤ m.sec) && decide (m.sec ≤ d.he s)) d.st 0
/-- what a word is worth -/
def wv (d : Tr) (m : Mo) (r w : Nat) : Int32 := if w = 0 then nI r else if w = 1 then nI (d.ds r) else if w = 2 then nI (m.co r) else if w = 3 then nI m.sec else if w = 4 then nI (d.pa - m.sec) else if w = 5 then bI (decide (d.g (m.co r) = d.ds r)) else if w = 6 then n99 (near d m r) else if w = 7 then (match hlt d m with | none => 0 | some s => nI (d.he s - m.sec)) else if w = 8 then nI (d.ld r) else if w = 9 then nI (d.pc r) else if w = 10 then nI (popc (bset (fun q => decide (m.co q = m.co r)) d.rd 0 (nI 0)).toNatClampNeg) else if w = 11 then nI (d.se (m.co r)) else nI (m.mv r)
section
variable {d : Tr} {m : Mo} {T O : Sg} {M : Sg}
theorem nrO_lt : ∀ j c o, c + j = d.n → (∀ b, o = some b → b < d.n) → ∀ b r, nrO d m r j c o = some b → b < d.n := by
  intro j
  induction j with
  | zero => intro c o _ h b r hb; exact h b hb
  | succ j ih =>
    intro c o hc h b r hb
    rw [nrO_s] at hb
    refine ih (c + 1) _ (by omega) (fun b' hb' => ?_) b r hb
    split at hb'
    · cases hb'; omega
    · exact h b' hb'
theorem x_near (hd : TrOK d) (hT : TrC d T) (hm : MoOK d m) (hO : MoC d m O) {r : Nat} (hr : r < d.rd) : f_X10_nearestRight T O (nI r) = some (n99 (near d m r)) := by
  have hn := hd.n8
  have h6 := hd.r6
  have hc := hm.2.2.2.1 r hr
  have hds := (hd.rr r hr).1
  unfold f_X10_nearestRight near
  refine wp_val.mp (wp_fl3 (fun j x y z => ∃ c o, x = n99 o ∧ y = nI (nrD m r o) ∧ z = nI c ∧ c + j = d.n ∧ (∀ b, o = some b → b < d.n) ∧ nrO d m r j c o = nrO d m r d.n 0 none) ?_ d.n (FU_lt (by omega)) _ _ _ ⟨0, none, rfl, rfl, rfl, by omega, (fun b hb => by cases hb), rfl⟩)
  rintro j K _ _ _ ⟨c, o, rfl, rfl, rfl, hcj, hob, hv⟩ ih
  have hnd : nrD m r o ≤ 1000000 := by
    cases o with
    | none => exact Nat.le_refl _
    | some b => have := dist_lt hc (hob b rfl); show dist (m.co r) b ≤ 1000000; omega
  unfold f_X10_nearestRight_b9 f_X10_nearestRight_b72
  cases j with
  | zero =>
    have e : c = d.n := by omega
    subst e
    have hv2 : o = nrO d m r d.n 0 none := hv
    rw [hT.1.1, if_pos (nI_le (Nat.le_refl _) (by omega)), wp_some, ← hv2]
  | succ j =>
    have hcn : c < d.n := by omega
    have hg := hd.g3 c hcn
    have hdl := dist_lt hc hcn
    rw [nrO_s] at hv
    rw [hT.1.1, if_neg (nI_ge hcn (by omega)), ixd_nI (by omega) (by omega), (hO.2 r hr).1, nI_abs (by omega) (by omega), bnd_eq, ixd_nI (by omega) (by omega), ixd_nI (by omega) (by omega), (hT.2.2.2.1 c hcn).1, (hT.2.2.2.2.2.2 r hr).1]
    by_cases c1 : d.g c = d.ds r
    · rw [if_pos (by rw [c1])]
      by_cases c2 : nrD m r o ≤ dist (m.co r) c
      · rw [if_pos (nI_le c2 (by omega)), wp_bnd]
        rw [if_neg (fun h => by omega)] at hv
        exact ih j _ _ _ (by omega) ⟨c + 1, o, rfl, rfl, (nI_succ c).symm, by omega, hob, hv⟩
      · rw [if_neg (nI_ge (by omega) (by omega)), wp_bnd]
        rw [if_pos ⟨c1, by omega⟩] at hv
        exact ih j _ _ _ (by omega) ⟨c + 1, some c, rfl, rfl, (nI_succ c).symm, by omega, (fun b hb => by cases hb; exact hcn), hv⟩
    · rw [if_neg (by rw [nI_eq (by omega) (by omega)]; exact c1), wp_bnd]
      rw [if_neg (fun h => c1 h.1)] at hv
      exact ih j _ _ _ (by omega) ⟨c + 1, o, rfl, rfl, (nI_succ c).symm, by omega, hob, hv⟩
theorem d_if {a b : Nat} (ha : a < 2 ^ 30) (hb : b < 2 ^ 30) {α : Type} (f : Int32 → Option α) : (if nI a ≤ nI b then f (nI b - nI a) else f (nI a - nI b)) = f (nI (dist a b)) := by
  unfold dist
  by_cases c : a ≤ b
  · rw [if_pos (nI_le c (by omega)), if_pos c, nI_sub c]
  · rw [if_neg (nI_ge (by omega) (by omega)), if_neg c, nI_sub (by omega)]
theorem m_near (hd : TrOK d) (hM : TrM d (M.2.1 20)) (hm : MoOK d m) (hN : MoM d m (M.2.1 20)) {r : Nat} (hr : r < d.rd) : f_X12_nearest M (nI r) = some (oM (near d m r)) := by
  have hn := hd.n8
  have h6 := hd.r6
  have hc := hm.2.2.2.1 r hr
  unfold f_X12_nearest near
  rw [m_rO0 (by omega), ob1_s, (hN.2.2 r hr).1]
  refine wp_val.mp (wp_fl3 (fun j x y z => ∃ c o, x = oM o ∧ y = nI (m.co r) ∧ z = nI c ∧ c + j = d.n ∧ (∀ b, o = some b → b < d.n) ∧ nrO d m r j c o = nrO d m r d.n 0 none) ?_ d.n (FU_lt (by omega)) _ _ _ ⟨0, none, rfl, rfl, rfl, by omega, (fun b hb => by cases hb), rfl⟩)
  rintro j K _ _ _ ⟨c, o, rfl, rfl, rfl, hcj, hob, hv⟩ ih
  unfold f_X12_nearest_b12 f_X12_nearest_b53 f_X12_nearest_b79 f_X12_nearest_b94 f_X12_nearest_b95
  cases j with
  | zero =>
    have e : c = d.n := by omega
    subst e
    have hv2 : o = nrO d m r d.n 0 none := hv
    rw [hM.1.1, if_pos (nI_le (Nat.le_refl _) (by omega)), wp_some, ← hv2]
  | succ j =>
    have hcn : c < d.n := by omega
    have hdl := dist_lt hc hcn
    rw [nrO_s] at hv
    rw [hM.1.1, if_neg (nI_ge hcn (by omega)), m_isRight hd hM hr hcn, ob1_s]
    by_cases c1 : d.g c = d.ds r
    · simp only [c1, decide_true]
      rw [itT]
      have hd1 := d_if (a := m.co r) (b := c) (by omega) (by omega) (fun z => if 0 ≤ oM o then (if nI (m.co r) ≤ oM o then (if oM o - nI (m.co r) ≤ z then bnd (nI c + 1) fun x4_95 => K (oM o) (nI (m.co r)) x4_95 else bnd (nI c + 1) fun x4_95 => K (nI c) (nI (m.co r)) x4_95) else (if nI (m.co r) - oM o ≤ z then bnd (nI c + 1) fun x4_95 => K (oM o) (nI (m.co r)) x4_95 else bnd (nI c + 1) fun x4_95 => K (nI c) (nI (m.co r)) x4_95)) else (if 999 ≤ z then bnd (nI c + 1) fun x4_95 => K (oM o) (nI (m.co r)) x4_95 else bnd (nI c + 1) fun x4_95 => K (nI c) (nI (m.co r)) x4_95))
      rw [hd1]
      have hkeep : ¬ dist (m.co r) c < nrD m r o → Wp (bnd (nI c + 1) fun x4_95 => K (oM o) (nI (m.co r)) x4_95) (fun x => x = oM (nrO d m r d.n 0 none)) := by
        intro h9
        rw [wp_bnd]
        rw [if_neg (fun h => h9 h.2)] at hv
        exact ih j _ _ _ (by omega) ⟨c + 1, o, rfl, rfl, (nI_succ c).symm, by omega, hob, hv⟩
      have hnew : dist (m.co r) c < nrD m r o → Wp (bnd (nI c + 1) fun x4_95 => K (nI c) (nI (m.co r)) x4_95) (fun x => x = oM (nrO d m r d.n 0 none)) := by
        intro h9
        rw [wp_bnd]
        rw [if_pos ⟨c1, h9⟩] at hv
        exact ih j _ _ _ (by omega) ⟨c + 1, some c, rfl, rfl, (nI_succ c).symm, by omega, (fun b hb => by cases hb; exact hcn), hv⟩
      cases ho : o with
      | none =>
        rw [ho] at hkeep hnew
        rw [if_neg (by decide), if_neg (by rw [show (999 : Int32) = nI 999 from rfl]; exact nI_ge (by omega) (by omega))]
        exact hnew (by show dist (m.co r) c < 1000000; omega)
      | some b =>
        rw [ho] at hkeep hnew
        have hb := hob b ho
        have hdb := dist_lt hc hb
        have e3 : (oM (some b) : Int32) = nI b := rfl
        have hd2 := d_if (a := m.co r) (b := b) (by omega) (by omega) (fun z => if z ≤ nI (dist (m.co r) c) then bnd (nI c + 1) fun x4_95 => K (nI b) (nI (m.co r)) x4_95 else bnd (nI c + 1) fun x4_95 => K (nI c) (nI (m.co r)) x4_95)
        rw [e3, if_pos (by rw [show (0 : Int32) = nI 0 from rfl]; exact nI_le (by omega) (by omega)), hd2]
        rw [e3] at hkeep
        by_cases c2 : dist (m.co r) b ≤ dist (m.co r) c
        · rw [if_pos (nI_le c2 (by omega))]
          exact hkeep (by show ¬ dist (m.co r) c < dist (m.co r) b; omega)
        · rw [if_neg (nI_ge (by omega) (by omega))]
          exact hnew (by show dist (m.co r) c < dist (m.co r) b; omega)
    · simp only [c1, decide_false]
      rw [itF, wp_bnd]
      rw [if_neg (fun h => c1 h.1)] at hv
      exact ih j _ _ _ (by omega) ⟨c + 1, o, rfl, rfl, (nI_succ c).symm, by omega, hob, hv⟩
theorem pop_w (hd : TrOK d) (r : Nat) : ∃ w, w < 64 ∧ bset (fun q => decide (m.co q = m.co r)) d.rd 0 (nI 0) = nI w ∧ wv d m r 10 = nI (popc w) := by
  obtain ⟨w, hw, hw2⟩ := bset_lt (fun q => decide (m.co q = m.co r)) (m := d.rd) (k := 0) (v := 0) (by have := hd.r6; omega) (by omega)
  refine ⟨w, hw, hw2, ?_⟩
  show nI (popc (bset (fun q => decide (m.co q = m.co r)) d.rd 0 (nI 0)).toNatClampNeg) = nI (popc w)
  rw [hw2, nI_clamp (by omega)]
theorem x_word (hd : TrOK d) (hT : TrC d T) (hm : MoOK d m) (hO : MoC d m O) {r w : Nat} (hr : r < d.rd) (hw : w ≤ 12) : f_X10_wordOf T O (nI r) (nI (cW w)) = some (wv d m r w) := by
  have hG : TrG d := Or.inl hd
  have hn := hd.n8
  have h6 := hd.r6
  have hpa := hd.pa9
  have hs := hm.1
  have hc := hm.2.2.2.1 r hr
  have t1 := hT.2.2.2.2.2.2 r hr
  have t2 := hO.2 r hr
  have t3 := hT.2.2.2.1 (m.co r) hc
  unfold f_X10_wordOf
  rw [ixd_nI (by omega) (by omega), bnd_eq, bnd_eq, t2.1]
  have h3 : w = 0 ∨ w = 1 ∨ w = 2 ∨ w = 3 ∨ w = 4 ∨ w = 5 ∨ w = 6 ∨ w = 7 ∨ w = 8 ∨ w = 9 ∨ w = 10 ∨ w = 11 ∨ w = 12 := by omega
  rcases h3 with rfl | rfl | rfl | rfl | rfl | rfl | rfl | rfl | rfl | rfl | rfl | rfl | rfl
  · rw [if_neg (by decide), if_neg (by decide), if_pos (by decide)]; rfl
  · rw [if_pos (by decide), ixd_nI (by omega) (by omega), t1.1]; rfl
  · rw [if_neg (by decide), if_neg (by decide), if_neg (by decide), if_pos (by decide)]; rfl
  · rw [if_neg (by decide), if_neg (by decide), if_neg (by decide), if_neg (by decide), if_pos (by decide), hO.1.1]; rfl
  · rw [if_neg (by decide), if_neg (by decide), if_neg (by decide), if_neg (by decide), if_neg (by decide), if_pos (by decide), hO.1.1, (hT.2.1 (by omega)).2.1, jmax_sub (by omega) (by omega)]; rfl
  · rw [if_neg (by decide), if_neg (by decide), if_neg (by decide), if_neg (by decide), if_neg (by decide), if_neg (by decide), if_pos (by decide), x_isRight hd hT hr hc, ob1_s]
    show _ = some (bI (decide (d.g (m.co r) = d.ds r)))
    cases decide (d.g (m.co r) = d.ds r) <;> rfl
  · rw [if_neg (by decide), if_neg (by decide), if_neg (by decide), if_neg (by decide), if_neg (by decide), if_neg (by decide), if_neg (by decide), if_pos (by decide), x_near hd hT hm hO hr, ob1_s]; rfl
  · rw [if_neg (by decide), if_neg (by decide), if_neg (by decide), if_neg (by decide), if_neg (by decide), if_neg (by decide), if_neg (by decide), if_neg (by decide), if_pos (by decide), x_haltingStop hG hT hm hO, ob1_s]
    show _ = some (match hlt d m with | none => 0 | some s => nI (d.he s - m.sec))
    unfold hlt
    cases hf : fnd (fun s => decide (d.hb s ≤ m.sec) && decide (m.sec ≤ d.he s)) d.st 0 with
    | none => rfl
    | some q =>
      obtain ⟨g1, g2, g3, g4⟩ := fnd_some hf
      simp only [Bool.and_eq_true, decide_eq_true_eq] at g1
      have hq : q < d.st := by omega
      have h6 := hd.s6
      have e3 : (oM (some q) : Int32) = nI q := rfl
      rw [e3, if_neg (pos_m1 (by omega)), ixd_nI (by omega) (by omega), (hT.2.2.2.2.2.1 q hq).2, hO.1.1, nI_sub g1.2]
  · rw [if_neg (by decide), if_neg (by decide), if_neg (by decide), if_neg (by decide), if_neg (by decide), if_neg (by decide), if_neg (by decide), if_neg (by decide), if_neg (by decide), if_pos (by decide), ixd_nI (by omega) (by omega), t1.2.2.1]; rfl
  · rw [if_neg (by decide), if_neg (by decide), if_neg (by decide), if_neg (by decide), if_neg (by decide), if_neg (by decide), if_neg (by decide), if_neg (by decide), if_neg (by decide), if_neg (by decide), if_pos (by decide), ixd_nI (by omega) (by omega), t1.2.1]; rfl
  · obtain ⟨w, w1, w2, w3⟩ := pop_w (m := m) hd r
    rw [if_neg (by decide), if_neg (by decide), if_neg (by decide), if_neg (by decide), if_neg (by decide), if_neg (by decide), if_neg (by decide), if_neg (by decide), if_neg (by decide), if_neg (by decide), if_neg (by decide), if_pos (by decide), x_ridersIn hG hT hm hO hc, w2, ob1_s, x_bitCount w1, ob1_s, w3]
  · rw [if_neg (by decide), if_pos (by decide), ixd_nI (by omega) (by omega), t3.2]; rfl
  · rw [if_neg (by decide), if_neg (by decide), if_neg (by decide), if_neg (by decide), if_neg (by decide), if_neg (by decide), if_neg (by decide), if_neg (by decide), if_neg (by decide), if_neg (by decide), if_neg (by decide), if_neg (by decide), ixd_nI (by omega) (by omega), t2.2.2.2.2]; rfl
def jM (M : Sg) (g : Nat → Int64) : Sg := (M.1, M.2.1, va_up M.2.2 19 g)
theorem jM_id (M : Sg) : jM M (M.2.2 19) = M := by
  unfold jM
  rw [va_up_se]
theorem jM_J (M : Sg) (g : Nat → Int64) (i : Nat) (v : Int64) : sJ (jM M g) 19 i v = jM M (vp_updL g i v) := by
  show (M.1, M.2.1, va_up (va_up M.2.2 19 g) 19 (vp_updL g i v)) = (M.1, M.2.1, va_up M.2.2 19 (vp_updL g i v))
  rw [va_up_up]
theorem m_words (hd : TrOK d) (hM : TrM d (M.2.1 20)) (hm : MoOK d m) (hN : MoM d m (M.2.1 20)) {r : Nat} (hr : r < d.rd) : ∃ g, f_X12_words M (nI r) = some (jM M g) ∧ ∀ w, w ≤ 12 → g w = (wv d m r w).toInt64 := by
  have hG : TrG d := Or.inl hd
  have hn := hd.n8
  have h6 := hd.r6
  have hs6 := hd.s6
  have hpa := hd.pa9
  have hs := hm.1
  have hc := hm.2.2.2.1 r hr
  have t3 := hM.2.2.2.2.2 r hr
  have t4 := hN.2.2 r hr
  have t5 := hM.2.2.1 (m.co r) hc
  have hMj : ∀ g, TrM d ((jM M g).2.1 20) := fun _ => hM
  have hNj : ∀ g, MoM d m ((jM M g).2.1 20) := fun _ => hN
  have e20 : ∀ g, (jM M g).2.1 20 = M.2.1 20 := fun _ => rfl
  have rO : ∀ g w, w < 8 → f_X12_riderOf (jM M g) (nI r) (nI w) = some (M.2.1 20 (52 + 8 * r + w)) := fun g w hw => m_riderOf (by omega) hw
  obtain ⟨pw, w1, w2, w3⟩ := pop_w (m := m) hd r
  have r3 : ∀ g, f_X12_riderOf (jM M g) (nI r) 3 = some (nI (d.ld r)) := fun g => by rw [show (3 : Int32) = nI 3 from rfl, rO g 3 (by omega), t3.2.2.1]
  have r2 : ∀ g, f_X12_riderOf (jM M g) (nI r) 2 = some (nI (d.pc r)) := fun g => by rw [show (2 : Int32) = nI 2 from rfl, rO g 2 (by omega), t3.2.1]
  have r1 : ∀ g, f_X12_riderOf (jM M g) (nI r) 1 = some (nI (d.ds r)) := fun g => by rw [show (1 : Int32) = nI 1 from rfl, rO g 1 (by omega), t3.1]
  have r7 : ∀ g, f_X12_riderOf (jM M g) (nI r) 7 = some (nI (m.mv r)) := fun g => by rw [show (7 : Int32) = nI 7 from rfl, rO g 7 (by omega), t4.2.2.2]
  have b178 : ∀ g v, f_X12_words_b178 (nI r) (nI (m.co r)) 7 v (jM M g) = some (jM M (vp_updL (vp_updL (vp_updL (vp_updL (vp_updL (vp_updL g 7 v) 8 (nI (d.ld r)).toInt64) 9 (nI (d.pc r)).toInt64) 10 (nI (popc pw)).toInt64) 11 (nI (d.se (m.co r))).toInt64) 12 (nI (m.mv r)).toInt64)) := by
    intro g v
    unfold f_X12_words_b178
    rw [show (7 : Int32) = nI 7 from rfl, ixd_nI (by omega) (by omega), bnd_eq, jM_J, r3, ob1_s, bnd_eq, jM_J, r2, ob1_s, bnd_eq, jM_J, m_ridersIn hG (hMj _) hm (hNj _) hc, w2, ob1_s, m_bits w1, ob1_s, bnd_eq, jM_J, show (44 : Int32) = nI 44 from rfl, nI_add, ixd_nI (by omega) (by omega), bnd_eq, e20, t5.2, jM_J, show nI 7 = (7 : Int32) from rfl, r7, ob1_s, bnd_eq, jM_J]
  have b140 : ∀ g v, f_X12_words_b140 (nI r) (nI (m.co r)) (oM (hlt d m)) 6 v (jM M g) = f_X12_words_b178 (nI r) (nI (m.co r)) 7 (wv d m r 7).toInt64 (jM M (vp_updL g 6 v)) := by
    intro g v
    unfold f_X12_words_b140
    rw [show (6 : Int32) = nI 6 from rfl, ixd_nI (by omega) (by omega), bnd_eq, jM_J]
    have e7 : wv d m r 7 = (match hlt d m with | none => 0 | some s => nI (d.he s - m.sec)) := rfl
    rw [e7]
    unfold hlt
    cases hf : fnd (fun s => decide (d.hb s ≤ m.sec) && decide (m.sec ≤ d.he s)) d.st 0 with
    | none => rw [if_neg (by decide)]; rfl
    | some q =>
      obtain ⟨g1, g2, g3, g4⟩ := fnd_some hf
      simp only [Bool.and_eq_true, decide_eq_true_eq] at g1
      have hq : q < d.st := by omega
      have e3 : (oM (some q) : Int32) = nI q := rfl
      rw [e3, if_pos (by rw [show (0 : Int32) = nI 0 from rfl]; exact nI_le (by omega) (by omega)), show (18 : Int32) = nI 18 from rfl, show (2 : Int32) = nI 2 from rfl, nI_mul, nI_add, show (1 : Int32) = nI 1 from rfl, nI_add, ixd_nI (by omega) (by omega), e20, (hM.2.2.2.2.1 q hq).2, hN.1.1, nI_sub g1.2]
  have b121 : ∀ g v, f_X12_words_b121 (nI r) (nI (m.co r)) (oM (near d m r)) (oM (hlt d m)) 5 v (jM M g) = f_X12_words_b140 (nI r) (nI (m.co r)) (oM (hlt d m)) 6 (wv d m r 6).toInt64 (jM M (vp_updL g 5 v)) := by
    intro g v
    unfold f_X12_words_b121
    rw [show (5 : Int32) = nI 5 from rfl, ixd_nI (by omega) (by omega), bnd_eq, jM_J]
    have e6 : wv d m r 6 = n99 (near d m r) := rfl
    rw [e6]
    cases hf : near d m r with
    | none => rw [if_neg (by decide)]; rfl
    | some q =>
      have hq : q < d.n := nrO_lt d.n 0 none (by omega) (fun b hb => by cases hb) q r hf
      have e3 : (oM (some q) : Int32) = nI q := rfl
      rw [e3, if_pos (by rw [show (0 : Int32) = nI 0 from rfl]; exact nI_le (by omega) (by omega))]
      rfl
  have b101 : ∀ g v, f_X12_words_b101 (nI r) (nI (m.co r)) (oM (near d m r)) (oM (hlt d m)) 4 v (jM M g) = f_X12_words_b121 (nI r) (nI (m.co r)) (oM (near d m r)) (oM (hlt d m)) 5 (wv d m r 5).toInt64 (jM M (vp_updL g 4 v)) := by
    intro g v
    unfold f_X12_words_b101
    rw [show (4 : Int32) = nI 4 from rfl, ixd_nI (by omega) (by omega), bnd_eq, jM_J, m_isRight hd (hMj _) hr hc, ob1_s]
    have e5 : wv d m r 5 = bI (decide (d.g (m.co r) = d.ds r)) := rfl
    rw [e5]
    cases decide (d.g (m.co r) = d.ds r) <;> rfl
  have e0 : ∀ v, sJ M 19 0 v = jM M (vp_updL (M.2.2 19) 0 v) := fun v => rfl
  have key : ∃ g, f_X12_words M (nI r) = some (jM M (vp_updL (vp_updL (vp_updL (vp_updL (vp_updL (vp_updL (vp_updL (vp_updL (vp_updL (vp_updL (vp_updL (vp_updL (vp_updL g 0 (nI r).toInt64) 1 (nI (d.ds r)).toInt64) 2 (nI (m.co r)).toInt64) 3 (nI m.sec).toInt64) 4 (nI (d.pa - m.sec)).toInt64) 5 (wv d m r 5).toInt64) 6 (wv d m r 6).toInt64) 7 (wv d m r 7).toInt64) 8 (nI (d.ld r)).toInt64) 9 (nI (d.pc r)).toInt64) 10 (nI (popc pw)).toInt64) 11 (nI (d.se (m.co r))).toInt64) 12 (nI (m.mv r)).toInt64)) := by
    refine ⟨M.2.2 19, ?_⟩
    unfold f_X12_words
    rw [m_rO0 (by omega), ob1_s, t4.1, m_near hd hM hm hN hr, ob1_s, hN.1.1, m_haltAt hG hM (by omega), ob1_s, bnd_eq, e0, r1, ob1_s, bnd_eq, jM_J, bnd_eq, jM_J, bnd_eq, e20, jM_J, hN.1.1, m_parting hd (hMj _), ob1_s, e20, hN.1.1]
    have eh : fnd (fun k => decide (d.hb k ≤ m.sec) && decide (m.sec ≤ d.he k)) d.st 0 = hlt d m := rfl
    rw [eh]
    by_cases c : d.pa ≤ m.sec
    · rw [if_pos (nI_le c (by omega)), b101, b121, b140, b178, show d.pa - m.sec = 0 by omega]; rfl
    · rw [if_neg (nI_ge (by omega) (by omega)), ob1_s, nI_sub (by omega), b101, b121, b140, b178]
  obtain ⟨g, hg⟩ := key
  refine ⟨_, hg, fun w hw => ?_⟩
  have h3 : w = 0 ∨ w = 1 ∨ w = 2 ∨ w = 3 ∨ w = 4 ∨ w = 5 ∨ w = 6 ∨ w = 7 ∨ w = 8 ∨ w = 9 ∨ w = 10 ∨ w = 11 ∨ w = 12 := by omega
  rcases h3 with rfl | rfl | rfl | rfl | rfl | rfl | rfl | rfl | rfl | rfl | rfl | rfl | rfl
  · rfl
  · rfl
  · rfl
  · rfl
  · rfl
  · rfl
  · rfl
  · rfl
  · rfl
  · rfl
  · rw [w3]; rfl
  · rfl
  · rfl
end
