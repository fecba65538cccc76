/-! turns by a rule -/
section
variable (d : Tr) (m : Mo) (r : Nat) (y kd se te : Nat → Nat)
def hv (c : Nat) : Bool := if se c < te c then !(decide (evN (wv d m r) y (te c - se c) (se c) [] (fun _ => 0) 0 = 0)) else true
def vl (c : Nat) : Int64 := evN (wv d m r) y (se c - bgC te c) (bgC te c) [] (fun _ => 0) 0
def bsd (a t : Nat) : Nat := if t < a then a - 1 else a + 1
def goT (k t : Nat) : Option Mo := if k = 1 then (if mOu d (sOu d r (m.co r) t) m.sec then some (goM m r t (m.sec + sOu d r (m.co r) t) false) else none) else (if wfr d m (min (m.co r) (bsd (m.co r) t)) && mI d m r (m.co r) (bsd (m.co r) t) m.sec then some (goM m r (bsd (m.co r) t) (m.sec + d.ins r) true) else none)
def dnM (c : Nat) : Option Mo := if kd c = 2 then some m else if vl d m r y se te c < 0 ∨ lN d.n ≤ vl d m r y se te c ∨ vl d m r y se te c = lN (m.co r) then none else goT d m r (kd c) (vl d m r y se te c).toInt.toNat
def tn : Nat → Nat → Mo
  | 0, _ => m
  | j + 1, c => if hv d m r y se te c then (match dnM d m r y kd se te c with | some m' => m' | none => tn j (c + 1)) else tn j (c + 1)
end
theorem tn_s (d : Tr) (m : Mo) (r : Nat) (y kd se te : Nat → Nat) (j c : Nat) : tn d m r y kd se te (j + 1) c = if hv d m r y se te c then (match dnM d m r y kd se te c with | some m' => m' | none => tn d m r y kd se te j (c + 1)) else tn d m r y kd se te j (c + 1) := rfl
/-- a rule, as both have it -/
def RlQ (U : Sg) (sg cl : Nat → Int32) (len nc : Nat) (y kd se te : Nat → Nat) : Prop := len ≤ 400 ∧ nc ≤ 12 ∧ (∀ i, i < len → U.2.1 0 i = nI (cC (y i)) ∧ sg i = nI (y i) ∧ yOK (y i)) ∧ (∀ c, c < nc → (kd c ≤ 2 ∧ bgC te c ≤ se c ∧ se c ≤ te c ∧ te c ≤ len) ∧ (U.2.1 1 c = nI (10 + kd c) ∧ U.2.1 2 c = nI (se c) ∧ U.2.1 3 c = nI (te c)) ∧ (cl (5 * c) = nI (kd c) ∧ cl (5 * c + 1) = nI (bgC te c) ∧ cl (5 * c + 2) = nI (se c) ∧ cl (5 * c + 3) = (if se c < te c then nI (se c) else -nI 1) ∧ cl (5 * c + 4) = nI (te c)) ∧ (kd c < 2 → wfe y (se c - bgC te c) (bgC te c) [] = some [false]) ∧ (se c < te c → wfe y (te c - se c) (se c) [] = some [true]))
theorem vl_t {v : Int64} {n a : Nat} (hn : n < 2 ^ 30) (ha : a < 2 ^ 30) (h : ¬ (v < 0 ∨ lN n ≤ v ∨ v = lN a)) : ∃ t, t < n ∧ t ≠ a ∧ v = lN t ∧ v.toInt.toNat = t := by
  have h1 : ¬ v < 0 := fun q => h (Or.inl q)
  obtain ⟨t, h2, rfl⟩ := pk_lOf h1
  have h3 : ¬ lN n ≤ lN t := fun q => h (Or.inr (Or.inl q))
  rw [pk_lLE (by omega) h2] at h3
  have h4 : ¬ lN t = lN a := fun q => h (Or.inr (Or.inr q))
  rw [pk_lEQ h2 (by omega)] at h4
  refine ⟨t, by omega, h4, rfl, ?_⟩
  rw [pk_lT h2]; rfl
section
variable {d : Tr} {m : Mo} {T O U : Sg} {M : Sg} {sg cl : Nat → Int32} {len nc : Nat} {y kd se te : Nat → Nat}
theorem goT_ok (hd : TrOK d) (hm : MoOK d m) {r t k : Nat} {m' : Mo} (hr : r < d.rd) (ht : t < d.n) (hta : t ≠ m.co r) (h : goT d m r k t = some m') : MoOK d m' ∧ m'.sec = m.sec := by
  have hc := hm.2.2.2.1 r hr
  have hin := hd.inr hr
  have hs := hm.1
  unfold goT at h
  by_cases c : k = 1
  · rw [if_pos c] at h
    split at h
    · cases h; exact ⟨goM_ok hd hm hr ht hta (sOu_en hd hm hr ht hta), rfl⟩
    · cases h
  · rw [if_neg c] at h
    split at h
    · cases h
      refine ⟨goM_ok hd hm hr ?_ ?_ ⟨by omega, by omega⟩, rfl⟩
      · unfold bsd; split <;> omega
      · unfold bsd; split <;> omega
    · cases h
theorem dnM_ok (hd : TrOK d) (hm : MoOK d m) {r c : Nat} {m' : Mo} (hr : r < d.rd) (h : dnM d m r y kd se te c = some m') : MoOK d m' ∧ m'.sec = m.sec := by
  have hc := hm.2.2.2.1 r hr
  have hn := hd.n8
  unfold dnM at h
  by_cases c1 : kd c = 2
  · rw [if_pos c1] at h; cases h; exact ⟨hm, rfl⟩
  · rw [if_neg c1] at h
    by_cases c2 : vl d m r y se te c < 0 ∨ lN d.n ≤ vl d m r y se te c ∨ vl d m r y se te c = lN (m.co r)
    · rw [if_pos c2] at h; cases h
    · rw [if_neg c2] at h
      obtain ⟨t, t1, t2, t3, t4⟩ := vl_t (by omega) (by omega) c2
      rw [t4] at h
      exact goT_ok hd hm hr t1 t2 h
theorem tn_ok (hd : TrOK d) (hm : MoOK d m) {r : Nat} (hr : r < d.rd) : ∀ j c, MoOK d (tn d m r y kd se te j c) ∧ (tn d m r y kd se te j c).sec = m.sec := by
  intro j
  induction j with
  | zero => intro c; exact ⟨hm, rfl⟩
  | succ j ih =>
    intro c
    rw [tn_s]
    by_cases c1 : hv d m r y se te c = true
    · rw [if_pos c1]
      cases h : dnM d m r y kd se te c with
      | none => exact ih (c + 1)
      | some m' => exact dnM_ok hd hm hr h
    · rw [if_neg c1]; exact ih (c + 1)
/-! the class's turn -/
theorem x_holds (hd : TrOK d) (hT : TrC d T) (hm : MoOK d m) (hO : MoC d m O) (hQ : RlQ U sg cl len nc y kd se te) {N : Sg} {r c : Nat} (hr : r < d.rd) (hc : c < nc) : Wp (f_X11_holds len nc nc nc T O N U (nI c) (nI r)) (fun o => o.1 = hv d m r y se te c) := by
  obtain ⟨q1, q2, q3, q4⟩ := hQ
  obtain ⟨⟨a1, a2, a3, a4⟩, ⟨b1, b2, b3⟩, -, e1, e2⟩ := q4 c hc
  unfold f_X11_holds f_X11_holds_b44 hv
  rw [ixd_nI hc (by omega), bnd_eq, ixd_nI hc (by omega), bnd_eq, b2, b3]
  by_cases c1 : se c < te c
  · rw [if_neg (nI_ge c1 (by omega)), wp_ob2, if_pos c1]
    refine wp_mono (x_reckon hd hT hm hO hr (fun i hi => ⟨(q3 i hi).1, (q3 i hi).2.2⟩) a3 a4 q1 (e2 c1) (fun _ => 0)) (fun o ho => ?_)
    obtain ⟨v, v1, v2, v3⟩ := ho
    obtain ⟨o1, o2⟩ := o
    simp only at v1
    subst v1
    rw [← v2]
    by_cases c2 : o1 = 0
    · rw [if_pos ((lg_eq _ _).mpr c2)]
      exact wp_some.mpr (by simp [c2])
    · rw [if_neg (fun q => c2 ((lg_eq _ _).mp q))]
      exact wp_some.mpr (by simp [c2])
  · rw [if_pos (nI_le (by omega) (by omega)), if_neg c1]
    exact wp_some.mpr rfl
theorem x_done (hd : TrOK d) (hT : TrC d T) (hm : MoOK d m) (hO : MoC d m O) (hQ : RlQ U sg cl len nc y kd se te) {N : Sg} {r c : Nat} (hr : r < d.rd) (hc : c < nc) (hg : m.gq r = false) : Wp (f_X11_isDone len nc nc nc T O N U (nI c) (nI r)) (fun o => match dnM d m r y kd se te c with | none => o.1 = false ∧ o.2.1 = O | some m' => o.1 = true ∧ MoC d m' o.2.1) := by
  have hn := hd.n8
  have h6 := hd.r6
  have hco := hm.2.2.2.1 r hr
  obtain ⟨q1, q2, q3, q4⟩ := hQ
  obtain ⟨⟨a1, a2, a3, a4⟩, ⟨b1, b2, b3⟩, -, e1, e2⟩ := q4 c hc
  unfold f_X11_isDone f_X11_isDone_b89 f_X11_isDone_b131 f_X11_isDone_b152 f_X11_isDone_b182 dnM
  rw [ixd_nI hc (by omega), bnd_eq, b1]
  by_cases c1 : kd c = 2
  · rw [if_pos (by rw [c1]; rfl), if_pos c1]
    exact wp_some.mpr ⟨rfl, hO⟩
  · have hbg : f_X4_begin len nc nc nc U (nI c) = some (nI (bgC te c)) := by
      unfold f_X4_begin bgC
      by_cases c2 : c = 0
      · rw [if_pos c2, if_neg (by rw [c2]; decide)]; rfl
      · rw [if_neg c2, if_pos (by rw [show (0 : Int32) = nI 0 from rfl]; exact nI_lt (by omega) (by omega)), show (1 : Int32) = nI 1 from rfl, nI_sub (by omega), ixd_nI (by omega) (by omega), (q4 (c - 1) (by omega)).2.1.2.2]
    rw [if_neg (by rw [show (12 : Int32) = nI 12 from rfl, nI_eq (by omega) (by omega)]; omega), hbg, ob1_s, ixd_nI hc (by omega), b2, wp_ob2, if_neg c1]
    refine wp_mono (x_reckon hd hT hm hO hr (fun i hi => ⟨(q3 i hi).1, (q3 i hi).2.2⟩) a2 (by omega) q1 (e1 (by omega)) (fun _ => 0)) (fun o ho => ?_)
    obtain ⟨v, v1, v2, -⟩ := ho
    obtain ⟨o1, o2⟩ := o
    simp only at v1
    subst v1
    have v3 : o1 = vl d m r y se te c := v2
    rw [← v3]
    simp only
    rw [ixd_nI (by omega) (by omega), bnd_eq, (hO.2 r hr).1, hT.1.1, nI_l (by omega), nI_l (by omega)]
    by_cases k1 : o1 < 0
    · rw [if_pos ((lg_lt _ _).mpr k1), if_pos (Or.inl k1)]
      exact wp_some.mpr ⟨rfl, rfl⟩
    · rw [if_neg (fun q => k1 ((lg_lt _ _).mp q))]
      by_cases k2 : lN d.n ≤ o1
      · rw [if_pos ((lg_ge _ _).mpr k2), if_pos (Or.inr (Or.inl k2))]
        exact wp_some.mpr ⟨rfl, rfl⟩
      · rw [if_neg (fun q => k2 ((lg_ge _ _).mp q))]
        by_cases k3 : o1 = lN (m.co r)
        · rw [if_pos ((lg_eq _ _).mpr k3), if_pos (Or.inr (Or.inr k3))]
          exact wp_some.mpr ⟨rfl, rfl⟩
        · have k4 : ¬ (o1 < 0 ∨ lN d.n ≤ o1 ∨ o1 = lN (m.co r)) := by
            intro q; rcases q with q | q | q
            · exact k1 q
            · exact k2 q
            · exact k3 q
          obtain ⟨t, t1, t2, t3, t4⟩ := vl_t (by omega) (by omega) k4
          rw [if_neg (fun q => k3 ((lg_eq _ _).mp q)), if_neg k4, t4, t3, lN_i, bnd_eq]
          unfold goT
          by_cases k5 : kd c = 1
          · rw [if_pos (by rw [k5]; rfl), if_pos k5, x_mayOut hd hT hm hO hr t1 t2 hg, ob1_s]
            by_cases k6 : mOu d (sOu d r (m.co r) t) m.sec = true
            · obtain ⟨O', g1, g2⟩ := x_goOutside hd hT hm hO hr t1 hg
              rw [k6, itT, g1, ob2_s, zb_bI, if_pos rfl]
              exact wp_some.mpr ⟨rfl, g2⟩
            · simp only [Bool.not_eq_true] at k6
              rw [k6, itF, zb_bI, if_neg (by decide)]
              exact wp_some.mpr ⟨rfl, rfl⟩
          · rw [if_neg (by rw [show (11 : Int32) = nI 11 from rfl, nI_eq (by omega) (by omega)]; omega), if_neg k5]
            have hb1 : bsd (m.co r) t < d.n := by unfold bsd; split <;> omega
            have hb2 : dist (m.co r) (bsd (m.co r) t) = 1 := by
              unfold bsd dist
              by_cases h9 : t < m.co r
              · rw [if_pos h9, if_neg (by omega)]; omega
              · rw [if_neg h9, if_pos (by omega)]; omega
            have e9 : (if nI (m.co r) ≤ nI t then nI (m.co r) + 1 else nI (m.co r) - 1) = nI (bsd (m.co r) t) := by
              unfold bsd
              by_cases h9 : t < m.co r
              · rw [if_neg (nI_ge h9 (by omega)), if_pos h9, show (1 : Int32) = nI 1 from rfl, nI_sub (by omega)]
              · rw [if_pos (nI_le (by omega) (by omega)), if_neg h9, ← nI_succ]
            have both : ∀ z, z = nI (bsd (m.co r) t) → Wp (ob1 (f_X10_mayGoInside T O (nI r) z) fun r161 => if bI r161 = 0 then zb (bI r161) fun b184 => some (b184, O, o2) else ob2 (f_X10_goInside T O (nI r) z) fun r178 O_178 => zb (bI r161) fun b184 => some (b184, O_178, o2)) (fun o => match (if (wfr d m (min (m.co r) (bsd (m.co r) t)) && mI d m r (m.co r) (bsd (m.co r) t) m.sec) = true then some (goM m r (bsd (m.co r) t) (m.sec + d.ins r) true) else none) with | none => o.1 = false ∧ o.2.1 = O | some m' => o.1 = true ∧ MoC d m' o.2.1) := by
              intro z hz
              subst hz
              rw [x_mayIn hd hT hm hO hr hb1 hb2 hg, ob1_s]
              by_cases k6 : (wfr d m (min (m.co r) (bsd (m.co r) t)) && mI d m r (m.co r) (bsd (m.co r) t) m.sec) = true
              · obtain ⟨O', g1, g2⟩ := x_goInside hd hT hm hO hr hb1
                rw [k6, itT, g1, ob2_s, zb_bI, if_pos rfl]
                exact wp_some.mpr ⟨rfl, g2⟩
              · simp only [Bool.not_eq_true] at k6
                rw [k6, itF, zb_bI, if_neg (by decide)]
                exact wp_some.mpr ⟨rfl, rfl⟩
            by_cases h9 : nI (m.co r) ≤ nI t
            · rw [if_pos h9] at e9 ⊢
              exact both _ e9
            · rw [if_neg h9] at e9 ⊢
              exact both _ e9
theorem x_turn (hd : TrOK d) (hT : TrC d T) (hm : MoOK d m) (hO : MoC d m O) (hQ : RlQ U sg cl len nc y kd se te) {N : Sg} {r : Nat} (hr : r < d.rd) (hg : m.gq r = false) : Wp (f_X11_takeTurn len nc nc nc T O N U (nI r)) (fun o => MoC d (tn d m r y kd se te nc 0) o.1) := by
  have h12 := hQ.2.1
  unfold f_X11_takeTurn
  refine wp_fl3 (fun j x P _ => ∃ c, x = nI c ∧ P = O ∧ c + j = nc ∧ tn d m r y kd se te j c = tn d m r y kd se te nc 0) ?_ nc (FU_lt (by omega)) _ _ _ ⟨0, rfl, rfl, by omega, rfl⟩
  rintro j K _ _ Z ⟨c, rfl, rfl, hcj, hv0⟩ ih
  unfold f_X11_takeTurn_b2 f_X11_takeTurn_b32
  cases j with
  | zero =>
    have e : c = nc := by omega
    subst e
    have hv2 : m = tn d m r y kd se te c 0 := hv0
    rw [if_pos (nI_le (Nat.le_refl _) (by omega)), ← hv2]
    exact wp_some.mpr hO
  | succ j =>
    have hc : c < nc := by omega
    rw [tn_s] at hv0
    rw [if_neg (nI_ge hc (by omega)), wp_ob2]
    refine wp_mono (x_holds hd hT hm hO hQ hr hc) (fun o ho => ?_)
    obtain ⟨o1, N1⟩ := o
    simp only at ho ⊢
    subst ho
    by_cases c1 : hv d m r y se te c = true
    · rw [if_pos c1] at hv0
      rw [c1, itT, wp_ob3]
      refine wp_mono (x_done hd hT hm hO hQ hr hc hg) (fun o ho => ?_)
      obtain ⟨o1, O1, N2⟩ := o
      cases h1 : dnM d m r y kd se te c with
      | none =>
        rw [h1] at ho hv0
        simp only at ho hv0 ⊢
        obtain ⟨w1, w2⟩ := ho
        subst w1 w2
        rw [itF, wp_bnd]
        exact ih j _ _ _ (by omega) ⟨c + 1, (nI_succ c).symm, rfl, by omega, hv0⟩
      | some m' =>
        rw [h1] at ho hv0
        simp only at ho hv0 ⊢
        obtain ⟨w1, w2⟩ := ho
        subst w1
        rw [itT, ← hv0]
        exact wp_some.mpr w2
    · rw [if_neg c1] at hv0
      simp only [Bool.not_eq_true] at c1
      rw [c1, itF, wp_bnd]
      exact ih j _ _ _ (by omega) ⟨c + 1, (nI_succ c).symm, rfl, by omega, hv0⟩
end
/-- all turns of a second -/
def ta (d : Tr) (y kd se te : Nat → Nat) (nc : Nat) : Nat → Nat → Mo → Mo
  | 0, _, m => m
  | j + 1, r, m => ta d y kd se te nc j (r + 1) (if m.gq r = false ∧ d.kn r ≤ m.sec then tn d m r y kd se te nc 0 else m)
def rnM (d : Tr) (y kd se te : Nat → Nat) (nc : Nat) : Nat → Mo → Mo
  | 0, m => m
  | j + 1, m => rnM d y kd se te nc j (byM (ta d y kd se te nc d.rd 0 m) (m.sec + 1))
section
variable {d : Tr} {m : Mo} {T O U : Sg} {M : Sg} {sg cl : Nat → Int32} {len nc : Nat} {y kd se te : Nat → Nat}
theorem ta_ok (hd : TrOK d) : ∀ j r m, r + j = d.rd → MoOK d m → MoOK d (ta d y kd se te nc j r m) ∧ (ta d y kd se te nc j r m).sec = m.sec := by
  intro j
  induction j with
  | zero => intro r m _ hm; exact ⟨hm, rfl⟩
  | succ j ih =>
    intro r m hr hm
    show MoOK d (ta d y kd se te nc j (r + 1) (if m.gq r = false ∧ d.kn r ≤ m.sec then tn d m r y kd se te nc 0 else m)) ∧ _
    by_cases c : m.gq r = false ∧ d.kn r ≤ m.sec
    · rw [if_pos c]
      have h1 := tn_ok (y := y) (kd := kd) (se := se) (te := te) hd hm (show r < d.rd by omega) nc 0
      have h2 := ih (r + 1) _ (by omega) h1.1
      refine ⟨h2.1, ?_⟩
      show (ta d y kd se te nc j (r + 1) (if m.gq r = false ∧ d.kn r ≤ m.sec then tn d m r y kd se te nc 0 else m)).sec = m.sec
      rw [if_pos c, h2.2, h1.2]
    · rw [if_neg c]
      have h2 := ih (r + 1) m (by omega) hm
      refine ⟨h2.1, ?_⟩
      show (ta d y kd se te nc j (r + 1) (if m.gq r = false ∧ d.kn r ≤ m.sec then tn d m r y kd se te nc 0 else m)).sec = m.sec
      rw [if_neg c, h2.2]
theorem x_turns (hd : TrOK d) (hT : TrC d T) (hm : MoOK d m) (hO : MoC d m O) (hQ : RlQ U sg cl len nc y kd se te) {N : Sg} : Wp (f_X11_takeTurns len nc nc nc T O N U) (fun o => MoC d (ta d y kd se te nc d.rd 0 m) o.1) := by
  have h6 := hd.r6
  unfold f_X11_takeTurns
  refine wp_fl3 (fun j x P _ => ∃ r m', x = nI r ∧ r + j = d.rd ∧ MoOK d m' ∧ MoC d m' P ∧ ta d y kd se te nc j r m' = ta d y kd se te nc d.rd 0 m) ?_ d.rd (FU_lt (by omega)) _ _ _ ⟨0, m, rfl, by omega, hm, hO, rfl⟩
  rintro j K _ P Z ⟨r, m', rfl, hrj, hm', hO', hv0⟩ ih
  unfold f_X11_takeTurns_b7 f_X11_takeTurns_b51 f_X11_takeTurns_b73
  rw [hT.1.2.2]
  cases j with
  | zero =>
    have e : r = d.rd := by omega
    subst e
    have hv2 : m' = ta d y kd se te nc d.rd 0 m := hv0
    rw [if_pos (nI_le (Nat.le_refl _) (by omega)), ← hv2]
    exact wp_some.mpr hO'
  | succ j =>
    have hr : r < d.rd := by omega
    have hs := hm'.1
    have hkn := (hd.rr r hr).2.2.2
    have hv1 : ta d y kd se te nc j (r + 1) (if m'.gq r = false ∧ d.kn r ≤ m'.sec then tn d m' r y kd se te nc 0 else m') = ta d y kd se te nc d.rd 0 m := hv0
    rw [if_neg (nI_ge hr (by omega)), ixd_nI (by omega) (by omega), hO'.1.1, (hT.2.2.2.2.2.2 r hr).2.2.2.1, if_pos (show (0 : Int32) = 0 from rfl), if_neg (show ¬ (1 : Int32) = 0 by decide), x_isGoing hd hm' hO' hr, ob1_s]
    by_cases c1 : d.kn r ≤ m'.sec
    · rw [if_neg (nI_nlt c1 (by omega))]
      by_cases c2 : m'.gq r = true
      · rw [c2, itT, wp_bnd]
        rw [if_neg (fun h => by rw [c2] at h; cases h.1)] at hv1
        exact ih j _ _ _ (by omega) ⟨r + 1, m', (nI_succ r).symm, by omega, hm', hO', hv1⟩
      · simp only [Bool.not_eq_true] at c2
        rw [c2, itF, wp_ob2]
        rw [if_pos ⟨c2, c1⟩] at hv1
        refine wp_mono (x_turn hd hT hm' hO' hQ hr c2) (fun o ho => ?_)
        rw [wp_bnd]
        exact ih j _ _ _ (by omega) ⟨r + 1, _, (nI_succ r).symm, by omega, (tn_ok hd hm' hr nc 0).1, ho, hv1⟩
    · rw [if_pos (nI_lt (by omega) (by omega)), wp_bnd]
      rw [if_neg (fun h => c1 h.2)] at hv1
      exact ih j _ _ _ (by omega) ⟨r + 1, m', (nI_succ r).symm, by omega, hm', hO', hv1⟩
end
