/-! the class goes back; till when one may be told it -/
def uN (w : Nat) : Int32 := if w = 0 then -nI 1 else nI (w - 1)
theorem uN_0 : uN 0 = -nI 1 := rfl
theorem uN_s (w : Nat) : uN (w + 1) = nI w := rfl
theorem oM_uN (o : Option Nat) : oM o = uN (shO o) := by cases o <;> rfl
theorem uN_toInt {w : Nat} (h : w < 2 ^ 30) : (uN w).toInt = (w : Int) - 1 := by
  cases w with
  | zero => decide
  | succ w => rw [uN_s, nI_toInt (by omega)]; omega
theorem uN_le {a b : Nat} (ha : a < 2 ^ 30) (hb : b < 2 ^ 30) : uN a ≤ uN b ↔ a ≤ b := by
  rw [Int32.le_iff_toInt_le, uN_toInt ha, uN_toInt hb]; omega
theorem uN_lt {a b : Nat} (ha : a < 2 ^ 30) (hb : b < 2 ^ 30) : uN a < uN b ↔ a < b := by
  rw [Int32.lt_iff_toInt_lt, uN_toInt ha, uN_toInt hb]; omega
theorem uN_eq {a b : Nat} (ha : a < 2 ^ 30) (hb : b < 2 ^ 30) : uN a = uN b ↔ a = b := by
  rw [← Int32.toInt_inj, uN_toInt ha, uN_toInt hb]; omega
theorem uN_max {a b : Nat} (ha : a < 2 ^ 30) (hb : b < 2 ^ 30) : jmax (uN a) (uN b) = uN (max a b) := by
  unfold jmax
  by_cases h : a < b
  · rw [if_pos ((uN_lt ha hb).mpr h)]; congr 1; omega
  · rw [if_neg (fun h2 => h ((uN_lt ha hb).mp h2))]; congr 1; omega
def pR (d : Tr) (r : Nat) : Nat → Bool := fun c => decide (d.g c = d.ds r)
/-- one more than till when one may be told, to be right by a second -/
noncomputable def vB (d : Tr) (m : Mo) (r u : Nat) : Nat → Nat := vV d.n (pR d r) (sn d m r) u
section
variable {d : Tr} {m : Mo} {T O : Sg} {M : Sg}
theorem vB_iff (hd : TrOK d) (hM : TrM d (M.2.1 20)) (hN : MoM d m (M.2.1 20)) {r a s u : Nat} (hr : r < d.rd) (ha : a < d.n) (hu : u ≤ 999) : s < vB d m r u a ↔ rt d m r a s ≤ u := vV_iff (eE_EP hd hr) (fun _ _ h1 h2 => sn_ok hd hM hN hr h1 h2) ha hu
theorem vB_le {r u a : Nat} : vB d m r u a ≤ u + 1 := vV_le
theorem vB_BV (hd : TrOK d) (hM : TrM d (M.2.1 20)) (hN : MoM d m (M.2.1 20)) {r u : Nat} (hr : r < d.rd) (hu : u ≤ d.pa) : BV d.n (pR d r) (lL d m r) u (vB d m r u) := by
  have hp := hd.pa9
  exact vV_BV (eE_EP hd hr) (fun _ _ h1 h2 => sn_ok hd hM hN hr h1 h2) (by omega) (fun c t s w _ _ hct hw => gal_E hd hr hct hu hw)
theorem x_lastBegin (hd : TrOK d) (hT : TrC d T) (hm : MoOK d m) (hO : MoC d m O) {r c t u : Nat} (hr : r < d.rd) (hc : c < d.n) (ht : t < d.n) (hu : u ≤ 99999) : f_X6_lastBegin T O (nI r) (nI c) (nI t) (nI u) = some (uN (lL d m r c t (u + 1))) := by
  have hn := hd.n8
  have hx := sOu_le hd hr hc ht
  have h1 : shO (sOL d (sOu d r c t) u) ≤ u + 1 := by
    unfold sOL
    cases h2 : fndD (fun k => decide (d.hb k + sOu d r c t ≤ min u (d.he k))) (d.ps + 1) with
    | none => simp only [Option.map_none, shO]; omega
    | some k => simp only [Option.map_some, shO]; omega
  have h2 : shO (sIL d m r c t u) ≤ u + 1 := by
    unfold sIL
    split
    · simp only [shO]; omega
    · split
      · simp only [shO]; omega
      · simp only [shO]; omega
  have hdl : dist c t < 8 := dist_lt (n := 8) (by omega) (by omega)
  unfold f_X6_lastBegin f_X6_lastBegin_b50 lL
  rw [if_neg (by omega), Nat.add_sub_cancel, x_outsideSeconds hd hT hr hc ht, ob1_s, x_outsideLatest hd hT (by omega) (by omega), ob1_s, nI_abs (by omega) (by omega), dist_comm t c]
  by_cases h : dist c t = 1
  · rw [if_pos h, if_pos (by rw [h]; rfl), x_insideLatest hd hT hm hO hr hc ht h (by omega), ob1_s, bnd_eq, oM_uN, oM_uN, uN_max (by omega) (by omega)]
  · rw [if_neg h, if_neg (by rw [lit, nI_eq (by omega) (by omega)]; exact h), oM_uN]
    congr 2; omega
theorem x_spreadBackFrom (hd : TrOK d) (hT : TrC d T) (hm : MoOK d m) (hO : MoC d m O) {S : Sg} {g : Nat → Int32} {U : Nat → Nat} {r c : Nat} (hr : r < d.rd) (hc : c < d.n) (hg : ∀ t, t < d.n → g t = uN (U t)) (hU : ∀ t, t < d.n → U t ≤ 99999) (hUc : 0 < U c) : ∃ g' b, f_X6_spreadBackFrom (sF S 2 g) T O (nI r) (nI c) = some (b, sF S 2 g') ∧ (∀ t, t < d.n → g' t = uN (rlB (lL d m r) c d.n U t)) ∧ (b = false → ∀ t, t < d.n → t ≠ c → lL d m r t c (U c) ≤ U t) := by
  have hn := hd.n8
  have key : Wp (f_X6_spreadBackFrom (sF S 2 g) T O (nI r) (nI c)) (fun o => ∃ g', o.2 = sF S 2 g' ∧ (∀ t, t < d.n → g' t = uN (rlB (lL d m r) c d.n U t)) ∧ (o.1 = false → ∀ t, t < d.n → t ≠ c → lL d m r t c (U c) ≤ U t)) := by
    unfold f_X6_spreadBackFrom
    refine wp_fl3 (fun j x y Z => ∃ k b g', x = bI b ∧ y = nI k ∧ Z = sF S 2 g' ∧ k + j = d.n ∧ (∀ t, t < d.n → g' t = uN (rlB (lL d m r) c k U t)) ∧ (b = false → ∀ t, t < k → t ≠ c → lL d m r t c (U c) ≤ U t)) ?_ d.n (FU_lt (by omega)) _ _ _ ⟨0, false, g, rfl, rfl, rfl, by omega, fun t ht => by rw [hg t ht]; unfold rlB; rw [if_neg (by omega)], fun _ t ht => by omega⟩
    rintro j K _ _ _ ⟨k, b, g', rfl, rfl, rfl, hkj, hg', hb⟩ ih
    cases j with
    | zero =>
      have e : k = d.n := by omega
      subst e
      unfold f_X6_spreadBackFrom_b5
      rw [hT.1.1, if_pos (nI_le (Nat.le_refl _) (by omega)), zb_bI]
      exact wp_some.mpr ⟨g', rfl, hg', hb⟩
    | succ j =>
      have hkn : k < d.n := by omega
      unfold f_X6_spreadBackFrom_b5 f_X6_spreadBackFrom_b65
      rw [hT.1.1, if_neg (nI_ge hkn (by omega))]
      by_cases e : k = c
      · subst e
        rw [if_pos rfl, wp_bnd]
        refine ih j _ _ _ (by omega) ⟨k + 1, b, g', rfl, (nI_succ k).symm, rfl, by omega, fun t ht => by rw [hg' t ht, rlB_same], fun hbf t ht htc => hb hbf t (by omega) htc⟩
      · rw [if_neg (by rw [nI_eq (by omega) (by omega)]; exact e)]
        have hUcc := hU c hc
        have hBc : rlB (lL d m r) c k U c = U c := by unfold rlB; rw [if_neg (by omega)]
        have hBk : rlB (lL d m r) c k U k = U k := by unfold rlB; rw [if_neg (by omega)]
        have hgc : g' c = nI (U c - 1) := by
          rw [hg' c hc, hBc]; unfold uN; rw [if_neg (by omega)]
        have hgk : g' k = uN (U k) := by rw [hg' k hkn, hBk]
        have hUk := hU k hkn
        have hle := lL_le (d := d) (m := m) r k c (U c)
        simp (disch := omega) only [ixd_nI, sF_at, hgc, hgk, bnd_eq, sA_sF]
        rw [x_lastBegin hd hT hm hO hr hkn hc (by omega), ob1_s, show U c - 1 + 1 = U c by omega]
        by_cases c2 : lL d m r k c (U c) ≤ U k
        · rw [if_pos ((uN_le (by omega) (by omega)).mpr c2)]
          refine ih j _ _ _ (by omega) ⟨k + 1, b, g', rfl, (nI_succ k).symm, rfl, by omega, fun t ht => ?_, fun hbf t ht htc => ?_⟩
          · rw [rlB_s e t]
            by_cases e2 : t = k
            · subst e2; rw [if_pos rfl, hgk]; congr 1; omega
            · rw [if_neg e2]; exact hg' t ht
          · by_cases e2 : t = k
            · subst e2; exact c2
            · exact hb hbf t (by omega) htc
        · rw [if_neg (fun h2 => c2 ((uN_le (by omega) (by omega)).mp h2))]
          refine ih j _ _ _ (by omega) ⟨k + 1, true, _, rfl, (nI_succ k).symm, rfl, by omega, fun t ht => ?_, fun hbf => by cases hbf⟩
          rw [rlB_s e t, upd_at]
          by_cases e2 : t = k
          · subst e2; rw [if_pos rfl, if_pos rfl]; congr 1; omega
          · rw [if_neg e2, if_neg e2]; exact hg' t ht
  obtain ⟨⟨b, S'⟩, h1, g', h2, h3, h4⟩ := key
  simp only at h2 h4
  exact ⟨g', b, by rw [h1, h2], h3, h4⟩
theorem rlB_le {L : Nat → Nat → Nat → Nat} {c k B0 : Nat} {U : Nat → Nat} (hL : ∀ a b w, L a b w ≤ w) {t : Nat} (hc : U c ≤ B0) (h : U t ≤ B0) : rlB L c k U t ≤ B0 := by
  unfold rlB
  split
  · have := hL t c (U c); omega
  · exact h
theorem sF_self (S : Sg) (k : Nat) : sF S k (S.2.1 k) = S := by
  unfold sF
  show (S.1, va_up S.2.1 k (S.2.1 k), S.2.2) = S
  rw [va_up_se]
theorem x_spreadBack (hd : TrOK d) (hT : TrC d T) (hm : MoOK d m) (hO : MoC d m O) (hM : TrM d (M.2.1 20)) (hN : MoM d m (M.2.1 20)) {S : Sg} {r u : Nat} (hr : r < d.rd) (hu : u ≤ 999) : ∃ g, f_X6_spreadBack S T O (nI r) (nI u) = some (sF S 2 g) ∧ (u ≤ d.pa → ∀ t, t < d.n → g t = uN (vB d m r u t)) := by
  have hn := hd.n8
  have key : Wp (f_X6_spreadBack S T O (nI r) (nI u)) (fun S' => ∃ g, S' = sF S 2 g ∧ (u ≤ d.pa → ∀ t, t < d.n → g t = uN (vB d m r u t))) := by
    unfold f_X6_spreadBack
    refine wp_fl2 (fun j x Z => ∃ k g, x = nI k ∧ Z = sF S 2 g ∧ k + j = d.n ∧ ∀ t, t < k → g t = uN (if pR d r t then u + 1 else 0)) ?_ d.n (FU_lt (by omega)) _ _ ⟨0, S.2.1 2, rfl, (sF_self S 2).symm, by omega, fun t ht => by omega⟩
    rintro j K _ _ ⟨k, g, rfl, rfl, hkj, hg⟩ ih
    unfold f_X6_spreadBack_b2 f_X6_spreadBack_b38
    cases j with
    | succ j =>
      have hkn : k < d.n := by omega
      rw [hT.1.1, if_neg (nI_ge hkn (by omega)), x_isRight hd hT hr hkn, ob1_s]
      have hnew : ∀ v, v = uN (if pR d r k then u + 1 else 0) → ∀ t, t < k + 1 → upd g k v t = uN (if pR d r t then u + 1 else 0) := by
        intro v hv t ht
        rw [upd_at]
        by_cases e : t = k
        · rw [if_pos e, e]; exact hv
        · rw [if_neg e]; exact hg t (by omega)
      by_cases c1 : d.g k = d.ds r
      · have hp : pR d r k = true := by unfold pR; simp only [c1, decide_true]
        simp only [c1, decide_true]
        rw [if_neg (by decide)]
        simp (disch := omega) only [ixd_nI, bnd_eq, sA_sF]
        exact ih j _ _ (by omega) ⟨k + 1, _, (nI_succ k).symm, rfl, by omega, hnew _ (by rw [if_pos hp]; rfl)⟩
      · have hp : ¬ pR d r k = true := by unfold pR; simp only [c1, decide_false]; decide
        simp only [c1, decide_false]
        rw [if_pos (by decide)]
        simp (disch := omega) only [ixd_nI, bnd_eq, sA_sF]
        exact ih j _ _ (by omega) ⟨k + 1, _, (nI_succ k).symm, rfl, by omega, hnew _ (by rw [if_neg hp]; rfl)⟩
    | zero =>
      have e : k = d.n := by omega
      subst e
      rw [hT.1.1, if_pos (nI_le (Nat.le_refl _) (by omega))]
      refine wp_fl3 (fun j x y Z => ∃ k b g U, x = bI b ∧ y = nI k ∧ Z = sF S 2 g ∧ k + j = 8 ∧ (∀ t, t < d.n → g t = uN (U t)) ∧ (∀ t, t < d.n → U t ≤ u + 1) ∧ (u ≤ d.pa → BB d.n (vB d m r u) k U ∧ (∀ t, t < d.n → pR d r t = true → U t = u + 1) ∧ (b = false → ∀ t, t < d.n → U t = vB d m r u t))) ?_ 8 (FU_lt (by omega)) _ _ _ ⟨0, true, g, fun t => if pR d r t then u + 1 else 0, rfl, rfl, rfl, by omega, hg, ?_, fun hup => ⟨bb_0 (vB_BV hd hM hN hr hup), fun t ht hp => if_pos hp, fun h => by cases h⟩⟩
      · rintro j K _ _ _ ⟨k, b, g, U, rfl, rfl, rfl, hkj, hg, hU, hbb⟩ ih
        unfold f_X6_spreadBack_b50
        by_cases e : 8 ≤ k
        · rw [if_pos (by rw [lit]; exact nI_le e (by omega))]
          refine wp_some.mpr ⟨g, rfl, fun hup t ht => ?_⟩
          rw [hg t ht, (hbb hup).1.2 t ht (by have := rkB_n (V := vB d m r u) ht; omega)]
        · rw [if_neg (by rw [lit]; exact nI_ge (by omega) (by omega))]
          cases b with
          | false =>
            rw [if_pos (by decide)]
            exact wp_some.mpr ⟨g, rfl, fun hup t ht => by rw [hg t ht, (hbb hup).2.2 rfl t ht]⟩
          | true =>
            rw [if_neg (by decide)]
            refine wp_fl4 (fun i x y z Z => ∃ c b g' U', x = bI b ∧ y = nI k ∧ z = nI c ∧ Z = sF S 2 g' ∧ c + i = d.n ∧ (∀ t, t < d.n → g' t = uN (U' t)) ∧ (∀ t, t < d.n → U' t ≤ u + 1) ∧ (u ≤ d.pa → RB d.n (lL d m r) (vB d m r u) U U' c b)) ?_ d.n (FU_lt (by omega)) _ _ _ _ ⟨0, false, g, U, rfl, rfl, rfl, rfl, by omega, hg, hU, fun hup => rb_0 (hbb hup).1⟩
            rintro i K2 _ _ _ _ ⟨c, b, g', U', rfl, rfl, rfl, rfl, hci, hg', hU', hri⟩ ih2
            unfold f_X6_spreadBack_b66 f_X6_spreadBack_b104
            cases i with
            | zero =>
              have e : c = d.n := by omega
              subst e
              rw [hT.1.1, if_pos (nI_le (Nat.le_refl _) (by omega)), wp_bnd]
              exact ih (j - 1) _ _ _ (by omega) ⟨k + 1, b, g', U', rfl, (nI_succ k).symm, rfl, by omega, hg', hU', fun hup => bb_round (vB_BV hd hM hN hr hup) (hbb hup).1 (hbb hup).2.1 (hri hup)⟩
            | succ i =>
              have hcn : c < d.n := by omega
              have hUc := hU' c hcn
              rw [hT.1.1, if_neg (nI_ge hcn (by omega))]
              simp (disch := omega) only [ixd_nI, sF_at, hg' c hcn, bnd_eq]
              by_cases h9 : U' c = 0
              · rw [if_pos (by rw [h9]; rfl)]
                exact ih2 i _ _ _ _ (by omega) ⟨c + 1, b, g', U', rfl, rfl, (nI_succ c).symm, rfl, by omega, hg', hU', fun hup => rb_skip (fun c t => lL_0 r c t) hcn (hri hup) h9⟩
              · rw [if_neg (by rw [show (-1 : Int32) = uN 0 from rfl, uN_eq (by omega) (by omega)]; exact h9)]
                obtain ⟨g2, b2, w1, w2, w3⟩ := x_spreadBackFrom hd hT hm hO (S := S) hr hcn hg' (fun t ht => by have := hU' t ht; omega) (by omega)
                rw [w1, ob2_s]
                dsimp only
                have hU2 : ∀ t, t < d.n → rlB (lL d m r) c d.n U' t ≤ u + 1 := fun t ht => rlB_le (fun a b w => lL_le r a b w) hUc (hU' t ht)
                have hgo := fun hup => rb_go (vB_BV hd hM hN hr hup) hcn (hri hup) w3
                cases b2 with
                | false =>
                  rw [if_pos (by decide)]
                  rw [Bool.or_false] at hgo
                  exact ih2 i _ _ _ _ (by omega) ⟨c + 1, b, g2, _, rfl, rfl, (nI_succ c).symm, rfl, by omega, w2, hU2, hgo⟩
                | true =>
                  rw [if_neg (by decide)]
                  rw [Bool.or_true] at hgo
                  exact ih2 i _ _ _ _ (by omega) ⟨c + 1, true, g2, _, rfl, rfl, (nI_succ c).symm, rfl, by omega, w2, hU2, hgo⟩
      · intro t ht
        show (if pR d r t then u + 1 else 0) ≤ u + 1
        split <;> omega
  obtain ⟨x, h1, g, h2, h3⟩ := key
  exact ⟨g, by rw [h1, h2], h3⟩
theorem x_latestOf (hd : TrOK d) (hT : TrC d T) (hm : MoOK d m) (hO : MoC d m O) (hM : TrM d (M.2.1 20)) (hN : MoM d m (M.2.1 20)) {S : Sg} {r : Nat} (hr : r < d.rd) : ∃ g, f_X6_latestOf S T O (nI r) = some (uN (vB d m r d.pa (plc m r)), sF S 2 g) := by
  have hn := hd.n8
  have hp := hd.pa9
  have hpl := plc_lt hm hr
  obtain ⟨g, h1, h2⟩ := x_spreadBack hd hT hm hO hM hN (S := S) (u := d.pa) hr (by omega)
  refine ⟨g, ?_⟩
  unfold f_X6_latestOf
  rw [(hT.2.1 (by omega)).2.1, h1, ob1_s, x_placeOf hd hm hO hr, ob1_s, ixd_nI (by omega) (by omega), sF_at, h2 (Nat.le_refl _) _ hpl]
theorem m_latestOf (hd : TrOK d) (hm : MoOK d m) (hM : TrM d (M.2.1 20)) (hN : MoM d m (M.2.1 20)) {r : Nat} (hr : r < d.rd) : ∃ g h, f_X12_latestOf M (nI r) = some (uN (vB d m r d.pa (plc m r)), sM M g h) := by
  have hn := hd.n8
  have hp := hd.pa9
  have hpl := plc_lt hm hr
  have key : Wp (f_X12_latestOf M (nI r)) (fun o => ∃ g h, o = (uN (vB d m r d.pa (plc m r)), sM M g h)) := by
    unfold f_X12_latestOf
    rw [m_parting hd hM, ob1_s]
    refine wp_fl2 (fun j x Z => ∃ g h, x = uN j ∧ Z = sM M g h ∧ j ≤ d.pa + 1 ∧ vB d m r d.pa (plc m r) ≤ j) ?_ (d.pa + 1) (FU_lt (by omega)) _ _ ⟨M.2.1 24, M.2.1 25, rfl, (sM_id M).symm, Nat.le_refl _, vB_le⟩
    rintro j K _ _ ⟨g, h, rfl, rfl, hj, hv⟩ ih
    have hM' : TrM d ((sM M g h).2.1 20) := hM
    have hN' : MoM d m ((sM M g h).2.1 20) := hN
    unfold f_X12_latestOf_b5 f_X12_latestOf_b35
    cases j with
    | zero =>
      rw [uN_0, if_pos (by decide)]
      exact wp_some.mpr ⟨g, h, by rw [show vB d m r d.pa (plc m r) = 0 by omega]; rfl⟩
    | succ j =>
      rw [uN_s, if_neg (nI_pos (by omega)), m_whereOf hd hm hN' hr, ob1_s]
      obtain ⟨g2, h2, e2⟩ := m_rightFrom hd hM' hN' hr hpl (s := j) (by omega)
      rw [e2, ob2_s]
      dsimp only
      have hiff := vB_iff hd hM hN (s := j) (u := d.pa) hr hpl (by omega)
      have hM2 : TrM d ((sM (sM M g h) g2 h2).2.1 20) := hM
      have e3 : sM (sM M g h) g2 h2 = sM M g2 h2 := by
        unfold sM sF
        show (M.1, va_up (va_up (va_up (va_up M.2.1 24 g) 25 h) 24 g2) 25 h2, M.2.2) = (M.1, va_up (va_up M.2.1 24 g2) 25 h2, M.2.2)
        rw [va_up_cm _ _ _ (show (25 : Nat) ≠ 24 by decide), va_up_up, va_up_up]
      have hle : rt d m r (plc m r) j ≤ 1000000 := by unfold rt; split; exact mnr_le9; exact Nat.le_refl _
      have hdec : nI j + (-1) = uN j := by
        cases j with
        | zero => rfl
        | succ j => rw [uN_s, ← nI_pred j]; exact (Int32.sub_eq_add_neg _ _).symm
      by_cases c : rt d m r (plc m r) j ≤ 999
      · rw [sN_f c, if_neg (nI_pos (by omega)), m_parting hd hM2, ob1_s]
        by_cases c2 : rt d m r (plc m r) j ≤ d.pa
        · rw [if_neg (nI_nlt c2 (by omega))]
          exact wp_some.mpr ⟨g2, h2, by rw [e3, show vB d m r d.pa (plc m r) = j + 1 by have := hiff.mpr c2; omega, uN_s]⟩
        · rw [if_pos (nI_lt (by omega) (by omega)), wp_bnd, e3, hdec]
          exact ih j _ _ (by omega) ⟨g2, h2, rfl, rfl, by omega, by have := fun q => c2 (hiff.mp q); omega⟩
      · rw [sN_i c, if_pos (by decide), wp_bnd, e3, hdec]
        exact ih j _ _ (by omega) ⟨g2, h2, rfl, rfl, by omega, by have := fun q => c (by have := hiff.mp q; omega); omega⟩
  obtain ⟨x, h1, g, h, h2⟩ := key
  exact ⟨g, h, by rw [h1, h2]⟩
end
