/-! meet -/
/-- straight inside: when one begins to go through each way -/
def wk (d : Tr) (m : Mo) (r b : Nat) : Nat → Nat → Nat → (Nat → Nat) → Nat → Nat
  | 0, _, _, B => B
  | j + 1, a, s, B => match sIF d m r a (if a < b then a + 1 else a - 1) s with
    | none => B
    | some q => wk d m r b j (if a < b then a + 1 else a - 1) (q + d.ins r) (fun w => if w = min a (if a < b then a + 1 else a - 1) then q else B w)
theorem wk_s (d : Tr) (m : Mo) (r b j a s : Nat) (B : Nat → Nat) : wk d m r b (j + 1) a s B = match sIF d m r a (if a < b then a + 1 else a - 1) s with
    | none => B
    | some q => wk d m r b j (if a < b then a + 1 else a - 1) (q + d.ins r) (fun w => if w = min a (if a < b then a + 1 else a - 1) then q else B w) := rfl
def wB (d : Tr) (m : Mo) (r b : Nat) : Nat → Nat := wk d m r b (dist (plc m r) b) (plc m r) (sof m r (d.kn r)) (fun _ => 1000000)
section
variable {d : Tr} {m : Mo} {T O : Sg} {M : Sg}
theorem sIF_bd (hd : TrOK d) {r a b s q : Nat} (h : sIF d m r a b s = some q) : sIB d m r a b s = some q ∧ s ≤ q ∧ q + d.ins r ≤ 999 := by
  unfold sIF at h
  cases h3 : sIB d m r a b s with
  | none => rw [h3] at h; cases h
  | some q' =>
    rw [h3] at h
    simp only at h
    split at h
    · cases h; exact ⟨rfl, sIB_bd h3, by assumption⟩
    · cases h
theorem wk_up (hd : TrOK d) {r b : Nat} (hr : r < d.rd) (hb : b < d.n) : ∀ j a s B, a + j = b → (∀ w, B w ≤ 999 → w < a ∧ B w + d.ins r ≤ s) → (∀ w w', w < w' → B w ≤ 999 → B w' ≤ 999 → B w + d.ins r ≤ B w') → (∀ w, B w ≤ 999 ∨ B w = 1000000) → (∀ w w', w < w' → wk d m r b j a s B w ≤ 999 → wk d m r b j a s B w' ≤ 999 → wk d m r b j a s B w + d.ins r ≤ wk d m r b j a s B w') ∧ (∀ w, wk d m r b j a s B w ≤ 999 ∨ wk d m r b j a s B w = 1000000) ∧ ∀ w, wk d m r b j a s B w ≤ 999 → w < b := by
  intro j
  induction j with
  | zero =>
    intro a s B haj h1 h2 h3
    refine ⟨h2, h3, fun w hw => ?_⟩
    have := (h1 w hw).1
    omega
  | succ j ih =>
    intro a s B haj h1 h2 h3
    rw [wk_s, if_pos (show a < b by omega)]
    cases h4 : sIF d m r a (a + 1) s with
    | none => exact ⟨h2, h3, fun w hw => by have := (h1 w hw).1; omega⟩
    | some q =>
      obtain ⟨-, q1, q2⟩ := sIF_bd hd h4
      simp only
      rw [show min a (a + 1) = a by omega]
      refine ih (a + 1) (q + d.ins r) _ (by omega) (fun w hw => ?_) (fun w w' hww hw hw' => ?_) (fun w => ?_)
      · by_cases e : w = a
        · simp only [if_pos e] at hw ⊢; omega
        · simp only [if_neg e] at hw ⊢
          have := h1 w hw
          have := hd.inr hr
          omega
      · by_cases e' : w' = a
        · have e : ¬ w = a := by omega
          simp only [if_pos e', if_neg e] at hw hw' ⊢
          have := h1 w hw
          omega
        · simp only [if_neg e'] at hw' ⊢
          have := h1 w' hw'
          have e : ¬ w = a := by omega
          simp only [if_neg e] at hw ⊢
          exact h2 w w' hww hw hw'
      · by_cases e : w = a
        · simp only [if_pos e]; omega
        · simp only [if_neg e]; exact h3 w
theorem wk_dn (hd : TrOK d) {r b : Nat} (hr : r < d.rd) : ∀ j a s B, b + j = a → a < d.n → (∀ w, B w ≤ 999 → a ≤ w ∧ w + 1 < d.n ∧ B w + d.ins r ≤ s) → (∀ w w', w < w' → B w ≤ 999 → B w' ≤ 999 → B w' + d.ins r ≤ B w) → (∀ w, B w ≤ 999 ∨ B w = 1000000) → (∀ w w', w < w' → wk d m r b j a s B w ≤ 999 → wk d m r b j a s B w' ≤ 999 → wk d m r b j a s B w' + d.ins r ≤ wk d m r b j a s B w) ∧ (∀ w, wk d m r b j a s B w ≤ 999 ∨ wk d m r b j a s B w = 1000000) ∧ ∀ w, wk d m r b j a s B w ≤ 999 → w + 1 < d.n := by
  intro j
  induction j with
  | zero =>
    intro a s B haj ha h1 h2 h3
    exact ⟨h2, h3, fun w hw => (h1 w hw).2.1⟩
  | succ j ih =>
    intro a s B haj ha h1 h2 h3
    rw [wk_s, if_neg (show ¬ a < b by omega)]
    cases h4 : sIF d m r a (a - 1) s with
    | none => exact ⟨h2, h3, fun w hw => (h1 w hw).2.1⟩
    | some q =>
      obtain ⟨-, q1, q2⟩ := sIF_bd hd h4
      simp only
      rw [show min a (a - 1) = a - 1 by omega]
      refine ih (a - 1) (q + d.ins r) _ (by omega) (by omega) (fun w hw => ?_) (fun w w' hww hw hw' => ?_) (fun w => ?_)
      · by_cases e : w = a - 1
        · simp only [if_pos e] at hw ⊢; omega
        · simp only [if_neg e] at hw ⊢
          have := h1 w hw
          have := hd.inr hr
          omega
      · by_cases e : w = a - 1
        · have e' : ¬ w' = a - 1 := by omega
          simp only [if_pos e, if_neg e'] at hw hw' ⊢
          have := h1 w' hw'
          omega
        · simp only [if_neg e] at hw ⊢
          have := h1 w hw
          have e' : ¬ w' = a - 1 := by omega
          simp only [if_neg e'] at hw' ⊢
          exact h2 w w' hww hw hw'
      · by_cases e : w = a - 1
        · simp only [if_pos e]; omega
        · simp only [if_neg e]; exact h3 w
theorem wB_up (hd : TrOK d) {r b : Nat} (hr : r < d.rd) (hb : b < d.n) (h : plc m r < b) : (∀ w w', w < w' → wB d m r b w ≤ 999 → wB d m r b w' ≤ 999 → wB d m r b w + d.ins r ≤ wB d m r b w') ∧ (∀ w, wB d m r b w ≤ 999 ∨ wB d m r b w = 1000000) ∧ ∀ w, wB d m r b w ≤ 999 → w + 1 < d.n := by
  obtain ⟨h1, h2, h3⟩ := wk_up (m := m) hd hr hb (dist (plc m r) b) (plc m r) (sof m r (d.kn r)) (fun _ => 1000000) (by unfold dist; rw [if_pos (by omega)]; omega) (fun w hw => absurd hw (by omega)) (fun w w' _ hw => absurd hw (by omega)) (fun w => Or.inr rfl)
  exact ⟨h1, h2, fun w hw => by have := h3 w hw; omega⟩
theorem wB_dn (hd : TrOK d) (hm : MoOK d m) {r b : Nat} (hr : r < d.rd) (h : b < plc m r) : (∀ w w', w < w' → wB d m r b w ≤ 999 → wB d m r b w' ≤ 999 → wB d m r b w' + d.ins r ≤ wB d m r b w) ∧ (∀ w, wB d m r b w ≤ 999 ∨ wB d m r b w = 1000000) ∧ ∀ w, wB d m r b w ≤ 999 → w + 1 < d.n := by
  exact wk_dn (m := m) hd hr (dist (plc m r) b) (plc m r) (sof m r (d.kn r)) (fun _ => 1000000) (by unfold dist; rw [if_neg (by omega)]; omega) (plc_lt hm hr) (fun w hw => absurd hw (by omega)) (fun w w' _ hw => absurd hw (by omega)) (fun w => Or.inr rfl)
theorem wB_eq {r b : Nat} (h : plc m r = b) : ∀ w, wB d m r b w = 1000000 := by
  intro w
  unfold wB
  have e : dist (plc m r) b = 0 := by unfold dist; rw [h, if_pos (Nat.le_refl _)]; omega
  rw [e]
  rfl
theorem wB_or (hd : TrOK d) (hm : MoOK d m) {r b : Nat} (hr : r < d.rd) (hb : b < d.n) : (∀ w, wB d m r b w ≤ 999 ∨ wB d m r b w = 1000000) ∧ ∀ w, wB d m r b w ≤ 999 → w + 1 < d.n := by
  by_cases c1 : plc m r < b
  · exact (wB_up hd hr hb c1).2
  · by_cases c2 : b < plc m r
    · exact (wB_dn hd hm hr c2).2
    · have e := wB_eq (d := d) (m := m) (r := r) (b := b) (by omega)
      exact ⟨fun w => Or.inr (e w), fun w hw => by rw [e w] at hw; omega⟩
theorem x_walk1 (hd : TrOK d) (hT : TrC d T) (hm : MoOK d m) (hO : MoC d m O) {S : Sg} {r b : Nat} (hr : r < d.rd) (hb : b < d.n) : ∃ g, f_X6_walk_v1 S T O (nI r) (nI b) = some (sF S 4 g) ∧ ∀ w, w < 8 → g w = nI (wB d m r b w) := by
  have hn := hd.n8
  have h6 := hd.r6
  have hin := hd.inr hr
  have hpl := plc_lt hm hr
  have hkn := (hd.rr r hr).2.2.2
  have hso := sof_le hm hr (show d.kn r ≤ 99999 by omega)
  have loop : ∀ x6 : Int32, (∀ a, a < d.n → a ≠ b → plc m r ≠ b → (a < b ↔ plc m r < b) → nI a + x6 = nI (if a < b then a + 1 else a - 1)) → Wp (f_X6_walk_v1_b46 T O (nI r) (nI b) (nI (plc m r)) (nI (sof m r (d.kn r))) x6 (sF S 4 (fillf (S.2.1 4) 8 1000000))) (fun o => ∃ g, o = sF S 4 g ∧ ∀ w, w < 8 → g w = nI (wB d m r b w)) := by
    intro x6 hx6
    unfold f_X6_walk_v1_b46
    refine wp_fl5 (fun j x y z w Z => ∃ i a s B g, x = nI a ∧ y = nI s ∧ z = x6 ∧ w = nI i ∧ Z = sF S 4 g ∧ j = dist a b ∧ i + j = dist (plc m r) b ∧ a < d.n ∧ s ≤ 99999 ∧ (a ≠ b → (a < b ↔ plc m r < b)) ∧ (∀ w, w < 8 → g w = nI (B w)) ∧ wk d m r b j a s B = wB d m r b) ?_ (dist (plc m r) b) (FU_lt (by have := dist_lt hpl hb; omega)) _ _ _ _ _ ⟨0, plc m r, sof m r (d.kn r), fun _ => 1000000, _, rfl, rfl, rfl, rfl, rfl, rfl, by omega, hpl, hso, fun _ => Iff.rfl, fun w hw => by unfold fillf; rw [if_pos hw]; rfl, rfl⟩
    rintro j K _ _ _ _ _ ⟨i, a, s, B, g, rfl, rfl, rfl, rfl, rfl, hj, hij, ha, hs, hdir, hg, hv⟩ ih
    have hdl := dist_lt hpl hb
    unfold f_X6_walk_v1_b51
    cases j with
    | zero =>
      have e : a = b := by unfold dist at hj; split at hj <;> omega
      subst e
      rw [if_neg (by rw [show (8 : Int32) = nI 8 from rfl]; exact nI_ge (by omega) (by omega)), if_pos rfl]
      refine wp_some.mpr ⟨g, rfl, fun w hw => ?_⟩
      rw [hg w hw, ← hv]
      rfl
    | succ j =>
      have e : a ≠ b := by intro e; subst e; unfold dist at hj; rw [if_pos (Nat.le_refl _)] at hj; omega
      have ht : (if a < b then a + 1 else a - 1) < d.n := by split <;> omega
      have hdt : dist a (if a < b then a + 1 else a - 1) = 1 := by
        by_cases c : a < b
        · rw [if_pos c]; unfold dist; rw [if_pos (by omega)]; omega
        · rw [if_neg c]; unfold dist; rw [if_neg (by omega)]; omega
      rw [wk_s] at hv
      rw [if_neg (by rw [show (8 : Int32) = nI 8 from rfl]; exact nI_ge (by omega) (by omega)), if_neg (by rw [nI_eq (by omega) (by omega)]; exact e), hx6 a ha e (fun e5 => by rw [e5] at hij; unfold dist at hij; rw [if_pos (Nat.le_refl _)] at hij; omega) (hdir e), x_insideBegin hd hT hm hO hr ha ht hdt (by omega), ob1_s, ixd_nI (by omega) (by omega), (hT.2.2.2.2.2.2 r hr).2.2.2.2.1, nI_add, bnd_eq]
      generalize hT2 : (if a < b then a + 1 else a - 1) = t at ht hdt hv
      have hstop : sIF d m r a t s = none → Wp (some (sF S 4 g)) (fun o => ∃ g, o = sF S 4 g ∧ ∀ w, w < 8 → g w = nI (wB d m r b w)) := by
        intro h9
        rw [h9] at hv
        simp only at hv
        exact wp_some.mpr ⟨g, rfl, fun w hw => by rw [hg w hw, hv]⟩
      rcases oC_cases (sIB d m r a t s) with ⟨h2, h3⟩ | ⟨q, h2, h3⟩
      · rw [h3, if_neg (by rw [show (999 : Int32) = nI 999 from rfl]; exact nI_ge (by omega) (by omega))]
        exact hstop (by unfold sIF; rw [h2])
      · rw [h3]
        have hq : q ≤ 100998 := by
          have hw : min a t + 1 < d.n := by unfold dist at hdt; split at hdt <;> omega
          have htr := hd.tr9 _ hw
          unfold sIB at h2
          split at h2
          · cases h2
          · split at h2
            · cases h2
            · cases h2; omega
        by_cases c : q + d.ins r ≤ 999
        · have h9 : sIF d m r a t s = some q := by unfold sIF; rw [h2]; simp only; rw [if_pos c]
          rw [h9] at hv
          simp only at hv
          rw [if_pos (by rw [show (999 : Int32) = nI 999 from rfl]; exact nI_le c (by omega)), nI_min (by omega) (by omega), ixd_nI (by omega) (by omega), bnd_eq, sA_sF, wp_bnd, wp_bnd]
          refine ih j _ _ _ _ _ (by omega) ⟨i + 1, t, q + d.ins r, _, _, rfl, rfl, rfl, (nI_succ i).symm, rfl, ?_, by omega, ht, by omega, fun hne => ?_, fun w hw => ?_, hv⟩
          · rw [← hT2]; unfold dist at hj ⊢; split <;> split <;> split at hj <;> omega
          · rw [← hdir e, ← hT2]
            rw [← hT2] at hne
            by_cases c4 : a < b
            · rw [if_pos c4] at hne ⊢; omega
            · rw [if_neg c4] at hne ⊢; omega
          · rw [upd_at]
            by_cases e2 : w = min a t
            · rw [if_pos e2]; simp only [if_pos e2]
            · rw [if_neg e2]; simp only [if_neg e2]; exact hg w hw
        · rw [if_neg (by rw [show (999 : Int32) = nI 999 from rfl]; exact nI_ge (by omega) (by omega))]
          exact hstop (by unfold sIF; rw [h2]; simp only; rw [if_neg c])
  have key : Wp (f_X6_walk_v1 S T O (nI r) (nI b)) (fun o => ∃ g, o = sF S 4 g ∧ ∀ w, w < 8 → g w = nI (wB d m r b w)) := by
    unfold f_X6_walk_v1
    rw [bnd_eq, x_placeOf hd hm hO hr, ob1_s, ixd_nI (by omega) (by omega), (hT.2.2.2.2.2.2 r hr).2.2.2.1, x_startOf hd hm hO hr (by omega), ob1_s]
    by_cases c : plc m r ≤ b
    · rw [if_pos (nI_le c (by omega))]
      refine loop 1 (fun a ha hab hpb hiff => ?_)
      rw [if_pos (hiff.mpr (by omega))]; exact (nI_succ a).symm
    · rw [if_neg (nI_ge (by omega) (by omega))]
      refine loop (-1) (fun a ha hab hpb hiff => ?_)
      have c2 : ¬ a < b := fun h => by have := hiff.mp h; omega
      rw [if_neg c2, show (-1 : Int32) = -nI 1 from rfl, nI_addm (by omega)]
  obtain ⟨x, h1, g, h2, h3⟩ := key
  exact ⟨g, by rw [h1, h2], h3⟩
theorem x_walk2 (hd : TrOK d) (hT : TrC d T) (hm : MoOK d m) (hO : MoC d m O) {S : Sg} {r b : Nat} (hr : r < d.rd) (hb : b < d.n) : ∃ g, f_X6_walk_v2 S T O (nI r) (nI b) = some (sF S 5 g) ∧ ∀ w, w < 8 → g w = nI (wB d m r b w) := by
  have hn := hd.n8
  have h6 := hd.r6
  have hin := hd.inr hr
  have hpl := plc_lt hm hr
  have hkn := (hd.rr r hr).2.2.2
  have hso := sof_le hm hr (show d.kn r ≤ 99999 by omega)
  have loop : ∀ x6 : Int32, (∀ a, a < d.n → a ≠ b → plc m r ≠ b → (a < b ↔ plc m r < b) → nI a + x6 = nI (if a < b then a + 1 else a - 1)) → Wp (f_X6_walk_v2_b46 T O (nI r) (nI b) (nI (plc m r)) (nI (sof m r (d.kn r))) x6 (sF S 5 (fillf (S.2.1 5) 8 1000000))) (fun o => ∃ g, o = sF S 5 g ∧ ∀ w, w < 8 → g w = nI (wB d m r b w)) := by
    intro x6 hx6
    unfold f_X6_walk_v2_b46
    refine wp_fl5 (fun j x y z w Z => ∃ i a s B g, x = nI a ∧ y = nI s ∧ z = x6 ∧ w = nI i ∧ Z = sF S 5 g ∧ j = dist a b ∧ i + j = dist (plc m r) b ∧ a < d.n ∧ s ≤ 99999 ∧ (a ≠ b → (a < b ↔ plc m r < b)) ∧ (∀ w, w < 8 → g w = nI (B w)) ∧ wk d m r b j a s B = wB d m r b) ?_ (dist (plc m r) b) (FU_lt (by have := dist_lt hpl hb; omega)) _ _ _ _ _ ⟨0, plc m r, sof m r (d.kn r), fun _ => 1000000, _, rfl, rfl, rfl, rfl, rfl, rfl, by omega, hpl, hso, fun _ => Iff.rfl, fun w hw => by unfold fillf; rw [if_pos hw]; rfl, rfl⟩
    rintro j K _ _ _ _ _ ⟨i, a, s, B, g, rfl, rfl, rfl, rfl, rfl, hj, hij, ha, hs, hdir, hg, hv⟩ ih
    have hdl := dist_lt hpl hb
    unfold f_X6_walk_v2_b51
    cases j with
    | zero =>
      have e : a = b := by unfold dist at hj; split at hj <;> omega
      subst e
      rw [if_neg (by rw [show (8 : Int32) = nI 8 from rfl]; exact nI_ge (by omega) (by omega)), if_pos rfl]
      refine wp_some.mpr ⟨g, rfl, fun w hw => ?_⟩
      rw [hg w hw, ← hv]
      rfl
    | succ j =>
      have e : a ≠ b := by intro e; subst e; unfold dist at hj; rw [if_pos (Nat.le_refl _)] at hj; omega
      have ht : (if a < b then a + 1 else a - 1) < d.n := by split <;> omega
      have hdt : dist a (if a < b then a + 1 else a - 1) = 1 := by
        by_cases c : a < b
        · rw [if_pos c]; unfold dist; rw [if_pos (by omega)]; omega
        · rw [if_neg c]; unfold dist; rw [if_neg (by omega)]; omega
      rw [wk_s] at hv
      rw [if_neg (by rw [show (8 : Int32) = nI 8 from rfl]; exact nI_ge (by omega) (by omega)), if_neg (by rw [nI_eq (by omega) (by omega)]; exact e), hx6 a ha e (fun e5 => by rw [e5] at hij; unfold dist at hij; rw [if_pos (Nat.le_refl _)] at hij; omega) (hdir e), x_insideBegin hd hT hm hO hr ha ht hdt (by omega), ob1_s, ixd_nI (by omega) (by omega), (hT.2.2.2.2.2.2 r hr).2.2.2.2.1, nI_add, bnd_eq]
      generalize hT2 : (if a < b then a + 1 else a - 1) = t at ht hdt hv
      have hstop : sIF d m r a t s = none → Wp (some (sF S 5 g)) (fun o => ∃ g, o = sF S 5 g ∧ ∀ w, w < 8 → g w = nI (wB d m r b w)) := by
        intro h9
        rw [h9] at hv
        simp only at hv
        exact wp_some.mpr ⟨g, rfl, fun w hw => by rw [hg w hw, hv]⟩
      rcases oC_cases (sIB d m r a t s) with ⟨h2, h3⟩ | ⟨q, h2, h3⟩
      · rw [h3, if_neg (by rw [show (999 : Int32) = nI 999 from rfl]; exact nI_ge (by omega) (by omega))]
        exact hstop (by unfold sIF; rw [h2])
      · rw [h3]
        have hq : q ≤ 100998 := by
          have hw : min a t + 1 < d.n := by unfold dist at hdt; split at hdt <;> omega
          have htr := hd.tr9 _ hw
          unfold sIB at h2
          split at h2
          · cases h2
          · split at h2
            · cases h2
            · cases h2; omega
        by_cases c : q + d.ins r ≤ 999
        · have h9 : sIF d m r a t s = some q := by unfold sIF; rw [h2]; simp only; rw [if_pos c]
          rw [h9] at hv
          simp only at hv
          rw [if_pos (by rw [show (999 : Int32) = nI 999 from rfl]; exact nI_le c (by omega)), nI_min (by omega) (by omega), ixd_nI (by omega) (by omega), bnd_eq, sA_sF, wp_bnd, wp_bnd]
          refine ih j _ _ _ _ _ (by omega) ⟨i + 1, t, q + d.ins r, _, _, rfl, rfl, rfl, (nI_succ i).symm, rfl, ?_, by omega, ht, by omega, fun hne => ?_, fun w hw => ?_, hv⟩
          · rw [← hT2]; unfold dist at hj ⊢; split <;> split <;> split at hj <;> omega
          · rw [← hdir e, ← hT2]
            rw [← hT2] at hne
            by_cases c4 : a < b
            · rw [if_pos c4] at hne ⊢; omega
            · rw [if_neg c4] at hne ⊢; omega
          · rw [upd_at]
            by_cases e2 : w = min a t
            · rw [if_pos e2]; simp only [if_pos e2]
            · rw [if_neg e2]; simp only [if_neg e2]; exact hg w hw
        · rw [if_neg (by rw [show (999 : Int32) = nI 999 from rfl]; exact nI_ge (by omega) (by omega))]
          exact hstop (by unfold sIF; rw [h2]; simp only; rw [if_neg c])
  have key : Wp (f_X6_walk_v2 S T O (nI r) (nI b)) (fun o => ∃ g, o = sF S 5 g ∧ ∀ w, w < 8 → g w = nI (wB d m r b w)) := by
    unfold f_X6_walk_v2
    rw [bnd_eq, x_placeOf hd hm hO hr, ob1_s, ixd_nI (by omega) (by omega), (hT.2.2.2.2.2.2 r hr).2.2.2.1, x_startOf hd hm hO hr (by omega), ob1_s]
    by_cases c : plc m r ≤ b
    · rw [if_pos (nI_le c (by omega))]
      refine loop 1 (fun a ha hab hpb hiff => ?_)
      rw [if_pos (hiff.mpr (by omega))]; exact (nI_succ a).symm
    · rw [if_neg (nI_ge (by omega) (by omega))]
      refine loop (-1) (fun a ha hab hpb hiff => ?_)
      have c2 : ¬ a < b := fun h => by have := hiff.mp h; omega
      rw [if_neg c2, show (-1 : Int32) = -nI 1 from rfl, nI_addm (by omega)]
  obtain ⟨x, h1, g, h2, h3⟩ := key
  exact ⟨g, by rw [h1, h2], h3⟩
end
