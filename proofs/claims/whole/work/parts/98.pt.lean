/-! put: class and reference -/
theorem x_unlike' : ∀ o : Fin 256, f_X6_hasUnlikeDigits (nI o) = some (decide (dig o).Nodup) := by decide +kernel
theorem dgt' : ∀ (o : Fin 256) (k : Fin 4), (nI o >>> (([6, 4, 2, 0] : List Int32).getD k 0 &&& 31)) &&& 3 = nI (lk (dig o) k) := by decide +kernel
def shk (k : Nat) : Int32 := ([6, 4, 2, 0] : List Int32).getD k (-2)
theorem shk_s {k : Nat} (h : k < 4) : shk k + (-2) = shk (k + 1) ∧ ¬ shk k < 0 := by
  have h2 : k = 0 ∨ k = 1 ∨ k = 2 ∨ k = 3 := by omega
  rcases h2 with rfl | rfl | rfl | rfl <;> decide
theorem dgt {o k : Nat} (ho : o < 256) (hk : k < 4) : (nI o >>> (shk k &&& 31)) &&& 3 = nI (lk (dig o) k) := by
  have h := dgt' ⟨o, ho⟩ ⟨k, hk⟩
  have h2 : k = 0 ∨ k = 1 ∨ k = 2 ∨ k = 3 := by omega
  rcases h2 with rfl | rfl | rfl | rfl <;> exact h
theorem lk_dig {o k : Nat} (hk : k < 4) : lk (dig o) k < 4 := by
  have h2 : k = 0 ∨ k = 1 ∨ k = 2 ∨ k = 3 := by omega
  rcases h2 with rfl | rfl | rfl | rfl <;> exact Nat.mod_lt _ (by decide)
theorem take_s {o k : Nat} (hk : k < 4) : (dig o).take (k + 1) = (dig o).take k ++ [lk (dig o) k] := by
  have h2 : k = 0 ∨ k = 1 ∨ k = 2 ∨ k = 3 := by omega
  rcases h2 with rfl | rfl | rfl | rfl <;> rfl
theorem expd_a (mc : Nat → Nat) (l k : List Nat) : expd mc (l ++ k) = expd mc l ++ expd mc k := by unfold expd; rw [List.flatMap_append]
theorem expd_1 (mc : Nat → Nat) (a : Nat) : expd mc [a] = List.replicate (mc a) a := by rw [expd_c]; show _ ++ [] = _; rw [List.append_nil]
theorem pre_len (d : Tr) {l : List Nat} (hl : l.Nodup) : (expd (mcD d d.n) l).length ≤ d.n := by rw [expd_len]; exact (sum_mc d l hl d.n).1
theorem mcD_mono (d : Tr) {a k k' : Nat} (h : k ≤ k') : mcD d k a ≤ mcD d k' a := by
  induction k' with
  | zero => have : k = 0 := by omega
            subst this; exact Nat.le_refl _
  | succ k' ih =>
    by_cases e : k = k' + 1
    · subst e; exact Nat.le_refl _
    · have := ih (by omega)
      rw [mcD_s]; omega
section
variable {d : Tr} {m : Mo} {T O : Sg} {M : Sg}
theorem x_lineUp (hd : TrOK d) (hT : TrC d T) {S : Sg} {o : Nat} (ho : o < 256) (hod : (dig o).Nodup) : ∃ g, f_X6_lineUp S T (nI o) = some (sF S 7 g) ∧ hol g (lP d o) := by
  have hn := hd.n8
  have key : Wp (f_X6_lineUp S T (nI o)) (fun Z => ∃ g, Z = sF S 7 g ∧ hol g (lP d o)) := by
    unfold f_X6_lineUp
    refine wp_fl3 (fun j x y Z => ∃ k g, x = nI (expd (mcD d d.n) ((dig o).take k)).length ∧ y = shk k ∧ Z = sF S 7 g ∧ k + j = 4 ∧ hol g (expd (mcD d d.n) ((dig o).take k))) ?_ 4 (FU_lt (by omega)) _ _ _ ⟨0, S.2.1 7, rfl, rfl, (sF_self S 7).symm, by omega, fun i hi => absurd hi (by simp [expd])⟩
    rintro j K _ _ _ ⟨k, g, rfl, rfl, rfl, hkj, hg⟩ ih
    unfold f_X6_lineUp_b5
    cases j with
    | zero =>
      have e : k = 4 := by omega
      subst e
      rw [if_pos (by decide)]
      exact wp_some.mpr ⟨g, rfl, hg⟩
    | succ j =>
      have hk : k < 4 := by omega
      have hs := shk_s hk
      have hnd : ((dig o).take (k + 1)).Nodup := List.Nodup.sublist (List.take_sublist _ _) hod
      have hpl := pre_len d hnd
      rw [take_s hk, expd_a, expd_1, List.length_append, List.length_replicate] at hpl
      rw [if_neg hs.2, dgt ho hk, bnd_eq]
      generalize hl : expd (mcD d d.n) ((dig o).take k) = l at hg hpl
      generalize ha : lk (dig o) k = a at hpl
      have ha4 : a < 4 := by rw [← ha]; exact lk_dig hk
      refine wp_fl5 (fun q x y z w Z => ∃ c g', x = nI (l ++ List.replicate (mcD d c a) a).length ∧ y = shk k ∧ z = nI a ∧ w = nI c ∧ Z = sF S 7 g' ∧ c + q = d.n ∧ hol g' (l ++ List.replicate (mcD d c a) a)) ?_ d.n (FU_lt (by omega)) _ _ _ _ _ ⟨0, g, by show _ = nI (l ++ []).length; rw [List.append_nil], rfl, rfl, rfl, rfl, by omega, by show hol g (l ++ []); rw [List.append_nil]; exact hg⟩
      rintro q K2 _ _ _ _ _ ⟨c, g', rfl, rfl, rfl, rfl, rfl, hcq, hg'⟩ ih2
      unfold f_X6_lineUp_b19 f_X6_lineUp_b69
      cases q with
      | zero =>
        have e : c = d.n := by omega
        subst e
        rw [hT.1.1, if_pos (nI_le (Nat.le_refl _) (by omega)), wp_bnd, hs.1]
        have e2 : l ++ List.replicate (mcD d d.n a) a = expd (mcD d d.n) ((dig o).take (k + 1)) := by rw [take_s hk, expd_a, expd_1, hl, ha]
        rw [e2] at hg' ⊢
        exact ih j _ _ _ (by omega) ⟨k + 1, g', rfl, rfl, rfl, by omega, hg'⟩
      | succ q =>
        have hc : c < d.n := by omega
        have hg3 := hd.g3 c hc
        have hmono := mcD_mono d (a := a) (show c + 1 ≤ d.n by omega)
        rw [mcD_s] at hmono
        rw [hT.1.1, if_neg (nI_ge hc (by omega)), ixd_nI (by omega) (by omega), (hT.2.2.2.1 c hc).1]
        by_cases c1 : d.g c = a
        · rw [if_pos c1] at hmono
          have e3 : l ++ List.replicate (mcD d (c + 1) a) a = (l ++ List.replicate (mcD d c a) a) ++ [a] := by
            rw [mcD_s, if_pos c1, List.replicate_succ', List.append_assoc]
          have hlen : (l ++ List.replicate (mcD d c a) a).length < 8 := by
            rw [List.length_append, List.length_replicate]; omega
          rw [if_pos (by rw [c1]), if_neg (by rw [show (8 : Int32) = nI 8 from rfl]; exact nI_ge hlen (by omega)), ixd_nI hlen (by omega), bnd_eq, sA_sF, wp_bnd, wp_bnd]
          have hnew := hol_app hg' a
          rw [← e3] at hnew
          refine ih2 q _ _ _ _ _ (by omega) ⟨c + 1, _, ?_, rfl, rfl, (nI_succ c).symm, rfl, by omega, hnew⟩
          rw [e3, List.length_append (bs := [a])]
          exact (nI_succ _).symm
        · have e3 : mcD d (c + 1) a = mcD d c a := by rw [mcD_s, if_neg c1]; rfl
          rw [if_neg (by rw [nI_eq (by omega) (by omega)]; exact c1), wp_bnd]
          exact ih2 q _ _ _ _ _ (by omega) ⟨c + 1, g', by rw [e3], rfl, rfl, (nI_succ c).symm, rfl, by omega, by rw [e3]; exact hg'⟩
  obtain ⟨x, h1, g, h2, h3⟩ := key
  exact ⟨g, by rw [h1, h2], h3⟩
theorem x_mis (hd : TrOK d) (hT : TrC d T) (hm : MoOK d m) (hO : MoC d m O) {S : Sg} {l : List Nat} (hl : l.length = d.n) (hS : hol (S.2.1 7) l) (hl4 : ∀ i, i < d.n → lk l i < 4) : f_X6_misplacedRiders S T O = some (nI (cst d m l)) := by
  have hn := hd.n8
  have h6 := hd.r6
  unfold f_X6_misplacedRiders cst
  generalize hv : cnt (fun r => !(decide (lk l (m.co r) = d.ds r))) d.rd 0 0 = v
  refine wp_val.mp (wp_fl2 (fun j x y => ∃ k c, x = nI c ∧ y = nI k ∧ k + j = d.rd ∧ cnt (fun r => !(decide (lk l (m.co r) = d.ds r))) j k c = v) ?_ d.rd (FU_lt (by omega)) _ _ ⟨0, 0, rfl, rfl, by omega, hv⟩)
  rintro j K _ _ ⟨k, c, rfl, rfl, hkj, hc⟩ ih
  unfold f_X6_misplacedRiders_b4 f_X6_misplacedRiders_b53
  cases j with
  | zero =>
    have e : k = d.rd := by omega
    subst e
    rw [hT.1.2.2, if_pos (nI_le (Nat.le_refl _) (by omega)), wp_some, ← hc]
    rfl
  | succ j =>
    have hk : k < d.rd := by omega
    have hco := hm.2.2.2.1 k hk
    have hds := (hd.rr k hk).1
    have h4 := hl4 _ hco
    rw [cnt_s] at hc
    rw [hT.1.2.2, if_neg (nI_ge hk (by omega)), ixd_nI (by omega) (by omega), (hO.2 k hk).1, ixd_nI (by omega) (by omega), ixd_nI (by omega) (by omega), hS (m.co k) (by omega), (hT.2.2.2.2.2.2 k hk).1]
    by_cases e : lk l (m.co k) = d.ds k
    · rw [if_pos (by rw [e]), wp_bnd]
      simp only [e, decide_true, Bool.not_true, Bool.false_eq_true, if_false] at hc
      exact ih j _ _ (by omega) ⟨k + 1, c, rfl, (nI_succ k).symm, by omega, hc⟩
    · rw [if_neg (by rw [nI_eq (by omega) (by omega)]; exact e), wp_bnd, wp_bnd]
      simp only [e, decide_false, Bool.not_false, if_true] at hc
      exact ih j _ _ (by omega) ⟨k + 1, c + 1, (nI_succ c).symm, (nI_succ k).symm, by omega, hc⟩
theorem lk_mem : ∀ (l : List Nat) (i : Nat), i < l.length → lk l i ∈ l := by
  intro l
  induction l with
  | nil => intro i h; simp at h
  | cons a l ih =>
    intro i h
    cases i with
    | zero => exact List.mem_cons_self
    | succ i => exact List.mem_cons_of_mem _ (ih i (by simp at h; omega))
theorem lP_4 (hd : TrOK d) {o : Nat} (ho : o < 256) (hod : (dig o).Nodup) : ∀ i, i < d.n → lk (lP d o) i < 4 := by
  intro i hi
  have h := lk_mem (lP d o) i (by rw [lP_len hd ho hod]; exact hi)
  unfold lP expd at h
  rw [List.mem_flatMap] at h
  obtain ⟨a, h1, h2⟩ := h
  rw [List.mem_replicate] at h2
  have h3 : lk (lP d o) i = a := h2.2
  rw [h3]
  exact dig_lt h1
theorem x_order (hd : TrOK d) (hT : TrC d T) (hm : MoOK d m) (hO : MoC d m O) {S : Sg} : Wp (f_X6_findOrder S T O) (fun o => o.1 = nI (fo d m 256 0 (1000000, none)).1 ∧ ∀ b, (fo d m 256 0 (1000000, none)).2 = some b → ∀ i, i < d.n → o.2.2.1 6 i = nI (lk (lP d b) i)) := by
  have hn := hd.n8
  have h6 := hd.r6
  unfold f_X6_findOrder
  refine wp_fl3 (fun j (x y : Int32) (Z : Sg) => ∃ (o : Nat) (t : Nat × Option Nat), x = nI t.1 ∧ y = nI o ∧ o + j = 256 ∧ t.1 ≤ 1000000 ∧ (∀ b, t.2 = some b → ∀ i, i < d.n → Z.2.1 6 i = nI (lk (lP d b) i)) ∧ fo d m j o t = fo d m 256 0 (1000000, none)) ?_ 256 (FU_lt (by omega)) _ _ _ ⟨0, (1000000, none), rfl, rfl, by omega, Nat.le_refl _, (fun b hb => by cases hb), rfl⟩
  rintro j K _ _ Z ⟨o, t, rfl, rfl, hoj, ht, hZ, hv⟩ ih
  unfold f_X6_findOrder_b5 f_X6_findOrder_b51
  cases j with
  | zero =>
    have e : o = 256 := by omega
    subst e
    have hv2 : t = fo d m 256 0 (1000000, none) := hv
    rw [if_pos (by decide), wp_some, ← hv2]
    exact ⟨rfl, hZ⟩
  | succ j =>
    have ho : o < 256 := by omega
    rw [fo_s] at hv
    have hun := x_unlike' ⟨o, ho⟩
    simp only at hun
    rw [if_neg (by rw [show (256 : Int32) = nI 256 from rfl]; exact nI_ge ho (by omega)), hun, ob1_s]
    by_cases c1 : (dig o).Nodup
    · simp only [c1, decide_true]
      have hcl := cst_le d m (lP d o)
      obtain ⟨g, g1, g2⟩ := x_lineUp hd hT (S := Z) ho c1
      have e7 : (sF Z 7 g).2.1 7 = g := rfl
      have e6 : (sF Z 7 g).2.1 6 = Z.2.1 6 := rfl
      rw [itT, g1, ob1_s, x_mis hd hT hm hO (lP_len hd ho c1) (by rw [e7]; exact g2) (lP_4 hd ho c1), ob1_s]
      by_cases c2 : t.1 ≤ cst d m (lP d o)
      · rw [if_pos (nI_le c2 (by omega)), wp_bnd]
        rw [if_neg (fun h => by omega)] at hv
        exact ih j _ _ _ (by omega) ⟨o + 1, t, rfl, (nI_succ o).symm, by omega, ht, by rw [e6]; exact hZ, hv⟩
      · rw [if_neg (nI_ge (by omega) (by omega)), wp_bnd, wp_bnd]
        rw [if_pos ⟨c1, by omega⟩] at hv
        refine ih j _ _ _ (by omega) ⟨o + 1, (cst d m (lP d o), some o), rfl, (nI_succ o).symm, by omega, by show cst d m (lP d o) ≤ 1000000; omega, fun b hb i hi => ?_, hv⟩
        cases hb
        show va_cpy g (Z.2.1 6) 0 0 8 i = _
        rw [cpy0 _ _ (by omega)]
        exact g2 i (by rw [lP_len hd ho c1]; exact hi)
    · simp only [c1, decide_false]
      rw [itF, wp_bnd]
      rw [if_neg (fun h => c1 h.1)] at hv
      exact ih j _ _ _ (by omega) ⟨o + 1, t, rfl, (nI_succ o).symm, by omega, ht, hZ, hv⟩
/-! the reference -/
theorem m_wrong (hd : TrOK d) (hM : TrM d (M.2.1 20)) (hm : MoOK d m) (hN : MoM d m (M.2.1 20)) {l : List Nat} (hl : l.length = d.n) (hS : hol (M.2.1 31) l) (hl4 : ∀ i, i < d.n → lk l i < 4) : f_X12_wrongAsPut M = some (nI (cst d m l)) := by
  have hn := hd.n8
  have h6 := hd.r6
  unfold f_X12_wrongAsPut cst
  generalize hv : cnt (fun r => !(decide (lk l (m.co r) = d.ds r))) d.rd 0 0 = v
  refine wp_val.mp (wp_fl2 (fun j x y => ∃ k c, x = nI c ∧ y = nI k ∧ k + j = d.rd ∧ cnt (fun r => !(decide (lk l (m.co r) = d.ds r))) j k c = v) ?_ d.rd (FU_lt (by omega)) _ _ ⟨0, 0, rfl, rfl, by omega, hv⟩)
  rintro j K _ _ ⟨k, c, rfl, rfl, hkj, hc⟩ ih
  unfold f_X12_wrongAsPut_b4 f_X12_wrongAsPut_b40
  cases j with
  | zero =>
    have e : k = d.rd := by omega
    subst e
    rw [hM.1.2.2, if_pos (nI_le (Nat.le_refl _) (by omega)), wp_some, ← hc]
    rfl
  | succ j =>
    have hk : k < d.rd := by omega
    have hco := hm.2.2.2.1 k hk
    have hds := (hd.rr k hk).1
    have h4 := hl4 _ hco
    rw [cnt_s] at hc
    rw [hM.1.2.2, if_neg (nI_ge hk (by omega)), m_rO0 (by omega), ob1_s, (hN.2.2 k hk).1, ixd_nI (by omega) (by omega), show (1 : Int32) = nI 1 from rfl, m_riderOf (by omega) (by omega), ob1_s, (hM.2.2.2.2.2 k hk).1, hS (m.co k) (by omega)]
    by_cases e : lk l (m.co k) = d.ds k
    · rw [if_pos (by rw [e]), wp_bnd, wp_bnd, add_0, nI_add]
      simp only [e, decide_true, Bool.not_true, Bool.false_eq_true, if_false] at hc
      exact ih j _ _ (by omega) ⟨k + 1, c, rfl, rfl, by omega, hc⟩
    · rw [if_neg (by rw [nI_eq (by omega) (by omega)]; exact e), wp_bnd, wp_bnd, nI_add, nI_add]
      simp only [e, decide_false, Bool.not_false, if_true] at hc
      exact ih j _ _ (by omega) ⟨k + 1, c + 1, rfl, rfl, by omega, hc⟩
theorem ltL_at : ∀ (j i : Nat) (l k : List Nat), l.length = i + j → k.length = i + j → ltL (l.drop i) (k.drop i) = (match j with | 0 => false | j + 1 => if lk l i = lk k i then ltL (l.drop (i + 1)) (k.drop (i + 1)) else decide (lk l i < lk k i)) := by
  intro j i l k hl hk
  cases j with
  | zero =>
    have h1 : l.drop i = [] := List.drop_eq_nil_of_le (by omega)
    rw [h1]
    rfl
  | succ j =>
    have hd : ∀ (l : List Nat) (i : Nat), i < l.length → l.drop i = lk l i :: l.drop (i + 1) := by
      intro l
      induction l with
      | nil => intro i h; simp at h
      | cons a l ih =>
        intro i h
        cases i with
        | zero => rfl
        | succ i => exact ih i (by simp at h; omega)
    rw [hd l i (by omega), hd k i (by omega)]
    rfl
theorem m_first (hd : TrOK d) (hM : TrM d (M.2.1 20)) {l k : List Nat} (hl : l.length = d.n) (hk : k.length = d.n) (h1 : hol (M.2.1 31) l) (h2 : ∀ i, i < d.n → M.2.1 32 i = nI (lk k i)) (hl4 : ∀ i, i < d.n → lk l i < 4) (hk4 : ∀ i, i < d.n → lk k i < 4) : f_X12_isFirstPut M = some (ltL l k) := by
  have hn := hd.n8
  unfold f_X12_isFirstPut
  refine wp_val.mp (wp_fl1 (fun j x => ∃ i, x = nI i ∧ i + j = d.n ∧ ltL (l.drop i) (k.drop i) = ltL l k) ?_ d.n (FU_lt (by omega)) _ ⟨0, rfl, by omega, rfl⟩)
  rintro j K _ ⟨i, rfl, hij, hv⟩ ih
  unfold f_X12_isFirstPut_b2
  have hat := ltL_at j i l k (by omega) (by omega)
  cases j with
  | zero =>
    have e : i = d.n := by omega
    subst e
    simp only at hat
    rw [hM.1.1, if_pos (nI_le (Nat.le_refl _) (by omega)), wp_some, ← hv, hat]
  | succ j =>
    have hi : i < d.n := by omega
    have a1 := hl4 i hi
    have a2 := hk4 i hi
    simp only at hat
    rw [hM.1.1, if_neg (nI_ge hi (by omega)), ixd_nI (by omega) (by omega), ixd_nI (by omega) (by omega), ixd_nI (by omega) (by omega), ixd_nI (by omega) (by omega), h1 i (by omega), h2 i hi]
    by_cases c1 : lk l i = lk k i
    · rw [if_pos (by rw [c1]), wp_bnd]
      rw [if_pos c1] at hat
      exact ih j _ (by omega) ⟨i + 1, (nI_succ i).symm, by omega, by rw [← hat]; exact hv⟩
    · rw [if_neg (by rw [nI_eq (by omega) (by omega)]; exact c1)]
      rw [if_neg c1] at hat
      by_cases c2 : lk k i ≤ lk l i
      · rw [if_pos (nI_le c2 (by omega)), wp_some, ← hv, hat]
        simp; omega
      · rw [if_neg (nI_ge (by omega) (by omega)), wp_some, ← hv, hat]
        simp; omega
/-- bits of a row of digits -/
def bts : List Nat → Nat
  | [] => 0
  | a :: l => 2 ^ a ||| bts l
theorem bts_ok : ∀ (l : List Nat), (∀ a, a ∈ l → a < 4) → bts l < 16 ∧ ∀ x, x < 4 → ((bts l).testBit x = true ↔ x ∈ l) := by
  intro l
  induction l with
  | nil => intro _; exact ⟨by decide, fun x _ => by simp [bts]⟩
  | cons a l ih =>
    intro h
    obtain ⟨h1, h2⟩ := ih (fun x hx => h x (List.mem_cons_of_mem _ hx))
    have ha := h a List.mem_cons_self
    have ht : ∀ (v : Fin 16) (a x : Fin 4), (2 ^ a.val ||| v.val) < 16 ∧ ((2 ^ a.val ||| v.val).testBit x = true ↔ (x = a ∨ v.val.testBit x = true)) := by decide +kernel
    refine ⟨(ht ⟨bts l, h1⟩ ⟨a, ha⟩ ⟨0, by decide⟩).1, fun x hx => ?_⟩
    have h3 := (ht ⟨bts l, h1⟩ ⟨a, ha⟩ ⟨x, hx⟩).2
    simp only [Fin.mk.injEq] at h3
    show (2 ^ a ||| bts l).testBit x = true ↔ _
    rw [h3, h2 x hx, List.mem_cons]
theorem wp_fl6 {α0 α1 α2 α3 α4 α5 ρ : Type} {Q : ρ → Prop} {F : (α0 → α1 → α2 → α3 → α4 → α5 → Option ρ) → α0 → α1 → α2 → α3 → α4 → α5 → Option ρ} (I : Nat → α0 → α1 → α2 → α3 → α4 → α5 → Prop) (hs : ∀ m k x0 x1 x2 x3 x4 x5, I m x0 x1 x2 x3 x4 x5 → (∀ m' y0 y1 y2 y3 y4 y5, m' < m → I m' y0 y1 y2 y3 y4 y5 → Wp (k y0 y1 y2 y3 y4 y5) Q) → Wp (F k x0 x1 x2 x3 x4 x5) Q) {N : Nat} : ∀ m, m < N → ∀ x0 x1 x2 x3 x4 x5, I m x0 x1 x2 x3 x4 x5 → Wp (fl6 F N x0 x1 x2 x3 x4 x5) Q := by
  induction N with
  | zero => intro m hm; omega
  | succ N ih => intro m hm x0 x1 x2 x3 x4 x5 hI; exact hs m _ x0 x1 x2 x3 x4 x5 hI (fun m' y0 y1 y2 y3 y4 y5 hm' hI' => ih m' (by omega) y0 y1 y2 y3 y4 y5 hI')
theorem m_isOrder (hd : TrOK d) (h30 : ∀ a, a < 4 → M.2.1 30 a = nI (mcD d d.n a)) {o : Nat} (ho : o < 256) : ∃ g, f_X12_isOrder M (nI o) = some (decide (dig o).Nodup, sF M 31 g) ∧ ((dig o).Nodup → hol g (lP d o)) := by
  have hn := hd.n8
  have key : Wp (f_X12_isOrder M (nI o)) (fun p => ∃ g, p = (decide (dig o).Nodup, sF M 31 g) ∧ ((dig o).Nodup → hol g (lP d o))) := by
    unfold f_X12_isOrder
    refine wp_fl4 (fun j x y z Z => ∃ k g, x = nI (bts ((dig o).take k).reverse) ∧ y = nI (expd (mcD d d.n) ((dig o).take k)).length ∧ z = shk k ∧ Z = sF M 31 g ∧ k + j = 4 ∧ ((dig o).take k).Nodup ∧ hol g (expd (mcD d d.n) ((dig o).take k))) ?_ 4 (FU_lt (by omega)) _ _ _ _ ⟨0, M.2.1 31, rfl, rfl, rfl, (sF_self M 31).symm, by omega, List.nodup_nil, fun i hi => absurd hi (by simp [expd])⟩
    rintro j K _ _ _ _ ⟨k, g, rfl, rfl, rfl, rfl, hkj, hnd, hg⟩ ih
    unfold f_X12_isOrder_b8
    cases j with
    | zero =>
      have e : k = 4 := by omega
      subst e
      have hnd2 : (dig o).Nodup := hnd
      rw [if_pos (by decide)]
      exact wp_some.mpr ⟨g, by simp [hnd2], fun _ => hg⟩
    | succ j =>
      have hk : k < 4 := by omega
      have hs := shk_s hk
      have hb := bts_ok ((dig o).take k).reverse (fun a ha => dig_lt (List.mem_of_mem_take (List.mem_reverse.mp ha)))
      have ha4 := lk_dig (o := o) hk
      have hmem := hb.2 (lk (dig o) k) ha4
      rw [List.mem_reverse] at hmem
      rw [if_neg hs.2, dgt ho hk, bnd_eq, m_isOf (by omega) (by omega), ob1_s]
      by_cases c1 : lk (dig o) k ∈ (dig o).take k
      · rw [hmem.mpr c1, itT]
        have hnot : ¬ (dig o).Nodup := by
          intro h9
          have h8 : ((dig o).take (k + 1)).Nodup := List.Nodup.sublist (List.take_sublist _ _) h9
          rw [take_s hk, List.nodup_append] at h8
          exact h8.2.2 _ c1 _ List.mem_cons_self rfl
        exact wp_some.mpr ⟨g, by simp [hnot], fun h => absurd h hnot⟩
      · have h9 : (bts ((dig o).take k).reverse).testBit (lk (dig o) k) = false := by
          cases h8 : (bts ((dig o).take k).reverse).testBit (lk (dig o) k) with
          | false => rfl
          | true => exact absurd (hmem.mp h8) c1
        have hnd2 : ((dig o).take (k + 1)).Nodup := by
          rw [take_s hk, List.nodup_append]
          refine ⟨hnd, by simp, fun x hx y hy => ?_⟩
          rw [List.mem_singleton] at hy
          rw [hy]
          exact fun e => c1 (e ▸ hx)
        have hpl := pre_len d hnd2
        rw [take_s hk, expd_a, expd_1, List.length_append, List.length_replicate] at hpl
        have hor := (or_step ⟨bts ((dig o).take k).reverse, by omega⟩ ⟨lk (dig o) k, by omega⟩).1
        simp only at hor
        rw [h9, itF, hor, bnd_eq]
        have eb : bts ((dig o).take k).reverse ||| 2 ^ lk (dig o) k = bts ((dig o).take (k + 1)).reverse := by
          rw [take_s hk, List.reverse_append]
          show _ = 2 ^ lk (dig o) k ||| bts ((dig o).take k).reverse
          exact Nat.or_comm _ _
        rw [eb]
        generalize hl : expd (mcD d d.n) ((dig o).take k) = l at hg hpl
        have hlk := hl
        generalize hA : lk (dig o) k = a at hpl ha4
        refine wp_fl6 (fun q x y z w v Z => ∃ i g', x = nI (bts ((dig o).take (k + 1)).reverse) ∧ y = nI (l ++ List.replicate i a).length ∧ z = shk k ∧ w = nI a ∧ v = nI i ∧ Z = sF M 31 g' ∧ i + q = mcD d d.n a ∧ hol g' (l ++ List.replicate i a)) ?_ (mcD d d.n a) (FU_lt (by omega)) _ _ _ _ _ _ ⟨0, g, rfl, by show _ = nI (l ++ []).length; rw [List.append_nil], rfl, rfl, rfl, rfl, by omega, by show hol g (l ++ []); rw [List.append_nil]; exact hg⟩
        rintro q K2 _ _ _ _ _ _ ⟨i, g', rfl, rfl, rfl, rfl, rfl, rfl, hiq, hg'⟩ ih2
        unfold f_X12_isOrder_b42
        have e30 : (sF M 31 g').2.1 30 = M.2.1 30 := rfl
        rw [ixd_nI (by omega) (by omega), e30, h30 a ha4]
        cases q with
        | zero =>
          have e : i = mcD d d.n a := by omega
          subst e
          rw [if_pos (nI_le (Nat.le_refl _) (by omega)), wp_bnd, hs.1]
          have e2 : l ++ List.replicate (mcD d d.n a) a = expd (mcD d d.n) ((dig o).take (k + 1)) := by rw [take_s hk, expd_a, expd_1, hlk, hA]
          rw [e2] at hg' ⊢
          exact ih j _ _ _ _ (by omega) ⟨k + 1, g', rfl, rfl, rfl, rfl, by omega, hnd2, hg'⟩
        | succ q =>
          have e3 : l ++ List.replicate (i + 1) a = (l ++ List.replicate i a) ++ [a] := by rw [List.replicate_succ', List.append_assoc]
          have hlen : (l ++ List.replicate i a).length < 8 := by rw [List.length_append, List.length_replicate]; omega
          rw [if_neg (nI_ge (by omega) (by omega)), ixd_nI hlen (by omega), bnd_eq, sA_sF, wp_bnd, wp_bnd]
          have hnew := hol_app hg' a
          rw [← e3] at hnew
          refine ih2 q _ _ _ _ _ _ (by omega) ⟨i + 1, _, rfl, ?_, rfl, rfl, (nI_succ i).symm, rfl, by omega, hnew⟩
          rw [e3, List.length_append (bs := [a])]
          exact (nI_succ _).symm
  obtain ⟨x, h1, g, h2, h3⟩ := key
  exact ⟨g, by rw [h1, h2], h3⟩
/-- what the best order is, so far -/
def bst (d : Tr) (m : Mo) (o : Nat) (t : Nat × Option Nat) : Prop := match t.2 with
  | none => t.1 = 1000000 ∧ ∀ q, q < o → ¬ (dig q).Nodup
  | some b => b < o ∧ (dig b).Nodup ∧ cst d m (lP d b) = t.1 ∧ (∀ q, q < b → (dig q).Nodup → t.1 < cst d m (lP d q)) ∧ ∀ q, q < o → (dig q).Nodup → t.1 ≤ cst d m (lP d q)
def xF (t : Nat × Option Nat) : Int32 := match t.2 with | none => -1 | some _ => nI t.1
theorem m_putL (hd : TrOK d) (hm : MoOK d m) (hM : TrM d (M.2.1 20)) (hN : MoM d m (M.2.1 20)) (h30 : ∀ a, a < 4 → M.2.1 30 a = nI (mcD d d.n a)) {p1 : Int32} (hp1 : p1 = -1 ∨ ∃ c, c < d.n ∧ p1 = nI c) : Wp (fl3 (f_X12_put_b90 p1) FU (-1) 0 M) (fun o => pjM o.2 = pjM M ∧ o.1 = (if p1 = -1 then xF (fo d m 256 0 (1000000, none)) else match (fo d m 256 0 (1000000, none)).2 with | none => o.1 | some b => nI (lk (lP d b) p1.toNatClampNeg))) := by
  have hn := hd.n8
  have h6 := hd.r6
  refine wp_fl3 (fun j (x y : Int32) (Z : Sg) => ∃ (o : Nat) (t : Nat × Option Nat), x = xF t ∧ y = nI o ∧ o + j = 256 ∧ bst d m o t ∧ pjM Z = pjM M ∧ (∀ a, a < 4 → Z.2.1 30 a = nI (mcD d d.n a)) ∧ (∀ b, t.2 = some b → ∀ i, i < d.n → Z.2.1 32 i = nI (lk (lP d b) i)) ∧ fo d m j o t = fo d m 256 0 (1000000, none)) ?_ 256 (FU_lt (by omega)) _ _ _ ⟨0, (1000000, none), rfl, rfl, by omega, ⟨rfl, fun q hq => by omega⟩, rfl, h30, (fun b hb => by cases hb), rfl⟩
  rintro j K _ _ Z ⟨o, t, rfl, rfl, hoj, hbst, hZp, hZ30, hZ32, hv⟩ ih
  have e20 := pj20 hZp
  have hMZ : TrM d (Z.2.1 20) := by rw [e20]; exact hM
  have hNZ : MoM d m (Z.2.1 20) := by rw [e20]; exact hN
  unfold f_X12_put_b90 f_X12_put_b140 f_X12_put_b177
  cases j with
  | zero =>
    have e : o = 256 := by omega
    subst e
    have hv2 : t = fo d m 256 0 (1000000, none) := hv
    rw [if_pos (by decide), ← hv2]
    by_cases c : p1 = -1
    · rw [if_pos c]; exact wp_some.mpr ⟨hZp, by rw [if_pos c]⟩
    · rcases hp1 with h | ⟨x, hx, rfl⟩
      · exact absurd h c
      · rw [if_neg c, ixd_nI (by omega) (by omega)]
        refine wp_some.mpr ⟨hZp, ?_⟩
        rw [if_neg c, nI_clamp (by omega)]
        cases h2 : t.2 with
        | none => rfl
        | some b => exact hZ32 b h2 x hx
  | succ j =>
    have ho : o < 256 := by omega
    rw [fo_s] at hv
    obtain ⟨g, g1, g2⟩ := m_isOrder hd hZ30 ho
    rw [if_neg (by rw [show (256 : Int32) = nI 256 from rfl]; exact nI_ge ho (by omega)), g1, ob2_s]
    dsimp only
    have hMg : TrM d ((sF Z 31 g).2.1 20) := hMZ
    have hNg : MoM d m ((sF Z 31 g).2.1 20) := hNZ
    by_cases c1 : (dig o).Nodup
    · simp only [c1, decide_true]
      have hcl := cst_le d m (lP d o)
      have hlen := lP_len hd ho c1
      have hl4 := lP_4 hd ho c1
      have hhol : hol ((sF Z 31 g).2.1 31) (lP d o) := g2 c1
      rw [itT, m_wrong hd hMg hm hNg hlen hhol hl4, ob1_s]
      have hskip : ¬ cst d m (lP d o) < t.1 → Wp (bnd (nI o + 1) fun x3_177 => K (xF t) x3_177 (sF Z 31 g)) (fun o => pjM o.2 = pjM M ∧ o.1 = (if p1 = -1 then xF (fo d m 256 0 (1000000, none)) else match (fo d m 256 0 (1000000, none)).2 with | none => o.1 | some b => nI (lk (lP d b) p1.toNatClampNeg))) := by
        intro hx
        rw [wp_bnd]
        rw [if_neg (fun h => hx h.2)] at hv
        refine ih j _ _ _ (by omega) ⟨o + 1, t, rfl, (nI_succ o).symm, by omega, ?_, hZp, hZ30, hZ32, hv⟩
        unfold bst at hbst ⊢
        cases h2 : t.2 with
        | none => rw [h2] at hbst; simp only at hbst; omega
        | some b =>
          rw [h2] at hbst
          simp only at hbst ⊢
          refine ⟨by omega, hbst.2.1, hbst.2.2.1, hbst.2.2.2.1, fun q hq hqd => ?_⟩
          by_cases e : q = o
          · subst e; omega
          · exact hbst.2.2.2.2 q (by omega) hqd
      have htake : cst d m (lP d o) < t.1 → Wp (fl4 (f_X12_put_b146 p1 K) FU (nI (cst d m (lP d o))) (nI o) 0 (sF Z 31 g)) (fun o => pjM o.2 = pjM M ∧ o.1 = (if p1 = -1 then xF (fo d m 256 0 (1000000, none)) else match (fo d m 256 0 (1000000, none)).2 with | none => o.1 | some b => nI (lk (lP d b) p1.toNatClampNeg))) := by
        intro hx
        rw [if_pos ⟨c1, hx⟩] at hv
        refine wp_fl4 (fun q (x y z : Int32) (Y : Sg) => ∃ c w, x = nI (cst d m (lP d o)) ∧ y = nI o ∧ z = nI c ∧ Y = sF (sF Z 31 g) 32 w ∧ c + q = d.n ∧ ∀ i, i < c → w i = nI (lk (lP d o) i)) ?_ d.n (FU_lt (by omega)) _ _ _ _ ⟨0, Z.2.1 32, rfl, rfl, rfl, (sF_self (sF Z 31 g) 32).symm, by omega, fun i hi => by omega⟩
        rintro q K2 _ _ _ _ ⟨c, w, rfl, rfl, rfl, rfl, hcq, hw⟩ ih2
        unfold f_X12_put_b146 f_X12_put_b177
        have hMw : TrM d ((sF (sF Z 31 g) 32 w).2.1 20) := hMZ
        rw [hMw.1.1]
        cases q with
        | zero =>
          have e : c = d.n := by omega
          subst e
          rw [if_pos (nI_le (Nat.le_refl _) (by omega)), wp_bnd]
          refine ih j _ _ _ (by omega) ⟨o + 1, (cst d m (lP d o), some o), rfl, (nI_succ o).symm, by omega, ⟨by omega, c1, rfl, fun q hq hqd => ?_, fun q hq hqd => ?_⟩, hZp, hZ30, fun b hb i hi => by cases hb; exact hw i hi, hv⟩
          · show cst d m (lP d o) < cst d m (lP d q)
            unfold bst at hbst
            cases h2 : t.2 with
            | none => rw [h2] at hbst; exact absurd hqd (hbst.2 q hq)
            | some b => rw [h2] at hbst; simp only at hbst; have := hbst.2.2.2.2 q hq hqd; omega
          · show cst d m (lP d o) ≤ cst d m (lP d q)
            by_cases e : q = o
            · subst e; exact Nat.le_refl _
            · unfold bst at hbst
              cases h2 : t.2 with
              | none => rw [h2] at hbst; exact absurd hqd (hbst.2 q (by omega))
              | some b => rw [h2] at hbst; simp only at hbst; have := hbst.2.2.2.2 q (by omega) hqd; omega
        | succ q =>
          have hc : c < d.n := by omega
          have e31 : (sF (sF Z 31 g) 32 w).2.1 31 = g := rfl
          rw [if_neg (nI_ge hc (by omega)), ixd_nI (by omega) (by omega), ixd_nI (by omega) (by omega), bnd_eq, sA_sF, e31, (show g c = nI (lk (lP d o) c) from g2 c1 c (by omega)), wp_bnd]
          refine ih2 q _ _ _ _ (by omega) ⟨c + 1, _, rfl, rfl, (nI_succ c).symm, rfl, by omega, fun i hi => ?_⟩
          rw [upd_at]
          by_cases e : i = c
          · rw [if_pos e, e]
          · rw [if_neg e]; exact hw i (by omega)
      unfold bst at hbst
      cases h2 : t.2 with
      | none =>
        rw [h2] at hbst
        simp only at hbst
        have e5 : xF t < 0 := by unfold xF; rw [h2]; show (-1 : Int32) < 0; decide
        rw [if_pos e5]
        exact htake (by omega)
      | some b =>
        rw [h2] at hbst
        simp only at hbst
        have hbl := cst_le d m (lP d b)
        have e5 : xF t = nI t.1 := by unfold xF; rw [h2]
        rw [e5, if_neg (nI_pos (by omega))]
        rw [e5] at hskip
        by_cases c2 : t.1 < cst d m (lP d o)
        · rw [if_pos (nI_lt c2 (by omega))]; exact hskip (by omega)
        · rw [if_neg (nI_nlt (by omega) (by omega))]
          by_cases c3 : cst d m (lP d o) = t.1
          · have hbd := hbst.2.1
            have h32 : ∀ i, i < d.n → (sF Z 31 g).2.1 32 i = nI (lk (lP d b) i) := hZ32 b h2
            rw [if_pos (by rw [c3]), m_first hd hMg hlen (lP_len hd (by omega) hbd) hhol h32 hl4 (lP_4 hd (by omega) hbd), ob1_s]
            have hnl : ltL (lP d o) (lP d b) = false := by
              cases h9 : ltL (lP d o) (lP d b) with
              | false => rfl
              | true =>
                exfalso
                obtain ⟨q, w1, w2, w3⟩ := lP_key ho c1 hbd hbst.1 h9
                have := hbst.2.2.2.1 q w1 w2
                rw [w3] at this
                omega
            rw [hnl, itF]
            exact hskip (by omega)
          · rw [if_neg (by rw [nI_eq (by omega) (by omega)]; exact c3)]
            exact htake (by omega)
    · simp only [c1, decide_false]
      rw [itF, wp_bnd]
      rw [if_neg (fun h => c1 h.1)] at hv
      refine ih j _ _ _ (by omega) ⟨o + 1, t, rfl, (nI_succ o).symm, by omega, ?_, hZp, hZ30, hZ32, hv⟩
      unfold bst at hbst ⊢
      cases h2 : t.2 with
      | none =>
        rw [h2] at hbst
        simp only at hbst ⊢
        refine ⟨hbst.1, fun q hq hqd => ?_⟩
        by_cases e : q = o
        · subst e; exact c1 hqd
        · exact hbst.2 q (by omega) hqd
      | some b =>
        rw [h2] at hbst
        simp only at hbst ⊢
        refine ⟨by omega, hbst.2.1, hbst.2.2.1, hbst.2.2.2.1, fun q hq hqd => ?_⟩
        by_cases e : q = o
        · subst e; exact absurd hqd c1
        · exact hbst.2.2.2.2 q (by omega) hqd
end
theorem fo_bst {d : Tr} {m : Mo} (h6 : d.rd ≤ 6) : ∀ j o t, o + j = 256 → bst d m o t → bst d m 256 (fo d m j o t) := by
  intro j
  induction j with
  | zero => intro o t ho h; have e : o = 256 := by omega
            subst e; exact h
  | succ j ih =>
    intro o t ho hbst
    rw [fo_s]
    have hcl := cst_le d m (lP d o)
    by_cases c : (dig o).Nodup ∧ cst d m (lP d o) < t.1
    · rw [if_pos c]
      refine ih (o + 1) _ (by omega) ⟨by omega, c.1, rfl, fun q hq hqd => ?_, fun q hq hqd => ?_⟩
      · show cst d m (lP d o) < cst d m (lP d q)
        unfold bst at hbst
        cases h2 : t.2 with
        | none => rw [h2] at hbst; exact absurd hqd (hbst.2 q hq)
        | some b => rw [h2] at hbst; simp only at hbst; have := hbst.2.2.2.2 q hq hqd; omega
      · show cst d m (lP d o) ≤ cst d m (lP d q)
        by_cases e : q = o
        · subst e; exact Nat.le_refl _
        · unfold bst at hbst
          cases h2 : t.2 with
          | none => rw [h2] at hbst; exact absurd hqd (hbst.2 q (by omega))
          | some b => rw [h2] at hbst; simp only at hbst; have := hbst.2.2.2.2 q (by omega) hqd; omega
    · rw [if_neg c]
      refine ih (o + 1) t (by omega) ?_
      unfold bst at hbst ⊢
      cases h2 : t.2 with
      | none =>
        rw [h2] at hbst
        simp only at hbst ⊢
        refine ⟨hbst.1, fun q hq hqd => ?_⟩
        by_cases e : q = o
        · subst e; exact c ⟨hqd, by omega⟩
        · exact hbst.2 q (by omega) hqd
      | some b =>
        rw [h2] at hbst
        simp only at hbst ⊢
        refine ⟨by omega, hbst.2.1, hbst.2.2.1, hbst.2.2.2.1, fun q hq hqd => ?_⟩
        by_cases e : q = o
        · subst e; by_cases e3 : cst d m (lP d q) < t.1
          · exact absurd ⟨hqd, e3⟩ c
          · omega
        · exact hbst.2.2.2.2 q (by omega) hqd
theorem m_put (d : Tr) {m : Mo} {M : Sg} (hd : TrOK d) (hm : MoOK d m) (hM : TrM d (M.2.1 20)) (hN : MoM d m (M.2.1 20)) {p1 : Int32} (hp1 : p1 = -1 ∨ ∃ c, c < d.n ∧ p1 = nI c) : Wp (fl2 (f_X12_put_b32 p1) FU 0 M) (fun o => pjM o.2 = pjM M ∧ o.1 = (if p1 = -1 then xF (fo d m 256 0 (1000000, none)) else match (fo d m 256 0 (1000000, none)).2 with | none => o.1 | some b => nI (lk (lP d b) p1.toNatClampNeg))) := by
  have hn := hd.n8
  refine wp_fl2 (fun j x Z => ∃ k h, x = nI k ∧ Z = sF M 30 h ∧ k + j = 4 ∧ ∀ a, a < k → h a = nI 0) ?_ 4 (FU_lt (by omega)) _ _ ⟨0, M.2.1 30, rfl, (sF_self M 30).symm, by omega, fun a ha => by omega⟩
  rintro j K _ _ ⟨k, h, rfl, rfl, hkj, hh⟩ ih
  unfold f_X12_put_b32
  cases j with
  | succ j =>
    rw [if_neg (by rw [show (4 : Int32) = nI 4 from rfl]; exact nI_ge (by omega) (by omega)), ixd_nI (by omega) (by omega), bnd_eq, sA_sF, wp_bnd]
    refine ih j _ _ (by omega) ⟨k + 1, _, (nI_succ k).symm, rfl, by omega, fun a ha => ?_⟩
    rw [upd_at]
    by_cases e : a = k
    · rw [if_pos e]; rfl
    · rw [if_neg e]; exact hh a (by omega)
  | zero =>
    have e : k = 4 := by omega
    subst e
    rw [if_pos (by decide)]
    refine wp_fl2 (fun j x Z => ∃ c h, x = nI c ∧ Z = sF M 30 h ∧ c + j = d.n ∧ ∀ a, a < 4 → h a = nI (mcD d c a)) ?_ d.n (FU_lt (by omega)) _ _ ⟨0, h, rfl, rfl, by omega, fun a ha => hh a ha⟩
    rintro j K2 _ _ ⟨c, h, rfl, rfl, hcj, hh2⟩ ih2
    have hMg : TrM d ((sF M 30 h).2.1 20) := hM
    have hNg : MoM d m ((sF M 30 h).2.1 20) := hN
    have e20 : (sF M 30 h).2.1 20 = M.2.1 20 := rfl
    unfold f_X12_put_b52
    rw [hMg.1.1]
    cases j with
    | zero =>
      have e : c = d.n := by omega
      subst e
      rw [if_pos (nI_le (Nat.le_refl _) (by omega))]
      exact m_putL hd hm hMg hNg hh2 hp1
    | succ j =>
      have hc : c < d.n := by omega
      have hg := hd.g3 c hc
      rw [if_neg (nI_ge hc (by omega)), show (10 : Int32) = nI 10 from rfl, nI_add, ixd_nI (by omega) (by omega), (hMg.2.2.1 c hc).1, ixd_nI (by omega) (by omega), ixd_nI (by omega) (by omega), bnd_eq, sA_sF, sF_at, wp_bnd, hh2 (d.g c) (by omega)]
      refine ih2 j _ _ (by omega) ⟨c + 1, _, (nI_succ c).symm, rfl, by omega, fun a ha => ?_⟩
      rw [upd_at, mcD_s]
      by_cases e : a = d.g c
      · rw [if_pos e, if_pos e.symm, e, nI_succ]
      · rw [if_neg e, if_neg (fun h => e h.symm)]; exact hh2 a ha
theorem st_put : St_put RR := by
  intro s M p1 hR
  have hR0 := hR; obtain ⟨hTp, ⟨d, m, n, a, π, ⟨hG, hT, hM, hm, hO, hN, hS, hX, hX0⟩, hH⟩, hI, hU⟩ := hR
  unfold f_X11_put f_X12_put f_X11_put_b26 f_X11_put_b29 f_X12_put_b27
  have hbad : ∀ {A B : Option (Int32 × Sg)}, A = some (-2, s.1 13) → B = some (-2, M) → ∃ r S1 M1, A = some (r, S1) ∧ B = some (r, M1) ∧ RR (sC s 13 S1) M1 := fun h1 h2 => ⟨_, _, _, h1, h2, RR_sc hR0 _ rfl⟩
  rw [x_hasLine hG hT, m_isLine hG hM, ob1_s, ob1_s]
  by_cases c0 : 0 < d.n
  · have hd := hG.ok c0
    have hn := hd.n8
    have h6 := hd.r6
    simp only [c0, decide_true]
    rw [itT, itT, hM.1.1, show nI d.n - 1 = nI (d.n - 1) from nI_sub (a := d.n) (b := 1) (by omega), nI_l (by omega)]
    have hfin := fo_bst (m := m) h6 256 0 (1000000, none) (by omega) ⟨rfl, fun q hq => by omega⟩
    have hsome : ∃ b, (fo d m 256 0 (1000000, none)).2 = some b ∧ (fo d m 256 0 (1000000, none)).1 ≤ 6 := by
      unfold bst at hfin
      cases h2 : (fo d m 256 0 (1000000, none)).2 with
      | none =>
        rw [h2] at hfin
        simp only at hfin
        exact absurd (by decide : (dig 27).Nodup) (hfin.2 27 (by omega))
      | some b =>
        rw [h2] at hfin
        simp only at hfin
        have := cst_le d m (lP d b)
        exact ⟨b, rfl, by omega⟩
    obtain ⟨b, hb, hbl⟩ := hsome
    have hxF : xF (fo d m 256 0 (1000000, none)) = nI (fo d m 256 0 (1000000, none)).1 := by unfold xF; rw [hb]
    have hboth : ∀ {B : Option (Int32 × Sg)}, (p1 = -1 ∨ ∃ c, c < d.n ∧ p1 = nI c) → B = fl2 (f_X12_put_b32 p1) FU 0 M → ∃ r S1 M1, (ob2 (f_X6_findOrder (s.1 13) (s.1 2) (s.1 3)) fun r33 S_33 => if p1 = -1 then some (r33, S_33) else ixd p1 8 fun i54 => some (S_33.2.1 6 i54, S_33)) = some (r, S1) ∧ B = some (r, M1) ∧ RR (sC s 13 S1) M1 := by
      intro B hp hB
      obtain ⟨⟨r1, S1⟩, x1, x2, x3⟩ := x_order hd hT hm hO (S := s.1 13)
      obtain ⟨⟨r2, M1⟩, y1, y2, y3⟩ := m_put d hd hm hM hN hp
      simp only at x2 x3 y2 y3
      rw [hB, x1, ob2_s, y1]
      dsimp only
      by_cases c1 : p1 = -1
      · rw [if_pos c1] at y3
        rw [if_pos c1, x2, y3, hxF]
        exact ⟨_, _, _, rfl, rfl, RR_sc hR0 _ y2⟩
      · rcases hp with h | ⟨x, hx, rfl⟩
        · exact absurd h c1
        · rw [if_neg c1, hb] at y3
          simp only at y3
          rw [nI_clamp (by omega)] at y3
          rw [if_neg c1, ixd_nI (by omega) (by omega), x3 b hb x hx, y3]
          exact ⟨_, _, _, rfl, rfl, RR_sc hR0 _ y2⟩
    by_cases c1 : p1 = -1
    · rw [if_pos c1]
      have hin : f_X12_in p1.toInt64 (-1 : Int64) (lN (d.n - 1)) = some true := by
        rw [c1, m_in]
        congr 1
        rw [decide_eq_true_eq]
        refine ⟨by decide, ?_⟩
        rw [Int64.le_iff_toInt_le, lN_toInt (by omega)]
        have : ((-1 : Int32).toInt64).toInt = -1 := by decide
        omega
      rw [hin, ob1_s, itT]
      exact hboth (Or.inl c1) rfl
    · rw [if_neg c1]
      rcases csI p1 d.n with ⟨c, hc, rfl⟩ | hno
      · have hin : f_X12_in (nI c).toInt64 (-1 : Int64) (lN (d.n - 1)) = some true := by
          rw [nI_l (by omega), m_in]
          congr 1
          rw [decide_eq_true_eq]
          refine ⟨?_, ?_⟩
          · rw [Int64.le_iff_toInt_le, lN_toInt (by omega)]
            have : (-1 : Int64).toInt = -1 := by decide
            omega
          · rw [lN_le (by omega) (by omega)]; omega
        rw [x_hasCoach hG hT hc, ob1_s, itT, hin, ob1_s, itT]
        exact hboth (Or.inr ⟨c, hc, rfl⟩) rfl
      · have hin : f_X12_in p1.toInt64 (-1 : Int64) (lN (d.n - 1)) = some false := by
          rw [m_in]
          congr 1
          rw [decide_eq_false_iff_not]
          rintro ⟨h1, h2⟩
          rw [Int64.le_iff_toInt_le, Int32.toInt_toInt64] at h1 h2
          rw [lN_toInt (by omega)] at h2
          have h3 : (-1 : Int64).toInt = -1 := by decide
          rw [h3] at h1
          by_cases h4 : p1.toInt = -1
          · exact c1 (Int32.toInt_inj.mp (by rw [h4]; decide))
          · have h5 : ¬ p1 < 0 := by
              rw [Int32.lt_iff_toInt_lt]
              have : (0 : Int32).toInt = 0 := by decide
              omega
            obtain ⟨k, hk, rfl⟩ := nI_of h5
            rw [nI_toInt hk] at h2
            exact hno k (by omega) rfl
        rw [x_hasCoachN hG hT hno, ob1_s, itF, hin, ob1_s, itF]
        exact hbad rfl rfl
  · simp only [c0, decide_false]
    rw [itF, itF]
    exact hbad rfl rfl
