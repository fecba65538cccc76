/-! what a row of cells comes to -/
def opv (y : Nat) (a b : Int64) : Int64 := if y = 2 then a + b else if y = 3 then a - b else if y = 4 then a * b else if y = 5 then (if b = 0 then 0 else a / b) else if y = 14 then (if b = 0 then 0 else a - a / b * b) else if y = 6 then (if a < b then 1 else 0) else if y = 7 then (if a ≤ b then 1 else 0) else if y = 8 then (if a = b then 1 else 0) else if y = 9 then (if b ≤ a then 1 else 0) else if y = 10 then (if b < a then 1 else 0) else if y = 12 then (if a = 0 then 0 else if b = 0 then 0 else 1) else (if a = 0 then (if b = 0 then 0 else 1) else 1)
theorem x_comb (y : Nat) (hy : 2 ≤ y ∧ y ≤ 14 ∧ y ≠ 11) (a b : Int64) : f_X3_combined (nI (cS y)) a b = some (opv y a b) := by
  have h3 : y = 2 ∨ y = 3 ∨ y = 4 ∨ y = 5 ∨ y = 6 ∨ y = 7 ∨ y = 8 ∨ y = 9 ∨ y = 10 ∨ y = 12 ∨ y = 13 ∨ y = 14 := by omega
  rcases h3 with rfl | rfl | rfl | rfl | rfl | rfl | rfl | rfl | rfl | rfl | rfl | rfl
  · rfl
  · rfl
  · rfl
  · show (if lg_cmp b 0 = 0 then some 0 else nzJ b (fun _ => some (a / b))) = some (if b = 0 then 0 else a / b)
    by_cases h : b = 0
    · rw [if_pos ((lg_eq b 0).mpr h), if_pos h]
    · rw [if_neg (fun e => h ((lg_eq b 0).mp e)), nzJ_eq h, if_neg h]
  · show ob1 (if 0 ≤ lg_cmp a b then some false else some true) (fun r103 => if bI r103 = 0 then some (0 : Int64) else some 1) = some (if a < b then 1 else 0)
    by_cases h : a < b
    · rw [if_neg (fun e => Int64.not_le.mpr h ((lg_ge a b).mp e)), ob1_s, itT, if_pos h]
    · rw [if_pos ((lg_ge a b).mpr (Int64.not_lt.mp h)), ob1_s, itF, if_neg h]
  · show ob1 (if 0 < lg_cmp a b then some false else some true) (fun r103 => if bI r103 = 0 then some (0 : Int64) else some 1) = some (if a ≤ b then 1 else 0)
    by_cases h : a ≤ b
    · rw [if_neg (fun e => Int64.not_lt.mpr h ((lg_gt a b).mp e)), ob1_s, itT, if_pos h]
    · rw [if_pos ((lg_gt a b).mpr (Int64.not_le.mp h)), ob1_s, itF, if_neg h]
  · show ob1 (if lg_cmp a b = 0 then some true else some false) (fun r103 => if bI r103 = 0 then some (0 : Int64) else some 1) = some (if a = b then 1 else 0)
    by_cases h : a = b
    · rw [if_pos ((lg_eq a b).mpr h), ob1_s, itT, if_pos h]
    · rw [if_neg (fun e => h ((lg_eq a b).mp e)), ob1_s, itF, if_neg h]
  · show ob1 (if lg_cmp a b < 0 then some false else some true) (fun r103 => if bI r103 = 0 then some (0 : Int64) else some 1) = some (if b ≤ a then 1 else 0)
    by_cases h : b ≤ a
    · rw [if_neg (fun e => Int64.not_lt.mpr h ((lg_lt a b).mp e)), ob1_s, itT, if_pos h]
    · rw [if_pos ((lg_lt a b).mpr (Int64.not_le.mp h)), ob1_s, itF, if_neg h]
  · show ob1 (if lg_cmp a b ≤ 0 then some false else some true) (fun r103 => if bI r103 = 0 then some (0 : Int64) else some 1) = some (if b < a then 1 else 0)
    by_cases h : b < a
    · rw [if_neg (fun e => Int64.not_le.mpr h ((lg_le a b).mp e)), ob1_s, itT, if_pos h]
    · rw [if_pos ((lg_le a b).mpr (Int64.not_lt.mp h)), ob1_s, itF, if_neg h]
  · show ob1 (if lg_cmp a 0 = 0 then some false else if lg_cmp b 0 = 0 then some false else some true) (fun r103 => if bI r103 = 0 then some (0 : Int64) else some 1) = some (if a = 0 then 0 else if b = 0 then 0 else 1)
    by_cases h : a = 0
    · rw [if_pos ((lg_eq a 0).mpr h), ob1_s, itF, if_pos h]
    · rw [if_neg (fun e => h ((lg_eq a 0).mp e)), if_neg h]
      by_cases h2 : b = 0
      · rw [if_pos ((lg_eq b 0).mpr h2), ob1_s, itF, if_pos h2]
      · rw [if_neg (fun e => h2 ((lg_eq b 0).mp e)), ob1_s, itT, if_neg h2]
  · show ob1 (if lg_cmp a 0 = 0 then (if lg_cmp b 0 = 0 then some false else some true) else some true) (fun r103 => if bI r103 = 0 then some (0 : Int64) else some 1) = some (if a = 0 then (if b = 0 then 0 else 1) else 1)
    by_cases h : a = 0
    · rw [if_pos ((lg_eq a 0).mpr h), if_pos h]
      by_cases h2 : b = 0
      · rw [if_pos ((lg_eq b 0).mpr h2), ob1_s, itF, if_pos h2]
      · rw [if_neg (fun e => h2 ((lg_eq b 0).mp e)), ob1_s, itT, if_neg h2]
    · rw [if_neg (fun e => h ((lg_eq a 0).mp e)), ob1_s, itT, if_neg h]
  · show (if lg_cmp b 0 = 0 then some 0 else nzJ b (fun _ => some (a - a / b * b))) = some (if b = 0 then 0 else a - a / b * b)
    by_cases h : b = 0
    · rw [if_pos ((lg_eq b 0).mpr h), if_pos h]
    · rw [if_neg (fun e => h ((lg_eq b 0).mp e)), nzJ_eq h, if_neg h]
def i01 (a : Int64) : Prop := a = 0 ∨ a = 1
theorem m_one (y : Nat) (hy : 2 ≤ y ∧ y ≤ 14 ∧ y ≠ 11) (a b : Int64) (hb : y = 12 ∨ y = 13 → i01 a ∧ i01 b) : f_X12_one (nI y) a b = some (opv y a b) := by
  have h3 : y = 2 ∨ y = 3 ∨ y = 4 ∨ y = 5 ∨ y = 6 ∨ y = 7 ∨ y = 8 ∨ y = 9 ∨ y = 10 ∨ y = 12 ∨ y = 13 ∨ y = 14 := by omega
  rcases h3 with rfl | rfl | rfl | rfl | rfl | rfl | rfl | rfl | rfl | rfl | rfl | rfl
  · rfl
  · rfl
  · rfl
  · show (if lg_cmp b 0 = 0 then some 0 else nzJ b (fun _ => some (a / b))) = some (if b = 0 then 0 else a / b)
    by_cases h : b = 0
    · rw [if_pos ((lg_eq b 0).mpr h), if_pos h]
    · rw [if_neg (fun e => h ((lg_eq b 0).mp e)), nzJ_eq h, if_neg h]
  · show (if 0 ≤ lg_cmp a b then some (0 : Int64) else some 1) = some (if a < b then 1 else 0)
    by_cases h : a < b
    · rw [if_neg (fun e => Int64.not_le.mpr h ((lg_ge a b).mp e)), if_pos h]
    · rw [if_pos ((lg_ge a b).mpr (Int64.not_lt.mp h)), if_neg h]
  · show (if 0 < lg_cmp a b then some (0 : Int64) else some 1) = some (if a ≤ b then 1 else 0)
    by_cases h : a ≤ b
    · rw [if_neg (fun e => Int64.not_lt.mpr h ((lg_gt a b).mp e)), if_pos h]
    · rw [if_pos ((lg_gt a b).mpr (Int64.not_le.mp h)), if_neg h]
  · show (if lg_cmp a b = 0 then some (1 : Int64) else some 0) = some (if a = b then 1 else 0)
    by_cases h : a = b
    · rw [if_pos ((lg_eq a b).mpr h), if_pos h]
    · rw [if_neg (fun e => h ((lg_eq a b).mp e)), if_neg h]
  · show (if lg_cmp a b < 0 then some (0 : Int64) else some 1) = some (if b ≤ a then 1 else 0)
    by_cases h : b ≤ a
    · rw [if_neg (fun e => Int64.not_lt.mpr h ((lg_lt a b).mp e)), if_pos h]
    · rw [if_pos ((lg_lt a b).mpr (Int64.not_le.mp h)), if_neg h]
  · show (if lg_cmp a b ≤ 0 then some (0 : Int64) else some 1) = some (if b < a then 1 else 0)
    by_cases h : b < a
    · rw [if_neg (fun e => Int64.not_le.mpr h ((lg_le a b).mp e)), if_pos h]
    · rw [if_pos ((lg_le a b).mpr (Int64.not_lt.mp h)), if_neg h]
  · show some (a &&& b) = some (if a = 0 then 0 else if b = 0 then 0 else 1)
    obtain ⟨h1, h2⟩ := hb (Or.inl rfl)
    rcases h1 with rfl | rfl <;> rcases h2 with rfl | rfl <;> decide
  · show some (a ||| b) = some (if a = 0 then (if b = 0 then 0 else 1) else 1)
    obtain ⟨h1, h2⟩ := hb (Or.inr rfl)
    rcases h1 with rfl | rfl <;> rcases h2 with rfl | rfl <;> decide
  · show (if lg_cmp b 0 = 0 then some 0 else nzJ b (fun _ => some (a - a / b * b))) = some (if b = 0 then 0 else a - a / b * b)
    by_cases h : b = 0
    · rw [if_pos ((lg_eq b 0).mpr h), if_pos h]
    · rw [if_neg (fun e => h ((lg_eq b 0).mp e)), nzJ_eq h, if_neg h]
theorem opv_01 (y : Nat) (hy : 6 ≤ y ∧ y ≤ 10 ∨ y = 12 ∨ y = 13) (a b : Int64) : i01 (opv y a b) := by
  have h3 : y = 6 ∨ y = 7 ∨ y = 8 ∨ y = 9 ∨ y = 10 ∨ y = 12 ∨ y = 13 := by omega
  unfold i01
  rcases h3 with rfl | rfl | rfl | rfl | rfl | rfl | rfl
  · show (if a < b then (1 : Int64) else 0) = 0 ∨ (if a < b then (1 : Int64) else 0) = 1
    by_cases h : a < b
    · rw [if_pos h]; exact Or.inr rfl
    · rw [if_neg h]; exact Or.inl rfl
  · show (if a ≤ b then (1 : Int64) else 0) = 0 ∨ (if a ≤ b then (1 : Int64) else 0) = 1
    by_cases h : a ≤ b
    · rw [if_pos h]; exact Or.inr rfl
    · rw [if_neg h]; exact Or.inl rfl
  · show (if a = b then (1 : Int64) else 0) = 0 ∨ (if a = b then (1 : Int64) else 0) = 1
    by_cases h : a = b
    · rw [if_pos h]; exact Or.inr rfl
    · rw [if_neg h]; exact Or.inl rfl
  · show (if b ≤ a then (1 : Int64) else 0) = 0 ∨ (if b ≤ a then (1 : Int64) else 0) = 1
    by_cases h : b ≤ a
    · rw [if_pos h]; exact Or.inr rfl
    · rw [if_neg h]; exact Or.inl rfl
  · show (if b < a then (1 : Int64) else 0) = 0 ∨ (if b < a then (1 : Int64) else 0) = 1
    by_cases h : b < a
    · rw [if_pos h]; exact Or.inr rfl
    · rw [if_neg h]; exact Or.inl rfl
  · show (if a = 0 then (0 : Int64) else if b = 0 then 0 else 1) = 0 ∨ (if a = 0 then (0 : Int64) else if b = 0 then 0 else 1) = 1
    by_cases h : a = 0
    · rw [if_pos h]; exact Or.inl rfl
    · rw [if_neg h]
      by_cases h2 : b = 0
      · rw [if_pos h2]; exact Or.inl rfl
      · rw [if_neg h2]; exact Or.inr rfl
  · show (if a = 0 then (if b = 0 then (0 : Int64) else 1) else 1) = 0 ∨ (if a = 0 then (if b = 0 then (0 : Int64) else 1) else 1) = 1
    by_cases h : a = 0
    · rw [if_pos h]
      by_cases h2 : b = 0
      · rw [if_pos h2]; exact Or.inl rfl
      · rw [if_neg h2]; exact Or.inr rfl
    · rw [if_neg h]; exact Or.inr rfl
/-- one cell more, on a stack of so many -/
def ev1 (wf : Nat → Int32) (y h : Nat) (f : Nat → Int64) : Nat → Int64 := if y % 16 = 0 then vp_updL f h (nI (y / 16)).toInt64 else if y % 16 = 1 then vp_updL f h (wf (y / 16)).toInt64 else if y = 11 then vp_updL f (h - 1) (if f (h - 1) = 0 then 1 else 0) else vp_updL f (h - 2) (opv y (f (h - 2)) (f (h - 1)))
def tyO : List Bool → (Nat → Int64) → Prop
  | [], _ => True
  | b :: ts, f => (b = true → i01 (f ts.length)) ∧ tyO ts f
theorem tyO_u : ∀ (ts : List Bool) (f : Nat → Int64) (k : Nat) (v : Int64), ts.length ≤ k → tyO ts f → tyO ts (vp_updL f k v) := by
  intro ts
  induction ts with
  | nil => intro f k v _ _; trivial
  | cons b ts ih =>
    intro f k v hk h
    simp only [List.length_cons] at hk
    refine ⟨fun hb => ?_, ih f k v (by omega) h.2⟩
    show i01 (if ts.length = k then v else f ts.length)
    rw [if_neg (by omega)]
    exact h.1 hb
/-- what is worked out, cell by cell -/
def evN (wf : Nat → Int32) (y : Nat → Nat) : Nat → Nat → List Bool → (Nat → Int64) → Nat → Int64
  | 0, _, _, f => f
  | k + 1, i, ts, f => match tyS (y i) ts with | none => f | some ts' => evN wf y k (i + 1) ts' (ev1 wf (y i) ts.length f)
theorem wfe_s (y : Nat → Nat) (k i : Nat) (ts : List Bool) : wfe y (k + 1) i ts = match tyS (y i) ts with | none => none | some ts' => wfe y k (i + 1) ts' := rfl
theorem tyS_c {y : Nat} {ts ts' : List Bool} (hy : yOK y) (h : tyS y ts = some ts') : (y % 16 ≤ 1 ∧ ts.length < 60 ∧ ts' = false :: ts) ∨ (y = 11 ∧ ∃ r, ts = true :: r ∧ ts' = true :: r) ∨ (2 ≤ y ∧ y ≤ 14 ∧ y ≠ 11 ∧ ∃ b1 b2 r b3, ts = b1 :: b2 :: r ∧ ts' = b3 :: r ∧ (y = 12 ∨ y = 13 → b1 = true ∧ b2 = true) ∧ (b3 = true → 6 ≤ y ∧ y ≤ 10 ∨ y = 12 ∨ y = 13)) := by
  unfold tyS at h
  by_cases c1 : y % 16 ≤ 1
  · rw [if_pos c1] at h
    by_cases c2 : ts.length < 60
    · rw [if_pos c2] at h; cases h; exact Or.inl ⟨c1, c2, rfl⟩
    · rw [if_neg c2] at h; cases h
  · rw [if_neg c1] at h
    have hy2 : 2 ≤ y ∧ y ≤ 14 := by unfold yOK at hy; omega
    by_cases c2 : y = 11
    · rw [if_pos c2] at h
      split at h
      · cases h; exact Or.inr (Or.inl ⟨c2, _, rfl, rfl⟩)
      · cases h
    · rw [if_neg c2] at h
      right; right
      refine ⟨hy2.1, hy2.2, c2, ?_⟩
      by_cases c3 : y = 12 ∨ y = 13
      · rw [if_pos c3] at h
        split at h
        · cases h; exact ⟨true, true, _, true, rfl, rfl, fun _ => ⟨rfl, rfl⟩, fun _ => Or.inr c3⟩
        · cases h
      · rw [if_neg c3] at h
        by_cases c4 : 6 ≤ y ∧ y ≤ 10
        · rw [if_pos c4] at h
          split at h
          · cases h; exact ⟨false, false, _, true, rfl, rfl, fun q => absurd q c3, fun _ => Or.inl c4⟩
          · cases h
        · rw [if_neg c4] at h
          split at h
          · cases h; exact ⟨false, false, _, false, rfl, rfl, fun q => absurd q c3, fun q => by cases q⟩
          · cases h
theorem ev1_ok {wf : Nat → Int32} {y : Nat} {ts ts' : List Bool} {f : Nat → Int64} (hy : yOK y) (h : tyS y ts = some ts') (ht : tyO ts f) : tyO ts' (ev1 wf y ts.length f) := by
  unfold ev1
  rcases tyS_c hy h with ⟨c1, c2, rfl⟩ | ⟨rfl, r, rfl, rfl⟩ | ⟨c1, c2, c3, b1, b2, r, b3, rfl, rfl, c4, c5⟩
  · by_cases c3 : y % 16 = 0
    · rw [if_pos c3]; exact ⟨(fun q => by cases q), tyO_u _ _ _ _ (Nat.le_refl _) ht⟩
    · rw [if_neg c3, if_pos (by omega)]; exact ⟨(fun q => by cases q), tyO_u _ _ _ _ (Nat.le_refl _) ht⟩
  · rw [if_neg (by decide), if_neg (by decide), if_pos rfl]
    simp only [List.length_cons, Nat.add_sub_cancel]
    refine ⟨fun _ => ?_, tyO_u _ _ _ _ (Nat.le_refl _) ht.2⟩
    show i01 (if r.length = r.length then _ else _)
    rw [if_pos rfl]
    unfold i01
    by_cases h9 : f r.length = 0
    · rw [if_pos h9]; exact Or.inr rfl
    · rw [if_neg h9]; exact Or.inl rfl
  · rw [if_neg (by omega), if_neg (by omega), if_neg c3]
    simp only [List.length_cons]
    rw [show r.length + 1 + 1 - 2 = r.length by omega, show r.length + 1 + 1 - 1 = r.length + 1 by omega]
    refine ⟨fun q => ?_, tyO_u _ _ _ _ (Nat.le_refl _) ht.2.2⟩
    show i01 (if r.length = r.length then _ else _)
    rw [if_pos rfl]
    exact opv_01 y (c5 q) _ _
/-! the class -/
def hN (N : Sg) (h : Nat) (f : Nat → Int64) : Prop := N.1 2 = nI h ∧ ∀ i, i < h → N.2.2 1 i = f i
theorem x_push {N : Sg} {h : Nat} {f : Nat → Int64} (hn : hN N h f) (hh : h < 128) (v : Int64) : ∃ N', f_X3_push N v = some N' ∧ hN N' (h + 1) (vp_updL f h v) := by
  refine ⟨sI (sJ N 1 h v) 2 (nI (h + 1)), ?_, rfl, fun i hi => ?_⟩
  · unfold f_X3_push
    have e : (sJ N 1 h v).1 2 = nI h := hn.1
    rw [hn.1, if_neg (by rw [show (128 : Int32) = nI 128 from rfl]; exact nI_ge hh (by omega)), ixd_nI hh (by omega), bnd_eq, e, bnd_eq, ← nI_succ]
  · show vp_updL (N.2.2 1) h v i = vp_updL f h v i
    unfold vp_updL
    by_cases e : i = h
    · rw [if_pos e, if_pos e]
    · rw [if_neg e, if_neg e]; exact hn.2 i (by omega)
theorem x_pop {N : Sg} {h : Nat} {f : Nat → Int64} (hn : hN N (h + 1) f) (hh : h < 128) : ∃ N', f_X3_pop N = some (f h, N') ∧ hN N' h f := by
  refine ⟨sI N 2 (nI h), ?_, rfl, fun i hi => hn.2 i (by omega)⟩
  unfold f_X3_pop
  have e : (sI N 2 (nI h)).1 2 = nI h := rfl
  rw [hn.1, if_pos (by rw [show (0 : Int32) = nI 0 from rfl]; exact nI_lt (by omega) (by omega)), nI_pred, bnd_eq, e, ixd_nI hh (by omega)]
  rw [show (sI N 2 (nI h)).2.2 1 h = N.2.2 1 h from rfl, hn.2 h (by omega)]
section
variable {d : Tr} {m : Mo} {T O U : Sg} {M : Sg}
theorem x_reckon (hd : TrOK d) (hT : TrC d T) (hm : MoOK d m) (hO : MoC d m O) {N : Sg} {y : Nat → Nat} {lo hi len r : Nat} {b : Bool} (hr : r < d.rd) (hU : ∀ i, i < len → U.2.1 0 i = nI (cC (y i)) ∧ yOK (y i)) (hle : lo ≤ hi) (hhi : hi ≤ len) (hlen : len ≤ 400) (hw : wfe y (hi - lo) lo [] = some [b]) (f0 : Nat → Int64) : Wp (f_X3_reckon len N U T O (nI lo) (nI hi) (nI r)) (fun o => ∃ v, o.1 = v ∧ v = evN (wv d m r) y (hi - lo) lo [] f0 0 ∧ (b = true → i01 v)) := by
  have key : ∀ g0 : Nat → Int64, Wp (f_X3_reckon len N U T O (nI lo) (nI hi) (nI r)) (fun o => o.1 = evN (wv d m r) y (hi - lo) lo [] g0 0 ∧ (b = true → i01 o.1)) := by
    intro g0
    unfold f_X3_reckon
    rw [bnd_eq]
    refine wp_fl2 (fun j x Z => ∃ i ts f, x = nI i ∧ i + j = hi ∧ lo ≤ i ∧ hN Z ts.length f ∧ ts.length ≤ 60 ∧ tyO ts f ∧ wfe y j i ts = some [b] ∧ evN (wv d m r) y j i ts f = evN (wv d m r) y (hi - lo) lo [] g0) ?_ (hi - lo) (FU_lt (by omega)) _ _ ⟨lo, [], g0, rfl, by omega, Nat.le_refl _, ⟨rfl, fun i hi => absurd hi (by simp)⟩, by simp, trivial, hw, rfl⟩
    rintro j K _ Z ⟨i, ts, f, rfl, hij, hlo, hZ, hts, hty, hwf, hev⟩ ih
    unfold f_X3_reckon_b8 f_X3_reckon_b135 f_X3_reckon_b95 f_X3_reckon_b129
    cases j with
    | zero =>
      have e : i = hi := by omega
      subst e
      have e2 : ts = [b] := by
        have : some ts = some [b] := hwf
        cases this; rfl
      subst e2
      have hZ1 : hN Z (0 + 1) f := hZ
      obtain ⟨N', p1, p2⟩ := x_pop hZ1 (by omega)
      rw [if_pos (nI_le (Nat.le_refl _) (by omega)), p1, ob2_s]
      have hev2 : f = evN (wv d m r) y (i - lo) lo [] g0 := hev
      refine wp_some.mpr ⟨?_, fun hb => ?_⟩
      · show f 0 = _; rw [← hev2]
      · exact hty.1 hb
    | succ j =>
      have hU1 := hU i (by omega)
      rw [wfe_s] at hwf
      cases h1 : tyS (y i) ts with
      | none => rw [h1] at hwf; cases hwf
      | some ts' =>
        rw [h1] at hwf
        simp only at hwf
        have hev2 : evN (wv d m r) y j (i + 1) ts' (ev1 (wv d m r) (y i) ts.length f) = evN (wv d m r) y (hi - lo) lo [] g0 := by
          have : (match tyS (y i) ts with | none => f | some ts' => evN (wv d m r) y j (i + 1) ts' (ev1 (wv d m r) (y i) ts.length f)) = evN (wv d m r) y (hi - lo) lo [] g0 := hev
          rw [h1] at this
          exact this
        have hok := ev1_ok (wf := wv d m r) hU1.2 h1 hty
        rw [if_neg (nI_ge (by omega) (by omega)), if_neg (nI_ge (by omega) (by omega)), ixd_nI (by omega) (by omega), hU1.1, bnd_eq]
        have hnext : ∀ Z', hN Z' ts'.length (ev1 (wv d m r) (y i) ts.length f) → ts'.length ≤ 60 → Wp (bnd (nI i + 1) fun x5_129 => K x5_129 Z') (fun o => o.1 = evN (wv d m r) y (hi - lo) lo [] g0 0 ∧ (b = true → i01 o.1)) := by
          intro Z' hZ' hl
          rw [wp_bnd]
          exact ih j _ _ (by omega) ⟨i + 1, ts', _, (nI_succ i).symm, by omega, by omega, hZ', hl, hok, hwf, hev2⟩
        rcases tyS_c hU1.2 h1 with ⟨c1, c2, rfl⟩ | ⟨c1, q, rfl, rfl⟩ | ⟨c1, c2, c3, b1, b2, q, b3, rfl, rfl, c4, c5⟩
        · by_cases c3 : y i % 16 = 0
          · have ey : y i / 16 ≤ 99999 := by have := hU1.2; unfold yOK at this; omega
            have ec : cC (y i) = y i / 16 := by unfold cC; rw [if_pos c3]
            obtain ⟨N', p1, p2⟩ := x_push hZ (by omega) (nI (y i / 16)).toInt64
            rw [ec, if_neg (by rw [show (100000 : Int32) = nI 100000 from rfl]; exact nI_ge (by omega) (by omega)), p1, ob1_s]
            refine hnext N' ?_ (by simp only [List.length_cons]; omega)
            have ee : ev1 (wv d m r) (y i) ts.length f = vp_updL f ts.length (nI (y i / 16)).toInt64 := by unfold ev1; rw [if_pos c3]
            rw [ee]; exact p2
          · have c4 : y i % 16 = 1 := by omega
            have ey : y i / 16 ≤ 12 := by have := hU1.2; unfold yOK at this; omega
            have ec : cC (y i) = 200000 + cW (y i / 16) := by unfold cC; rw [if_neg c3, if_pos c4]
            have hcw : cW (y i / 16) ≤ 26 := by
              have : ∀ w, w < 13 → cW w ≤ 26 := by decide
              exact this _ (by omega)
            obtain ⟨N', p1, p2⟩ := x_push hZ (by omega) (wv d m r (y i / 16)).toInt64
            rw [ec, if_pos (by rw [show (100000 : Int32) = nI 100000 from rfl]; exact nI_le (by omega) (by omega)), if_neg (by rw [show (200000 : Int32) = nI 200000 from rfl]; exact nI_nlt (by omega) (by omega)), show (200000 : Int32) = nI 200000 from rfl, nI_sub (by omega), Nat.add_sub_cancel_left, x_word hd hT hm hO hr ey, ob1_s, p1, ob1_s]
            refine hnext N' ?_ (by simp only [List.length_cons]; omega)
            have ee : ev1 (wv d m r) (y i) ts.length f = vp_updL f ts.length (wv d m r (y i / 16)).toInt64 := by unfold ev1; rw [if_neg c3, if_pos c4]
            rw [ee]; exact p2
        · have ec : cC (y i) = 100016 := by rw [c1]; rfl
          have hZ1 : hN Z (q.length + 1) f := hZ
          simp only [List.length_cons] at hts
          obtain ⟨N', p1, p2⟩ := x_pop hZ1 (by omega)
          have ee : ev1 (wv d m r) (y i) (true :: q).length f = vp_updL f q.length (if f q.length = 0 then 1 else 0) := by
            unfold ev1; rw [if_neg (by omega), if_neg (by omega), if_pos c1]; rfl
          rw [ee] at hnext
          rw [ec, if_pos (by decide), if_pos (by decide), if_pos (by decide), p1, ob2_s]
          dsimp only
          by_cases c2 : f q.length = 0
          · rw [if_pos c2] at hnext
            obtain ⟨N2, p3, p4⟩ := x_push p2 (by omega) 1
            rw [if_pos ((lg_eq _ _).mpr c2), p3, ob1_s]
            exact hnext N2 p4 (by simp only [List.length_cons]; omega)
          · rw [if_neg c2] at hnext
            obtain ⟨N2, p3, p4⟩ := x_push p2 (by omega) 0
            rw [if_neg (fun e => c2 ((lg_eq _ _).mp e)), p3, ob1_s]
            exact hnext N2 p4 (by simp only [List.length_cons]; omega)
        · have ec : cC (y i) = 100000 + cS (y i) := by unfold cC; rw [if_neg (by omega), if_neg (by omega), show y i % 16 = y i by omega]
          have hcs : cS (y i) ≤ 318 ∧ cS (y i) ≠ 16 := by
            have : ∀ w, w < 15 → w ≠ 11 → cS w ≤ 318 ∧ cS w ≠ 16 := by decide
            exact this _ (by omega) c3
          have hZ1 : hN Z (q.length + 1 + 1) f := hZ
          simp only [List.length_cons] at hts
          obtain ⟨N1, p1, p2⟩ := x_pop hZ1 (by omega)
          obtain ⟨N2, p3, p4⟩ := x_pop p2 (by omega)
          have ee : ev1 (wv d m r) (y i) (b1 :: b2 :: q).length f = vp_updL f q.length (opv (y i) (f q.length) (f (q.length + 1))) := by
            unfold ev1; rw [if_neg (by omega), if_neg (by omega), if_neg c3]; rfl
          rw [ee] at hnext
          obtain ⟨N3, p5, p6⟩ := x_push p4 (by omega) (opv (y i) (f q.length) (f (q.length + 1)))
          rw [ec, if_pos (by rw [show (100000 : Int32) = nI 100000 from rfl]; exact nI_le (by omega) (by omega)), if_pos (by rw [show (200000 : Int32) = nI 200000 from rfl]; exact nI_lt (by omega) (by omega)), if_neg (by rw [show (100016 : Int32) = nI 100016 from rfl, nI_eq (by omega) (by omega)]; omega), p1, ob2_s, p3, ob2_s, show (100000 : Int32) = nI 100000 from rfl, nI_sub (by omega), Nat.add_sub_cancel_left]
          dsimp only
          rw [x_comb (y i) ⟨c1, c2, c3⟩, ob1_s, p5, ob1_s]
          exact hnext N3 p6 (by simp only [List.length_cons]; omega)
  obtain ⟨o, h1, h2, h3⟩ := key f0
  exact ⟨o, h1, o.1, rfl, h2, h3⟩
end
