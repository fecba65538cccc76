/-! gotIn -/
noncomputable def gtI (d : Tr) (m : Mo) (a : Nat → Nat → Nat) (π : Nat → Nat) (r : Nat) : Nat → Nat → Nat → Nat → Bool
  | 0, _, _, _ => true
  | j + 1, i, c, s => if a (π i) 0 = r then (if sn d m r c s (a (π i) 1) ≤ a (π i) 2 then gtI d m a π r j (i + 1) (a (π i) 1) (a (π i) 2) else false) else gtI d m a π r j (i + 1) c s
theorem gtI_s (d : Tr) (m : Mo) (a : Nat → Nat → Nat) (π : Nat → Nat) (r j i c s : Nat) : gtI d m a π r (j + 1) i c s = if a (π i) 0 = r then (if sn d m r c s (a (π i) 1) ≤ a (π i) 2 then gtI d m a π r j (i + 1) (a (π i) 1) (a (π i) 2) else false) else gtI d m a π r j (i + 1) c s := rfl
def pS (a : Nat → Nat → Nat) (π : Nat → Nat) (r : Nat) : Nat → Bool := fun i => decide (a (π i) 0 = r)
theorem gtI_none {d : Tr} {m : Mo} {a : Nat → Nat → Nat} {π : Nat → Nat} {r : Nat} : ∀ {j i c s : Nat}, fnd (pS a π r) j i = none → gtI d m a π r j i c s = true := by
  intro j
  induction j with
  | zero => intro i c s _; rfl
  | succ j ih =>
    intro i c s h
    rw [fnd_s] at h
    by_cases e : a (π i) 0 = r
    · rw [if_pos (by unfold pS; simp [e])] at h; cases h
    · rw [if_neg (by unfold pS; simp [e])] at h
      rw [gtI_s, if_neg e]; exact ih h
theorem gtI_some {d : Tr} {m : Mo} {a : Nat → Nat → Nat} {π : Nat → Nat} {r q : Nat} : ∀ {j i c s : Nat}, fnd (pS a π r) j i = some q → gtI d m a π r j i c s = (if sn d m r c s (a (π q) 1) ≤ a (π q) 2 then gtI d m a π r (i + j - (q + 1)) (q + 1) (a (π q) 1) (a (π q) 2) else false) := by
  intro j
  induction j with
  | zero => intro i c s h; cases h
  | succ j ih =>
    intro i c s h
    rw [fnd_s] at h
    by_cases e : a (π i) 0 = r
    · rw [if_pos (by unfold pS; simp [e])] at h
      simp only [Option.some.injEq] at h
      subst h
      rw [gtI_s, if_pos e, show i + (j + 1) - (i + 1) = j by omega]
    · rw [if_neg (by unfold pS; simp [e])] at h
      rw [gtI_s, if_neg e, ih h, show i + 1 + j = i + (j + 1) by omega]
/-- the next in the order of seconds -/
def cnd (a : Nat → Nat → Nat) (r : Nat) (lst : Option Nat) (k : Nat) : Prop := a k 0 = r ∧ ∀ l, lst = some l → a l 2 * 16 + l < a k 2 * 16 + k
def nsS (a : Nat → Nat → Nat) (r : Nat) (lst : Option Nat) (k : Nat) (o : Option Nat) : Prop := match o with
  | none => ∀ q, q < k → ¬ cnd a r lst q
  | some b => b < k ∧ cnd a r lst b ∧ ∀ q, q < k → cnd a r lst q → a b 2 * 16 + b ≤ a q 2 * 16 + q
section
variable {d : Tr} {m : Mo} {n : Nat} {a : Nat → Nat → Nat} {π : Nat → Nat} {T O E : Sg} {M : Sg}
theorem m_secOf (hS : SR d n a π E (M.2.1 20)) {k : Nat} (hk : k < n) : f_X12_secondOf M (nI k) = some (nI (a k 2)) := by
  have h1 := hS.1
  unfold f_X12_secondOf
  rw [show (100 : Int32) = nI 100 from rfl, show (3 : Int32) = nI 3 from rfl, nI_mul, nI_add, show (2 : Int32) = nI 2 from rfl, nI_add, ixd_nI (by omega) (by omega), (hS.2.2.2.1 k hk).2.2.2.2.2]
theorem m_nextS (hG : TrG d) (hS : SR d n a π E (M.2.1 20)) {r : Nat} (hr : r < 2 ^ 30) {lst : Option Nat} (hl : ∀ l, lst = some l → l < n) : ∃ o, f_X12_nextSeen M (nI r) (oM lst) = some (oM o) ∧ nsS a r lst n o := by
  have h12 := hS.1
  have key : Wp (f_X12_nextSeen M (nI r) (oM lst)) (fun x => ∃ o, x = oM o ∧ nsS a r lst n o) := by
    unfold f_X12_nextSeen
    refine wp_fl2 (fun j x y => ∃ k o, x = oM o ∧ y = nI k ∧ k + j = n ∧ nsS a r lst k o) ?_ n (FU_lt (by omega)) _ _ ⟨0, none, rfl, rfl, by omega, fun q hq => by omega⟩
    rintro j K _ _ ⟨k, o, rfl, rfl, hkj, ho⟩ ih
    unfold f_X12_nextSeen_b5 f_X12_nextSeen_b75 f_X12_nextSeen_b93 f_X12_nextSeen_b99 f_X12_nextSeen_b100
    rw [hS.2.1]
    cases j with
    | zero =>
      have e : k = n := by omega
      subst e
      rw [if_pos (nI_le (Nat.le_refl _) (by omega))]
      exact wp_some.mpr ⟨o, rfl, ho⟩
    | succ j =>
      have hk : k < n := by omega
      have q := hS.2.2.2.1 k hk
      have hskip : ¬ cnd a r lst k → Wp (bnd (nI k + 1) fun x4_100 => K (oM o) x4_100) (fun x => ∃ o, x = oM o ∧ nsS a r lst n o) := by
        intro hc
        rw [wp_bnd]
        refine ih j _ _ (by omega) ⟨k + 1, o, rfl, (nI_succ k).symm, by omega, ?_⟩
        cases o with
        | none =>
          intro z hz
          by_cases e : z = k
          · subst e; exact hc
          · exact ho z (by omega)
        | some b =>
          refine ⟨by have := ho.1; omega, ho.2.1, fun z hz hcz => ?_⟩
          by_cases e : z = k
          · subst e; exact absurd hcz hc
          · exact ho.2.2 z (by omega) hcz
      have hnew : cnd a r lst k → (∀ b, o = some b → a k 2 < a b 2) → Wp (bnd (nI k + 1) fun x4_100 => K (nI k) x4_100) (fun x => ∃ o, x = oM o ∧ nsS a r lst n o) := by
        intro hc hb
        rw [wp_bnd]
        refine ih j _ _ (by omega) ⟨k + 1, some k, rfl, (nI_succ k).symm, by omega, by omega, hc, fun z hz hcz => ?_⟩
        by_cases e : z = k
        · subst e; omega
        · cases o with
          | none => exact absurd hcz (ho z (by omega))
          | some b =>
            have h1 := ho.2.2 z (by omega) hcz
            have h2 := hb b rfl
            have h3 := ho.1
            omega
      have hkeep : cnd a r lst k → ∀ b, o = some b → a b 2 ≤ a k 2 → Wp (bnd (nI k + 1) fun x4_100 => K (oM o) x4_100) (fun x => ∃ o, x = oM o ∧ nsS a r lst n o) := by
        intro hc b hb hle
        subst hb
        rw [wp_bnd]
        refine ih j _ _ (by omega) ⟨k + 1, some b, rfl, (nI_succ k).symm, by omega, ?_, ho.2.1, fun z hz hcz => ?_⟩
        · have := ho.1; omega
        · have h3 := ho.1
          by_cases e : z = k
          · subst e; omega
          · exact ho.2.2 z (by omega) hcz
      have h75 : cnd a r lst k → Wp (if oM o < 0 then bnd (nI k + 1) fun x4_100 => K (nI k) x4_100 else ob1 (f_X12_secondOf M (nI k)) fun r82 => ob1 (f_X12_secondOf M (oM o)) fun r87 => if r87 ≤ r82 then (bnd (nI k + 1) fun x4_100 => K (oM o) x4_100) else (bnd (nI k + 1) fun x4_100 => K (nI k) x4_100)) (fun x => ∃ o, x = oM o ∧ nsS a r lst n o) := by
        intro hc
        cases ho' : o with
        | none =>
          rw [if_pos (by decide)]
          exact hnew hc (fun b hb => by rw [ho'] at hb; cases hb)
        | some b =>
          have e3 : (oM (some b) : Int32) = nI b := rfl
          have hb : b < k := by rw [ho'] at ho; exact ho.1
          have qb := hS.2.2.2.1 b (by omega)
          rw [e3, if_neg (nI_pos (by omega)), m_secOf hS hk, ob1_s, m_secOf hS (by omega), ob1_s]
          by_cases c1 : a b 2 ≤ a k 2
          · rw [if_pos (nI_le c1 (by omega))]
            have := hkeep hc b ho' c1
            rw [ho'] at this
            exact this
          · rw [if_neg (nI_ge (by omega) (by omega))]
            exact hnew hc (fun b' hb' => by rw [ho'] at hb'; cases hb'; omega)
      rw [if_neg (nI_ge hk (by omega)), show (100 : Int32) = nI 100 from rfl, show (3 : Int32) = nI 3 from rfl, nI_mul, nI_add, ixd_nI (by omega) (by omega), q.2.2.2.1]
      have hqr := q.1
      by_cases c1 : a k 0 = r
      · rw [if_pos (by rw [c1])]
        cases hlst : lst with
        | none =>
          have e3 : (oM none : Int32) < 0 := by decide
          rw [if_pos e3]
          have := h75 ⟨c1, fun l hl => by rw [hlst] at hl; cases hl⟩
          rw [hlst] at this
          exact this
        | some l =>
          have e3 : (oM (some l) : Int32) = nI l := rfl
          have hln := hl l hlst
          have ql := hS.2.2.2.1 l hln
          rw [e3, if_neg (nI_pos (by omega)), m_secOf hS hk, ob1_s, m_secOf hS hln, ob1_s]
          rw [hlst] at hskip h75
          by_cases c2 : a k 2 < a l 2
          · rw [if_pos (nI_lt c2 (by omega))]
            exact hskip (fun hc => by have := hc.2 l rfl; omega)
          · rw [if_neg (nI_nlt (by omega) (by omega)), ob1_s, ob1_s]
            by_cases c3 : a k 2 = a l 2
            · rw [if_pos (by rw [c3])]
              by_cases c4 : l < k
              · rw [if_pos (nI_lt c4 (by omega))]
                rw [m_secOf hS hk, ob1_s] at h75
                exact h75 ⟨c1, fun l' hl' => by cases hl'; omega⟩
              · rw [if_neg (nI_nlt (by omega) (by omega))]
                exact hskip (fun hc => by have := hc.2 l rfl; omega)
            · rw [if_neg (by rw [nI_eq (by omega) (by omega)]; exact c3)]
              rw [m_secOf hS hk, ob1_s] at h75
              exact h75 ⟨c1, fun l' hl' => by cases hl'; omega⟩
      · rw [if_neg (by rw [nI_eq (by have := hG.b; omega) (by omega)]; exact c1)]
        exact hskip (fun hc => c1 hc.1)
  obtain ⟨x, h1, o, h2, h3⟩ := key
  exact ⟨o, by rw [h1, h2], h3⟩
/-- which one that is -/
theorem m_nextP (hG : TrG d) (hS : SR d n a π E (M.2.1 20)) {r i : Nat} (hr : r < 2 ^ 30) {lst : Option Nat} (hi : i ≤ n) (hl : (i = 0 ∧ lst = none) ∨ (0 < i ∧ lst = some (π (i - 1)))) : f_X12_nextSeen M (nI r) (oM lst) = some (oM ((fnd (pS a π r) (n - i) i).map π)) := by
  obtain ⟨h1, h2, h3, h4, h5, h6, h7⟩ := hS
  have hl2 : ∀ l, lst = some l → l < n := by
    intro l hl3
    rcases hl with ⟨e1, e2⟩ | ⟨e1, e2⟩
    · rw [e2] at hl3; cases hl3
    · rw [e2] at hl3; cases hl3; exact (h5 (i - 1) (by omega)).1
  have hinj : ∀ x y, x < n → y < n → a (π x) 2 * 16 + π x ≤ a (π y) 2 * 16 + π y → x ≤ y := by
    intro x y hx hy h
    by_cases e : x ≤ y
    · exact e
    · have := h6 y x (by omega) hx; omega
  have hcand : ∀ x, x < n → (cnd a r lst (π x) ↔ (a (π x) 0 = r ∧ i ≤ x)) := by
    intro x hx
    unfold cnd
    rcases hl with ⟨e1, e2⟩ | ⟨e1, e2⟩
    · subst e1 e2
      exact ⟨fun h => ⟨h.1, by omega⟩, fun h => ⟨h.1, fun l hl => by cases hl⟩⟩
    · subst e2
      refine ⟨fun h => ⟨h.1, ?_⟩, fun h => ⟨h.1, fun l hl => ?_⟩⟩
      · have h8 := h.2 _ rfl
        by_cases e : i ≤ x
        · exact e
        · by_cases e3 : x = i - 1
          · subst e3; omega
          · have := h6 x (i - 1) (by omega) (by omega); omega
      · cases hl
        exact h6 (i - 1) x (by omega) hx
  obtain ⟨o, k1, k2⟩ := m_nextS hG ⟨h1, h2, h3, h4, h5, h6, h7⟩ hr hl2
  rw [k1]
  congr 2
  cases hf : fnd (pS a π r) (n - i) i with
  | none =>
    have h8 := fnd_none hf
    cases o with
    | none => rfl
    | some b =>
      obtain ⟨x, hx, he⟩ := h7 b k2.1
      have h9 := k2.2.1
      rw [← he, hcand x hx] at h9
      have := h8 x h9.2 (by omega)
      unfold pS at this
      simp at this
      exact absurd h9.1 this
  | some x =>
    obtain ⟨g1, g2, g3, g4⟩ := fnd_some hf
    unfold pS at g1
    simp only [decide_eq_true_eq] at g1
    have hc := (hcand x (by omega)).mpr ⟨g1, g2⟩
    have hx := (h5 x (by omega)).1
    cases o with
    | none => exact absurd hc (k2 (π x) hx)
    | some b =>
      obtain ⟨y, hy, he⟩ := h7 b k2.1
      have h9 := k2.2.1
      rw [← he, hcand y hy] at h9
      have h10 := k2.2.2 (π x) hx hc
      rw [← he] at h10
      have h11 := hinj y x hy (by omega) h10
      have h12 : ¬ y < x := by
        intro hlt
        have := g4 y h9.2 hlt
        unfold pS at this
        simp at this
        exact this h9.1
      have h13 : y = x := by omega
      subst h13
      show some b = some (π y)
      rw [he]
theorem x_gotI (hd : TrOK d) (hT : TrC d T) (hm : MoOK d m) (hO : MoC d m O) (hM : TrM d (M.2.1 20)) (hN : MoM d m (M.2.1 20)) (hS : SR d n a π E (M.2.1 20)) {S : Sg} {r c : Nat} (hr : r < d.rd) (hc : c < d.n) : ∃ g, f_X6_canHaveGotIn S T O E (nI r) (nI c) = some (gtI d m a π r n 0 c 0, sF S 1 g) := by
  have hn := hd.n8
  have h6 := hd.r6
  have h12 := hS.1
  have key : Wp (f_X6_canHaveGotIn S T O E (nI r) (nI c)) (fun o => ∃ g, o = (gtI d m a π r n 0 c 0, sF S 1 g)) := by
    unfold f_X6_canHaveGotIn
    refine wp_fl4 (fun j x y z Z => ∃ i at' s g, x = nI at' ∧ y = nI s ∧ z = nI i ∧ Z = sF S 1 g ∧ i + j = n ∧ at' < d.n ∧ s ≤ 999 ∧ gtI d m a π r j i at' s = gtI d m a π r n 0 c 0) ?_ n (FU_lt (by omega)) _ _ _ _ ⟨0, c, 0, S.2.1 1, rfl, rfl, rfl, (sF_self S 1).symm, by omega, hc, by omega, rfl⟩
    rintro j K _ _ _ _ ⟨i, at', s, g, rfl, rfl, rfl, rfl, hij, ha, hs, hv⟩ ih
    unfold f_X6_canHaveGotIn_b17 f_X6_canHaveGotIn_b78
    rw [hS.2.2.1]
    cases j with
    | zero =>
      have e : i = n := by omega
      subst e
      rw [if_pos (nI_le (Nat.le_refl _) (by omega))]
      exact wp_some.mpr ⟨g, by rw [← hv]; rfl⟩
    | succ j =>
      have hi : i < n := by omega
      have q := hS.2.2.2.2.1 i hi
      have qa := hS.2.2.2.1 (π i) q.1
      rw [gtI_s] at hv
      rw [if_neg (nI_ge hi (by omega)), ixd_nI (by omega) (by omega), q.2.1]
      by_cases c1 : a (π i) 0 = r
      · rw [if_pos (by rw [c1])]
        rw [if_pos c1] at hv
        obtain ⟨g2, w1, w2⟩ := x_spread hd hT hm hO hM hN (S := sF S 1 g) (s := s) hr ha (by omega)
        have w3 := w2 (a (π i) 1) qa.2.1
        have e4 : snv d m r at' s (a (π i) 1) = sn d m r at' s (a (π i) 1) := by unfold snv; rw [if_pos hs]
        have h9 := snv_le hd hM hN (s := s) hr ha qa.2.1
        rw [e4] at w3 h9
        rw [w1, ob1_s, ixd_nI (by omega) (by omega), bnd_eq, ixd_nI (by omega) (by omega), bnd_eq, q.2.2.1, q.2.2.2, ixd_nI (by omega) (by omega), sF_sF, sF_at, w3]
        by_cases c2 : sn d m r at' s (a (π i) 1) ≤ a (π i) 2
        · rw [if_pos (nI_le c2 (by omega)), wp_bnd]
          rw [if_pos c2] at hv
          exact ih j _ _ _ _ (by omega) ⟨i + 1, a (π i) 1, a (π i) 2, g2, rfl, rfl, (nI_succ i).symm, rfl, by omega, qa.2.1, qa.2.2.1, hv⟩
        · rw [if_neg (nI_ge (by omega) (by omega))]
          rw [if_neg c2] at hv
          exact wp_some.mpr ⟨g2, by rw [← hv]⟩
      · rw [if_neg (by rw [nI_eq (by omega) (by omega)]; exact c1), wp_bnd]
        rw [if_neg c1] at hv
        exact ih j _ _ _ _ (by omega) ⟨i + 1, at', s, g, rfl, rfl, (nI_succ i).symm, rfl, by omega, ha, hs, hv⟩
  obtain ⟨x, h1, g, h2⟩ := key
  exact ⟨g, by rw [h1, h2]⟩
theorem m_gotI (hd : TrOK d) (hm : MoOK d m) (hM : TrM d (M.2.1 20)) (hN : MoM d m (M.2.1 20)) (hS : SR d n a π E (M.2.1 20)) {r c : Nat} (hr : r < d.rd) (hc : c < d.n) : ∃ g h, f_X12_canHaveBeen M (nI r) (nI c) = some (gtI d m a π r n 0 c 0, sM M g h) := by
  have hn := hd.n8
  have h6 := hd.r6
  have h12 := hS.1
  have hG : TrG d := Or.inl hd
  have key : Wp (f_X12_canHaveBeen M (nI r) (nI c)) (fun o => ∃ g h, o = (gtI d m a π r n 0 c 0, sM M g h)) := by
    unfold f_X12_canHaveBeen
    have e0 : f_X12_nextSeen M (nI r) (-1) = _ := m_nextP hG hS (r := r) (lst := none) (i := 0) (by omega) (by omega) (Or.inl ⟨rfl, rfl⟩)
    rw [e0, ob1_s]
    refine wp_fl4 (fun j x y z Z => ∃ i at' s g h, x = nI at' ∧ y = nI s ∧ z = oM ((fnd (pS a π r) (n - i) i).map π) ∧ Z = sM M g h ∧ i + j = n ∧ at' < d.n ∧ s ≤ 999 ∧ gtI d m a π r j i at' s = gtI d m a π r n 0 c 0) ?_ n (FU_lt (by omega)) _ _ _ _ ⟨0, c, 0, M.2.1 24, M.2.1 25, rfl, rfl, rfl, (sM_id M).symm, by omega, hc, by omega, rfl⟩
    rintro j K _ _ _ _ ⟨i, at', s, g, h, rfl, rfl, rfl, rfl, hij, ha, hs, hv⟩ ih
    have hM' : TrM d ((sM M g h).2.1 20) := hM
    have hN' : MoM d m ((sM M g h).2.1 20) := hN
    unfold f_X12_canHaveBeen_b13 f_X12_canHaveBeen_b68
    have ej : n - i = j := by omega
    rw [ej]
    cases hf : fnd (pS a π r) j i with
    | none =>
      rw [gtI_none hf] at hv
      rw [Option.map_none, if_pos (by decide)]
      exact wp_some.mpr ⟨g, h, by rw [← hv]⟩
    | some x =>
      obtain ⟨g1, g2, g3, g4⟩ := fnd_some hf
      rw [gtI_some hf] at hv
      have hx : x < n := by omega
      have q := hS.2.2.2.2.1 x hx
      have qa := hS.2.2.2.1 (π x) q.1
      have e3 : (oM ((some x).map π) : Int32) = nI (π x) := rfl
      have e20 : (sM M g h).2.1 20 = M.2.1 20 := rfl
      obtain ⟨g5, h5, w1, w2⟩ := m_fs hd hM' hN' hr ha hs
      have w3 := w2 (a (π x) 1) qa.2.1
      have hS5 : SR d n a π E ((sM M g5 h5).2.1 20) := hS
      have h9 := (sn_ok hd hM hN hr ha hs).2.1 (a (π x) 1) qa.2.1
      rw [e3, if_neg (nI_pos (by omega)), show (100 : Int32) = nI 100 from rfl, show (3 : Int32) = nI 3 from rfl, nI_mul, nI_add, show (1 : Int32) = nI 1 from rfl, nI_add, ixd_nI (by omega) (by omega), bnd_eq, e20, qa.2.2.2.2.1, w1, ob1_s, ixd_nI (by omega) (by omega), sM_sM, sM_24, w3, ixd_nI (by omega) (by omega), w3, m_secOf hS5 q.1, ob1_s]
      have e9 : f_X12_nextSeen (sM M g5 h5) (nI r) (nI (π x)) = _ := m_nextP hG hS5 (r := r) (lst := some (π x)) (i := x + 1) (by omega) (by omega) (Or.inr ⟨by omega, by rw [Nat.add_sub_cancel]⟩)
      by_cases c2 : sn d m r at' s (a (π x) 1) ≤ a (π x) 2
      · rw [sN_f (by omega), if_neg (nI_pos (by omega)), if_pos (nI_le c2 (by omega)), ob1_s, e9, ob1_s]
        rw [if_pos c2] at hv
        exact ih (i + j - (x + 1)) _ _ _ _ (by omega) ⟨x + 1, a (π x) 1, a (π x) 2, g5, h5, rfl, rfl, rfl, rfl, by omega, qa.2.1, qa.2.2.1, hv⟩
      · rw [if_neg c2] at hv
        rcases h9 with h9 | h9
        · rw [sN_f h9, if_neg (nI_pos (by omega)), if_neg (nI_ge (by omega) (by omega))]
          exact wp_some.mpr ⟨g5, h5, by rw [← hv]⟩
        · rw [sN_i (by omega), if_pos (by decide)]
          exact wp_some.mpr ⟨g5, h5, by rw [← hv]⟩
  obtain ⟨x, h1, g, h, h2⟩ := key
  exact ⟨g, h, by rw [h1, h2]⟩
end
theorem st_gotIn : St_gotIn RR := by
  intro s M p1 hR
  have hR0 := hR; obtain ⟨hTp, ⟨d, m, n, a, π, ⟨hG, hT, hM, hm, hO, hN, hS, hX, hX0⟩, hH⟩, hI, hU⟩ := hR
  unfold f_X11_gotIn f_X12_gotIn
  rcases csI p1 d.rd with ⟨r, hr, rfl⟩ | hno
  · have hd := hG.okr hr
    have h8 := hd.n8
    rw [x_hasRider hG hT hr, m_isRider hG hM hr, ob1_s, ob1_s, itT, itT]
    have kx : Wp (fl3 (f_X11_gotIn_b17 (s.1 2) (s.1 3) (s.1 4) (nI r)) FU 0 0 (s.1 13)) (fun o => o.1 = bset (fun c => gtI d m a π r n 0 c 0) d.n 0 0) := by
      refine wp_fl3 (fun j x y _ => ∃ k, y = nI k ∧ k + j = d.n ∧ bset (fun c => gtI d m a π r n 0 c 0) j k x = bset (fun c => gtI d m a π r n 0 c 0) d.n 0 0) ?_ d.n (FU_lt (by omega)) _ _ _ ⟨0, rfl, by omega, rfl⟩
      rintro j K x _ Z ⟨k, rfl, hkj, hb⟩ ih
      unfold f_X11_gotIn_b17 f_X11_gotIn_b49
      cases j with
      | zero =>
        have e : k = d.n := by omega
        subst e
        rw [hT.1.1, if_pos (nI_le (Nat.le_refl _) (by omega))]
        exact wp_some.mpr hb
      | succ j =>
        have hk : k < d.n := by omega
        rw [bset_s] at hb
        obtain ⟨g, h1⟩ := x_gotI hd hT hm hO hM hN hS (S := Z) hr hk
        rw [hT.1.1, if_neg (nI_ge hk (by omega)), h1, ob2_s]
        dsimp only
        by_cases c1 : gtI d m a π r n 0 k 0 = true
        · rw [c1, itT, wp_bnd, wp_bnd]
          simp only [c1, if_true] at hb
          exact ih j _ _ _ (by omega) ⟨k + 1, (nI_succ k).symm, by omega, hb⟩
        · simp only [Bool.not_eq_true] at c1
          rw [c1, itF, wp_bnd]
          simp only [c1, Bool.false_eq_true, if_false] at hb
          exact ih j _ _ _ (by omega) ⟨k + 1, (nI_succ k).symm, by omega, hb⟩
    have km : Wp (fl3 (f_X12_gotIn_b14 (nI r)) FU 0 0 M) (fun o => o.1 = bset (fun c => gtI d m a π r n 0 c 0) d.n 0 0 ∧ pjM o.2 = pjM M) := by
      refine wp_fl3 (fun j x y Z => ∃ k g h, y = nI k ∧ Z = sM M g h ∧ k + j = d.n ∧ bset (fun c => gtI d m a π r n 0 c 0) j k x = bset (fun c => gtI d m a π r n 0 c 0) d.n 0 0) ?_ d.n (FU_lt (by omega)) _ _ _ ⟨0, M.2.1 24, M.2.1 25, rfl, (sM_id M).symm, by omega, rfl⟩
      rintro j K x _ _ ⟨k, g, h, rfl, rfl, hkj, hb⟩ ih
      have hM' : TrM d ((sM M g h).2.1 20) := hM
      have hN' : MoM d m ((sM M g h).2.1 20) := hN
      have hS' : SR d n a π (s.1 4) ((sM M g h).2.1 20) := hS
      unfold f_X12_gotIn_b14 f_X12_gotIn_b41
      cases j with
      | zero =>
        have e : k = d.n := by omega
        subst e
        rw [hM'.1.1, if_pos (nI_le (Nat.le_refl _) (by omega))]
        exact wp_some.mpr ⟨hb, rfl⟩
      | succ j =>
        have hk : k < d.n := by omega
        rw [bset_s] at hb
        obtain ⟨g2, h2, e2⟩ := m_gotI hd hm hM' hN' hS' hr hk
        rw [hM'.1.1, if_neg (nI_ge hk (by omega)), e2, ob2_s, sM_sM]
        dsimp only
        by_cases c1 : gtI d m a π r n 0 k 0 = true
        · rw [c1, itT, wp_bnd, wp_bnd]
          simp only [c1, if_true] at hb
          exact ih j _ _ _ (by omega) ⟨k + 1, g2, h2, (nI_succ k).symm, rfl, by omega, hb⟩
        · simp only [Bool.not_eq_true] at c1
          rw [c1, itF, wp_bnd, wp_bnd, or_0]
          simp only [c1, Bool.false_eq_true, if_false] at hb
          exact ih j _ _ _ (by omega) ⟨k + 1, g2, h2, (nI_succ k).symm, rfl, by omega, hb⟩
    obtain ⟨⟨r1, S1⟩, h1, h2⟩ := kx
    obtain ⟨⟨r2, M1⟩, h3, h4, h5⟩ := km
    simp only at h2 h4 h5
    subst h2 h4
    exact ⟨_, S1, M1, h1, h3, RR_sc hR0 _ h5⟩
  · rw [x_hasRiderN hG hT hno, m_isRiderN hG hM hno, ob1_s, ob1_s, itF, itF]
    exact ⟨_, _, _, rfl, rfl, RR_sc hR0 _ rfl⟩
