/-! what class and reference have alike -/
def isB (v : Int32) : Prop := -128 ≤ v.toInt ∧ v.toInt ≤ 127
def TpR (Q : Sg) (l : Int32) (f : Nat → Int32) : Prop := ∃ n, n ≤ 400 ∧ Q.1 1 = nI n ∧ l = nI n ∧ ∀ i, i < n → Q.2.1 0 i = f i ∧ isB (f i)
/-- the SEEN as told, and in the order of their seconds -/
def SR (d : Tr) (n : Nat) (a : Nat → Nat → Nat) (π : Nat → Nat) (E : Sg) (f : Nat → Int32) : Prop := n ≤ 12 ∧ f 136 = nI n ∧ E.1 0 = nI n ∧ (∀ k, k < n → a k 0 < d.rd ∧ a k 1 < d.n ∧ a k 2 ≤ 999 ∧ f (100 + 3 * k) = nI (a k 0) ∧ f (100 + 3 * k + 1) = nI (a k 1) ∧ f (100 + 3 * k + 2) = nI (a k 2)) ∧ (∀ i, i < n → π i < n ∧ E.2.1 1 i = nI (a (π i) 0) ∧ E.2.1 2 i = nI (a (π i) 1) ∧ E.2.1 3 i = nI (a (π i) 2)) ∧ (∀ i j, i < j → j < n → a (π i) 2 * 16 + π i < a (π j) 2 * 16 + π j) ∧ (∀ k, k < n → ∃ i, i < n ∧ π i = k)
def WR (d : Tr) (m : Mo) (n : Nat) (a : Nat → Nat → Nat) (π : Nat → Nat) (T O E X : Sg) (f : Nat → Int32) (y : Int32) : Prop := TrG d ∧ TrC d T ∧ TrM d f ∧ MoOK d m ∧ MoC d m O ∧ MoM d m f ∧ SR d n a π E f ∧ X.1 3 = y ∧ ¬ y < 0
def HR (d : Tr) (H : Sg) (hm : Nat → Sg) (w : Nat → Int32) (u : Int32) : Prop := ∃ (nx sz : Nat) (ms : Nat → Mo), nx < 20 ∧ sz ≤ 20 ∧ H.1 1 = nI nx ∧ H.1 2 = nI sz ∧ u = nI sz ∧ ∀ j, j < sz → MoOK d (ms j) ∧ MoC d (ms j) (hm ((nx + 20 - (sz - j)) % 20)) ∧ MoM d (ms j) (fun k => w (100 * j + k)) ∧ TrM d (fun k => w (100 * j + k))
def IR (F : Sg) (iT iO iE iX : Nat → Sg) (im ix mk : Nat → Int32) : Prop := ∀ k, k < 4 → ∃ b, F.2.1 4 k = bI b ∧ mk k = bI b ∧ (b = true → ∃ d m n a π, WR d m n a π (iT k) (iO k) (iE k) (iX k) (fun i => im (137 * k + i)) (ix k))
/-! RULES: a cell of the reference (a number), and the class's cell of it -/
def cW (w : Nat) : Nat := [7, 1, 17, 18, 19, 20, 21, 22, 23, 24, 25, 6, 26].getD w 0
def cS (k : Nat) : Nat := [0, 0, 43, 45, 42, 47, 60, 316, 61, 318, 62, 16, 14, 15, 37].getD k 0
def cC (y : Nat) : Nat := if y % 16 = 0 then y / 16 else if y % 16 = 1 then 200000 + cW (y / 16) else 100000 + cS (y % 16)
def yOK (y : Nat) : Prop := (y % 16 = 0 ∧ y / 16 ≤ 99999) ∨ (y % 16 = 1 ∧ y / 16 ≤ 12) ∨ (2 ≤ y ∧ y ≤ 14)
/-- what stands on the stack: false a number, true a fact -/
def tyS (y : Nat) (st : List Bool) : Option (List Bool) := if y % 16 ≤ 1 then (if st.length < 60 then some (false :: st) else none) else if y = 11 then (match st with | true :: r => some (true :: r) | _ => none) else if y = 12 ∨ y = 13 then (match st with | true :: true :: r => some (true :: r) | _ => none) else if 6 ≤ y ∧ y ≤ 10 then (match st with | false :: false :: r => some (true :: r) | _ => none) else (match st with | false :: false :: r => some (false :: r) | _ => none)
def wfe (y : Nat → Nat) : Nat → Nat → List Bool → Option (List Bool)
  | 0, _, st => some st
  | k + 1, i, st => match tyS (y i) st with | none => none | some st' => wfe y k (i + 1) st'
def bgC (te : Nat → Nat) (c : Nat) : Nat := if c = 0 then 0 else te (c - 1)
def RlR (U : Sg) (ln : Nat → Nat) (sg cl : Nat → Int32) (nc0 : Int32) : Prop := ∃ (len nc : Nat) (y kd se te : Nat → Nat), len ≤ 400 ∧ nc ≤ 12 ∧ (ln 0 = len ∧ ln 1 = nc ∧ ln 2 = nc ∧ ln 3 = nc) ∧ nc0 = nI nc ∧ (∀ i, i < len → U.2.1 0 i = nI (cC (y i)) ∧ sg i = nI (y i) ∧ yOK (y i)) ∧ (∀ c, c < nc → (kd c ≤ 2 ∧ bgC te c ≤ se c ∧ se c ≤ te c ∧ te c ≤ len) ∧ (U.2.1 1 c = nI (10 + kd c) ∧ U.2.1 2 c = nI (se c) ∧ U.2.1 3 c = nI (te c)) ∧ (cl (5 * c) = nI (kd c) ∧ cl (5 * c + 1) = nI (bgC te c) ∧ cl (5 * c + 2) = nI (se c) ∧ cl (5 * c + 3) = (if se c < te c then nI (se c) else -nI 1) ∧ cl (5 * c + 4) = nI (te c)) ∧ (kd c < 2 → wfe y (se c - bgC te c) (bgC te c) [] = some [false]) ∧ (se c < te c → wfe y (te c - se c) (se c) [] = some [true]))
def RuR (q : Int32) (rU : Nat → Sg) (ln : Nat → Nat → Nat) (nr : Nat) (q2 : Int32) (sg cl ns : Nat → Int32) : Prop := nr ≤ 6 ∧ q = nI nr ∧ q2 = nI nr ∧ ∀ j, j < nr → RlR (rU j) (ln j) (fun i => sg (400 * j + i)) (fun i => cl (60 * j + i)) (ns j)
/-- class and reference are alike -/
def RR (s : XS) (M : Sg) : Prop := TpR (s.1 1) (M.1 1) (M.2.1 0) ∧ (∃ d m n a π, WR d m n a π (s.1 2) (s.1 3) (s.1 4) (s.1 5) (M.2.1 20) (M.1 21) ∧ HR d (s.1 14) (s.2.1 0) (M.2.1 22) (M.1 23)) ∧ IR (s.1 0) (s.2.1 1) (s.2.1 2) (s.2.1 3) (s.2.1 4) (M.2.1 36) (M.2.1 37) (M.2.1 38) ∧ RuR ((s.1 0).1 7) (s.2.1 5) s.2.2.1 s.2.2.2 (M.1 2) (M.2.1 3) (M.2.1 5) (M.2.1 6)
abbrev PJ : Type := (Int32 × Int32 × Int32 × Int32) × ((Nat → Int32) × (Nat → Int32) × (Nat → Int32) × (Nat → Int32)) × ((Nat → Int32) × (Nat → Int32) × (Nat → Int32) × (Nat → Int32) × (Nat → Int32))
/-- what of the reference isn't scratch -/
def pjM (M : Sg) : PJ := ((M.1 1, M.1 2, M.1 21, M.1 23), (M.2.1 0, M.2.1 3, M.2.1 5, M.2.1 6), (M.2.1 20, M.2.1 22, M.2.1 36, M.2.1 37, M.2.1 38))
theorem RR_sc {s : XS} {M M1 : Sg} (h : RR s M) (S1 : Sg) (hp : pjM M1 = pjM M) : RR (sC s 13 S1) M1 := by
  simp only [pjM, Prod.mk.injEq] at hp
  obtain ⟨⟨e1, e2, e3, e4⟩, ⟨e5, e6, e7, e8⟩, e9, e10, e11, e12, e13⟩ := hp
  unfold RR
  rw [e1, e2, e3, e4, e5, e6, e7, e8, e9, e10, e11, e12, e13]
  exact h
theorem csI (p : Int32) (n : Nat) : (∃ c, c < n ∧ p = nI c) ∨ ∀ c, c < n → p ≠ nI c := by
  by_cases h : ∃ c, c < n ∧ p = nI c
  · exact Or.inl h
  · exact Or.inr (fun c hc e => h ⟨c, hc, e⟩)
theorem sM_sM (M : Sg) (g h g2 h2 : Nat → Int32) : sM (sM M g h) g2 h2 = sM M g2 h2 := by
  unfold sM sF
  show (M.1, va_up (va_up (va_up (va_up M.2.1 24 g) 25 h) 24 g2) 25 h2, M.2.2) = (M.1, va_up (va_up M.2.1 24 g2) 25 h2, M.2.2)
  rw [va_up_cm _ _ _ (show (25 : Nat) ≠ 24 by decide), va_up_up, va_up_up]
theorem in_no {p : Int32} {b : Nat} {B : Int64} (hB : B.toInt = b) (h : ∀ k, k ≤ b → p ≠ nI k) : f_X12_in p.toInt64 (0 : Int64) B = some false := m_inF (a := 0) (by decide) hB (fun k _ hk _ => h k hk)
theorem in_ok {k b : Nat} {B : Int64} (hB : B.toInt = b) (h : k ≤ b) (hk : k < 2 ^ 31) : f_X12_in (nI k).toInt64 (0 : Int64) B = some true := m_inT (a := 0) (by decide) hB (by omega) h hk
theorem st_coach : St_coach RR := by
  intro s M p1 p2 hR
  have hR0 := hR; obtain ⟨hTp, ⟨d, m, n, a, π, ⟨hG, hT, hM, hm, hO, hN, hS, hX, hX0⟩, hH⟩, hI, hU⟩ := hR
  have key : ∃ r, f_X11_coach (s.1 2) (s.1 3) p1 p2 = some r ∧ f_X12_coach M p1 p2 = some r := by
    unfold f_X11_coach f_X12_coach f_X12_coach_b20
    rcases csI p1 d.n with ⟨c, hc, rfl⟩ | hno
    · have hd := hG.ok (by omega)
      have hn := hd.n8
      have t1 := hM.2.2.1 c hc
      have t2 := hT.2.2.2.1 c hc
      rcases csI p2 3 with ⟨k, hk, rfl⟩ | hno2
      · have h9 := in_ok (k := k) (b := 2) (B := 2) (by decide) (by omega) (by omega)
        have h3 : k = 0 ∨ k = 1 ∨ k = 2 := by omega
        rcases h3 with rfl | rfl | rfl
        · simp (disch := omega) only [x_hasCoach hG hT hc, m_isCoach hG hM hc, h9, t1, t2, ob1_s, ob2_s, bnd_eq, bI_t, bI_f, lit, nI_add, nI_mul, nI_eq, nI_leI, nI_ltI, ixd_nI, m1_lt, lt_m1, m1_le, le_m1, m1_eq, eq_m1, if_true, if_false, ite_true, ite_false, reduceIte, reduceCtorEq, not_true_eq_false, not_false_eq_true]; exact ⟨_, rfl, rfl⟩
        · simp (disch := omega) only [x_hasCoach hG hT hc, m_isCoach hG hM hc, h9, t1, t2, ob1_s, ob2_s, bnd_eq, bI_t, bI_f, lit, nI_add, nI_mul, nI_eq, nI_leI, nI_ltI, ixd_nI, m1_lt, lt_m1, m1_le, le_m1, m1_eq, eq_m1, if_true, if_false, ite_true, ite_false, reduceIte, reduceCtorEq, not_true_eq_false, not_false_eq_true]; exact ⟨_, rfl, rfl⟩
        · simp (disch := omega) only [x_hasCoach hG hT hc, m_isCoach hG hM hc, h9, t1, t2, x_ridersIn hG hT hm hO hc, m_ridersIn hG hM hm hN hc, ob1_s, ob2_s, bnd_eq, bI_t, bI_f, lit, nI_add, nI_mul, nI_eq, nI_leI, nI_ltI, ixd_nI, m1_lt, lt_m1, m1_le, le_m1, m1_eq, eq_m1, if_true, if_false, ite_true, ite_false, reduceIte, reduceCtorEq, not_true_eq_false, not_false_eq_true]; exact ⟨_, rfl, rfl⟩
      · have h9 := in_no (p := p2) (b := 2) (B := 2) (by decide) (fun k hk => hno2 k (by omega))
        simp (disch := omega) only [x_hasCoach hG hT hc, m_isCoach hG hM hc, h9, hno2 0 (by omega), hno2 1 (by omega), hno2 2 (by omega), ob1_s, ob2_s, bnd_eq, bI_t, bI_f, lit, nI_add, nI_mul, nI_eq, nI_leI, nI_ltI, ixd_nI, m1_lt, lt_m1, m1_le, le_m1, m1_eq, eq_m1, if_true, if_false, ite_true, ite_false, reduceIte, reduceCtorEq, not_true_eq_false, not_false_eq_true]
        exact ⟨_, rfl, rfl⟩
    · simp (disch := omega) only [x_hasCoachN hG hT hno, m_isCoachN hG hM hno, ob1_s, ob2_s, bnd_eq, bI_t, bI_f, lit, nI_add, nI_mul, nI_eq, nI_leI, nI_ltI, ixd_nI, m1_lt, lt_m1, m1_le, le_m1, m1_eq, eq_m1, if_true, if_false, ite_true, ite_false, reduceIte, reduceCtorEq, not_true_eq_false, not_false_eq_true]
      exact ⟨_, rfl, rfl⟩
  obtain ⟨r, h1, h2⟩ := key
  exact ⟨r, h1, h2, hR0⟩
theorem st_way : St_way RR := by
  intro s M p1 p2 hR
  have hR0 := hR; obtain ⟨hTp, ⟨d, m, n, a, π, ⟨hG, hT, hM, hm, hO, hN, hS, hX, hX0⟩, hH⟩, hI, hU⟩ := hR
  have key : ∃ r, f_X11_way (s.1 2) (s.1 3) p1 p2 = some r ∧ f_X12_way M p1 p2 = some r := by
    unfold f_X11_way f_X12_way f_X12_way_b20
    rcases csI p1 (d.n - 1) with ⟨c, hc, rfl⟩ | hno
    · have hd := hG.ok (by omega)
      have hn := hd.n8
      have hc1 : c + 1 < d.n := by omega
      have t1 := hM.2.2.2.1 c hc1
      have t2 := hT.2.2.2.2.1 c hc1
      have t3 := hN.2.1 c hc1
      have t4 := x_isShut (w := c) hm hO (by omega)
      have t5 := x_goerThrough (w := c) hG hT hm hO (by omega)
      have t6 := m_goerIn (w := c) hG hM hm hN (by omega)
      rcases csI p2 3 with ⟨k, hk, rfl⟩ | hno2
      · have h9 := in_ok (k := k) (b := 2) (B := 2) (by decide) (by omega) (by omega)
        have h3 : k = 0 ∨ k = 1 ∨ k = 2 := by omega
        rcases h3 with rfl | rfl | rfl
        · by_cases e : m.sh.testBit c = true
          · simp (disch := omega) only [x_hasWay hG hT hc1, m_isWay hG hM hc1, h9, t3, t4, e, ob1_s, ob2_s, bnd_eq, bI_t, bI_f, lit, nI_add, nI_mul, nI_eq, nI_leI, nI_ltI, ixd_nI, m1_lt, lt_m1, m1_le, le_m1, m1_eq, eq_m1, if_true, if_false, ite_true, ite_false, reduceIte, reduceCtorEq, not_true_eq_false, not_false_eq_true]; exact ⟨_, rfl, rfl⟩
          · simp only [Bool.not_eq_true] at e
            simp (disch := omega) only [x_hasWay hG hT hc1, m_isWay hG hM hc1, h9, t3, t4, e, Bool.false_eq_true, ob1_s, ob2_s, bnd_eq, bI_t, bI_f, lit, nI_add, nI_mul, nI_eq, nI_leI, nI_ltI, ixd_nI, m1_lt, lt_m1, m1_le, le_m1, m1_eq, eq_m1, if_true, if_false, ite_true, ite_false, reduceIte, reduceCtorEq, not_true_eq_false, not_false_eq_true]; exact ⟨_, rfl, rfl⟩
        · simp (disch := omega) only [x_hasWay hG hT hc1, m_isWay hG hM hc1, h9, t1, t2, ob1_s, ob2_s, bnd_eq, bI_t, bI_f, lit, nI_add, nI_mul, nI_eq, nI_leI, nI_ltI, ixd_nI, m1_lt, lt_m1, m1_le, le_m1, m1_eq, eq_m1, if_true, if_false, ite_true, ite_false, reduceIte, reduceCtorEq, not_true_eq_false, not_false_eq_true]; exact ⟨_, rfl, rfl⟩
        · simp (disch := omega) only [x_hasWay hG hT hc1, m_isWay hG hM hc1, h9, t5, t6, ob1_s, ob2_s, bnd_eq, bI_t, bI_f, lit, nI_add, nI_mul, nI_eq, nI_leI, nI_ltI, ixd_nI, m1_lt, lt_m1, m1_le, le_m1, m1_eq, eq_m1, if_true, if_false, ite_true, ite_false, reduceIte, reduceCtorEq, not_true_eq_false, not_false_eq_true]; exact ⟨_, rfl, rfl⟩
      · have h9 := in_no (p := p2) (b := 2) (B := 2) (by decide) (fun k hk => hno2 k (by omega))
        simp (disch := omega) only [x_hasWay hG hT hc1, m_isWay hG hM hc1, h9, hno2 0 (by omega), hno2 1 (by omega), hno2 2 (by omega), ob1_s, ob2_s, bnd_eq, bI_t, bI_f, lit, nI_add, nI_mul, nI_eq, nI_leI, nI_ltI, ixd_nI, m1_lt, lt_m1, m1_le, le_m1, m1_eq, eq_m1, if_true, if_false, ite_true, ite_false, reduceIte, reduceCtorEq, not_true_eq_false, not_false_eq_true]
        exact ⟨_, rfl, rfl⟩
    · simp (disch := omega) only [x_hasWayN hG hT (fun c hc => hno c (by omega)), m_isWayN hG hM (fun c hc => hno c (by omega)), ob1_s, ob2_s, bnd_eq, bI_t, bI_f, lit, nI_add, nI_mul, nI_eq, nI_leI, nI_ltI, ixd_nI, m1_lt, lt_m1, m1_le, le_m1, m1_eq, eq_m1, if_true, if_false, ite_true, ite_false, reduceIte, reduceCtorEq, not_true_eq_false, not_false_eq_true]
      exact ⟨_, rfl, rfl⟩
  obtain ⟨r, h1, h2⟩ := key
  exact ⟨r, h1, h2, hR0⟩
theorem st_stop : St_stop RR := by
  intro s M p1 p2 hR
  have hR0 := hR; obtain ⟨hTp, ⟨d, m, n, a, π, ⟨hG, hT, hM, hm, hO, hN, hS, hX, hX0⟩, hH⟩, hI, hU⟩ := hR
  have hb := hG.b
  have key : ∃ r, f_X11_stop (s.1 2) p1 p2 = some r ∧ f_X12_stop M p1 p2 = some r := by
    unfold f_X11_stop f_X12_stop f_X12_stop_b40 f_X11_stop_b18
    rw [hT.1.2.1, hM.1.2.1]
    rcases csI p1 d.st with ⟨c, hc, rfl⟩ | hno
    · have t1 := hM.2.2.2.2.1 c hc
      have t2 := hT.2.2.2.2.2.1 c hc
      have e1 : ¬ c < 0 := by omega
      have e2 : ¬ d.st ≤ c := by omega
      rcases csI p2 2 with ⟨k, hk, rfl⟩ | hno2
      · have h9 := in_ok (k := k) (b := 1) (B := 1) (by decide) (by omega) (by omega)
        have h3 : k = 0 ∨ k = 1 := by omega
        rcases h3 with rfl | rfl
        · simp (disch := omega) only [h9, t1, t2, hc, e1, e2, Nat.add_zero, ob1_s, ob2_s, bnd_eq, bI_t, bI_f, lit, nI_add, nI_mul, nI_eq, nI_leI, nI_ltI, ixd_nI, m1_lt, lt_m1, m1_le, le_m1, m1_eq, eq_m1, if_true, if_false, ite_true, ite_false, reduceIte, reduceCtorEq, not_true_eq_false, not_false_eq_true]; exact ⟨_, rfl, rfl⟩
        · simp (disch := omega) only [h9, t1, t2, hc, e1, e2, ob1_s, ob2_s, bnd_eq, bI_t, bI_f, lit, nI_add, nI_mul, nI_eq, nI_leI, nI_ltI, ixd_nI, m1_lt, lt_m1, m1_le, le_m1, m1_eq, eq_m1, if_true, if_false, ite_true, ite_false, reduceIte, reduceCtorEq, not_true_eq_false, not_false_eq_true]; exact ⟨_, rfl, rfl⟩
      · have h9 := in_no (p := p2) (b := 1) (B := 1) (by decide) (fun k hk => hno2 k (by omega))
        simp (disch := omega) only [h9, hno2 0 (by omega), hno2 1 (by omega), hc, e1, e2, ob1_s, ob2_s, bnd_eq, bI_t, bI_f, lit, nI_add, nI_mul, nI_eq, nI_leI, nI_ltI, ixd_nI, m1_lt, lt_m1, m1_le, le_m1, m1_eq, eq_m1, if_true, if_false, ite_true, ite_false, reduceIte, reduceCtorEq, not_true_eq_false, not_false_eq_true]
        exact ⟨_, rfl, rfl⟩
    · rcases nI_out (by omega) hno with h | h
      · rw [if_pos h, if_pos h]; exact ⟨_, rfl, rfl⟩
      · by_cases h0 : p1 < 0
        · rw [if_pos h0, if_pos h0]; exact ⟨_, rfl, rfl⟩
        · rw [if_neg h0, if_neg h0, if_pos h, if_neg (fun h2 => (Int32.not_le.mpr h2) h)]; exact ⟨_, rfl, rfl⟩
  obtain ⟨r, h1, h2⟩ := key
  exact ⟨r, h1, h2, hR0⟩
theorem st_rider : St_rider RR := by
  intro s M p1 p2 hR
  have hR0 := hR; obtain ⟨hTp, ⟨d, m, n, a, π, ⟨hG, hT, hM, hm, hO, hN, hS, hX, hX0⟩, hH⟩, hI, hU⟩ := hR
  have key : ∃ r, f_X11_rider (s.1 2) (s.1 3) p1 p2 = some r ∧ f_X12_rider M p1 p2 = some r := by
    unfold f_X11_rider f_X12_rider f_X12_rider_b20
    rcases csI p1 d.rd with ⟨c, hc, rfl⟩ | hno
    · have hd := hG.okr hc
      have hn := hd.r6
      have h8 := hd.n8
      have t1 := hT.2.2.2.2.2.2 c hc
      have t2 := hO.2 c hc
      have t3 := hM.2.2.2.2.2 c hc
      have t4 := hN.2.2 c hc
      have t5 := hm.2.2.2.1 c hc
      rcases csI p2 9 with ⟨k, hk, rfl⟩ | hno2
      · have h9 := in_ok (k := k) (b := 8) (B := 8) (by decide) (by omega) (by omega)
        have h3 : k = 0 ∨ k = 1 ∨ k = 2 ∨ k = 3 ∨ k = 4 ∨ k = 5 ∨ k = 6 ∨ k = 7 ∨ k = 8 := by omega
        rcases h3 with rfl | rfl | rfl | rfl | rfl | rfl | rfl | rfl | rfl
        · simp (disch := omega) only [x_hasRider hG hT hc, m_isRider hG hM hc, h9, m_riderOf, Nat.reduceLeDiff, Nat.add_zero, t2.1, t4.1, ob1_s, ob2_s, bnd_eq, bI_t, bI_f, lit, nI_add, nI_mul, nI_eq, nI_leI, nI_ltI, ixd_nI, m1_lt, lt_m1, m1_le, le_m1, m1_eq, eq_m1, if_true, if_false, ite_true, ite_false, reduceIte, reduceCtorEq, not_true_eq_false, not_false_eq_true]; exact ⟨_, rfl, rfl⟩
        · simp (disch := omega) only [x_hasRider hG hT hc, m_isRider hG hM hc, h9, m_riderOf, Nat.reduceLeDiff, t1.1, t3.1, ob1_s, ob2_s, bnd_eq, bI_t, bI_f, lit, nI_add, nI_mul, nI_eq, nI_leI, nI_ltI, ixd_nI, m1_lt, lt_m1, m1_le, le_m1, m1_eq, eq_m1, if_true, if_false, ite_true, ite_false, reduceIte, reduceCtorEq, not_true_eq_false, not_false_eq_true]; exact ⟨_, rfl, rfl⟩
        · simp (disch := omega) only [x_hasRider hG hT hc, m_isRider hG hM hc, h9, m_riderOf, Nat.reduceLeDiff, t1.2.1, t3.2.1, ob1_s, ob2_s, bnd_eq, bI_t, bI_f, lit, nI_add, nI_mul, nI_eq, nI_leI, nI_ltI, ixd_nI, m1_lt, lt_m1, m1_le, le_m1, m1_eq, eq_m1, if_true, if_false, ite_true, ite_false, reduceIte, reduceCtorEq, not_true_eq_false, not_false_eq_true]; exact ⟨_, rfl, rfl⟩
        · simp (disch := omega) only [x_hasRider hG hT hc, m_isRider hG hM hc, h9, m_riderOf, Nat.reduceLeDiff, t1.2.2.1, t3.2.2.1, ob1_s, ob2_s, bnd_eq, bI_t, bI_f, lit, nI_add, nI_mul, nI_eq, nI_leI, nI_ltI, ixd_nI, m1_lt, lt_m1, m1_le, le_m1, m1_eq, eq_m1, if_true, if_false, ite_true, ite_false, reduceIte, reduceCtorEq, not_true_eq_false, not_false_eq_true]; exact ⟨_, rfl, rfl⟩
        · simp (disch := omega) only [x_hasRider hG hT hc, m_isRider hG hM hc, h9, m_riderOf, Nat.reduceLeDiff, t1.2.2.2.1, t3.2.2.2, ob1_s, ob2_s, bnd_eq, bI_t, bI_f, lit, nI_add, nI_mul, nI_eq, nI_leI, nI_ltI, ixd_nI, m1_lt, lt_m1, m1_le, le_m1, m1_eq, eq_m1, if_true, if_false, ite_true, ite_false, reduceIte, reduceCtorEq, not_true_eq_false, not_false_eq_true]; exact ⟨_, rfl, rfl⟩
        · simp (disch := omega) only [x_hasRider hG hT hc, m_isRider hG hM hc, h9, m_riderOf, Nat.reduceLeDiff, t2.2.1, t4.2.1, ob1_s, ob2_s, bnd_eq, bI_t, bI_f, lit, nI_add, nI_mul, nI_eq, nI_leI, nI_ltI, ixd_nI, m1_lt, lt_m1, m1_le, le_m1, m1_eq, eq_m1, if_true, if_false, ite_true, ite_false, reduceIte, reduceCtorEq, not_true_eq_false, not_false_eq_true]; exact ⟨_, rfl, rfl⟩
        · simp (disch := omega) only [x_hasRider hG hT hc, m_isRider hG hM hc, h9, m_riderOf, Nat.reduceLeDiff, t2.2.2.1, t4.2.2.1, ob1_s, ob2_s, bnd_eq, bI_t, bI_f, lit, nI_add, nI_mul, nI_eq, nI_leI, nI_ltI, ixd_nI, m1_lt, lt_m1, m1_le, le_m1, m1_eq, eq_m1, if_true, if_false, ite_true, ite_false, reduceIte, reduceCtorEq, not_true_eq_false, not_false_eq_true]; exact ⟨_, rfl, rfl⟩
        · simp (disch := omega) only [x_hasRider hG hT hc, m_isRider hG hM hc, h9, m_riderOf, Nat.reduceLeDiff, t2.2.2.2.2, t4.2.2.2, ob1_s, ob2_s, bnd_eq, bI_t, bI_f, lit, nI_add, nI_mul, nI_eq, nI_leI, nI_ltI, ixd_nI, m1_lt, lt_m1, m1_le, le_m1, m1_eq, eq_m1, if_true, if_false, ite_true, ite_false, reduceIte, reduceCtorEq, not_true_eq_false, not_false_eq_true]; exact ⟨_, rfl, rfl⟩
        · by_cases e : d.g (m.co c) = d.ds c
          · simp (disch := omega) only [x_hasRider hG hT hc, m_isRider hG hM hc, h9, m_riderOf, Nat.reduceLeDiff, Nat.add_zero, t2.1, t4.1, x_isRight hd hT hc t5, m_isRight hd hM hc t5, e, decide_true, ob1_s, ob2_s, bnd_eq, bI_t, bI_f, lit, nI_add, nI_mul, nI_eq, nI_leI, nI_ltI, ixd_nI, m1_lt, lt_m1, m1_le, le_m1, m1_eq, eq_m1, if_true, if_false, ite_true, ite_false, reduceIte, reduceCtorEq, not_true_eq_false, not_false_eq_true]; exact ⟨_, rfl, rfl⟩
          · simp (disch := omega) only [x_hasRider hG hT hc, m_isRider hG hM hc, h9, m_riderOf, Nat.reduceLeDiff, Nat.add_zero, t2.1, t4.1, x_isRight hd hT hc t5, m_isRight hd hM hc t5, e, decide_false, ob1_s, ob2_s, bnd_eq, bI_t, bI_f, lit, nI_add, nI_mul, nI_eq, nI_leI, nI_ltI, ixd_nI, m1_lt, lt_m1, m1_le, le_m1, m1_eq, eq_m1, if_true, if_false, ite_true, ite_false, reduceIte, reduceCtorEq, not_true_eq_false, not_false_eq_true]; exact ⟨_, rfl, rfl⟩
      · have h9 := in_no (p := p2) (b := 8) (B := 8) (by decide) (fun k hk => hno2 k (by omega))
        simp (disch := omega) only [x_hasRider hG hT hc, m_isRider hG hM hc, h9, hno2 0 (by omega), hno2 1 (by omega), hno2 2 (by omega), hno2 3 (by omega), hno2 4 (by omega), hno2 5 (by omega), hno2 6 (by omega), hno2 7 (by omega), hno2 8 (by omega), ob1_s, ob2_s, bnd_eq, bI_t, bI_f, lit, nI_add, nI_mul, nI_eq, nI_leI, nI_ltI, ixd_nI, m1_lt, lt_m1, m1_le, le_m1, m1_eq, eq_m1, if_true, if_false, ite_true, ite_false, reduceIte, reduceCtorEq, not_true_eq_false, not_false_eq_true]
        exact ⟨_, rfl, rfl⟩
    · simp (disch := omega) only [x_hasRiderN hG hT hno, m_isRiderN hG hM hno, ob1_s, ob2_s, bnd_eq, bI_t, bI_f, lit, nI_add, nI_mul, nI_eq, nI_leI, nI_ltI, ixd_nI, m1_lt, lt_m1, m1_le, le_m1, m1_eq, eq_m1, if_true, if_false, ite_true, ite_false, reduceIte, reduceCtorEq, not_true_eq_false, not_false_eq_true]
      exact ⟨_, rfl, rfl⟩
  obtain ⟨r, h1, h2⟩ := key
  exact ⟨r, h1, h2, hR0⟩
