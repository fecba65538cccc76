/-! RULE: a clause -/
/-- what of a clause lies in class and reference -/
def CK (t : Nat) (l : List Nat) (kd se te : Nat → Nat) (k : Nat) (f : Nat → Int32) (K : Sg) : Prop := (kd k ≤ 2 ∧ bgC te k ≤ se k ∧ se k ≤ te k ∧ te k ≤ l.length) ∧ (K.2.1 2 k = nI (10 + kd k) ∧ K.2.1 3 k = nI (se k) ∧ K.2.1 4 k = nI (te k)) ∧ (f (60 * t + 5 * k) = nI (kd k) ∧ f (60 * t + 5 * k + 1) = nI (bgC te k) ∧ f (60 * t + 5 * k + 2) = nI (se k) ∧ f (60 * t + 5 * k + 3) = (if se k < te k then nI (se k) else -nI 1) ∧ f (60 * t + 5 * k + 4) = nI (te k)) ∧ (kd k < 2 → wfl ((l.take (se k)).drop (bgC te k)) [] = some [false]) ∧ (se k < te k → wfl ((l.take (te k)).drop (se k)) [] = some [true])
def CS (b : Nat → Int32) (n t c : Nat) (l : List Nat) (kd se te : Nat → Nat) (a : Nat) (M K Q : Sg) (p : Nat) : Prop := RJ b n t l.length l l [] a 0 M K Q p ∧ (M.1 14 = nI c ∧ M.2.1 6 t = nI c ∧ K.1 5 = nI c ∧ c ≤ 12) ∧ bgC te c = l.length ∧ ∀ k, k < c → CK t l kd se te k (M.2.1 5) K
/-- what the second half of a clause leaves -/
def C2 (b : Nat → Int32) (n t c X : Nat) (l1 : List Nat) (M K : Sg) (o : Sg × Sg) (M' : Sg) : Prop := ∃ d2 a' p', RJ b n t (l1 ++ d2).length (l1 ++ d2) (l1 ++ d2) [] a' 0 M' o.1 o.2 p' ∧ (M'.2.1 5 (X + 2) = nI l1.length ∧ M'.2.1 5 (X + 3) = (if l1.length < (l1 ++ d2).length then nI l1.length else -nI 1) ∧ M'.2.1 5 (X + 4) = nI (l1 ++ d2).length) ∧ (∀ i, i < X + 2 → M'.2.1 5 i = M.2.1 5 i) ∧ (M'.2.1 6 t = nI (c + 1) ∧ M'.1 14 = M.1 14 ∧ o.1.1 5 = nI (c + 1)) ∧ (o.1.2.1 2 = K.2.1 2 ∧ (∀ i, o.1.2.1 3 i = if i = c then nI l1.length else K.2.1 3 i) ∧ (∀ i, o.1.2.1 4 i = if i = c then nI (l1 ++ d2).length else K.2.1 4 i)) ∧ (l1.length < (l1 ++ d2).length → wfl ((l1 ++ d2).drop l1.length) [] = some [true])
section
variable {b : Nat → Int32} {n : Nat}
theorem rk_cl2 (hn : n ≤ 400) (hB : ∀ i, i < n → isB (b i)) {t z c : Nat} (ht : t < 6) (hc : c < 12) {l : List Nat} {vs : List Bool} {a p : Nat} {M K Q : Sg} (hR : RJ b n t z l l vs a 0 M K Q p) (h5 : K.1 5 = nI c) (h6 : M.2.1 6 t = nI c) (p1 : Int32) : Wp (f_X5_readClause_b74 K Q) (fun o => ∃ r M', f_X12_isDoingHere_b62 p1 (nI (60 * t + 5 * c)) M = some (r, M') ∧ rF4 t M M' ∧ ((r = true ∧ C2 b n t c (60 * t + 5 * c) l M K o M') ∨ (r = false ∧ M'.1 9 ≠ 0 ∧ TQ b n o.2 n (M'.1 9)))) := by
  have hM := hR.1.1
  have hQ := hR.1.2
  have hcM := hR.2.2.1.1
  have hcX := hR.2.2.1.2
  have hge := qsp_ge (b := b) (n := n) p
  have hle := qsp_le (b := b) hM.2.2.2
  have hw0 := x_wrd hQ
  obtain ⟨u1, u2⟩ := m_b62 (X := 60 * t + 5 * c) hn ht (by omega) hM hcM.1 hcM.2.1 p1
  unfold f_X5_readClause_b74
  have hwK : f_X8_wordHere Q = some (qwN (qwd b n (qsp b n p))) := hw0
  rw [h5, ixd_nI hc (by omega), bnd_eq, hwK, ob1_s, hcX.1]
  by_cases cI : qwd b n (qsp b n p) = 26982
  · have hlt : qlt b n (qsp b n p) = true := qwd_nz (by rw [cI]; decide) hle
    have hPn := (qlt_c hlt).1
    have hte := qte_gt (b := b) (n := n) hPn
    have c13 : qwN (qwd b n (qsp b n p)) = 13 := (qwN_iff (j := 13) (by omega)).mpr cI
    obtain ⟨Q1, s1, s2⟩ := x_step hQ hPn
    rw [if_pos c13, s1, ob1_s, u2 cI, wp_ob2]
    have hR1 := RJ_e (RJ_z (rk_adv (rk_at hR) (q := qte b n (qsp b n p)) hte.2 hte.1 s2)) (e' := 0) (by omega)
    have hR2 : RJ b n t l.length l l [] a 0 (sA (sI (sA (sA M 5 (60 * t + 5 * c + 2) (nI l.length)) 5 (60 * t + 5 * c + 3) (-1)) 8 (nI (qte b n (qsp b n p)))) 5 (60 * t + 5 * c + 3) (nI l.length)) (sA K 3 c (nI l.length)) Q1 (qte b n (qsp b n p)) := RJ_k (RJ_m hR1 rfl rfl rfl rfl rfl rfl rfl rfl) rfl rfl rfl
    have hz2 : rF4 t M (sA (sI (sA (sA M 5 (60 * t + 5 * c + 2) (nI l.length)) 5 (60 * t + 5 * c + 3) (-1)) 8 (nI (qte b n (qsp b n p)))) 5 (60 * t + 5 * c + 3) (nI l.length)) := (((rF4.a5 t _ (by omega) _).tr (rF4.a5 t _ (by omega) _)).tr (rF4.s t _ (by omega) _)).tr (rF4.a5 t _ (by omega) _)
    refine wp_mono (rk_tested hn hB ht hR2) ?_
    rintro ⟨K3, Q3⟩ ⟨r, M3, q1, q2, q3, q4⟩
    dsimp only at q3 q4 ⊢
    have h53 : K3.1 5 = nI c := by rw [q3.1 5 (by omega) (by omega)]; exact h5
    rw [q1, ob2_s, x_b111 h53 hc]
    dsimp only
    have a5 : M3.2.1 5 = (sA (sI (sA (sA M 5 (60 * t + 5 * c + 2) (nI l.length)) 5 (60 * t + 5 * c + 3) (-1)) 8 (nI (qte b n (qsp b n p)))) 5 (60 * t + 5 * c + 3) (nI l.length)).2.1 5 := q2.1.2.1 5 (by omega) (by omega) (by omega)
    have a6 : M3.2.1 6 = M.2.1 6 := by rw [q2.1.2.1 6 (by omega) (by omega) (by omega)]; rfl
    have a14 : M3.1 14 = M.1 14 := by rw [q2.2 14 (by omega) (by omega) (by omega) (by omega) (by omega) (by omega)]; rfl
    rcases q4 with ⟨rfl, d2, a', p', hp', hR3⟩ | ⟨rfl, hb1, hb2, hb3⟩
    · dsimp only at hR3
      have hcM3 := hR3.2.2.1.1
      have hcX3 := hR3.2.2.1.2
      have hwf := hR3.2.2.2.2.2.2.1
      have hd : l.length < (l ++ d2).length := by
        cases d2 with
        | nil =>
          rw [List.append_nil, List.drop_length] at hwf
          have h9 : some ([] : List Bool) = some [true] := hwf
          cases h9
        | cons x xs => rw [List.length_append]; show l.length < l.length + (xs.length + 1); omega
      rw [itT, m_b124 ht (by omega) hcM3.1 hcM3.2.1 (by rw [a6]; exact h6)]
      refine wp_some.mpr ⟨true, _, rfl, ((hz2.tr q2.r4).tr (rF4.a5 t _ (by omega) _)).tr (rF4.a6 t _ _), Or.inl ⟨rfl, d2, a', p', ?_, ⟨?_, ?_, ?_⟩, fun i hi => ?_, ⟨?_, a14, rfl⟩, ⟨?_, fun i => ?_, fun i => ?_⟩, fun _ => hwf⟩⟩
      · exact RJ_k (RJ_m (RJ_z hR3) rfl rfl rfl rfl rfl rfl rfl rfl) rfl rfl rfl
      · show (if 60 * t + 5 * c + 2 = 60 * t + 5 * c + 4 then _ else M3.2.1 5 (60 * t + 5 * c + 2)) = _
        rw [if_neg (by omega), a5]
        show (if 60 * t + 5 * c + 2 = 60 * t + 5 * c + 3 then _ else if 60 * t + 5 * c + 2 = 60 * t + 5 * c + 3 then _ else if 60 * t + 5 * c + 2 = 60 * t + 5 * c + 2 then nI l.length else _) = _
        rw [if_neg (by omega), if_neg (by omega), if_pos rfl]
      · show (if 60 * t + 5 * c + 3 = 60 * t + 5 * c + 4 then _ else M3.2.1 5 (60 * t + 5 * c + 3)) = _
        rw [if_neg (by omega), a5, if_pos hd]
        show (if 60 * t + 5 * c + 3 = 60 * t + 5 * c + 3 then nI l.length else _) = _
        rw [if_pos rfl]
      · show (if 60 * t + 5 * c + 4 = 60 * t + 5 * c + 4 then nI (l ++ d2).length else _) = _
        rw [if_pos rfl]
      · show (if i = 60 * t + 5 * c + 4 then _ else M3.2.1 5 i) = _
        rw [if_neg (by omega), a5]
        show (if i = 60 * t + 5 * c + 3 then _ else if i = 60 * t + 5 * c + 3 then _ else if i = 60 * t + 5 * c + 2 then _ else M.2.1 5 i) = _
        rw [if_neg (by omega), if_neg (by omega), if_neg (by omega)]
      · show (if t = t then nI (c + 1) else _) = _
        rw [if_pos rfl]
      · show K3.2.1 2 = K.2.1 2
        rw [q3.2 2 (by omega)]; rfl
      · show K3.2.1 3 i = _
        rw [q3.2 3 (by omega)]; rfl
      · show (if i = c then K3.1 1 else K3.2.1 4 i) = _
        rw [hcX3.1, q3.2 4 (by omega)]; rfl
    · rw [itF]
      exact wp_some.mpr ⟨false, M3, rfl, hz2.tr q2.r4, Or.inr ⟨rfl, hb1, hb2⟩⟩
  · have c13 : ¬ qwN (qwd b n (qsp b n p)) = 13 := fun e => cI ((qwN_iff (j := 13) (by omega)).mp e)
    have h53 : (sA K 3 c (nI l.length)).1 5 = nI c := h5
    have hR1 := RJ_z (rk_at hR)
    rw [if_neg c13, x_b111 h53 hc, u1 cI, m_b124 (M := sI (sA (sA M 5 (60 * t + 5 * c + 2) (nI l.length)) 5 (60 * t + 5 * c + 3) (-1)) 8 (nI (qsp b n p))) ht (by omega) hcM.1 hcM.2.1 h6]
    refine wp_some.mpr ⟨true, _, rfl, ((((rF4.a5 t _ (by omega) _).tr (rF4.a5 t _ (by omega) _)).tr (rF4.s t _ (by omega) _)).tr (rF4.a5 t _ (by omega) _)).tr (rF4.a6 t _ _), Or.inl ⟨rfl, [], a, qsp b n p, ?_, ⟨?_, ?_, ?_⟩, fun i hi => ?_, ⟨?_, rfl, rfl⟩, ⟨rfl, fun i => rfl, fun i => ?_⟩, fun h => ?_⟩⟩
    · rw [List.append_nil]
      exact RJ_k (RJ_m hR1 rfl rfl rfl rfl rfl rfl rfl rfl) rfl rfl rfl
    · show (if 60 * t + 5 * c + 2 = 60 * t + 5 * c + 4 then _ else if 60 * t + 5 * c + 2 = 60 * t + 5 * c + 3 then _ else if 60 * t + 5 * c + 2 = 60 * t + 5 * c + 2 then nI l.length else _) = _
      rw [if_neg (by omega), if_neg (by omega), if_pos rfl]
    · show (if 60 * t + 5 * c + 3 = 60 * t + 5 * c + 4 then _ else if 60 * t + 5 * c + 3 = 60 * t + 5 * c + 3 then (-1 : Int32) else _) = _
      rw [if_neg (by omega), if_pos rfl, List.append_nil, if_neg (by omega)]; rfl
    · show (if 60 * t + 5 * c + 4 = 60 * t + 5 * c + 4 then nI l.length else _) = _
      rw [if_pos rfl, List.append_nil]
    · show (if i = 60 * t + 5 * c + 4 then _ else if i = 60 * t + 5 * c + 3 then _ else if i = 60 * t + 5 * c + 2 then _ else M.2.1 5 i) = _
      rw [if_neg (by omega), if_neg (by omega), if_neg (by omega)]
    · show (if t = t then nI (c + 1) else _) = _
      rw [if_pos rfl]
    · show (if i = c then K.1 1 else K.2.1 4 i) = _
      rw [hcX.1, List.append_nil]
    · rw [List.append_nil] at h; omega
theorem x_b74E {f : Int32} {K Q : Sg} {c : Nat} (hQ : TQ b n Q n f) (h5 : K.1 5 = nI c) (hc : c < 12) : Wp (f_X5_readClause_b74 K Q) (fun o => TQ b n o.2 n f) := by
  have hw0 := x_wrd hQ
  rw [qwd_n, qwN_0] at hw0
  have h53 : (sA K 3 c (K.1 1)).1 5 = nI c := h5
  unfold f_X5_readClause_b74
  rw [h5, ixd_nI hc (by omega), bnd_eq, hw0, ob1_s, if_neg (by decide), x_b111 h53 hc]
  exact wp_some.mpr hQ
/-- a clause of both, behind its word -/
theorem rk_cl1 (hn : n ≤ 400) (hB : ∀ i, i < n → isB (b i)) {t c w : Nat} (ht : t < 6) (hc : c < 12) (hw : w ≤ 2) {l : List Nat} {kd se te : Nat → Nat} {a p : Nat} {M0 M K Q Q1 : Sg} (hCS : CS b n t c l kd se te a M0 K Q p) (hz : rF4 t M0 M) (hM : MqR b n M (qsp b n p)) (h9 : M.1 9 = 0) (h14 : M.1 14 = nI (c + 1)) (h12 : M.1 12 = M0.1 12) (hg : M.2 = M0.2) (hlt : qlt b n (qsp b n p) = true) (s2 : TQ b n Q1 (qsp b n (qte b n (qsp b n p))) 0) : Wp (if nI (10 + w) = 12 then (f_X5_readClause_b74 (sA K 2 c (nI (10 + w))) Q1) else (ob2 (f_X5_readSum (sA K 2 c (nI (10 + w))) Q1) fun K_71 Q_71 => f_X5_readClause_b74 K_71 Q_71)) (fun o => ∃ r M', f_X12_isDoingHere M (nI w) = some (r, M') ∧ rF4 t M0 M' ∧ ((r = true ∧ ∃ l' kd' se' te' a' p', CS b n t (c + 1) l' kd' se' te' a' M' o.1 o.2 p') ∨ (r = false ∧ M'.1 9 ≠ 0 ∧ TQ b n o.2 n (M'.1 9)))) := by
  obtain ⟨hR, ⟨c14, c6, c5, c12⟩, hbg, hCK⟩ := hCS
  have hPn := (qlt_c hlt).1
  have hte := qte_gt (b := b) (n := n) hPn
  have hge := qsp_ge (b := b) (n := n) p
  have h11 : M.1 11 = nI t := by rw [hz.2 11 (by omega) (by omega) (by omega) (by omega) (by omega) (by omega) (by omega)]; exact hR.2.2.1.1.1
  have hL : M.2.1 4 t = nI l.length := by rw [hg]; exact hR.2.2.1.1.2.1
  have h6 : M.2.1 6 t = nI c := by rw [hg]; exact c6
  have hR1 : RJ b n t l.length l l [] a 0 (sA (sA (sI M 8 (nI (qte b n (qsp b n p)))) 5 (60 * t + 5 * c) (nI w)) 5 (60 * t + 5 * c + 1) (nI l.length)) (sA K 2 c (nI (10 + w))) Q1 (qte b n (qsp b n p)) := by
    obtain ⟨_, r3, ⟨r4, r5⟩, ⟨r6, r7, r8⟩, r9, r10⟩ := hR
    refine ⟨⟨hM.s8 hte.2, s2⟩, h9, ⟨⟨h11, hL, fun i y hy => ?_⟩, r5⟩, ⟨by show M.1 12 = nI a; rw [h12]; exact r6, r7, r8⟩, by omega, r10⟩
    show M.2.1 3 (400 * t + i) = nI y ∧ yOK y
    rw [hg]; exact r4.2.2 i y hy
  have hz1 : rF4 t M0 (sA (sA (sI M 8 (nI (qte b n (qsp b n p)))) 5 (60 * t + 5 * c) (nI w)) 5 (60 * t + 5 * c + 1) (nI l.length)) := ((hz.tr (rF4.s t _ (by omega) _)).tr (rF4.a5 t _ (by omega) _)).tr (rF4.a5 t _ (by omega) _)
  have hM5 : ∀ i, (sA (sA (sI M 8 (nI (qte b n (qsp b n p)))) 5 (60 * t + 5 * c) (nI w)) 5 (60 * t + 5 * c + 1) (nI l.length)).2.1 5 i = if i = 60 * t + 5 * c + 1 then nI l.length else if i = 60 * t + 5 * c then nI w else M0.2.1 5 i := by
    intro i
    rw [← hg]; rfl
  have hK1 : ∀ i, (sA K 2 c (nI (10 + w))).2.1 2 i = if i = c then nI (10 + w) else K.2.1 2 i := fun i => rfl
  rw [m_doing hn ht hc hM h11 hL h6 hlt (nI w)]
  have h61 : (sA (sA (sI M 8 (nI (qte b n (qsp b n p)))) 5 (60 * t + 5 * c) (nI w)) 5 (60 * t + 5 * c + 1) (nI l.length)).2.1 6 t = nI c := h6
  have h51 : (sA K 2 c (nI (10 + w))).1 5 = nI c := c5
  have h141 : (sA (sA (sI M 8 (nI (qte b n (qsp b n p)))) 5 (60 * t + 5 * c) (nI w)) 5 (60 * t + 5 * c + 1) (nI l.length)).1 14 = nI (c + 1) := h14
  have k31 : (sA K 2 c (nI (10 + w))).2.1 3 = K.2.1 3 := rfl
  have k41 : (sA K 2 c (nI (10 + w))).2.1 4 = K.2.1 4 := rfl
  generalize sA (sA (sI M 8 (nI (qte b n (qsp b n p)))) 5 (60 * t + 5 * c) (nI w)) 5 (60 * t + 5 * c + 1) (nI l.length) = M4 at hR1 hz1 hM5 h61 h141 ⊢
  generalize sA K 2 c (nI (10 + w)) = K1 at hR1 hK1 h51 k31 k41 ⊢
  -- what the first half leaves is enough
  have fin : ∀ (d : List Nat) (M5 K2 : Sg) (o : Sg × Sg) (M' : Sg), M5.2.1 5 = M4.2.1 5 → M5.1 14 = M4.1 14 → (∀ k, k ≠ 0 → K2.2.1 k = K1.2.1 k) → (w < 2 → wfl ((l ++ d).drop l.length) [] = some [false]) → C2 b n t c (60 * t + 5 * c) (l ++ d) M5 K2 o M' → ∃ l' kd' se' te' a' p', CS b n t (c + 1) l' kd' se' te' a' M' o.1 o.2 p' := by
    rintro d M5 K2 o M' e5 e14 eK hwf ⟨d2, a', p', g1, ⟨g2, g3, g4⟩, g5, ⟨g6, g7, g8⟩, ⟨g9, g10, g11⟩, g12⟩
    refine ⟨l ++ d ++ d2, fun k => if k = c then w else kd k, fun k => if k = c then (l ++ d).length else se k, fun k => if k = c then (l ++ d ++ d2).length else te k, a', p', g1, ⟨by rw [g7, e14, h141], g6, g8, by omega⟩, ?_, fun k hk => ?_⟩
    · show (if c + 1 = 0 then 0 else if c + 1 - 1 = c then (l ++ d ++ d2).length else te (c + 1 - 1)) = _
      rw [if_neg (by omega), if_pos (by omega)]
    · have hl1 : l.length ≤ (l ++ d).length := by rw [List.length_append]; omega
      have hl2 : (l ++ d).length ≤ (l ++ d ++ d2).length := by rw [List.length_append (as := l ++ d)]; omega
      by_cases e : k = c
      · subst e
        have ebg : bgC (fun j => if j = k then (l ++ d ++ d2).length else te j) k = l.length := by
          rw [← hbg]
          unfold bgC
          by_cases e0 : k = 0
          · rw [if_pos e0, if_pos e0]
          · rw [if_neg e0, if_neg e0]; exact if_neg (by omega)
        unfold CK
        rw [ebg]
        simp only [if_true]
        refine ⟨⟨hw, hl1, hl2, Nat.le_refl _⟩, ⟨?_, ?_, ?_⟩, ⟨?_, ?_, g2, g3, g4⟩, fun h => ?_, fun h => ?_⟩
        · rw [g9, eK 2 (by omega), hK1, if_pos rfl]
        · rw [g10, if_pos rfl]
        · rw [g11, if_pos rfl]
        · rw [g5 _ (by omega), e5, hM5, if_neg (by omega), if_pos rfl]
        · rw [g5 _ (by omega), e5, hM5, if_pos rfl]
        · rw [List.take_left]; exact hwf h
        · rw [List.take_length]; exact g12 h
      · have hkc : k < c := by omega
        obtain ⟨⟨v1, v2, v3, v4⟩, ⟨v5, v6, v7⟩, ⟨v8, v9, v10, v11, v12⟩, v13, v14⟩ := hCK k hkc
        have ebg : bgC (fun j => if j = c then (l ++ d ++ d2).length else te j) k = bgC te k := by
          unfold bgC
          by_cases e0 : k = 0
          · rw [if_pos e0, if_pos e0]
          · rw [if_neg e0, if_neg e0]; exact if_neg (by omega)
        have hf : ∀ i, i < 60 * t + 5 * c → M'.2.1 5 i = M0.2.1 5 i := fun i hi => by rw [g5 i (by omega), e5, hM5, if_neg (by omega), if_neg (by omega)]
        have htk : ∀ j, j ≤ l.length → (l ++ d ++ d2).take j = l.take j := fun j hj => by rw [List.append_assoc, List.take_append_of_le_length hj]
        unfold CK
        rw [ebg]
        simp only [if_neg e]
        rw [htk _ (by omega), htk _ v4]
        refine ⟨⟨v1, v2, v3, by omega⟩, ⟨?_, ?_, ?_⟩, ⟨?_, ?_, ?_, ?_, ?_⟩, v13, v14⟩
        · rw [g9, eK 2 (by omega), hK1, if_neg e]; exact v5
        · rw [g10, if_neg e, eK 3 (by omega), k31]; exact v6
        · rw [g11, if_neg e, eK 4 (by omega), k41]; exact v7
        · rw [hf _ (by omega)]; exact v8
        · rw [hf _ (by omega)]; exact v9
        · rw [hf _ (by omega)]; exact v10
        · rw [hf _ (by omega)]; exact v11
        · rw [hf _ (by omega)]; exact v12
  by_cases c2 : w = 2
  · rw [if_pos (show nI (10 + w) = 12 by rw [c2]; rfl), if_pos (show nI w = 2 by rw [c2]; rfl)]
    refine wp_mono (rk_cl2 hn hB ht hc hR1 h51 h61 (nI w)) ?_
    rintro o ⟨r, M', q1, q2, q3⟩
    refine ⟨r, M', q1, hz1.tr q2, ?_⟩
    rcases q3 with ⟨q4, q5⟩ | q3
    · refine Or.inl ⟨q4, fin [] M4 K1 o M' rfl rfl (fun _ _ => rfl) (fun h => by omega) ?_⟩
      rw [List.append_nil]; exact q5
    · exact Or.inr q3
  · rw [if_neg (show ¬ nI (10 + w) = 12 by rw [show (12 : Int32) = nI 12 from rfl, nI_eq (by omega) (by omega)]; omega), if_neg (show ¬ nI w = 2 by rw [show (2 : Int32) = nI 2 from rfl, nI_eq (by omega) (by omega)]; omega), wp_ob2]
    refine wp_mono (rk_sum hn hB ht hR1) ?_
    rintro ⟨K2, Q2⟩ ⟨r, M5, q1, q2, q3, q4⟩
    dsimp only at q3 q4 ⊢
    have h52 : K2.1 5 = nI c := by rw [q3.1 5 (by omega) (by omega)]; exact h51
    rw [q1, ob2_s]
    dsimp only
    rcases q4 with ⟨rfl, d, a', p', hp', hR3⟩ | ⟨rfl, hb1, hb2, hb3⟩
    · dsimp only at hR3
      have hwf := hR3.2.2.2.2.2.2.1
      rw [itT]
      refine wp_mono (rk_cl2 hn hB ht hc hR3 h52 (by rw [q2.1.2.1 6 (by omega) (by omega)]; exact h61) (nI w)) ?_
      rintro o ⟨r, M', z1, z2, z3⟩
      refine ⟨r, M', z1, (hz1.tr q2.r3.r4).tr z2, ?_⟩
      rcases z3 with ⟨z4, z5⟩ | z3
      · exact Or.inl ⟨z4, fin d M5 K2 o M' (q2.1.2.1 5 (by omega) (by omega)) (q2.2 14 (by omega) (by omega) (by omega) (by omega)) (fun k hk => q3.2 k hk) (fun _ => hwf) z5⟩
      · exact Or.inr z3
    · rw [itF]
      dsimp only at hb2
      refine wp_mono (x_b74E hb2 h52 hc) ?_
      intro o ho
      exact ⟨false, M5, rfl, hz1.tr q2.r3.r4, Or.inr ⟨rfl, hb1, ho⟩⟩
end
