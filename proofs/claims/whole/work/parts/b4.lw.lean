/-! LINE: a clause -/
theorem told_bit : ∀ (v : Fin 1024) (w : Fin 10), ((nI v &&& 523) &&& ((1 : Int32) <<< (nI w &&& 31)) = 0) ↔ ¬ ((523 : Nat).testBit w = true ∧ v.val.testBit w = true) := by decide +kernel
theorem qWC_inj : ∀ (w j : Fin 27), qWC.getD w.val 0 = qWC.getD j.val 0 → w = j := by decide +kernel
theorem qWC_pos : ∀ (w : Fin 27), 0 < qWC.getD w.val 0 ∧ qWC.getD w.val 0 < 2 ^ 63 := by decide +kernel
def canC (k w tb st rd : Nat) : Prop := (k = 0 ↔ w = 0) ∧ ¬ ((523 : Nat).testBit w = true ∧ tb.testBit w = true) ∧ (w = 2 → st < 6) ∧ (w = 7 → rd < 6)
theorem x_can {L T : Sg} {tb st rd k w : Nat} (h1 : L.1 2 = nI tb) (h2 : tb < 1024) (h3 : T.1 1 = nI st) (h4 : T.1 2 = nI rd) (h5 : st ≤ 6) (h6 : rd ≤ 6) (hk : k ≤ 40) (hw : w < 10) : (canC k w tb st rd → f_X1_canStand L T (nI k) (nI w) = some true) ∧ (¬ canC k w tb st rd → f_X1_canStand L T (nI k) (nI w) = some false) := by
  have h18 : ∀ s0 s1 : Int32, (s0 = s1 ↔ (k = 0 ↔ w = 0)) → (canC k w tb st rd → f_X1_canStand_b18 L T (nI k) (nI w) s0 s1 = some true) ∧ (¬ canC k w tb st rd → f_X1_canStand_b18 L T (nI k) (nI w) s0 s1 = some false) := by
    intro s0 s1 hs
    unfold f_X1_canStand_b18 f_X1_canStand_b87
    by_cases c1 : s0 = s1
    · rw [if_pos c1, h1]
      have hk := hs.mp c1
      have hb := told_bit ⟨tb, h2⟩ ⟨w, hw⟩
      by_cases c2 : ((nI tb &&& 523) &&& ((1 : Int32) <<< (nI w &&& 31)) = 0)
      · rw [if_pos c2]
        have hb2 := hb.mp c2
        by_cases w2 : w = 2
        · rw [if_pos (show nI w = 2 by rw [w2]; rfl), h3]
          by_cases c3 : 6 ≤ st
          · rw [if_pos (show (6 : Int32) ≤ nI st from nI_le (a := 6) c3 (by omega))]
            exact ⟨fun c => absurd (c.2.2.1 w2) (by omega), fun _ => rfl⟩
          · rw [if_neg (show ¬ (6 : Int32) ≤ nI st from nI_ge (b := 6) (by omega) (by omega))]
            exact ⟨fun _ => rfl, fun c => absurd ⟨hk, hb2, fun _ => by omega, fun h => by omega⟩ c⟩
        · rw [if_neg (show ¬ nI w = 2 by rw [show (2 : Int32) = nI 2 from rfl, nI_eq (by omega) (by omega)]; exact w2)]
          by_cases w7 : w = 7
          · rw [if_pos (show nI w = 7 by rw [w7]; rfl), h4]
            by_cases c3 : 6 ≤ rd
            · rw [if_pos (show (6 : Int32) ≤ nI rd from nI_le (a := 6) c3 (by omega))]
              exact ⟨fun c => absurd (c.2.2.2 w7) (by omega), fun _ => rfl⟩
            · rw [if_neg (show ¬ (6 : Int32) ≤ nI rd from nI_ge (b := 6) (by omega) (by omega))]
              exact ⟨fun _ => rfl, fun c => absurd ⟨hk, hb2, fun h => absurd h w2, fun _ => by omega⟩ c⟩
          · rw [if_neg (show ¬ nI w = 7 by rw [show (7 : Int32) = nI 7 from rfl, nI_eq (by omega) (by omega)]; exact w7)]
            exact ⟨fun _ => rfl, fun c => absurd ⟨hk, hb2, fun h => absurd h w2, fun h => absurd h w7⟩ c⟩
      · rw [if_neg c2]
        exact ⟨fun c => absurd (hb.mpr c.2.1) c2, fun _ => rfl⟩
    · rw [if_neg c1]
      exact ⟨fun c => absurd (hs.mpr c.1) c1, fun _ => rfl⟩
  unfold f_X1_canStand f_X1_canStand_b9
  by_cases k0 : k = 0
  · rw [if_pos (show nI k = 0 by rw [k0]; rfl)]
    by_cases w0 : w = 0
    · rw [if_pos (show nI w = 0 by rw [w0]; rfl)]
      exact h18 1 1 (by simp [k0, w0])
    · rw [if_neg (show ¬ nI w = 0 by rw [show (0 : Int32) = nI 0 from rfl, nI_eq (by omega) (by omega)]; exact w0)]
      exact h18 1 0 (by simp [k0, w0])
  · rw [if_neg (show ¬ nI k = 0 by rw [show (0 : Int32) = nI 0 from rfl, nI_eq (by omega) (by omega)]; exact k0)]
    by_cases w0 : w = 0
    · rw [if_pos (show nI w = 0 by rw [w0]; rfl)]
      exact h18 0 1 (by simp [k0, w0])
    · rw [if_neg (show ¬ nI w = 0 by rw [show (0 : Int32) = nI 0 from rfl, nI_eq (by omega) (by omega)]; exact w0)]
      exact h18 0 0 (by simp [k0, w0])
def xRest (w : Int32) (L Q T O : Sg) : Option (Sg × Sg × Sg × Sg) := if w = 2 then (ob2 (f_X1_readStop Q T) fun Q_76 T_76 => some (L, Q_76, T_76, O)) else (if w = 7 then (ob3 (f_X1_readRider Q T O) fun Q_89 T_89 O_89 => some (L, Q_89, T_89, O_89)) else (ob3 (f_X1_readOther Q T O w) fun Q_97 T_97 O_97 => some (L, Q_97, T_97, O_97)))
section
variable {b : Nat → Int32} {n : Nat} {M Q : Sg} {P : Nat}
def LkL (b : Nat → Int32) (n : Nat) (M : Sg) (e : Option (Bool × Sg)) (o : Sg × Sg × Sg × Sg) : Prop := Lk b n M e o.2.1 (fun M' => ∃ nn st rd tb sh, 0 < nn ∧ LnR nn st rd tb sh o.2.2.1 o.2.2.2 o.1 (M'.2.1 7))
theorem Lk_mono {e : Option (Bool × Sg)} {Q' : Sg} {G H : Sg → Prop} (h : Lk b n M e Q' G) (hg : ∀ M', G M' → H M') : Lk b n M e Q' H := by
  obtain ⟨r, M', h1, h2, h3⟩ := h
  refine ⟨r, M', h1, h2, ?_⟩
  rcases h3 with ⟨a, c, d, g⟩ | h3
  · exact Or.inl ⟨a, c, d, hg M' g⟩
  · exact Or.inr h3
theorem lk_word (hn : n ≤ 400) {nn st rd tb sh k w : Nat} {T O L : Sg} (hw : w < 10) (hL : LnR nn st rd tb sh T O L (M.2.1 7)) (hk0 : k = 0 ↔ nn = 0) (hM : MqR b n M P) (hs : qsp b n P = P) (hv : qwd b n P = qWC.getD w 0) (h9 : M.1 9 = 0) (hQ : TQ b n Q (qsp b n (qte b n P)) 0) : (¬ canC k w tb st rd → f_X12_lineLineHere M (nI P) = f_X12_fails M 4 (nI P)) ∧ (canC k w tb st rd → Wp (xRest (nI w) (sI L 2 (nI (tb ||| 2 ^ w))) Q T O) (fun o => LkL b n M (f_X12_lineLineHere M (nI P)) o)) := by
  have hlt : qlt b n P = true := qwd_nz (by rw [hv]; have := (qWC_pos ⟨w, by omega⟩).1; exact Nat.pos_iff_ne_zero.mp this) hM.2.2.2
  have hte := qte_w hlt
  have hlE := qlE_gt hlt
  rw [hte] at hQ
  have hpw := m_passWord hM hn
  have hk := kq.s M (Or.inl rfl) (nI (qlE b n P))
  have h91 : (sI M 8 (nI (qlE b n P))).1 9 = 0 := h9
  have hM1 := hM.s8 hlE.2
  have hW : ∀ j, j < 27 → f_X12_isWord M (Int64.ofNat (qWC.getD j 0)) = some (decide (w = j), M) := by
    intro j hj
    have := qWC_pos ⟨j, hj⟩
    rw [m_isW hM hs hn this.1 this.2, hv]
    have hi := qWC_inj ⟨w, by omega⟩ ⟨j, hj⟩
    by_cases c : w = j
    · rw [decide_eq_true c, decide_eq_true (by rw [c])]
    · rw [decide_eq_false c, decide_eq_false (fun e => c (by have := hi e; exact Fin.mk.inj this))]
  obtain ⟨⟨t0, t1, t2⟩, ⟨r0, r1, r2⟩, l8, l6, l66, l2, l0⟩ := hL.1
  obtain ⟨⟨i1, i2, i3⟩, i4, i5, i6, i7, i8⟩ := hL.2.1
  have hz0 : nn = 0 → M.2.1 7 0 = 0 := fun e => by rw [r0, e]; rfl
  have hz1 : nn ≠ 0 → ¬ M.2.1 7 0 = 0 := fun e => by rw [r0, show (0 : Int32) = nI 0 from rfl, nI_eq (by omega) (by omega)]; exact e
  have hb : w ≠ 0 ∧ w ≠ 1 ∧ w ≠ 3 ∧ w ≠ 9 → LnR nn st rd (tb ||| 2 ^ w) sh T O (sI L 2 (nI (tb ||| 2 ^ w))) (M.2.1 7) := fun h => ⟨hL.1, Ln2_bit hL.2.1 hw h, hL.2.2⟩
  have hc : w = 0 ∨ w = 1 ∨ w = 2 ∨ w = 3 ∨ w = 4 ∨ w = 5 ∨ w = 6 ∨ w = 7 ∨ w = 8 ∨ w = 9 := by omega
  unfold LkL
  rcases hc with rfl | rfl | rfl | rfl | rfl | rfl | rfl | rfl | rfl | rfl
  · have hll : f_X12_lineLineHere M (nI P) = _ := m_ll0 (p1 := nI P) (hW 0 (by omega))
    refine ⟨fun c => ?_, fun c => ?_⟩
    · have hkn : nn ≠ 0 := by
        intro e
        exact c ⟨⟨fun _ => rfl, fun _ => hk0.mpr e⟩, fun q => (by have := q.2; rw [i3, e] at this; cases this), fun h => by omega, fun h => by omega⟩
      rw [hll]
      unfold f_X12_isTrainHere
      rw [r0, if_neg (show ¬ nI nn ≤ 0 from nI_ge (a := 0) (by omega) (by omega)), ob2_eta]
    · have hkn : nn = 0 := hk0.mp (c.1.mpr rfl)
      subst hkn
      rw [hll]
      unfold xRest
      rw [if_neg (by decide), if_neg (by decide), wp_ob3]
      refine wp_mono (lk_train (P := P) hn hL hpw hk h91 hQ hM1) (fun o ho => wp_some.mpr (Lk_mono ho ?_))
      rintro M' ⟨nn, g1, g2⟩
      exact ⟨nn, st, rd, _, sh, g1, g2⟩
  · have hnz : nn ≠ 0 → f_X12_lineLineHere M (nI P) = _ := fun e => m_ll1 (p1 := nI P) (hz1 e) (hW 0 (by omega)) (hW 1 (by omega))
    refine ⟨fun c => ?_, fun c => ?_⟩
    · by_cases e : nn = 0
      · exact m_llz (hz0 e) (hW 0 (by omega))
      · rw [hnz e]
        have hb1 : tb.testBit 1 = true := by
          cases h : tb.testBit 1 with
          | true => rfl
          | false => exact absurd ⟨⟨fun h => absurd (hk0.mp h) e, fun h => by omega⟩, (fun q => by have := q.2; rw [h] at this; cases this), fun h => by omega, fun h => by omega⟩ c
        unfold f_X12_isDestHere
        rw [i4, hb1, if_pos (by decide), ob2_eta]
    · have e : nn ≠ 0 := fun e => absurd (c.1.mp (hk0.mpr e)) (by omega)
      rw [hnz e]
      unfold xRest
      rw [if_neg (by decide), if_neg (by decide), wp_ob3]
      have hbf : tb.testBit 1 = false := by
        cases h : tb.testBit 1 with
        | false => rfl
        | true => exact absurd ⟨by decide, h⟩ c.2.1
      refine wp_mono (lk_dest (P := P) hn hL (by omega) hbf hM rfl hlE.2 h9 hQ) (fun o ho => wp_some.mpr (Lk_mono ho ?_))
      intro M' g2
      exact ⟨nn, st, rd, _, sh, by omega, g2⟩
  · have hnz : nn ≠ 0 → f_X12_lineLineHere M (nI P) = _ := fun e => m_ll2 (p1 := nI P) (hz1 e) (hW 0 (by omega)) (hW 1 (by omega)) (hW 2 (by omega))
    refine ⟨fun c => ?_, fun c => ?_⟩
    · by_cases e : nn = 0
      · exact m_llz (hz0 e) (hW 0 (by omega))
      · rw [hnz e]
        have h6 : st = 6 := by
          by_cases h : st < 6
          · exact absurd ⟨⟨fun h => absurd (hk0.mp h) e, fun h => by omega⟩, (fun q => by have := q.1; revert this; decide), fun h => by omega, fun h => by omega⟩ c
          · omega
        unfold f_X12_isStopHere
        rw [r1, h6, if_pos (by decide), ob2_eta]
    · have e : nn ≠ 0 := fun e => absurd (c.1.mp (hk0.mpr e)) (by omega)
      rw [hnz e]
      unfold xRest
      rw [if_pos (by decide), wp_ob2]
      refine wp_mono (lk_stop (P := P) hn (hb (by omega)) (c.2.2.1 rfl) hpw hk h91 hQ hM1) (fun o ho => wp_some.mpr (Lk_mono ho ?_))
      intro M' g2
      exact ⟨nn, _, rd, _, sh, by omega, g2⟩
  · have hnz : nn ≠ 0 → f_X12_lineLineHere M (nI P) = _ := fun e => m_ll3 (p1 := nI P) (hz1 e) (hW 0 (by omega)) (hW 1 (by omega)) (hW 2 (by omega)) (hW 3 (by omega))
    refine ⟨fun c => ?_, fun c => ?_⟩
    · by_cases e : nn = 0
      · exact m_llz (hz0 e) (hW 0 (by omega))
      · rw [hnz e]
        have hb1 : tb.testBit 3 = true := by
          cases h : tb.testBit 3 with
          | true => rfl
          | false => exact absurd ⟨⟨fun h => absurd (hk0.mp h) e, fun h => by omega⟩, (fun q => by have := q.2; rw [h] at this; cases this), fun h => by omega, fun h => by omega⟩ c
        obtain ⟨y, y1, y2, y3⟩ := i5 hb1
        unfold f_X12_isOnceHere
        rw [show (4 : Int32) = nI 4 from rfl, ixd_nI (by omega) (by omega), y2, if_neg (show ¬ nI y < 0 from nI_nlt (b := 0) (by omega) (by omega)), ob2_eta]
    · have e : nn ≠ 0 := fun e => absurd (c.1.mp (hk0.mpr e)) (by omega)
      rw [hnz e]
      unfold xRest
      rw [if_neg (by decide), if_neg (by decide), wp_ob3]
      have hbf : tb.testBit 3 = false := by
        cases h : tb.testBit 3 with
        | false => rfl
        | true => exact absurd ⟨by decide, h⟩ c.2.1
      rw [r1]
      refine wp_mono (lk_part (P := P) hn hL hbf hpw hk h91 hQ hM1) (fun o ho => wp_some.mpr (Lk_mono ho ?_))
      intro M' g2
      exact ⟨nn, st, rd, _, sh, by omega, g2⟩
  · have hnz : nn ≠ 0 → f_X12_lineLineHere M (nI P) = _ := fun e => m_ll4 (p1 := nI P) (hz1 e) (hW 0 (by omega)) (hW 1 (by omega)) (hW 2 (by omega)) (hW 3 (by omega)) (hW 4 (by omega))
    refine ⟨fun c => ?_, fun c => ?_⟩
    · by_cases e : nn = 0
      · exact m_llz (hz0 e) (hW 0 (by omega))
      · rw [hnz e]
        exact absurd ⟨⟨fun h => absurd (hk0.mp h) e, fun h => by omega⟩, (fun q => by have := q.1; revert this; decide), fun h => by omega, fun h => by omega⟩ c
    · have e : nn ≠ 0 := fun e => absurd (c.1.mp (hk0.mpr e)) (by omega)
      rw [hnz e]
      unfold xRest
      rw [if_neg (by decide), if_neg (by decide), wp_ob3]
      refine wp_mono (lk_shut hn (hb (by omega)) (by omega) hpw hk h91 hQ hM1) (fun o ho => wp_some.mpr (Lk_mono ho ?_))
      rintro M' ⟨sh', g2⟩
      exact ⟨nn, st, rd, _, sh', by omega, g2⟩
  · have hnz : nn ≠ 0 → f_X12_lineLineHere M (nI P) = _ := fun e => m_ll5 (p1 := nI P) (hz1 e) (hW 0 (by omega)) (hW 1 (by omega)) (hW 2 (by omega)) (hW 3 (by omega)) (hW 4 (by omega)) (hW 5 (by omega))
    refine ⟨fun c => ?_, fun c => ?_⟩
    · by_cases e : nn = 0
      · exact m_llz (hz0 e) (hW 0 (by omega))
      · rw [hnz e]
        exact absurd ⟨⟨fun h => absurd (hk0.mp h) e, fun h => by omega⟩, (fun q => by have := q.1; revert this; decide), fun h => by omega, fun h => by omega⟩ c
    · have e : nn ≠ 0 := fun e => absurd (c.1.mp (hk0.mpr e)) (by omega)
      rw [hnz e]
      unfold xRest
      rw [if_neg (by decide), if_neg (by decide), wp_ob3]
      rw [r0]
      refine wp_mono (lk_trol hn (hb (by omega)) (by omega) hpw hk h91 hQ hM1) (fun o ho => wp_some.mpr (Lk_mono ho ?_))
      intro M' g2
      exact ⟨nn, st, rd, _, sh, by omega, g2⟩
  · have hnz : nn ≠ 0 → f_X12_lineLineHere M (nI P) = _ := fun e => m_ll6 (p1 := nI P) (hz1 e) (hW 0 (by omega)) (hW 1 (by omega)) (hW 2 (by omega)) (hW 3 (by omega)) (hW 4 (by omega)) (hW 5 (by omega)) (hW 6 (by omega))
    refine ⟨fun c => ?_, fun c => ?_⟩
    · by_cases e : nn = 0
      · exact m_llz (hz0 e) (hW 0 (by omega))
      · rw [hnz e]
        exact absurd ⟨⟨fun h => absurd (hk0.mp h) e, fun h => by omega⟩, (fun q => by have := q.1; revert this; decide), fun h => by omega, fun h => by omega⟩ c
    · have e : nn ≠ 0 := fun e => absurd (c.1.mp (hk0.mpr e)) (by omega)
      rw [hnz e]
      unfold xRest
      rw [if_neg (by decide), if_neg (by decide), wp_ob3]
      rw [r0]
      refine wp_mono (lk_seat hn (hb (by omega)) (by omega) hpw hk h91 hQ hM1) (fun o ho => wp_some.mpr (Lk_mono ho ?_))
      intro M' g2
      exact ⟨nn, st, rd, _, sh, by omega, g2⟩
  · have hnz : nn ≠ 0 → f_X12_lineLineHere M (nI P) = _ := fun e => m_ll7 (p1 := nI P) (hz1 e) (hW 0 (by omega)) (hW 1 (by omega)) (hW 2 (by omega)) (hW 3 (by omega)) (hW 4 (by omega)) (hW 5 (by omega)) (hW 6 (by omega)) (hW 7 (by omega))
    refine ⟨fun c => ?_, fun c => ?_⟩
    · by_cases e : nn = 0
      · exact m_llz (hz0 e) (hW 0 (by omega))
      · rw [hnz e]
        have h6 : rd = 6 := by
          by_cases h : rd < 6
          · exact absurd ⟨⟨fun h => absurd (hk0.mp h) e, fun h => by omega⟩, (fun q => by have := q.1; revert this; decide), fun h => by omega, fun h => by omega⟩ c
          · omega
        unfold f_X12_isRiderHere
        rw [r2, h6, if_pos (by decide), ob2_eta]
    · have e : nn ≠ 0 := fun e => absurd (c.1.mp (hk0.mpr e)) (by omega)
      rw [hnz e]
      unfold xRest
      rw [if_neg (by decide), if_pos (by decide), wp_ob3]
      refine wp_mono (lk_rider (P := P) hn (hb (by omega)) (c.2.2.2 rfl) (by omega) hpw hk h91 hQ hM1) (fun o ho => wp_some.mpr (Lk_mono ho ?_))
      intro M' g2
      exact ⟨nn, st, _, _, sh, by omega, g2⟩
  · have hnz : nn ≠ 0 → f_X12_lineLineHere M (nI P) = _ := fun e => m_ll8 (p1 := nI P) (hz1 e) (hW 0 (by omega)) (hW 1 (by omega)) (hW 2 (by omega)) (hW 3 (by omega)) (hW 4 (by omega)) (hW 5 (by omega)) (hW 6 (by omega)) (hW 7 (by omega)) (hW 8 (by omega))
    refine ⟨fun c => ?_, fun c => ?_⟩
    · by_cases e : nn = 0
      · exact m_llz (hz0 e) (hW 0 (by omega))
      · rw [hnz e]
        exact absurd ⟨⟨fun h => absurd (hk0.mp h) e, fun h => by omega⟩, (fun q => by have := q.1; revert this; decide), fun h => by omega, fun h => by omega⟩ c
    · have e : nn ≠ 0 := fun e => absurd (c.1.mp (hk0.mpr e)) (by omega)
      rw [hnz e]
      unfold xRest
      rw [if_neg (by decide), if_neg (by decide), wp_ob3]
      rw [r2]
      refine wp_mono (lk_told hn (hb (by omega)) hpw hk h91 hQ hM1) (fun o ho => wp_some.mpr (Lk_mono ho ?_))
      intro M' g2
      exact ⟨nn, st, rd, _, sh, by omega, g2⟩
  · have hnz : nn ≠ 0 → f_X12_lineLineHere M (nI P) = _ := fun e => m_ll9 (p1 := nI P) (hz1 e) (hW 0 (by omega)) (hW 1 (by omega)) (hW 2 (by omega)) (hW 3 (by omega)) (hW 4 (by omega)) (hW 5 (by omega)) (hW 6 (by omega)) (hW 7 (by omega)) (hW 8 (by omega))
    refine ⟨fun c => ?_, fun c => ?_⟩
    · by_cases e : nn = 0
      · exact m_llz (hz0 e) (hW 0 (by omega))
      · rw [hnz e]
        have hb1 : tb.testBit 9 = true := by
          cases h : tb.testBit 9 with
          | true => rfl
          | false => exact absurd ⟨⟨fun h => absurd (hk0.mp h) e, fun h => by omega⟩, (fun q => by have := q.2; rw [h] at this; cases this), fun h => by omega, fun h => by omega⟩ c
        obtain ⟨y, y1, y2, y3⟩ := i7 hb1
        unfold f_X12_isOnceHere
        rw [show (5 : Int32) = nI 5 from rfl, ixd_nI (by omega) (by omega), y2, if_neg (show ¬ nI y < 0 from nI_nlt (b := 0) (by omega) (by omega)), ob2_eta]
    · have e : nn ≠ 0 := fun e => absurd (c.1.mp (hk0.mpr e)) (by omega)
      rw [hnz e]
      unfold xRest
      rw [if_neg (by decide), if_neg (by decide), wp_ob3]
      have hbf : tb.testBit 9 = false := by
        cases h : tb.testBit 9 with
        | false => rfl
        | true => exact absurd ⟨by decide, h⟩ c.2.1
      refine wp_mono (lk_plat (P := P) hn hL hbf hpw hk h91 hQ hM1) (fun o ho => wp_some.mpr (Lk_mono ho ?_))
      intro M' g2
      exact ⟨nn, st, rd, _, sh, by omega, g2⟩
end
