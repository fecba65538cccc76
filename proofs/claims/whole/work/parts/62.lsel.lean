theorem qL_28 : Cond.methodLink RL 28 yX11_rule ∈ TG := tg3 165 (by decide +kernel) (by decide +kernel)
theorem qL_49 : Cond.methodLink RL 49 yX11_inside ∈ TG := tg4 64 (by decide +kernel) (by decide +kernel)
theorem qL_53 : Cond.methodLink RL 53 yX11_outside ∈ TG := tg4 102 (by decide +kernel) (by decide +kernel)
theorem qL_57 : Cond.methodLink RL 57 yX11_pass ∈ TG := tg4 125 (by decide +kernel) (by decide +kernel)
theorem qL_61 : Cond.methodLink RL 61 yX11_shut ∈ TG := tg4 141 (by decide +kernel) (by decide +kernel)
theorem qL_66 : Cond.methodLink RL 66 yX11_undo ∈ TG := tg4 145 (by decide +kernel) (by decide +kernel)
theorem qL_70 : Cond.methodLink RL 70 yX11_run ∈ TG := tg4 153 (by decide +kernel) (by decide +kernel)
theorem qL_135 : Cond.methodLink RL 135 yX11_image ∈ TG := tg5 188 (by decide +kernel) (by decide +kernel)
theorem qL_139 : Cond.methodLink RL 139 yX11_back ∈ TG := tg5 203 (by decide +kernel) (by decide +kernel)
/-! calls of methods that look at one block of a family: the block is cut out, and laid back -/
theorem pk_perm {β : Type} {n j : Nat} (h : j < n) (g : Nat → List β) : ((List.range n).flatMap g).Perm (g j ++ ((List.range n).erase j).flatMap g) := by
  have h1 := List.Perm.flatMap_right g (List.perm_cons_erase (List.mem_range.mpr h))
  rw [List.flatMap_cons] at h1
  exact h1
theorem pk_rest {β : Type} {n j : Nat} {g g2 : Nat → List β} (h : ∀ i, i ≠ j → g i = g2 i) : ((List.range n).erase j).flatMap g = ((List.range n).erase j).flatMap g2 := by
  have h2 : ∀ a ∈ (List.range n).erase j, g a = g2 a := fun a ha => h a ((List.Nodup.mem_erase_iff List.nodup_range).mp ha).1
  rw [List.flatMap_def, List.flatMap_def, List.map_congr_left h2]
theorem pm_h {β : Type} (A I C M B R : List β) (c1 c2 : β) {F : List β} (hF : F.Perm (B ++ R)) : (A ++ ((c1 :: (I ++ ((c2 :: F) ++ C))) ++ M)).Perm ((A ++ (c2 :: B)) ++ ((c1 :: (I ++ (R ++ C))) ++ M)) := by
  refine List.Perm.trans (List.Perm.append_left A (List.Perm.append_right M (List.Perm.cons _ (List.Perm.append_left I (List.Perm.append_right C (List.Perm.cons c2 hF)))))) ?_
  have h : [0, 1, 2, 3, 4, 5, 6, 7].Perm [0, 3, 4, 1, 2, 5, 6, 7] := by decide
  have h2 := List.Perm.flatMap_right (fun i => match i with | 0 => A | 1 => [c1] | 2 => I | 3 => [c2] | 4 => B | 5 => R | 6 => C | _ => M) h
  simpa [List.append_assoc] using h2
theorem pm_rr {β : Type} (A D M B R : List β) (c3 : β) {F : List β} (hF : F.Perm (B ++ R)) : (A ++ ((D ++ (c3 :: F)) ++ M)).Perm ((A ++ (c3 :: B)) ++ ((D ++ R) ++ M)) := by
  refine List.Perm.trans (List.Perm.append_left A (List.Perm.append_right M (List.Perm.append_left D (List.Perm.cons c3 hF)))) ?_
  have h : [0, 1, 2, 3, 4, 5].Perm [0, 2, 3, 1, 4, 5] := by decide
  have h2 := List.Perm.flatMap_right (fun i => match i with | 0 => A | 1 => D | 2 => [c3] | 3 => B | 4 => R | _ => M) h
  simpa [List.append_assoc] using h2
theorem pm_i {β : Type} (A C M B R : List β) (c1 : β) {F : List β} (hF : F.Perm (B ++ R)) : (A ++ ((c1 :: (F ++ C)) ++ M)).Perm ((A ++ (c1 :: B)) ++ ((R ++ C) ++ M)) := by
  refine List.Perm.trans (List.Perm.append_left A (List.Perm.append_right M (List.Perm.cons _ (List.Perm.append_right C hF)))) ?_
  simp
abbrev XD : Type := (Nat → Nat → Sg) × (Nat → Nat → Nat) × Nat
def rfH (AD : Nat → Nat → Nat) : Nat → Option Nat := fun i => if i < 20 then some (AD 1 (2 + 6 * i)) else none
theorem rfH_eq {AD : Nat → Nat → Nat} {j : Nat} (h : j < 20) : rfH AD j = some (AD 1 (2 + 6 * j + 0)) := if_pos h
def rfI (AD : Nat → Nat → Nat) : Nat → Option Nat := fun i => if i < 4 then some (AD 9 (23 * i)) else none
theorem rfI_eq {AD : Nat → Nat → Nat} {j : Nat} (h : j < 4) : rfI AD j = some (AD 9 (23 * j + 0)) := if_pos h
def rfR (ra : Nat → Nat → Nat) (n : Nat) : Nat → Option Nat := fun i => if i < n then some (ra i 0) else none
theorem rfR_eq {ra : Nat → Nat → Nat} {j n : Nat} (h : j < n) : rfR ra n j = some (ra j 0) := if_pos h
def rH (cy : Nat → ClassId) (AD ra : Nat → Nat → Nat) (v : XD) (M : Sg) (j : Nat) : va_W := ((AD 0 1, .inl (cy 6, 4, .inr (.inr (.inr (.inr (rfI AD)))))) :: (imW cy (AD 9) (v.1 1) (v.1 2) (v.1 3) (v.1 4) ++ (((List.range 20).erase j).flatMap (fun i => wO cy (fun k => AD 1 (2 + 6 * i + k)) (v.1 0 i)) ++ ((AD 0 3, .inl (cy 5, 6, .inr (.inr (.inr (.inr (rfR ra v.2.2)))))) :: ruW cy ra v.2.1 v.2.2 (v.1 5))))) ++ mw cy (AD 10) M
def rI (cy : Nat → ClassId) (AD ra : Nat → Nat → Nat) (v : XD) (M : Sg) (j : Nat) : va_W := (((List.range 4).erase j).flatMap (fun i => wW cy (fun k => AD 9 (23 * i + k)) (v.1 1 i) (v.1 2 i) (v.1 3 i) (v.1 4 i)) ++ (hsW cy (AD 1) (v.1 0) ++ ((AD 0 3, .inl (cy 5, 6, .inr (.inr (.inr (.inr (rfR ra v.2.2)))))) :: ruW cy ra v.2.1 v.2.2 (v.1 5)))) ++ mw cy (AD 10) M
def rR (cy : Nat → ClassId) (AD ra : Nat → Nat → Nat) (v : XD) (M : Sg) (j : Nat) : va_W := (((AD 0 1, .inl (cy 6, 4, .inr (.inr (.inr (.inr (rfI AD)))))) :: (imW cy (AD 9) (v.1 1) (v.1 2) (v.1 3) (v.1 4) ++ hsW cy (AD 1) (v.1 0))) ++ ((List.range v.2.2).erase j).flatMap (fun i => wU cy (ra i) (v.2.1 i 0) (v.2.1 i 1) (v.2.1 i 2) (v.2.1 i 3) (v.1 5 i))) ++ mw cy (AD 10) M
section
variable {cy : Nat → ClassId} {AD ra : Nat → Nat → Nat}
theorem pm_H (s : XS) (M : Sg) {j : Nat} (hj : j < 20) : (wLw cy AD ra s M).Perm ((wFs cy AD s.1 ++ ((AD 1 1, .inl (cy 4, 20, .inr (.inr (.inr (.inr (rfH AD)))))) :: wO cy (fun k => AD 1 (2 + 6 * j + k)) (s.2.1 0 j))) ++ rH cy AD ra s.2 M j) :=
  pm_h (wFs cy AD s.1) (imW cy (AD 9) (s.2.1 1) (s.2.1 2) (s.2.1 3) (s.2.1 4)) _ (mw cy (AD 10) M) _ _ _ _ (pk_perm hj (fun i => wO cy (fun k => AD 1 (2 + 6 * i + k)) (s.2.1 0 i)))
theorem pm_H2 (s : XS) (v : Nat → Sg) (M Om1 : Sg) {j : Nat} (hj : j < 20) : ((wFs cy AD v ++ ((AD 1 1, .inl (cy 4, 20, .inr (.inr (.inr (.inr (rfH AD)))))) :: wO cy (fun k => AD 1 (2 + 6 * j + k)) Om1)) ++ rH cy AD ra s.2 M j).Perm (wLw cy AD ra (v, va_up s.2.1 0 (va_up (s.2.1 0) j Om1), s.2.2) M) := by
  have h := (pm_H (cy := cy) (AD := AD) (ra := ra) (v, va_up s.2.1 0 (va_up (s.2.1 0) j Om1), s.2.2) M hj).symm
  have e1 : va_up s.2.1 0 (va_up (s.2.1 0) j Om1) 0 j = Om1 := by rw [va_up_self, va_up_self]
  have e2 : rH cy AD ra (va_up s.2.1 0 (va_up (s.2.1 0) j Om1), s.2.2) M j = rH cy AD ra s.2 M j := by
    unfold rH
    simp only [va_up_self]
    rw [pk_rest (g2 := fun i => wO cy (fun k => AD 1 (2 + 6 * i + k)) (s.2.1 0 i)) (fun i hi => by rw [va_up_ne _ _ hi])]
    rfl
  simp only [] at h
  rw [e1, e2] at h
  exact h
theorem pm_I (s : XS) (M : Sg) {j : Nat} (hj : j < 4) : (wLw cy AD ra s M).Perm ((wFs cy AD s.1 ++ ((AD 0 1, .inl (cy 6, 4, .inr (.inr (.inr (.inr (rfI AD)))))) :: wW cy (fun k => AD 9 (23 * j + k)) (s.2.1 1 j) (s.2.1 2 j) (s.2.1 3 j) (s.2.1 4 j))) ++ rI cy AD ra s.2 M j) :=
  pm_i (wFs cy AD s.1) _ (mw cy (AD 10) M) _ _ _ (pk_perm hj (fun i => wW cy (fun k => AD 9 (23 * i + k)) (s.2.1 1 i) (s.2.1 2 i) (s.2.1 3 i) (s.2.1 4 i)))
theorem pm_I2 (s : XS) (v : Nat → Sg) (M a b c d : Sg) {j : Nat} (hj : j < 4) : ((wFs cy AD v ++ ((AD 0 1, .inl (cy 6, 4, .inr (.inr (.inr (.inr (rfI AD)))))) :: wW cy (fun k => AD 9 (23 * j + k)) a b c d)) ++ rI cy AD ra s.2 M j).Perm (wLw cy AD ra (v, imU s.2.1 j a b c d, s.2.2) M) := by
  have h := (pm_I (cy := cy) (AD := AD) (ra := ra) (v, imU s.2.1 j a b c d, s.2.2) M hj).symm
  have e1 : imU s.2.1 j a b c d 1 = va_up (s.2.1 1) j a := rfl
  have e2 : imU s.2.1 j a b c d 2 = va_up (s.2.1 2) j b := rfl
  have e3 : imU s.2.1 j a b c d 3 = va_up (s.2.1 3) j c := rfl
  have e4 : imU s.2.1 j a b c d 4 = va_up (s.2.1 4) j d := rfl
  have e5 : rI cy AD ra (imU s.2.1 j a b c d, s.2.2) M j = rI cy AD ra s.2 M j := by
    unfold rI
    simp only [e1, e2, e3, e4]
    rw [pk_rest (g2 := fun i => wW cy (fun k => AD 9 (23 * i + k)) (s.2.1 1 i) (s.2.1 2 i) (s.2.1 3 i) (s.2.1 4 i)) (fun i hi => by simp only [va_up_ne _ _ hi])]
    rfl
  simp only [e1, e2, e3, e4, va_up_self] at h
  rw [e5] at h
  exact h
theorem pm_R (s : XS) (M : Sg) {j : Nat} (hj : j < s.2.2.2) : (wLw cy AD ra s M).Perm ((wFs cy AD s.1 ++ ((AD 0 3, .inl (cy 5, 6, .inr (.inr (.inr (.inr (rfR ra s.2.2.2)))))) :: wU cy (ra j) (s.2.2.1 j 0) (s.2.2.1 j 1) (s.2.2.1 j 2) (s.2.2.1 j 3) (s.2.1 5 j))) ++ rR cy AD ra s.2 M j) := by
  have h := pm_rr (wFs cy AD s.1) ((AD 0 1, .inl (cy 6, 4, .inr (.inr (.inr (.inr (rfI AD)))))) :: (imW cy (AD 9) (s.2.1 1) (s.2.1 2) (s.2.1 3) (s.2.1 4) ++ hsW cy (AD 1) (s.2.1 0))) (mw cy (AD 10) M) _ _ (AD 0 3, .inl (cy 5, 6, .inr (.inr (.inr (.inr (rfR ra s.2.2.2)))))) (pk_perm hj (fun i => wU cy (ra i) (s.2.2.1 i 0) (s.2.2.1 i 1) (s.2.2.1 i 2) (s.2.2.1 i 3) (s.2.1 5 i)))
  rw [List.cons_append, List.append_assoc] at h
  exact h
end
/-! a rule number that is none -/
theorem c_runN (l : Launch) (D : va_G) (cy : Nat → ClassId) (fa ha kr rk lr tx da sr a : Nat → Nat) (F Q T O E X Td Od Ed Xd L K N S H : Sg) (p1 p2 : Int32) (hf : p1 < 0 ∨ F.1 7 ≤ p1) : Ct l D cy yX11_run cX11_run 4 (some .int) 7 355 0 0 [.ref (fa 0), .int p1, .int p2] (wF cy fa ha kr rk lr tx da sr a F Q T O E X Td Od Ed Xd L K N S H) (some (.int (-1))) (wF cy fa ha kr rk lr tx da sr a F Q T O E X Td Od Ed Xd L K N S H) := by
  refine Ct_i tX11_run hX11_run (by decide) (Nat.le_of_ble_eq_true rfl) ?_
  intro Z hZ C hR
  subst hZ
  replace C : Cx Z D cy RX11 tX11_run 4 7 355 0 0 := C
  show Wk Z D 4 0 0 (wF cy fa ha kr rk lr tx da sr a F Q T O E X Td Od Ed Xd L K N S H) 0 [(0, .ref (fa 0)), (1, .int p1), (2, .int p2)] []
  have hz : ∀ lv, Wk Z D 4 0 0 (wF cy fa ha kr rk lr tx da sr a F Q T O E X Td Od Ed Xd L K N S H) 20 lv [] := by
    intro lv
    refine k_iconst C 10 rfl ci_m1 ?_
    exact hR 11 21 lv rfl
  refine k_iload_1 C 0 rfl 1 rfl ?_
  refine k_if_lt C 1 rfl 20 (by decide) (fun hc => hz _) (fun hc => ?_)
  refine k_iload_1 C 2 rfl 1 rfl ?_
  refine k_aload_0 C 3 rfl 0 rfl ?_
  refine kg11_7 C 4 rfl qX11_47 0 (a := fa 0) (fs := F_g0 fa ha kr rk lr tx da sr a F Q T O E X Td Od Ed Xd L K N S H) rfl (v := .int (F.1 7)) rfl ?_
  refine k_icmp_ge C 5 rfl 20 (by decide) (fun hc2 => hz _) (fun hc2 => ?_)
  exact absurd hf (fun h => h.elim hc hc2)
/-! rule() -/
theorem k_afterG {D : va_G} {nL kc ks pc : Nat} {lv : List (Nat × Value)} {st : List Value} {p : Program} {l : Launch} {e : Env} {R : Room} {s : State} {m : MethodId} {args : Array Value} {below : List Frame} {meth : Method} {c : Code} {A : Nat → Prop} {Q : State → Prop} {X w0 Y : va_W} {rv : (Nat → Nat) → Option Value} {w1 : (Nat → Nat) → va_W} {mc2 ms2 : Nat} {stk : List Value} {H : Heap} {locs : List Loc} {ls : Array Slot} {Qa : State → Outcome → State → Prop}
    (hP : va_P D vwCl (X ++ w0 ++ Y) H) (hD : va_D A (X ++ w0 ++ Y)) (hS : va_S A s.heap H locs) (hl : lv_has ls nL lv) (hF : ∀ q, va_A w0 H.size q → A q)
    (hQ : ∀ st₀ oc t, Qa st₀ oc t → ∃ ad : Nat → Nat, oc = .returned (rv ad) ∧ va_P D vwCl (w1 ad) t.heap ∧ va_D (va_A w0 H.size) (w1 ad) ∧ va_F (va_A w0 H.size) st₀ t)
    (hrun : va_Run p l e R s m args below meth c H locs kc ks mc2 ms2 (F0 m pc ls stk) st Qa (va_A w0 H.size))
    (h : ∀ ad, Wk (p, l, e, R, s, m, args, below, meth, c, A, Q) D nL (kc + mc2) (ks + ms2) (X ++ w1 ad ++ Y) (pc + 3) lv ((rv ad).toList ++ st)) : W p l e R s m args below meth c H locs kc ks Q (F0 m pc ls stk) := by
  intro T hT XX
  obtain ⟨v, st₀, t, T', L, h0, X', hL, e1, e2, hq, stp⟩ := hrun T hT XX
  obtain ⟨ad, hv, hP1, hD1, hz, hk⟩ := hQ _ _ _ hq
  cases hv
  rw [h0] at hz hk
  obtain ⟨hP2, hD2⟩ := k_join hP hD hk hP1 hD1 hF
  have hS2 : va_S A s.heap t.heap (locs ++ L) := ⟨Nat.le_trans hS.1 hz, fun q h1 h2 => by rw [hk q (Nat.lt_of_lt_of_le h1 hS.1) (fun z => h2 (hF q z))]; exact hS.2.1 q h1 h2, fun q hq => by
      rcases List.mem_append.mp hq with h | h
      · exact hS.2.2 q h
      · exact hF _ (hL q h)⟩
  obtain ⟨t2, a1, b1⟩ := h ad t.heap (locs ++ L) ls hP2 hD2 hS2 hl T' e1 X'
  exact ⟨t2, stp t2 a1, b1⟩
theorem k_callVG {Z : Cz} {D : va_G} {cy : Nat → ClassId} {own : String} {tab : List (Nat × Instr × Nat)} {nL fr lo mc ms kc ks pc : Nat} {w : va_W} {lv : List (Nat × Value)} {st : List Value} (C : Cx Z D cy own tab nL fr lo mc ms) (hE : Ew (zS Z)) (i : Nat) {idx : Nat} {y : MethodName} {CC : String} {cc2 : ByteArray} {nL2 fr2 lo2 mc2 ms2 b : Nat} {rt : Option FieldType} {As : List Value} {X w0 Y : va_W} {rv : (Nat → Nat) → Option Value} {w1 : (Nat → Nat) → va_W} {stk : List Value}
    (hct : Cg Z.2.1 D cy y cc2 nL2 rt fr2 lo2 mc2 ms2 (.ref b :: As) w0 rv w1) (hi : tab[i]? = some (pc, .invokevirtual idx, 3)) (hlk : Cond.methodLink own idx y ∈ TG) (hmw : MWv y CC cc2 nL2 rt As.length)
    (q ci : Nat) {T : u_T} {N : Nat} {fs : List Value} (he : w0[q]? = some (b, .inr (ci, fs))) (hc : vwCl[ci]? = some (CC, T, N)) (hw : X ++ w0 ++ Y = w)
    (hst : As.reverse ++ .ref b :: st = stk) (hsm : (st.map fun v => v.category).sum ≤ 8) (hR : fr2 + 1 ≤ fr ∧ 8 + (nL2 + 11) + lo2 ≤ lo ∧ kc + mc2 ≤ mc ∧ ks + ms2 ≤ ms)
    (h : ∀ ad, Wk Z D nL (kc + mc2) (ks + ms2) (X ++ w1 ad ++ Y) (pc + 3) lv ((rv ad).toList ++ st)) : Wk Z D nL kc ks w pc lv stk := by
  subst hw hst
  obtain ⟨p, l, e, R, s, m, args, below, meth, c, A, Q⟩ := Z
  obtain ⟨hx, hd, hts, hown, hml, hK, hA, hfr, hlo, hmc, hms, hEv⟩ := C
  have hd1 := hd _ _ _ (List.mem_of_getElem? hi)
  intro H locs ls hP hD hS hl
  obtain ⟨hPc, hDc⟩ := k_part hP hD
  obtain ⟨m1, m2, m3, m4, m5, m6⟩ := hmw
  have hG : GoodIn TG (wsV own idx CC y (.code y cc2 nL2 rt :: TG)) := tg_in (by
    intro z hz
    unfold wsV at hz
    rcases List.mem_append.mp hz with hz | hz
    · simp only [List.mem_cons, List.not_mem_nil, or_false] at hz
      rcases hz with rfl | rfl | rfl | rfl <;> assumption
    · rcases List.mem_cons.mp hz with rfl | hz
      · exact m4
      · exact hz)
  have hrun := va_runV (R := R) (H := H) (locs := locs) (cells := kc) (slots := ks) (args := args) (s := s) (e := e) (below := below) (meth := meth) (rest := st) (g := F0 m pc ls (As.reverse ++ .ref b :: st)) ⟨hx, rfl, hml, hown, hts⟩ (hct H.size) (cwV As.length hts hG rfl rfl rfl ⟨m5, m6⟩ ⟨Nat.le_trans hR.1 hfr, Nat.le_trans hR.2.1 hlo⟩) ⟨k_blindE, va_recv hK hPc hc he, fun U hU hW => ⟨rfl, ⟨by rw [hU], by rw [hU]; exact hPc, va_K.moved hW.alike hK, hDc.weaken (fun _ _ _ _ => trivial), by rw [hU]; exact hEv.go hS.2.1 (k_free hA hD hS) hW⟩, Ew.warm hW hE⟩⟩ rfl rfl hl.1 rfl (lv_room hsm) hd1 ⟨Nat.le_trans hR.2.2.1 hmc, Nat.le_trans hR.2.2.2 hms⟩
  exact k_afterG hP hD hS hl (k_free hA hD hS) (fun _ _ _ z => z) hrun h
def vF (AD : Nat → Nat → Nat) : Nat → Nat := fun k => [0, AD 8 0, AD 6 0, AD 0 1, AD 0 2, AD 1 0, AD 0 3, 0, AD 4 0, 0, AD 3 0, AD 7 0].getD k 0
def rU (cy : Nat → ClassId) (AD ra : Nat → Nat → Nat) (s : XS) (M : Sg) : va_W := ((wFs cy AD s.1).drop 1).take 2 ++ (((wFs cy AD s.1).drop 8).take 3 ++ ((wFs cy AD s.1).drop 16 ++ (((AD 0 1, .inl (cy 6, 4, .inr (.inr (.inr (.inr (rfI AD)))))) :: (imW cy (AD 9) (s.2.1 1) (s.2.1 2) (s.2.1 3) (s.2.1 4) ++ hsW cy (AD 1) (s.2.1 0))) ++ (ruW cy ra s.2.2.1 s.2.2.2 (s.2.1 5) ++ mw cy (AD 10) M))))
theorem pm_u1 {β : Type} (c0 : β) (P1 K P2 Q P3 D : List β) (c3 : β) (U M : List β) : ((c0 :: (P1 ++ (K ++ (P2 ++ (Q ++ P3))))) ++ ((D ++ (c3 :: U)) ++ M)).Perm ((c0 :: c3 :: (K ++ Q)) ++ (P1 ++ (P2 ++ (P3 ++ (D ++ (U ++ M)))))) := by
  have h : [0, 1, 2, 3, 4, 5, 6, 7, 8, 9].Perm [0, 7, 2, 4, 1, 3, 5, 6, 8, 9] := by decide
  have h2 := List.Perm.flatMap_right (fun i => match i with | 0 => [c0] | 1 => P1 | 2 => K | 3 => P2 | 4 => Q | 5 => P3 | 6 => D | 7 => [c3] | 8 => U | _ => M) h
  simpa [List.append_assoc] using h2
theorem pm_u2 {β : Type} (c0 : β) (P1 K P2 Q P3 D : List β) (c3 : β) (U V M : List β) : (((c0 :: c3 :: (K ++ Q)) ++ V) ++ (P1 ++ (P2 ++ (P3 ++ (D ++ (U ++ M)))))).Perm ((c0 :: (P1 ++ (K ++ (P2 ++ (Q ++ P3))))) ++ ((D ++ (c3 :: (U ++ V))) ++ M)) := by
  have h : [0, 7, 2, 4, 9, 1, 3, 5, 6, 8, 10].Perm [0, 1, 2, 3, 4, 5, 6, 7, 8, 9, 10] := by decide
  have h2 := List.Perm.flatMap_right (fun i => match i with | 0 => [c0] | 1 => P1 | 2 => K | 3 => P2 | 4 => Q | 5 => P3 | 6 => D | 7 => [c3] | 8 => U | 9 => V | _ => M) h
  simpa [List.append_assoc] using h2
theorem wL_re (cy : Nat → ClassId) (AD ra : Nat → Nat → Nat) (s : XS) (M : Sg) : wLw cy AD ra s M = wFs cy AD s.1 ++ ((((AD 0 1, .inl (cy 6, 4, .inr (.inr (.inr (.inr (rfI AD)))))) :: (imW cy (AD 9) (s.2.1 1) (s.2.1 2) (s.2.1 3) (s.2.1 4) ++ hsW cy (AD 1) (s.2.1 0))) ++ ((AD 0 3, .inl (cy 5, 6, .inr (.inr (.inr (.inr (rfR ra s.2.2.2)))))) :: ruW cy ra s.2.2.1 s.2.2.2 (s.2.1 5))) ++ mw cy (AD 10) M) := by
  rw [List.cons_append, List.append_assoc]
  rfl
theorem wF_re (cy : Nat → ClassId) (AD : Nat → Nat → Nat) (v : Nat → Sg) : wFs cy AD v = (AD 0 0, .inr (11, fC (AD 5) (AD 2) (vF AD) ((v 0).1 7))) :: (((wFs cy AD v).drop 1).take 2 ++ ((wK cy (AD 2) (AD 5) (v 11) (v 1)).take 5 ++ (((wFs cy AD v).drop 8).take 3 ++ ((wK cy (AD 2) (AD 5) (v 11) (v 1)).drop 5 ++ (wFs cy AD v).drop 16)))) := rfl
theorem pm_U (cy : Nat → ClassId) (AD ra : Nat → Nat → Nat) (s : XS) (M : Sg) : (wLw cy AD ra s M).Perm (wR cy (AD 0 0) (AD 5) (AD 2) (vF AD) (rfR ra s.2.2.2) ((s.1 0).1 7) (s.1 11) (s.1 1) ++ rU cy AD ra s M) := by
  rw [wL_re, wF_re]
  exact pm_u1 _ _ _ _ _ _ _ _ _ _
theorem pm_U2 (cy : Nat → ClassId) (AD ra : Nat → Nat → Nat) (s : XS) (M K1 Q1 : Sg) : (wR cy (AD 0 0) (AD 5) (AD 2) (vF AD) (rfR ra s.2.2.2) ((s.1 0).1 7) K1 Q1 ++ rU cy AD ra s M).Perm (wLw cy AD ra (sC (sC s 11 K1) 1 Q1) M) := (pm_U cy AD ra (sC (sC s 11 K1) 1 Q1) M).symm
theorem ru_up (cy : Nat → ClassId) (ra : Nat → Nat → Nat) (rn : Nat → Nat → Nat) (c : Nat) (RU : Nat → Sg) (ad : Nat → Nat) (g : Nat → Nat) (U : Sg) : ruW cy (va_up ra c ad) (va_up rn c g) (c + 1) (va_up RU c U) = ruW cy ra rn c RU ++ wU cy ad (g 0) (g 1) (g 2) (g 3) U := by
  unfold ruW
  rw [List.range_succ, List.flatMap_append, List.flatMap_cons, List.flatMap_nil, List.append_nil, va_up_self, va_up_self, va_up_self]
  congr 1
  rw [List.flatMap_def, List.flatMap_def]
  congr 1
  apply List.map_congr_left
  intro i hi
  have hne : i ≠ c := Nat.ne_of_lt (List.mem_range.mp hi)
  simp only [va_up_ne _ _ hne]
theorem rf_up (ra : Nat → Nat → Nat) (c : Nat) (ad : Nat → Nat) : va_up (rfR ra c) c (some (ad 0)) = rfR (va_up ra c ad) (c + 1) := by
  funext i
  unfold rfR
  by_cases h : i = c
  · subst h
    rw [va_up_self, va_up_self, if_pos (Nat.lt_succ_self i)]
  · rw [va_up_ne _ _ h, va_up_ne _ _ h]
    by_cases h2 : i < c
    · rw [if_pos h2, if_pos (Nat.lt_succ_of_lt h2)]
    · rw [if_neg h2, if_neg (by omega)]
theorem pm_U3 (cy : Nat → ClassId) (AD ra : Nat → Nat → Nat) (s : XS) (M K1 Q1 : Sg) (n m : Nat) (ad : Nat → Nat) : ((wR cy (AD 0 0) (AD 5) (AD 2) (vF AD) (va_up (rfR ra s.2.2.2) s.2.2.2 (some (ad 0))) (nI (s.2.2.2 + 1)) K1 Q1 ++ wU cy ad n m m m (ruS K1)) ++ rU cy AD ra s M).Perm (wLw cy AD (va_up ra s.2.2.2 ad) (sRu s K1 Q1 n m) M) := by
  rw [wL_re, wF_re, rf_up]
  have e1 := ru_up cy ra s.2.2.1 s.2.2.2 (s.2.1 5) ad (rnU n m) (ruS K1)
  have e2 : (sRu s K1 Q1 n m).2.1 5 = va_up (s.2.1 5) s.2.2.2 (ruS K1) := rfl
  have e3 : (sRu s K1 Q1 n m).2.2.1 = va_up s.2.2.1 s.2.2.2 (rnU n m) := rfl
  have e4 : (sRu s K1 Q1 n m).2.2.2 = s.2.2.2 + 1 := rfl
  rw [e2, e3, e4, e1]
  have h := pm_u2 (AD 0 0, .inr (11, fC (AD 5) (AD 2) (vF AD) (nI (s.2.2.2 + 1)))) (((wFs cy AD s.1).drop 1).take 2) ((wK cy (AD 2) (AD 5) K1 Q1).take 5) (((wFs cy AD s.1).drop 8).take 3) ((wK cy (AD 2) (AD 5) K1 Q1).drop 5) ((wFs cy AD s.1).drop 16) ((AD 0 1, .inl (cy 6, 4, .inr (.inr (.inr (.inr (rfI AD)))))) :: (imW cy (AD 9) (s.2.1 1) (s.2.1 2) (s.2.1 3) (s.2.1 4) ++ hsW cy (AD 1) (s.2.1 0))) (AD 0 3, .inl (cy 5, 6, .inr (.inr (.inr (.inr (rfR (va_up ra s.2.2.2 ad) (s.2.2.2 + 1))))))) (ruW cy ra s.2.2.1 s.2.2.2 (s.2.1 5)) (wU cy ad n m m m (ruS K1)) (mw cy (AD 10) M)
  exact h

section
variable {Z : Cz} {D : va_G} {cy : Nat → ClassId} {tab : List (Nat × Instr × Nat)} {kc ks : Nat} {pc : Nat} {lv : List (Nat × Value)} {st : List Value} {AD ra : Nat → Nat → Nat} {s : XS} {M : Sg}
theorem lx_inside (C : Cx Z D cy RL tab 4 2048 84000 600000 7302250) (i : Nat) {j : Nat} (hj : j < 20) {p1 : Int32} {p2 : Int32} {r : Int32} {O1 H1 Om1 : Sg} (hi : tab[i]? = some (pc, .invokevirtual 49, 3)) (hf : f_X11_inside j (s.1 2) (s.1 3) (s.1 14) (s.2.1 0 j) p1 p2 = some (r, O1, H1, Om1)) (hsm : (st.map fun v => v.category).sum ≤ 8) (hk : kc ≤ 600000 ∧ ks ≤ 7302250) (h : Wk Z D 4 kc ks (wLw cy AD ra (va_up (va_up s.1 3 O1) 14 H1, va_up s.2.1 0 (va_up (s.2.1 0) j Om1), s.2.2) M) (pc + 3) lv (.int r :: st)) : Wk Z D 4 kc ks (wLw cy AD ra s M) pc lv (.int p2 :: .int p1 :: .ref (AD 0 0) :: st) := by
  refine k_pm (pm_H s M hj) ?_
  refine k_callV (X := []) (Y := rH cy AD ra s.2 M j) (w2 := (wFs cy AD (va_up (va_up s.1 3 O1) 14 H1) ++ ((AD 1 1, .inl (cy 4, 20, .inr (.inr (.inr (.inr (rfH AD)))))) :: wO cy (fun k => AD 1 (2 + 6 * j + k)) Om1)) ++ rH cy AD ra s.2 M j) (As := [.int p1, .int p2]) (stk := .int p2 :: .int p1 :: .ref (AD 0 0) :: st) C i (c_X11_inside Z.2.1 D cy (AD 0) (AD 1) (AD 2) (AD 3) (AD 4) (AD 5) (AD 6) (AD 7) (AD 8) (fun k => AD 1 (2 + 6 * j + k)) (rfH AD) j (rfH_eq hj) (s.1 0) (s.1 1) (s.1 2) (s.1 3) (s.1 4) (s.1 5) (s.1 6) (s.1 7) (s.1 8) (s.1 9) (s.1 10) (s.1 11) (s.1 12) (s.1 13) (s.1 14) (s.2.1 0 j) p1 p2 r O1 H1 Om1 hf) hi qL_49 mvX11_inside 0 11 FH_c0 rfl rfl rfl rfl rfl hsm ⟨Nat.le_of_ble_eq_true rfl, Nat.le_of_ble_eq_true rfl, hk.1, hk.2⟩ ?_
  exact k_pm (pm_H2 s _ M Om1 hj) h
theorem lx_outside (C : Cx Z D cy RL tab 4 2048 84000 600000 7302250) (i : Nat) {j : Nat} (hj : j < 20) {p1 : Int32} {p2 : Int32} {r : Int32} {O1 H1 Om1 : Sg} (hi : tab[i]? = some (pc, .invokevirtual 53, 3)) (hf : f_X11_outside j (s.1 2) (s.1 3) (s.1 14) (s.2.1 0 j) p1 p2 = some (r, O1, H1, Om1)) (hsm : (st.map fun v => v.category).sum ≤ 8) (hk : kc ≤ 600000 ∧ ks ≤ 7302250) (h : Wk Z D 4 kc ks (wLw cy AD ra (va_up (va_up s.1 3 O1) 14 H1, va_up s.2.1 0 (va_up (s.2.1 0) j Om1), s.2.2) M) (pc + 3) lv (.int r :: st)) : Wk Z D 4 kc ks (wLw cy AD ra s M) pc lv (.int p2 :: .int p1 :: .ref (AD 0 0) :: st) := by
  refine k_pm (pm_H s M hj) ?_
  refine k_callV (X := []) (Y := rH cy AD ra s.2 M j) (w2 := (wFs cy AD (va_up (va_up s.1 3 O1) 14 H1) ++ ((AD 1 1, .inl (cy 4, 20, .inr (.inr (.inr (.inr (rfH AD)))))) :: wO cy (fun k => AD 1 (2 + 6 * j + k)) Om1)) ++ rH cy AD ra s.2 M j) (As := [.int p1, .int p2]) (stk := .int p2 :: .int p1 :: .ref (AD 0 0) :: st) C i (c_X11_outside Z.2.1 D cy (AD 0) (AD 1) (AD 2) (AD 3) (AD 4) (AD 5) (AD 6) (AD 7) (AD 8) (fun k => AD 1 (2 + 6 * j + k)) (rfH AD) j (rfH_eq hj) (s.1 0) (s.1 1) (s.1 2) (s.1 3) (s.1 4) (s.1 5) (s.1 6) (s.1 7) (s.1 8) (s.1 9) (s.1 10) (s.1 11) (s.1 12) (s.1 13) (s.1 14) (s.2.1 0 j) p1 p2 r O1 H1 Om1 hf) hi qL_53 mvX11_outside 0 11 FH_c0 rfl rfl rfl rfl rfl hsm ⟨Nat.le_of_ble_eq_true rfl, Nat.le_of_ble_eq_true rfl, hk.1, hk.2⟩ ?_
  exact k_pm (pm_H2 s _ M Om1 hj) h
theorem lx_pass (C : Cx Z D cy RL tab 4 2048 84000 600000 7302250) (i : Nat) {j : Nat} (hj : j < 20) {p1 : Int32} {r : Int32} {O1 H1 Om1 : Sg} (hi : tab[i]? = some (pc, .invokevirtual 57, 3)) (hf : f_X11_pass j (s.1 2) (s.1 3) (s.1 14) (s.2.1 0 j) p1 = some (r, O1, H1, Om1)) (hsm : (st.map fun v => v.category).sum ≤ 8) (hk : kc ≤ 600000 ∧ ks ≤ 7302250) (h : Wk Z D 4 kc ks (wLw cy AD ra (va_up (va_up s.1 3 O1) 14 H1, va_up s.2.1 0 (va_up (s.2.1 0) j Om1), s.2.2) M) (pc + 3) lv (.int r :: st)) : Wk Z D 4 kc ks (wLw cy AD ra s M) pc lv (.int p1 :: .ref (AD 0 0) :: st) := by
  refine k_pm (pm_H s M hj) ?_
  refine k_callV (X := []) (Y := rH cy AD ra s.2 M j) (w2 := (wFs cy AD (va_up (va_up s.1 3 O1) 14 H1) ++ ((AD 1 1, .inl (cy 4, 20, .inr (.inr (.inr (.inr (rfH AD)))))) :: wO cy (fun k => AD 1 (2 + 6 * j + k)) Om1)) ++ rH cy AD ra s.2 M j) (As := [.int p1]) (stk := .int p1 :: .ref (AD 0 0) :: st) C i (c_X11_pass Z.2.1 D cy (AD 0) (AD 1) (AD 2) (AD 3) (AD 4) (AD 5) (AD 6) (AD 7) (AD 8) (fun k => AD 1 (2 + 6 * j + k)) (rfH AD) j (rfH_eq hj) (s.1 0) (s.1 1) (s.1 2) (s.1 3) (s.1 4) (s.1 5) (s.1 6) (s.1 7) (s.1 8) (s.1 9) (s.1 10) (s.1 11) (s.1 12) (s.1 13) (s.1 14) (s.2.1 0 j) p1 r O1 H1 Om1 hf) hi qL_57 mvX11_pass 0 11 FH_c0 rfl rfl rfl rfl rfl hsm ⟨Nat.le_of_ble_eq_true rfl, Nat.le_of_ble_eq_true rfl, hk.1, hk.2⟩ ?_
  exact k_pm (pm_H2 s _ M Om1 hj) h
theorem lx_shut (C : Cx Z D cy RL tab 4 2048 84000 600000 7302250) (i : Nat) {j : Nat} (hj : j < 20) {p1 : Int32} {p2 : Bool} {r : Bool} {O1 H1 Om1 : Sg} (hi : tab[i]? = some (pc, .invokevirtual 61, 3)) (hf : f_X11_shut j (s.1 2) (s.1 3) (s.1 14) (s.2.1 0 j) p1 p2 = some (r, O1, H1, Om1)) (hsm : (st.map fun v => v.category).sum ≤ 8) (hk : kc ≤ 600000 ∧ ks ≤ 7302250) (h : Wk Z D 4 kc ks (wLw cy AD ra (va_up (va_up s.1 3 O1) 14 H1, va_up s.2.1 0 (va_up (s.2.1 0) j Om1), s.2.2) M) (pc + 3) lv (.int (bI r) :: st)) : Wk Z D 4 kc ks (wLw cy AD ra s M) pc lv (.int (bI p2) :: .int p1 :: .ref (AD 0 0) :: st) := by
  refine k_pm (pm_H s M hj) ?_
  refine k_callV (X := []) (Y := rH cy AD ra s.2 M j) (w2 := (wFs cy AD (va_up (va_up s.1 3 O1) 14 H1) ++ ((AD 1 1, .inl (cy 4, 20, .inr (.inr (.inr (.inr (rfH AD)))))) :: wO cy (fun k => AD 1 (2 + 6 * j + k)) Om1)) ++ rH cy AD ra s.2 M j) (As := [.int p1, .int (bI p2)]) (stk := .int (bI p2) :: .int p1 :: .ref (AD 0 0) :: st) C i (c_X11_shut Z.2.1 D cy (AD 0) (AD 1) (AD 2) (AD 3) (AD 4) (AD 5) (AD 6) (AD 7) (AD 8) (fun k => AD 1 (2 + 6 * j + k)) (rfH AD) j (rfH_eq hj) (s.1 0) (s.1 1) (s.1 2) (s.1 3) (s.1 4) (s.1 5) (s.1 6) (s.1 7) (s.1 8) (s.1 9) (s.1 10) (s.1 11) (s.1 12) (s.1 13) (s.1 14) (s.2.1 0 j) p1 p2 r O1 H1 Om1 hf) hi qL_61 mvX11_shut 0 11 FH_c0 rfl rfl rfl rfl rfl hsm ⟨Nat.le_of_ble_eq_true rfl, Nat.le_of_ble_eq_true rfl, hk.1, hk.2⟩ ?_
  exact k_pm (pm_H2 s _ M Om1 hj) h
theorem lx_undo (C : Cx Z D cy RL tab 4 2048 84000 600000 7302250) (i : Nat) {j : Nat} (hj : j < 20)  {r : Int32} {O1 H1 : Sg} (hi : tab[i]? = some (pc, .invokevirtual 66, 3)) (hf : f_X11_undo j (s.1 3) (s.1 14) (s.2.1 0 j)  = some (r, O1, H1)) (hsm : (st.map fun v => v.category).sum ≤ 8) (hk : kc ≤ 600000 ∧ ks ≤ 7302250) (h : Wk Z D 4 kc ks (wLw cy AD ra (va_up (va_up s.1 3 O1) 14 H1, va_up s.2.1 0 (va_up (s.2.1 0) j (s.2.1 0 j)), s.2.2) M) (pc + 3) lv (.int r :: st)) : Wk Z D 4 kc ks (wLw cy AD ra s M) pc lv (.ref (AD 0 0) :: st) := by
  refine k_pm (pm_H s M hj) ?_
  refine k_callV (X := []) (Y := rH cy AD ra s.2 M j) (w2 := (wFs cy AD (va_up (va_up s.1 3 O1) 14 H1) ++ ((AD 1 1, .inl (cy 4, 20, .inr (.inr (.inr (.inr (rfH AD)))))) :: wO cy (fun k => AD 1 (2 + 6 * j + k)) (s.2.1 0 j))) ++ rH cy AD ra s.2 M j) (As := []) (stk := .ref (AD 0 0) :: st) C i (c_X11_undo Z.2.1 D cy (AD 0) (AD 1) (AD 2) (AD 3) (AD 4) (AD 5) (AD 6) (AD 7) (AD 8) (fun k => AD 1 (2 + 6 * j + k)) (rfH AD) j (rfH_eq hj) (s.1 0) (s.1 1) (s.1 2) (s.1 3) (s.1 4) (s.1 5) (s.1 6) (s.1 7) (s.1 8) (s.1 9) (s.1 10) (s.1 11) (s.1 12) (s.1 13) (s.1 14) (s.2.1 0 j)  r O1 H1 hf) hi qL_66 mvX11_undo 0 11 FH_c0 rfl rfl rfl rfl rfl hsm ⟨Nat.le_of_ble_eq_true rfl, Nat.le_of_ble_eq_true rfl, hk.1, hk.2⟩ ?_
  exact k_pm (pm_H2 s _ M (s.2.1 0 j) hj) h
theorem lx_run (C : Cx Z D cy RL tab 4 2048 84000 600000 7302250) (i : Nat) {j : Nat} (hj : j < s.2.2.2) {p1 p2 r : Int32} {O1 N1 H1 : Sg} (hi : tab[i]? = some (pc, .invokevirtual 70, 3)) (hf : f_X11_run (s.2.2.1 j 0) (s.2.2.1 j 1) (s.2.2.1 j 2) (s.2.2.1 j 3) j (s.1 0) (s.1 2) (s.1 3) (s.1 12) (s.1 14) (s.2.1 5 j) p1 p2 = some (r, O1, N1, H1)) (hsm : (st.map fun v => v.category).sum ≤ 8) (hk : kc ≤ 600000 ∧ ks ≤ 7302250) (h : Wk Z D 4 kc ks (wLw cy AD ra (sC (sC (sC s 3 O1) 12 N1) 14 H1) M) (pc + 3) lv (.int r :: st)) : Wk Z D 4 kc ks (wLw cy AD ra s M) pc lv (.int p2 :: .int p1 :: .ref (AD 0 0) :: st) := by
  refine k_pm (pm_R s M hj) ?_
  refine k_callV (X := []) (Y := rR cy AD ra s.2 M j) (w2 := (wFs cy AD (va_up (va_up (va_up s.1 3 O1) 12 N1) 14 H1) ++ ((AD 0 3, .inl (cy 5, 6, .inr (.inr (.inr (.inr (rfR ra s.2.2.2)))))) :: wU cy (ra j) (s.2.2.1 j 0) (s.2.2.1 j 1) (s.2.2.1 j 2) (s.2.2.1 j 3) (s.2.1 5 j))) ++ rR cy AD ra s.2 M j) (As := [.int p1, .int p2]) (stk := .int p2 :: .int p1 :: .ref (AD 0 0) :: st) C i (c_X11_run Z.2.1 D cy (AD 0) (AD 1) (AD 2) (AD 3) (AD 4) (AD 5) (AD 6) (AD 7) (AD 8) (ra j) (rfR ra s.2.2.2) (s.2.2.1 j 0) (s.2.2.1 j 1) (s.2.2.1 j 2) (s.2.2.1 j 3) j (rfR_eq hj) (s.1 0) (s.1 1) (s.1 2) (s.1 3) (s.1 4) (s.1 5) (s.1 6) (s.1 7) (s.1 8) (s.1 9) (s.1 10) (s.1 11) (s.1 12) (s.1 13) (s.1 14) (s.2.1 5 j) p1 p2 r O1 N1 H1 hf) hi qL_70 mvX11_run 0 11 FR_c0 rfl rfl rfl rfl rfl hsm ⟨Nat.le_of_ble_eq_true rfl, Nat.le_of_ble_eq_true rfl, hk.1, hk.2⟩ ?_
  exact k_pm (pm_R (sC (sC (sC s 3 O1) 12 N1) 14 H1) M hj).symm h
theorem lx_runN (C : Cx Z D cy RL tab 4 2048 84000 600000 7302250) (i : Nat) {p1 p2 : Int32} (hi : tab[i]? = some (pc, .invokevirtual 70, 3)) (hf : p1 < 0 ∨ (s.1 0).1 7 ≤ p1) (hsm : (st.map fun v => v.category).sum ≤ 8) (hk : kc ≤ 600000 ∧ ks ≤ 7302250) (h : Wk Z D 4 kc ks (wLw cy AD ra s M) (pc + 3) lv (.int (-1) :: st)) : Wk Z D 4 kc ks (wLw cy AD ra s M) pc lv (.int p2 :: .int p1 :: .ref (AD 0 0) :: st) :=
  k_callV (X := []) (Y := dyn cy AD ra s.2 ++ mw cy (AD 10) M) (w2 := wLw cy AD ra s M) (As := [.int p1, .int p2]) (stk := .int p2 :: .int p1 :: .ref (AD 0 0) :: st) C i (c_runN Z.2.1 D cy (AD 0) (AD 1) (AD 2) (AD 3) (AD 4) (AD 5) (AD 6) (AD 7) (AD 8) (s.1 0) (s.1 1) (s.1 2) (s.1 3) (s.1 4) (s.1 5) (s.1 6) (s.1 7) (s.1 8) (s.1 9) (s.1 10) (s.1 11) (s.1 12) (s.1 13) (s.1 14) p1 p2 hf) hi qL_70 mvX11_run 0 11 F_c0 rfl rfl rfl rfl rfl hsm ⟨Nat.le_of_ble_eq_true rfl, Nat.le_of_ble_eq_true rfl, hk.1, hk.2⟩ h
theorem lx_image (C : Cx Z D cy RL tab 4 2048 84000 600000 7302250) (i : Nat) {j : Nat} (hj : j < 4) {p1 r : Int32} {F1 Ti1 Oi1 Ei1 Xi1 : Sg} (hi : tab[i]? = some (pc, .invokevirtual 135, 3)) (hf : f_X11_image j (s.1 0) (s.1 2) (s.1 3) (s.1 4) (s.1 5) (s.2.1 1 j) (s.2.1 2 j) (s.2.1 3 j) (s.2.1 4 j) p1 = some (r, F1, Ti1, Oi1, Ei1, Xi1)) (hsm : (st.map fun v => v.category).sum ≤ 8) (hk : kc ≤ 600000 ∧ ks ≤ 7302250) (h : Wk Z D 4 kc ks (wLw cy AD ra ((va_up s.1 0 F1), imU s.2.1 j Ti1 Oi1 Ei1 Xi1, s.2.2) M) (pc + 3) lv (.int r :: st)) : Wk Z D 4 kc ks (wLw cy AD ra s M) pc lv (.int p1 :: .ref (AD 0 0) :: st) := by
  refine k_pm (pm_I s M hj) ?_
  refine k_callV (X := []) (Y := rI cy AD ra s.2 M j) (w2 := (wFs cy AD (va_up s.1 0 F1) ++ ((AD 0 1, .inl (cy 6, 4, .inr (.inr (.inr (.inr (rfI AD)))))) :: wW cy (fun k => AD 9 (23 * j + k)) Ti1 Oi1 Ei1 Xi1)) ++ rI cy AD ra s.2 M j) (As := [.int p1]) (stk := .int p1 :: .ref (AD 0 0) :: st) C i (c_X11_image Z.2.1 D cy (AD 0) (AD 1) (AD 2) (AD 3) (AD 4) (AD 5) (AD 6) (AD 7) (AD 8) (fun k => AD 9 (23 * j + k)) (rfI AD) j (rfI_eq hj) (s.1 0) (s.1 1) (s.1 2) (s.1 3) (s.1 4) (s.1 5) (s.1 6) (s.1 7) (s.1 8) (s.1 9) (s.1 10) (s.1 11) (s.1 12) (s.1 13) (s.1 14) (s.2.1 1 j) (s.2.1 2 j) (s.2.1 3 j) (s.2.1 4 j) p1 r F1 Ti1 Oi1 Ei1 Xi1 hf) hi qL_135 mvX11_image 0 11 FI_c0 rfl rfl rfl rfl rfl hsm ⟨Nat.le_of_ble_eq_true rfl, Nat.le_of_ble_eq_true rfl, hk.1, hk.2⟩ ?_
  exact k_pm (pm_I2 s _ M Ti1 Oi1 Ei1 Xi1 hj) h
theorem lx_back (C : Cx Z D cy RL tab 4 2048 84000 600000 7302250) (i : Nat) {j : Nat} (hj : j < 4) {p1 r : Int32} {T1 O1 E1 X1 H1 : Sg} (hi : tab[i]? = some (pc, .invokevirtual 139, 3)) (hf : f_X11_back j (s.1 0) (s.1 2) (s.1 3) (s.1 4) (s.1 5) (s.1 14) (s.2.1 1 j) (s.2.1 2 j) (s.2.1 3 j) (s.2.1 4 j) p1 = some (r, T1, O1, E1, X1, H1)) (hsm : (st.map fun v => v.category).sum ≤ 8) (hk : kc ≤ 600000 ∧ ks ≤ 7302250) (h : Wk Z D 4 kc ks (wLw cy AD ra ((va_up (va_up (va_up (va_up (va_up s.1 2 T1) 3 O1) 4 E1) 5 X1) 14 H1), imU s.2.1 j (s.2.1 1 j) (s.2.1 2 j) (s.2.1 3 j) (s.2.1 4 j), s.2.2) M) (pc + 3) lv (.int r :: st)) : Wk Z D 4 kc ks (wLw cy AD ra s M) pc lv (.int p1 :: .ref (AD 0 0) :: st) := by
  refine k_pm (pm_I s M hj) ?_
  refine k_callV (X := []) (Y := rI cy AD ra s.2 M j) (w2 := (wFs cy AD (va_up (va_up (va_up (va_up (va_up s.1 2 T1) 3 O1) 4 E1) 5 X1) 14 H1) ++ ((AD 0 1, .inl (cy 6, 4, .inr (.inr (.inr (.inr (rfI AD)))))) :: wW cy (fun k => AD 9 (23 * j + k)) (s.2.1 1 j) (s.2.1 2 j) (s.2.1 3 j) (s.2.1 4 j))) ++ rI cy AD ra s.2 M j) (As := [.int p1]) (stk := .int p1 :: .ref (AD 0 0) :: st) C i (c_X11_back Z.2.1 D cy (AD 0) (AD 1) (AD 2) (AD 3) (AD 4) (AD 5) (AD 6) (AD 7) (AD 8) (fun k => AD 9 (23 * j + k)) (rfI AD) j (rfI_eq hj) (s.1 0) (s.1 1) (s.1 2) (s.1 3) (s.1 4) (s.1 5) (s.1 6) (s.1 7) (s.1 8) (s.1 9) (s.1 10) (s.1 11) (s.1 12) (s.1 13) (s.1 14) (s.2.1 1 j) (s.2.1 2 j) (s.2.1 3 j) (s.2.1 4 j) p1 r T1 O1 E1 X1 H1 hf) hi qL_139 mvX11_back 0 11 FI_c0 rfl rfl rfl rfl rfl hsm ⟨Nat.le_of_ble_eq_true rfl, Nat.le_of_ble_eq_true rfl, hk.1, hk.2⟩ ?_
  exact k_pm (pm_I2 s _ M (s.2.1 1 j) (s.2.1 2 j) (s.2.1 3 j) (s.2.1 4 j) hj) h
theorem lx_ruleA (C : Cx Z D cy RL tab 4 2048 84000 600000 7302250) (i : Nat) (hi : tab[i]? = some (pc, .invokevirtual 28, 3)) (hf : ¬ (s.1 0).1 7 < 6) (hsm : (st.map fun v => v.category).sum ≤ 8) (hk : kc ≤ 600000 ∧ ks ≤ 7302250) (h : Wk Z D 4 kc ks (wLw cy AD ra s M) (pc + 3) lv (.int (-1) :: st)) : Wk Z D 4 kc ks (wLw cy AD ra s M) pc lv (.ref (AD 0 0) :: st) := by
  refine k_pm (pm_U cy AD ra s M) ?_
  refine k_callV (X := []) (Y := rU cy AD ra s M) (w2 := wR cy (AD 0 0) (AD 5) (AD 2) (vF AD) (rfR ra s.2.2.2) ((s.1 0).1 7) (s.1 11) (s.1 1) ++ rU cy AD ra s M) (As := []) (stk := .ref (AD 0 0) :: st) C i (c_ruleA Z.2.1 D cy (AD 0 0) (AD 5) (AD 2) (vF AD) (rfR ra s.2.2.2) ((s.1 0).1 7) (s.1 11) (s.1 1) hf) hi qL_28 mvX11_rule 0 11 rfl rfl rfl rfl rfl rfl hsm ⟨Nat.le_of_ble_eq_true rfl, Nat.le_of_ble_eq_true rfl, hk.1, hk.2⟩ ?_
  exact k_pm (pm_U cy AD ra s M).symm h
theorem lx_ruleB (C : Cx Z D cy RL tab 4 2048 84000 600000 7302250) (i : Nat) {K1 Q1 : Sg} (hi : tab[i]? = some (pc, .invokevirtual 28, 3)) (h6 : (s.1 0).1 7 < 6) (hf : f_X5_read (s.1 11) (s.1 1) = some (false, K1, Q1)) (hsm : (st.map fun v => v.category).sum ≤ 8) (hk : kc ≤ 600000 ∧ ks ≤ 7302250) (h : Wk Z D 4 kc ks (wLw cy AD ra (sC (sC s 11 K1) 1 (sI Q1 1 0)) M) (pc + 3) lv (.int ((-2) - Q1.1 2) :: st)) : Wk Z D 4 kc ks (wLw cy AD ra s M) pc lv (.ref (AD 0 0) :: st) := by
  refine k_pm (pm_U cy AD ra s M) ?_
  refine k_callV (X := []) (Y := rU cy AD ra s M) (w2 := wR cy (AD 0 0) (AD 5) (AD 2) (vF AD) (rfR ra s.2.2.2) ((s.1 0).1 7) K1 (sI Q1 1 0) ++ rU cy AD ra s M) (As := []) (stk := .ref (AD 0 0) :: st) C i (c_ruleB Z.2.1 D cy (AD 0 0) (AD 5) (AD 2) (vF AD) (rfR ra s.2.2.2) ((s.1 0).1 7) (s.1 11) (s.1 1) K1 Q1 h6 hf) hi qL_28 mvX11_rule 0 11 rfl rfl rfl rfl rfl rfl hsm ⟨Nat.le_of_ble_eq_true rfl, Nat.le_of_ble_eq_true rfl, hk.1, hk.2⟩ ?_
  exact k_pm (pm_U2 cy AD ra s M K1 (sI Q1 1 0)) h
theorem lx_ruleC (C : Cx Z D cy RL tab 4 2048 84000 600000 7302250) (i : Nat) (hE : Ew (zS Z)) {K1 Q1 : Sg} {n m : Nat} (hi : tab[i]? = some (pc, .invokevirtual 28, 3)) (hr : (s.1 0).1 7 = nI s.2.2.2) (h6 : s.2.2.2 < 6) (hn : n ≤ 400) (hm : m ≤ 12) (h1 : K1.1 1 = nI n) (h5 : K1.1 5 = nI m) (hf : f_X5_read (s.1 11) (s.1 1) = some (true, K1, Q1)) (hsm : (st.map fun v => v.category).sum ≤ 8) (hk : kc + 5 ≤ 600000 ∧ ks + 1604 ≤ 7302250) (h : ∀ ad, Wk Z D 4 (kc + 5) (ks + 1604) (wLw cy AD (va_up ra s.2.2.2 ad) (sRu s K1 (sI Q1 1 0) n m) M) (pc + 3) lv (.int (nI s.2.2.2) :: st)) : Wk Z D 4 kc ks (wLw cy AD ra s M) pc lv (.ref (AD 0 0) :: st) := by
  refine k_pm (pm_U cy AD ra s M) ?_
  rw [hr]
  refine k_callVG (X := []) (Y := rU cy AD ra s M) (As := []) (stk := .ref (AD 0 0) :: st) C hE i (g_ruleC Z.2.1 D cy (AD 0 0) (AD 5) (AD 2) (vF AD) (rfR ra s.2.2.2) s.2.2.2 (s.1 11) (s.1 1) K1 Q1 n m hn hm h1 h5 h6 hf) hi qL_28 mvX11_rule 0 11 rfl rfl rfl rfl hsm ⟨Nat.le_of_ble_eq_true rfl, Nat.le_of_ble_eq_true rfl, hk.1, hk.2⟩ (fun ad => ?_)
  exact k_pm (pm_U3 cy AD ra s M K1 (sI Q1 1 0) n m ad) (h ad)

end
