theorem qX11_3 : Cond.methodLink RX11 3 ⟨"java/lang/Object", "<init>", "()V"⟩ ∈ TG := tg1 27 (by decide +kernel) (by decide +kernel)
theorem qX11_9 : Cond.classLink RX11 9 "FrontFour$Text" ∈ TG := tg1 30 (by decide +kernel) (by decide +kernel)
theorem qX11_16 : Cond.classLink RX11 16 "FrontFour$World" ∈ TG := tg1 67 (by decide +kernel) (by decide +kernel)
theorem qX11_18 : Cond.methodLink RX11 18 yX10_init ∈ TG := tg1 69 (by decide +kernel) (by decide +kernel)
theorem qX11_34 : Cond.classLink RX11 34 "FrontFour$History" ∈ TG := tg2 53 (by decide +kernel) (by decide +kernel)
theorem qX11_36 : Cond.methodLink RX11 36 yX0_init ∈ TG := tg2 55 (by decide +kernel) (by decide +kernel)
theorem qX11_41 : Cond.classLink RX11 41 "FrontFour$Rule" ∈ TG := tg2 74 (by decide +kernel) (by decide +kernel)
theorem qX11_51 : Cond.classLink RX11 51 "FrontFour$LineReader" ∈ TG := tg2 76 (by decide +kernel) (by decide +kernel)
theorem qX11_53 : Cond.methodLink RX11 53 yX1_init ∈ TG := tg2 78 (by decide +kernel) (by decide +kernel)
theorem qX11_60 : Cond.classLink RX11 60 "FrontFour$RuleReader" ∈ TG := tg2 92 (by decide +kernel) (by decide +kernel)
theorem qX11_62 : Cond.methodLink RX11 62 yX5_init ∈ TG := tg2 94 (by decide +kernel) (by decide +kernel)
theorem qX11_65 : Cond.fieldLink RX11 65 "FrontFour" "ruleReader" "LFrontFour$RuleReader;" ∈ TG := tg2 211 (by decide +kernel) (by decide +kernel)
theorem qX11_69 : Cond.classLink RX11 69 "FrontFour$Reckoner" ∈ TG := tg2 129 (by decide +kernel) (by decide +kernel)
theorem qX11_71 : Cond.methodLink RX11 71 yX3_init ∈ TG := tg2 131 (by decide +kernel) (by decide +kernel)
theorem qX11_78 : Cond.classLink RX11 78 "FrontFour$Search" ∈ TG := tg2 146 (by decide +kernel) (by decide +kernel)
theorem qX11_80 : Cond.methodLink RX11 80 yX6_init ∈ TG := tg2 148 (by decide +kernel) (by decide +kernel)
/-! the whole object FrontFour, and its constructor -/
theorem k_pm {Z : Cz} {D : va_G} {nL kc ks : Nat} {w w2 : va_W} {pc : Nat} {lv : List (Nat × Value)} {st : List Value} (hp : w.Perm w2) (h : Wk Z D nL kc ks w2 pc lv st) : Wk Z D nL kc ks w pc lv st := by
  obtain ⟨p, l, e, R, s, m, args, below, meth, c, A, Q⟩ := Z
  intro H locs ls hP hD hS hl
  rw [vaP_iff] at hP
  rw [vaD_iff] at hD
  exact h H locs ls (vaP_iff.mpr (fun q hq => hP q (hp.mem_iff.mpr hq))) (vaD_iff.mpr ⟨(hp.map Prod.fst).nodup_iff.mp hD.1, fun q hq => hD.2 q (hp.mem_iff.mpr hq)⟩) hS hl
theorem st0 {c v : Nat × va_E} {t u : va_W} : ((c :: t) ++ u).set 0 v = v :: (t ++ u) := rfl
theorem st1 {c v : Nat × va_E} {t : va_W} : (c :: t).set 0 v = v :: t := rfl
section
variable {Z : Cz} {D : va_G} {cy : Nat → ClassId} {own : String} {tab : List (Nat × Instr × Nat)} {nL fr lo mc ms kc ks : Nat} {w : va_W} {pc : Nat} {lv : List (Nat × Value)} {st : List Value}
theorem k_callI0 (C : Cx Z D cy own tab nL fr lo mc ms) (hE : Ew (zS Z)) (i : Nat) {idx : Nat} {y : MethodName} {cc2 : ByteArray} {nL2 fr2 lo2 mc2 ms2 b : Nat} {As : List Value} {X w0 : va_W} {w1 : (Nat → Nat) → va_W} {stk : List Value}
    (hce : Ce Z.2.1 D cy y cc2 nL2 fr2 lo2 mc2 ms2 (.ref b :: As) w0 w1) (hi : tab[i]? = some (pc, .invokespecial idx, 3)) (hlk : Cond.methodLink own idx y ∈ TG) (hmw : MWi y cc2 nL2 As.length)
    (hw : X ++ w0 = w) (hst : As.reverse ++ .ref b :: st = stk) (hsm : (st.map fun v => v.category).sum ≤ 8) (hR : fr2 + 1 ≤ fr ∧ 8 + (nL2 + 11) + lo2 ≤ lo ∧ kc + mc2 ≤ mc ∧ ks + ms2 ≤ ms)
    (h : ∀ ad, Wk Z D nL (kc + mc2) (ks + ms2) (X ++ w1 ad) (pc + 3) lv st) : Wk Z D nL kc ks w pc lv stk :=
  k_callI (X := X) (Y := []) C hE i hce hi hlk hmw (by rw [List.append_nil]; exact hw) hst hsm hR (fun ad => by rw [List.append_nil]; exact h ad)
theorem k_callIN0 (C : Cx Z D cy own tab nL fr lo mc ms) (hE : Ew (zS Z)) (i : Nat) {idx : Nat} {y : MethodName} {host : String} {cc2 : ByteArray} {nL2 fr2 lo2 mc2 ms2 b : Nat} {As : List Value} {X w0 : va_W} {w1 : (Nat → Nat) → va_W} {stk : List Value}
    (hce : Ce Z.2.1 D cy y cc2 nL2 fr2 lo2 mc2 ms2 (.ref b :: As) w0 w1) (hi : tab[i]? = some (pc, .invokespecial idx, 3)) (hlk : va_Nw (.methodLinkNest own idx y host) (zS Z)) (hmw : MWi y cc2 nL2 As.length)
    (hw : X ++ w0 = w) (hst : As.reverse ++ .ref b :: st = stk) (hsm : (st.map fun v => v.category).sum ≤ 8) (hR : fr2 + 1 ≤ fr ∧ 8 + (nL2 + 11) + lo2 ≤ lo ∧ kc + mc2 ≤ mc ∧ ks + ms2 ≤ ms)
    (h : ∀ ad, Wk Z D nL (kc + mc2) (ks + ms2) (X ++ w1 ad) (pc + 3) lv st) : Wk Z D nL kc ks w pc lv stk :=
  k_callIN (X := X) (Y := []) C hE i hce hi hlk hmw (by rw [List.append_nil]; exact hw) hst hsm hR (fun ad => by rw [List.append_nil]; exact h ad)
end
def pj (c : Nat) (ad : Nat → Nat) : Nat → Nat := fun i => ad (12 * i + c)
def jn (fs : Nat → Nat → Nat) : Nat → Nat := fun n => fs (n % 12) (n / 12)
theorem pj_jn (fs : Nat → Nat → Nat) (c : Nat) (hc : c < 12) : pj c (jn fs) = fs c := by
  funext i
  show fs ((12 * i + c) % 12) ((12 * i + c) / 12) = fs c i
  rw [show (12 * i + c) % 12 = c by omega, show (12 * i + c) / 12 = i by omega]
theorem wW_congr {cy : Nat → ClassId} {b b2 : Nat → Nat} {T O E X : Sg} (h : ∀ t, t < 23 → b t = b2 t) : wW cy b T O E X = wW cy b2 T O E X := by
  unfold wW W_g0 W_g1 W_g13 W_g19
  rw [h 0 (by decide), h 1 (by decide), h 2 (by decide), h 3 (by decide), h 4 (by decide), h 5 (by decide), h 6 (by decide), h 7 (by decide), h 8 (by decide), h 9 (by decide), h 10 (by decide), h 11 (by decide), h 12 (by decide), h 13 (by decide), h 14 (by decide), h 15 (by decide), h 16 (by decide), h 17 (by decide), h 18 (by decide), h 19 (by decide), h 20 (by decide), h 21 (by decide), h 22 (by decide)]
def imW (cy : Nat → ClassId) (ia : Nat → Nat) (IT IO IE IX : Nat → Sg) : va_W := (List.range 4).flatMap (fun i => wW cy (fun j => ia (23 * i + j)) (IT i) (IO i) (IE i) (IX i))
def ruW (cy : Nat → ClassId) (ra : Nat → Nat → Nat) (rn : Nat → Nat → Nat) (rc : Nat) (RU : Nat → Sg) : va_W := (List.range rc).flatMap (fun i => wU cy (ra i) (rn i 0) (rn i 1) (rn i 2) (rn i 3) (RU i))
def wX (cy : Nat → ClassId) (fa ha kr rk lr tx da sr a ia : Nat → Nat) (ra rn : Nat → Nat → Nat) (rc : Nat) (F Q T O E X Td Od Ed Xd L K N S H : Sg) (MM IT IO IE IX RU : Nat → Sg) : va_W :=
  wF cy fa ha kr rk lr tx da sr a F Q T O E X Td Od Ed Xd L K N S H ++ ((fa 1, .inl (cy 6, 4, .inr (.inr (.inr (.inr (fun i => if i < 4 then some (ia (23 * i)) else none)))))) :: (imW cy ia IT IO IE IX ++ (hsW cy ha MM ++ ((fa 3, .inl (cy 5, 6, .inr (.inr (.inr (.inr (fun i => if i < rc then some (ra i 0) else none)))))) :: ruW cy ra rn rc RU))))
def imP (cy : Nat → ClassId) (c0 : Nat × va_E) (mm : Nat) (T0 : va_W) (i : Nat) (f : Nat → Nat) (g : Nat → Nat → Nat) : va_W := c0 :: (mm, .inl (cy 6, 4, .inr (.inr (.inr (.inr (fun j => if j < i then some (f j) else none)))))) :: (T0 ++ (List.range i).flatMap (fun j => wW cy (ad0 (f j) (g j)) Tc0 Oc0 z0 z0))
theorem im_end (cy : Nat → ClassId) (c0 : Nat × va_E) (mm : Nat) (T0 : va_W) (f : Nat → Nat) (g : Nat → Nat → Nat) : ∃ ia : Nat → Nat, imP cy c0 mm T0 4 f g = c0 :: (mm, .inl (cy 6, 4, .inr (.inr (.inr (.inr (fun i => if i < 4 then some (ia (23 * i)) else none)))))) :: (T0 ++ imW cy ia (fun _ => Tc0) (fun _ => Oc0) (fun _ => z0) (fun _ => z0)) := by
  refine ⟨fun n => ad0 (f (n / 23)) (g (n / 23)) (n % 23), ?_⟩
  unfold imP imW
  have e1 : (fun j => if j < 4 then some (f j) else none) = (fun i => if i < 4 then some ((fun n => ad0 (f (n / 23)) (g (n / 23)) (n % 23)) (23 * i)) else none) := by
    funext i
    show _ = (if i < 4 then some (ad0 (f ((23 * i) / 23)) (g ((23 * i) / 23)) ((23 * i) % 23)) else none)
    rw [show (23 * i) / 23 = i by omega, show (23 * i) % 23 = 0 by omega]
    rfl
  have e2 : (List.range 4).flatMap (fun j => wW cy (ad0 (f j) (g j)) Tc0 Oc0 z0 z0) = (List.range 4).flatMap (fun i => wW cy (fun j => (fun n => ad0 (f (n / 23)) (g (n / 23)) (n % 23)) (23 * i + j)) Tc0 Oc0 z0 z0) := by
    congr 1
    funext i
    apply wW_congr
    intro t ht
    show _ = ad0 (f ((23 * i + t) / 23)) (g ((23 * i + t) / 23)) ((23 * i + t) % 23)
    rw [show (23 * i + t) / 23 = i by omega, show (23 * i + t) % 23 = t by omega]
  rw [e1, e2]
theorem pm_ff {β : Type} (c0 : List β) (ic q w d im md hc hs rc lc k n s : List β) : (c0 ++ (ic ++ (q ++ (w ++ (d ++ (im ++ (md ++ (hc ++ (hs ++ (rc ++ (lc ++ (k ++ (n ++ (s ++ [])))))))))))))).Perm (c0 ++ (md ++ (hc ++ (k ++ (n ++ (lc ++ (q ++ (d ++ (s ++ (w ++ (ic ++ (im ++ (hs ++ (rc ++ [])))))))))))))) := by
  have h : [0, 1, 2, 3, 4, 5, 6, 7, 8, 9, 10, 11, 12, 13].Perm [0, 6, 7, 11, 12, 10, 2, 4, 13, 3, 1, 5, 8, 9] := by decide
  exact List.Perm.flatMap_right (fun i => match i with | 0 => c0 | 1 => ic | 2 => q | 3 => w | 4 => d | 5 => im | 6 => md | 7 => hc | 8 => hs | 9 => rc | 10 => lc | 11 => k | 12 => n | _ => s) h
theorem hsW_ad0 {cy : Nat → ClassId} {q : Nat} {ad : Nat → Nat} {MM : Nat → Sg} : hsW cy (ad0 q ad) MM = hsW cy ad MM := by
  unfold hsW
  have e1 : (fun i => if i < 20 then some (ad0 q ad (2 + 6 * i)) else none) = (fun i => if i < 20 then some (ad (2 + 6 * i)) else none) := by
    funext i
    unfold ad0
    rw [if_neg (show ¬ 2 + 6 * i = 0 by omega)]
  have e2 : (fun i => wO cy (fun j => ad0 q ad (2 + 6 * i + j)) (MM i)) = (fun i => wO cy (fun j => ad (2 + 6 * i + j)) (MM i)) := by
    funext i
    apply wO_congr
    intro t ht
    unfold ad0
    rw [if_neg (show ¬ 2 + 6 * i + t = 0 by omega)]
  rw [e1, e2]
  rfl
def wX0 (cy : Nat → ClassId) (x : Nat) (ad : Nat → Nat) : va_W := wX cy (ad0 x (pj 0 ad)) (pj 1 ad) (pj 2 ad) (pj 3 ad) (pj 4 ad) (pj 5 ad) (pj 6 ad) (pj 7 ad) (pj 8 ad) (pj 9 ad) (fun _ _ => 0) (fun _ _ => 0) 0 Fz z0 Tc0 Oc0 z0 z0 Tc0 Oc0 z0 z0 z0 z0 z0 z0 z0 (fun _ => z0) (fun _ => Tc0) (fun _ => Oc0) (fun _ => z0) (fun _ => z0) (fun _ => z0)
set_option maxHeartbeats 2000000 in
set_option maxRecDepth 20000 in
theorem e_X11 (l : Launch) (D : va_G) (cy : Nat → ClassId) (x : Nat) : Ce l D cy yX11_init cX11_init 2 4 260 284 4056 [.ref x] [(x, .inr (11, [.null, .null, .null, .null, .null, .null, .null, .int 0, .null, .null, .null, .null]))] (wX0 cy x) := by
  refine Ce_of tX11_init hX11_init (by decide) rfl (Nat.le_of_ble_eq_true rfl) ?_
  intro Z hZ C hE hI hR
  subst hZ
  replace C : Cx Z D cy RX11 tX11_init 2 4 260 284 4056 := C
  show Wk Z D 2 0 0 [(x, .inr (11, [.null, .null, .null, .null, .null, .null, .null, .int 0, .null, .null, .null, .null]))] 0 [(0, .ref x)] []
  refine k_aload_0 C 0 rfl 0 rfl ?_
  refine k_obj C 1 rfl qX11_3 obw (by decide) (by decide) (Nat.le_of_ble_eq_true rfl) ?_
  refine k_aload_0 C 2 rfl 0 rfl ?_
  refine kn8 C 3 rfl qX11_9 ⟨Nat.le_of_ble_eq_true rfl, Nat.le_of_ble_eq_true rfl⟩ (fun qt => ?_)
  refine k_dup C 4 rfl rfl ?_
  refine k_callIN0 (X := ((x, .inr (11, [.null, .null, .null, .null, .null, .null, .null, .int 0, .null, .null, .null, .null])) :: [])) C hE 5 (e_X8 Z.2.1 D cy qt) rfl hE.1 miX8_init rfl rfl (Nat.le_of_ble_eq_true rfl) ⟨Nat.le_of_ble_eq_true rfl, Nat.le_of_ble_eq_true rfl, Nat.le_of_ble_eq_true rfl, Nat.le_of_ble_eq_true rfl⟩ (fun adqt => ?_)
  refine kf11_0 (w2 := ((x, .inr (11, [.ref qt, .null, .null, .null, .null, .null, .null, .int 0, .null, .null, .null, .null])) :: ([] ++ wQ cy (ad0 qt adqt) z0))) C hI 6 rfl qX11_12 0 (a := x) (fs := _) rfl rfl st0 ?_
  refine k_aload_0 C 7 rfl 0 rfl ?_
  refine kn10 C 8 rfl qX11_16 ⟨Nat.le_of_ble_eq_true rfl, Nat.le_of_ble_eq_true rfl⟩ (fun qw => ?_)
  refine k_dup C 9 rfl rfl ?_
  refine k_callI0 (X := ((x, .inr (11, [.ref qt, .null, .null, .null, .null, .null, .null, .int 0, .null, .null, .null, .null])) :: ([] ++ wQ cy (ad0 qt adqt) z0))) C hE 10 (e_X10 Z.2.1 D cy qw) rfl qX11_18 miX10_init rfl rfl (Nat.le_of_ble_eq_true rfl) ⟨Nat.le_of_ble_eq_true rfl, Nat.le_of_ble_eq_true rfl, Nat.le_of_ble_eq_true rfl, Nat.le_of_ble_eq_true rfl⟩ (fun adqw => ?_)
  refine kf11_1 (w2 := ((x, .inr (11, [.ref qt, .ref qw, .null, .null, .null, .null, .null, .int 0, .null, .null, .null, .null])) :: (([] ++ wQ cy (ad0 qt adqt) z0) ++ wW cy (ad0 qw adqw) Tc0 Oc0 z0 z0))) C hI 11 rfl qX11_19 0 (a := x) (fs := _) rfl rfl st0 ?_
  refine k_aload_0 C 12 rfl 0 rfl ?_
  refine kn10 C 13 rfl qX11_16 ⟨Nat.le_of_ble_eq_true rfl, Nat.le_of_ble_eq_true rfl⟩ (fun qd => ?_)
  refine k_dup C 14 rfl rfl ?_
  refine k_callI0 (X := ((x, .inr (11, [.ref qt, .ref qw, .null, .null, .null, .null, .null, .int 0, .null, .null, .null, .null])) :: (([] ++ wQ cy (ad0 qt adqt) z0) ++ wW cy (ad0 qw adqw) Tc0 Oc0 z0 z0))) C hE 15 (e_X10 Z.2.1 D cy qd) rfl qX11_18 miX10_init rfl rfl (Nat.le_of_ble_eq_true rfl) ⟨Nat.le_of_ble_eq_true rfl, Nat.le_of_ble_eq_true rfl, Nat.le_of_ble_eq_true rfl, Nat.le_of_ble_eq_true rfl⟩ (fun adqd => ?_)
  refine kf11_2 (w2 := ((x, .inr (11, [.ref qt, .ref qw, .ref qd, .null, .null, .null, .null, .int 0, .null, .null, .null, .null])) :: ((([] ++ wQ cy (ad0 qt adqt) z0) ++ wW cy (ad0 qw adqw) Tc0 Oc0 z0 z0) ++ wW cy (ad0 qd adqd) Tc0 Oc0 z0 z0))) C hI 16 rfl qX11_23 0 (a := x) (fs := _) rfl rfl st0 ?_
  refine k_aload_0 C 17 rfl 0 rfl ?_
  refine k_iconst C 18 rfl ci_4 ?_
  refine k_newqW C hE.2.2.2.2.2.1 19 4 rfl qX11_16 (by decide) (by decide) (by decide) ⟨Nat.le_of_ble_eq_true rfl, Nat.le_of_ble_eq_true rfl⟩ (fun mm => ?_)
  refine kf11_3 (w2 := ((x, .inr (11, [.ref qt, .ref qw, .ref qd, .ref mm, .null, .null, .null, .int 0, .null, .null, .null, .null])) :: (((([] ++ wQ cy (ad0 qt adqt) z0) ++ wW cy (ad0 qw adqw) Tc0 Oc0 z0 z0) ++ wW cy (ad0 qd adqd) Tc0 Oc0 z0 z0) ++ [(mm, .inl (cy 6, 4, .inr (.inr (.inr (.inr (fun _ => none))))))]))) C hI 20 rfl qX11_26 0 (a := x) (fs := _) rfl rfl st0 ?_
  refine k_iconst C 21 rfl ci_0 ?_
  refine k_istore_1 C 22 rfl (by decide) rfl ?_
  refine k_pm (w2 := imP cy (x, .inr (11, [.ref qt, .ref qw, .ref qd, .ref mm, .null, .null, .null, .int 0, .null, .null, .null, .null])) mm ((([] ++ wQ cy (ad0 qt adqt) z0) ++ wW cy (ad0 qw adqw) Tc0 Oc0 z0 z0) ++ wW cy (ad0 qd adqd) Tc0 Oc0 z0 z0) 0 (fun _ => 0) (fun _ _ => 0)) ?_ ?_
  · exact List.Perm.cons _ (List.perm_append_comm.trans (by simp only [List.range_zero, List.flatMap_nil, List.append_nil, List.singleton_append]; exact List.Perm.refl _))
  have loop : ∀ (n i : Nat) (f : Nat → Nat) (g : Nat → Nat → Nat) (x1 : Int32), i + n = 4 → x1 = nI i → (∀ f g, Wk Z D 2 144 2635 (imP cy (x, .inr (11, [.ref qt, .ref qw, .ref qd, .ref mm, .null, .null, .null, .int 0, .null, .null, .null, .null])) mm ((([] ++ wQ cy (ad0 qt adqt) z0) ++ wW cy (ad0 qw adqw) Tc0 Oc0 z0 z0) ++ wW cy (ad0 qd adqd) Tc0 Oc0 z0 z0) 4 f g) 71 [(0, .ref x)] []) → Wk Z D 2 (52 + 23 * i) (1955 + 170 * i) (imP cy (x, .inr (11, [.ref qt, .ref qw, .ref qd, .ref mm, .null, .null, .null, .int 0, .null, .null, .null, .null])) mm ((([] ++ wQ cy (ad0 qt adqt) z0) ++ wW cy (ad0 qw adqw) Tc0 Oc0 z0 z0) ++ wW cy (ad0 qd adqd) Tc0 Oc0 z0 z0) i f g) 47 [(1, .int x1), (0, .ref x)] [] := by
    intro n
    induction n with
    | zero =>
      intro i f g x1 hi hx hk
      have hi4 : i = 4 := by omega
      subst hi4
      subst hx
      refine k_iload_1 C 23 rfl 0 rfl ?_
      refine k_iconst C 24 rfl ci_4 ?_
      refine k_icmp_ge C 25 rfl 71 (by decide) (fun hc => ?_) (fun hc => absurd (by decide) hc)
      exact k_sub [1] rfl (hk f g)
    | succ n ih =>
      intro i f g x1 hi hx hk
      have hi4 : i < 4 := by omega
      refine k_iload_1 C 23 rfl 0 rfl ?_
      refine k_iconst C 24 rfl ci_4 ?_
      refine k_icmp_ge C 25 rfl 71 (by decide) (fun hc => absurd hc (by rw [hx]; exact nI_ge hi4 (by decide))) (fun hc => ?_)
      refine k_aload_0 C 26 rfl 1 rfl ?_
      refine kg11_3 C 27 rfl qX11_26 0 (fs := [.ref qt, .ref qw, .ref qd, .ref mm, .null, .null, .null, .int 0, .null, .null, .null, .null]) rfl (v := .ref mm) rfl ?_
      refine k_iload_1 C 28 rfl 0 rfl ?_
      refine kn10 C 29 rfl qX11_16 ⟨by omega, by omega⟩ (fun q => ?_)
      refine k_dup C 30 rfl rfl ?_
      refine k_callI (X := imP cy (x, .inr (11, [.ref qt, .ref qw, .ref qd, .ref mm, .null, .null, .null, .int 0, .null, .null, .null, .null])) mm ((([] ++ wQ cy (ad0 qt adqt) z0) ++ wW cy (ad0 qw adqw) Tc0 Oc0 z0 z0) ++ wW cy (ad0 qd adqd) Tc0 Oc0 z0 z0) i f g) (Y := []) C hE 31 (e_X10 Z.2.1 D cy q) rfl qX11_18 miX10_init (by simp) rfl (Nat.le_of_ble_eq_true rfl) ⟨Nat.le_of_ble_eq_true rfl, Nat.le_of_ble_eq_true rfl, by omega, by omega⟩ (fun ad => ?_)
      obtain ⟨qk, hqk⟩ := List.getElem?_of_mem (show (q, (.inr (10, W_g0 (ad0 q ad) Tc0 Oc0 z0 z0) : va_E)) ∈ imP cy (x, .inr (11, [.ref qt, .ref qw, .ref qd, .ref mm, .null, .null, .null, .int 0, .null, .null, .null, .null])) mm ((([] ++ wQ cy (ad0 qt adqt) z0) ++ wW cy (ad0 qw adqw) Tc0 Oc0 z0 z0) ++ wW cy (ad0 qd adqd) Tc0 Oc0 z0 z0) i f g ++ wW cy (ad0 q ad) Tc0 Oc0 z0 z0 ++ [] from List.mem_append_left _ (List.mem_append_right _ List.mem_cons_self))
      refine k_aast (w2 := imP cy (x, .inr (11, [.ref qt, .ref qw, .ref qd, .ref mm, .null, .null, .null, .int 0, .null, .null, .null, .null])) mm ((([] ++ wQ cy (ad0 qt adqt) z0) ++ wW cy (ad0 qw adqw) Tc0 Oc0 z0 z0) ++ wW cy (ad0 qd adqd) Tc0 Oc0 z0 z0) (i + 1) (va_up f i q) (va_up g i ad)) C 32 rfl 1 6 qk 10 (f := fun j => if j < i then some (f j) else none) rfl rfl hqk rfl (by rw [hx]; exact vp_in_nI hi4 (by decide)) (k := i) (by rw [hx]; exact nI_clamp (by omega)) ?_ ?_
      · rw [rf_step]
        have hfm := fm_step (fun _ x y => wW cy (ad0 x y) Tc0 Oc0 z0 z0) f g i q ad
        show (x, .inr (11, [.ref qt, .ref qw, .ref qd, .ref mm, .null, .null, .null, .int 0, .null, .null, .null, .null])) :: (mm, _) :: (((((([] ++ wQ cy (ad0 qt adqt) z0) ++ wW cy (ad0 qw adqw) Tc0 Oc0 z0 z0) ++ wW cy (ad0 qd adqd) Tc0 Oc0 z0 z0) ++ (List.range i).flatMap (fun j => wW cy (ad0 (f j) (g j)) Tc0 Oc0 z0 z0)) ++ wW cy (ad0 q ad) Tc0 Oc0 z0 z0) ++ []) = _
        rw [List.append_nil, List.append_assoc, hfm]
        rfl
      · refine k_iinc C 33 rfl 0 rfl (cn_1 _) (by decide) rfl ?_
        refine k_goto C 34 rfl 47 (by decide) ?_
        have h9 := ih (i + 1) (va_up f i q) (va_up g i ad) (x1 + 1) (by omega) (by rw [hx]; exact nI_1 i) hk
        have e1 : 52 + 23 * i + 1 + 22 = 52 + 23 * (i + 1) := by omega
        have e2 : 1955 + 170 * i + 4 + 166 = 1955 + 170 * (i + 1) := by omega
        rw [e1, e2]
        exact h9
  refine loop 4 0 (fun _ => 0) (fun _ _ => 0) 0 rfl rfl (fun f g => ?_)
  obtain ⟨ia, eia⟩ := im_end cy (x, .inr (11, [.ref qt, .ref qw, .ref qd, .ref mm, .null, .null, .null, .int 0, .null, .null, .null, .null])) mm ((([] ++ wQ cy (ad0 qt adqt) z0) ++ wW cy (ad0 qw adqw) Tc0 Oc0 z0 z0) ++ wW cy (ad0 qd adqd) Tc0 Oc0 z0 z0) f g
  rw [eia]
  refine k_aload_0 C 35 rfl 0 rfl ?_
  refine k_iconst C 36 rfl ci_4 ?_
  refine k_newZ C 37 4 rfl acZ (by decide) (by decide) (by decide) ⟨Nat.le_of_ble_eq_true rfl, Nat.le_of_ble_eq_true rfl⟩ (fun qm => ?_)
  refine kf11_4 (w2 := ((x, .inr (11, [.ref qt, .ref qw, .ref qd, .ref mm, .ref qm, .null, .null, .int 0, .null, .null, .null, .null])) :: (((mm, .inl (cy 6, 4, .inr (.inr (.inr (.inr (fun i => if i < 4 then some (ia (23 * i)) else none)))))) :: (((([] ++ wQ cy (ad0 qt adqt) z0) ++ wW cy (ad0 qw adqw) Tc0 Oc0 z0 z0) ++ wW cy (ad0 qd adqd) Tc0 Oc0 z0 z0) ++ imW cy ia (fun _ => Tc0) (fun _ => Oc0) (fun _ => z0) (fun _ => z0))) ++ [(qm, .inl (cy 3, 4, .inl (fun _ => 0)))]))) C hI 38 rfl qX11_30 0 (a := x) (fs := _) rfl rfl st0 ?_
  refine k_aload_0 C 39 rfl 0 rfl ?_
  refine kn0 C 40 rfl qX11_34 ⟨Nat.le_of_ble_eq_true rfl, Nat.le_of_ble_eq_true rfl⟩ (fun qh => ?_)
  refine k_dup C 41 rfl rfl ?_
  refine k_callI0 (X := ((x, .inr (11, [.ref qt, .ref qw, .ref qd, .ref mm, .ref qm, .null, .null, .int 0, .null, .null, .null, .null])) :: (((mm, .inl (cy 6, 4, .inr (.inr (.inr (.inr (fun i => if i < 4 then some (ia (23 * i)) else none)))))) :: (((([] ++ wQ cy (ad0 qt adqt) z0) ++ wW cy (ad0 qw adqw) Tc0 Oc0 z0 z0) ++ wW cy (ad0 qd adqd) Tc0 Oc0 z0 z0) ++ imW cy ia (fun _ => Tc0) (fun _ => Oc0) (fun _ => z0) (fun _ => z0))) ++ [(qm, .inl (cy 3, 4, .inl (fun _ => 0)))]))) C hE 42 (e_X0 Z.2.1 D cy qh) rfl qX11_36 miX0_init rfl rfl (Nat.le_of_ble_eq_true rfl) ⟨Nat.le_of_ble_eq_true rfl, Nat.le_of_ble_eq_true rfl, Nat.le_of_ble_eq_true rfl, Nat.le_of_ble_eq_true rfl⟩ (fun adqh => ?_)
  refine kf11_5 (w2 := ((x, .inr (11, [.ref qt, .ref qw, .ref qd, .ref mm, .ref qm, .ref qh, .null, .int 0, .null, .null, .null, .null])) :: ((((mm, .inl (cy 6, 4, .inr (.inr (.inr (.inr (fun i => if i < 4 then some (ia (23 * i)) else none)))))) :: (((([] ++ wQ cy (ad0 qt adqt) z0) ++ wW cy (ad0 qw adqw) Tc0 Oc0 z0 z0) ++ wW cy (ad0 qd adqd) Tc0 Oc0 z0 z0) ++ imW cy ia (fun _ => Tc0) (fun _ => Oc0) (fun _ => z0) (fun _ => z0))) ++ [(qm, .inl (cy 3, 4, .inl (fun _ => 0)))]) ++ ((qh, .inr (0, [.ref (adqh 1), .int 0, .int 0])) :: hsW cy adqh (fun _ => z0))))) C hI 43 rfl qX11_37 0 (a := x) (fs := _) rfl rfl st0 ?_
  refine k_aload_0 C 44 rfl 0 rfl ?_
  refine k_bipush C 45 rfl cb_6 ?_
  refine k_newqR C hE.2.2.2.2.2.2.2.1 46 6 rfl qX11_41 (by decide) (by decide) (by decide) ⟨Nat.le_of_ble_eq_true rfl, Nat.le_of_ble_eq_true rfl⟩ (fun qr => ?_)
  refine kf11_6 (w2 := ((x, .inr (11, [.ref qt, .ref qw, .ref qd, .ref mm, .ref qm, .ref qh, .ref qr, .int 0, .null, .null, .null, .null])) :: (((((mm, .inl (cy 6, 4, .inr (.inr (.inr (.inr (fun i => if i < 4 then some (ia (23 * i)) else none)))))) :: (((([] ++ wQ cy (ad0 qt adqt) z0) ++ wW cy (ad0 qw adqw) Tc0 Oc0 z0 z0) ++ wW cy (ad0 qd adqd) Tc0 Oc0 z0 z0) ++ imW cy ia (fun _ => Tc0) (fun _ => Oc0) (fun _ => z0) (fun _ => z0))) ++ [(qm, .inl (cy 3, 4, .inl (fun _ => 0)))]) ++ ((qh, .inr (0, [.ref (adqh 1), .int 0, .int 0])) :: hsW cy adqh (fun _ => z0))) ++ [(qr, .inl (cy 5, 6, .inr (.inr (.inr (.inr (fun _ => none))))))]))) C hI 47 rfl qX11_43 0 (a := x) (fs := _) rfl rfl st0 ?_
  refine k_aload_0 C 48 rfl 0 rfl ?_
  refine k_iconst C 49 rfl ci_0 ?_
  refine kp11_7 (w2 := ((x, .inr (11, [.ref qt, .ref qw, .ref qd, .ref mm, .ref qm, .ref qh, .ref qr, .int 0, .null, .null, .null, .null])) :: (((((mm, .inl (cy 6, 4, .inr (.inr (.inr (.inr (fun i => if i < 4 then some (ia (23 * i)) else none)))))) :: (((([] ++ wQ cy (ad0 qt adqt) z0) ++ wW cy (ad0 qw adqw) Tc0 Oc0 z0 z0) ++ wW cy (ad0 qd adqd) Tc0 Oc0 z0 z0) ++ imW cy ia (fun _ => Tc0) (fun _ => Oc0) (fun _ => z0) (fun _ => z0))) ++ [(qm, .inl (cy 3, 4, .inl (fun _ => 0)))]) ++ ((qh, .inr (0, [.ref (adqh 1), .int 0, .int 0])) :: hsW cy adqh (fun _ => z0))) ++ [(qr, .inl (cy 5, 6, .inr (.inr (.inr (.inr (fun _ => none))))))]))) C 50 rfl qX11_47 0 (a := x) (fs := _) rfl (v := 0) rfl st1 ?_
  refine k_aload_0 C 51 rfl 0 rfl ?_
  refine kn1 C 52 rfl qX11_51 ⟨Nat.le_of_ble_eq_true rfl, Nat.le_of_ble_eq_true rfl⟩ (fun ql => ?_)
  refine k_dup C 53 rfl rfl ?_
  refine k_aload_0 C 54 rfl 0 rfl ?_
  refine kg11_0 C 55 rfl qX11_12 0 (fs := [.ref qt, .ref qw, .ref qd, .ref mm, .ref qm, .ref qh, .ref qr, .int 0, .null, .null, .null, .null]) rfl (v := .ref qt) rfl ?_
  refine k_aload_0 C 56 rfl 0 rfl ?_
  refine kg11_2 C 57 rfl qX11_23 0 (fs := [.ref qt, .ref qw, .ref qd, .ref mm, .ref qm, .ref qh, .ref qr, .int 0, .null, .null, .null, .null]) rfl (v := .ref qd) rfl ?_
  refine k_callI0 (X := ((x, .inr (11, [.ref qt, .ref qw, .ref qd, .ref mm, .ref qm, .ref qh, .ref qr, .int 0, .null, .null, .null, .null])) :: (((((mm, .inl (cy 6, 4, .inr (.inr (.inr (.inr (fun i => if i < 4 then some (ia (23 * i)) else none)))))) :: (((([] ++ wQ cy (ad0 qt adqt) z0) ++ wW cy (ad0 qw adqw) Tc0 Oc0 z0 z0) ++ wW cy (ad0 qd adqd) Tc0 Oc0 z0 z0) ++ imW cy ia (fun _ => Tc0) (fun _ => Oc0) (fun _ => z0) (fun _ => z0))) ++ [(qm, .inl (cy 3, 4, .inl (fun _ => 0)))]) ++ ((qh, .inr (0, [.ref (adqh 1), .int 0, .int 0])) :: hsW cy adqh (fun _ => z0))) ++ [(qr, .inl (cy 5, 6, .inr (.inr (.inr (.inr (fun _ => none))))))]))) C hE 58 (e_X1 Z.2.1 D cy ql qt qd) rfl qX11_53 miX1_init rfl rfl (Nat.le_of_ble_eq_true rfl) ⟨Nat.le_of_ble_eq_true rfl, Nat.le_of_ble_eq_true rfl, Nat.le_of_ble_eq_true rfl, Nat.le_of_ble_eq_true rfl⟩ (fun adql => ?_)
  refine kf11_8 (w2 := ((x, .inr (11, [.ref qt, .ref qw, .ref qd, .ref mm, .ref qm, .ref qh, .ref qr, .int 0, .ref ql, .null, .null, .null])) :: ((((((mm, .inl (cy 6, 4, .inr (.inr (.inr (.inr (fun i => if i < 4 then some (ia (23 * i)) else none)))))) :: (((([] ++ wQ cy (ad0 qt adqt) z0) ++ wW cy (ad0 qw adqw) Tc0 Oc0 z0 z0) ++ wW cy (ad0 qd adqd) Tc0 Oc0 z0 z0) ++ imW cy ia (fun _ => Tc0) (fun _ => Oc0) (fun _ => z0) (fun _ => z0))) ++ [(qm, .inl (cy 3, 4, .inl (fun _ => 0)))]) ++ ((qh, .inr (0, [.ref (adqh 1), .int 0, .int 0])) :: hsW cy adqh (fun _ => z0))) ++ [(qr, .inl (cy 5, 6, .inr (.inr (.inr (.inr (fun _ => none))))))]) ++ [(ql, .inr (1, [.ref qt, .ref qd, .int 0]))]))) C hI 59 rfl qX11_56 0 (a := x) (fs := _) rfl rfl st0 ?_
  refine k_aload_0 C 60 rfl 0 rfl ?_
  refine kn5 C 61 rfl qX11_60 ⟨Nat.le_of_ble_eq_true rfl, Nat.le_of_ble_eq_true rfl⟩ (fun qk => ?_)
  refine k_dup C 62 rfl rfl ?_
  refine k_aload_0 C 63 rfl 0 rfl ?_
  refine kg11_0 C 64 rfl qX11_12 0 (fs := [.ref qt, .ref qw, .ref qd, .ref mm, .ref qm, .ref qh, .ref qr, .int 0, .ref ql, .null, .null, .null]) rfl (v := .ref qt) rfl ?_
  refine k_callI0 (X := ((x, .inr (11, [.ref qt, .ref qw, .ref qd, .ref mm, .ref qm, .ref qh, .ref qr, .int 0, .ref ql, .null, .null, .null])) :: ((((((mm, .inl (cy 6, 4, .inr (.inr (.inr (.inr (fun i => if i < 4 then some (ia (23 * i)) else none)))))) :: (((([] ++ wQ cy (ad0 qt adqt) z0) ++ wW cy (ad0 qw adqw) Tc0 Oc0 z0 z0) ++ wW cy (ad0 qd adqd) Tc0 Oc0 z0 z0) ++ imW cy ia (fun _ => Tc0) (fun _ => Oc0) (fun _ => z0) (fun _ => z0))) ++ [(qm, .inl (cy 3, 4, .inl (fun _ => 0)))]) ++ ((qh, .inr (0, [.ref (adqh 1), .int 0, .int 0])) :: hsW cy adqh (fun _ => z0))) ++ [(qr, .inl (cy 5, 6, .inr (.inr (.inr (.inr (fun _ => none))))))]) ++ [(ql, .inr (1, [.ref qt, .ref qd, .int 0]))]))) C hE 65 (e_X5 Z.2.1 D cy qk qt) rfl qX11_62 miX5_init rfl rfl (Nat.le_of_ble_eq_true rfl) ⟨Nat.le_of_ble_eq_true rfl, Nat.le_of_ble_eq_true rfl, Nat.le_of_ble_eq_true rfl, Nat.le_of_ble_eq_true rfl⟩ (fun adqk => ?_)
  refine kf11_9 (w2 := ((x, .inr (11, [.ref qt, .ref qw, .ref qd, .ref mm, .ref qm, .ref qh, .ref qr, .int 0, .ref ql, .ref qk, .null, .null])) :: (((((((mm, .inl (cy 6, 4, .inr (.inr (.inr (.inr (fun i => if i < 4 then some (ia (23 * i)) else none)))))) :: (((([] ++ wQ cy (ad0 qt adqt) z0) ++ wW cy (ad0 qw adqw) Tc0 Oc0 z0 z0) ++ wW cy (ad0 qd adqd) Tc0 Oc0 z0 z0) ++ imW cy ia (fun _ => Tc0) (fun _ => Oc0) (fun _ => z0) (fun _ => z0))) ++ [(qm, .inl (cy 3, 4, .inl (fun _ => 0)))]) ++ ((qh, .inr (0, [.ref (adqh 1), .int 0, .int 0])) :: hsW cy adqh (fun _ => z0))) ++ [(qr, .inl (cy 5, 6, .inr (.inr (.inr (.inr (fun _ => none))))))]) ++ [(ql, .inr (1, [.ref qt, .ref qd, .int 0]))]) ++ wK1 cy (ad0 qk adqk) (fun _ => qt) z0))) C hI 66 rfl qX11_65 0 (a := x) (fs := _) rfl rfl st0 ?_
  refine k_aload_0 C 67 rfl 0 rfl ?_
  refine kn3 C 68 rfl qX11_69 ⟨Nat.le_of_ble_eq_true rfl, Nat.le_of_ble_eq_true rfl⟩ (fun qn => ?_)
  refine k_dup C 69 rfl rfl ?_
  refine k_aload_0 C 70 rfl 0 rfl ?_
  refine kg11_1 C 71 rfl qX11_19 0 (fs := [.ref qt, .ref qw, .ref qd, .ref mm, .ref qm, .ref qh, .ref qr, .int 0, .ref ql, .ref qk, .null, .null]) rfl (v := .ref qw) rfl ?_
  refine k_callI0 (X := ((x, .inr (11, [.ref qt, .ref qw, .ref qd, .ref mm, .ref qm, .ref qh, .ref qr, .int 0, .ref ql, .ref qk, .null, .null])) :: (((((((mm, .inl (cy 6, 4, .inr (.inr (.inr (.inr (fun i => if i < 4 then some (ia (23 * i)) else none)))))) :: (((([] ++ wQ cy (ad0 qt adqt) z0) ++ wW cy (ad0 qw adqw) Tc0 Oc0 z0 z0) ++ wW cy (ad0 qd adqd) Tc0 Oc0 z0 z0) ++ imW cy ia (fun _ => Tc0) (fun _ => Oc0) (fun _ => z0) (fun _ => z0))) ++ [(qm, .inl (cy 3, 4, .inl (fun _ => 0)))]) ++ ((qh, .inr (0, [.ref (adqh 1), .int 0, .int 0])) :: hsW cy adqh (fun _ => z0))) ++ [(qr, .inl (cy 5, 6, .inr (.inr (.inr (.inr (fun _ => none))))))]) ++ [(ql, .inr (1, [.ref qt, .ref qd, .int 0]))]) ++ wK1 cy (ad0 qk adqk) (fun _ => qt) z0))) C hE 72 (e_X3 Z.2.1 D cy qn qw) rfl qX11_71 miX3_init rfl rfl (Nat.le_of_ble_eq_true rfl) ⟨Nat.le_of_ble_eq_true rfl, Nat.le_of_ble_eq_true rfl, Nat.le_of_ble_eq_true rfl, Nat.le_of_ble_eq_true rfl⟩ (fun adqn => ?_)
  refine kf11_10 (w2 := ((x, .inr (11, [.ref qt, .ref qw, .ref qd, .ref mm, .ref qm, .ref qh, .ref qr, .int 0, .ref ql, .ref qk, .ref qn, .null])) :: ((((((((mm, .inl (cy 6, 4, .inr (.inr (.inr (.inr (fun i => if i < 4 then some (ia (23 * i)) else none)))))) :: (((([] ++ wQ cy (ad0 qt adqt) z0) ++ wW cy (ad0 qw adqw) Tc0 Oc0 z0 z0) ++ wW cy (ad0 qd adqd) Tc0 Oc0 z0 z0) ++ imW cy ia (fun _ => Tc0) (fun _ => Oc0) (fun _ => z0) (fun _ => z0))) ++ [(qm, .inl (cy 3, 4, .inl (fun _ => 0)))]) ++ ((qh, .inr (0, [.ref (adqh 1), .int 0, .int 0])) :: hsW cy adqh (fun _ => z0))) ++ [(qr, .inl (cy 5, 6, .inr (.inr (.inr (.inr (fun _ => none))))))]) ++ [(ql, .inr (1, [.ref qt, .ref qd, .int 0]))]) ++ wK1 cy (ad0 qk adqk) (fun _ => qt) z0) ++ wN1 cy (ad0 qn adqn) (fun _ => qw) z0))) C hI 73 rfl qX11_74 0 (a := x) (fs := _) rfl rfl st0 ?_
  refine k_aload_0 C 74 rfl 0 rfl ?_
  refine kn6 C 75 rfl qX11_78 ⟨Nat.le_of_ble_eq_true rfl, Nat.le_of_ble_eq_true rfl⟩ (fun qs => ?_)
  refine k_dup C 76 rfl rfl ?_
  refine k_aload_0 C 77 rfl 0 rfl ?_
  refine kg11_1 C 78 rfl qX11_19 0 (fs := [.ref qt, .ref qw, .ref qd, .ref mm, .ref qm, .ref qh, .ref qr, .int 0, .ref ql, .ref qk, .ref qn, .null]) rfl (v := .ref qw) rfl ?_
  refine k_callI0 (X := ((x, .inr (11, [.ref qt, .ref qw, .ref qd, .ref mm, .ref qm, .ref qh, .ref qr, .int 0, .ref ql, .ref qk, .ref qn, .null])) :: ((((((((mm, .inl (cy 6, 4, .inr (.inr (.inr (.inr (fun i => if i < 4 then some (ia (23 * i)) else none)))))) :: (((([] ++ wQ cy (ad0 qt adqt) z0) ++ wW cy (ad0 qw adqw) Tc0 Oc0 z0 z0) ++ wW cy (ad0 qd adqd) Tc0 Oc0 z0 z0) ++ imW cy ia (fun _ => Tc0) (fun _ => Oc0) (fun _ => z0) (fun _ => z0))) ++ [(qm, .inl (cy 3, 4, .inl (fun _ => 0)))]) ++ ((qh, .inr (0, [.ref (adqh 1), .int 0, .int 0])) :: hsW cy adqh (fun _ => z0))) ++ [(qr, .inl (cy 5, 6, .inr (.inr (.inr (.inr (fun _ => none))))))]) ++ [(ql, .inr (1, [.ref qt, .ref qd, .int 0]))]) ++ wK1 cy (ad0 qk adqk) (fun _ => qt) z0) ++ wN1 cy (ad0 qn adqn) (fun _ => qw) z0))) C hE 79 (e_X6 Z.2.1 D cy qs qw) rfl qX11_80 miX6_init rfl rfl (Nat.le_of_ble_eq_true rfl) ⟨Nat.le_of_ble_eq_true rfl, Nat.le_of_ble_eq_true rfl, Nat.le_of_ble_eq_true rfl, Nat.le_of_ble_eq_true rfl⟩ (fun adqs => ?_)
  refine kf11_11 (w2 := ((x, .inr (11, [.ref qt, .ref qw, .ref qd, .ref mm, .ref qm, .ref qh, .ref qr, .int 0, .ref ql, .ref qk, .ref qn, .ref qs])) :: (((((((((mm, .inl (cy 6, 4, .inr (.inr (.inr (.inr (fun i => if i < 4 then some (ia (23 * i)) else none)))))) :: (((([] ++ wQ cy (ad0 qt adqt) z0) ++ wW cy (ad0 qw adqw) Tc0 Oc0 z0 z0) ++ wW cy (ad0 qd adqd) Tc0 Oc0 z0 z0) ++ imW cy ia (fun _ => Tc0) (fun _ => Oc0) (fun _ => z0) (fun _ => z0))) ++ [(qm, .inl (cy 3, 4, .inl (fun _ => 0)))]) ++ ((qh, .inr (0, [.ref (adqh 1), .int 0, .int 0])) :: hsW cy adqh (fun _ => z0))) ++ [(qr, .inl (cy 5, 6, .inr (.inr (.inr (.inr (fun _ => none))))))]) ++ [(ql, .inr (1, [.ref qt, .ref qd, .int 0]))]) ++ wK1 cy (ad0 qk adqk) (fun _ => qt) z0) ++ wN1 cy (ad0 qn adqn) (fun _ => qw) z0) ++ wS1 cy (ad0 qs adqs) (fun _ => qw) z0))) C hI 80 rfl qX11_81 0 (a := x) (fs := _) rfl rfl st0 ?_
  refine k_pm (w2 := wX0 cy x (jn (fun c => match c with | 0 => adl [0, mm, qm, qr] | 1 => ad0 qh adqh | 2 => ad0 qk adqk | 3 => ad0 qn adqn | 4 => adl [ql] | 5 => ad0 qt adqt | 6 => ad0 qd adqd | 7 => ad0 qs adqs | 8 => ad0 qw adqw | _ => ia))) ?_ (hR 81 167 _ (jn (fun c => match c with | 0 => adl [0, mm, qm, qr] | 1 => ad0 qh adqh | 2 => ad0 qk adqk | 3 => ad0 qn adqn | 4 => adl [ql] | 5 => ad0 qt adqt | 6 => ad0 qd adqd | 7 => ad0 qs adqs | 8 => ad0 qw adqw | _ => ia)) rfl)
  have h1 := pm_ff [(x, .inr (11, [.ref qt, .ref qw, .ref qd, .ref mm, .ref qm, .ref qh, .ref qr, .int 0, .ref ql, .ref qk, .ref qn, .ref qs]))] [(mm, .inl (cy 6, 4, .inr (.inr (.inr (.inr (fun i => if i < 4 then some (ia (23 * i)) else none))))))] (wQ cy (ad0 qt adqt) z0) (wW cy (ad0 qw adqw) Tc0 Oc0 z0 z0) (wW cy (ad0 qd adqd) Tc0 Oc0 z0 z0) (imW cy ia (fun _ => Tc0) (fun _ => Oc0) (fun _ => z0) (fun _ => z0)) [(qm, .inl (cy 3, 4, .inl (fun _ => 0)))] [(qh, .inr (0, [.ref (adqh 1), .int 0, .int 0]))] (hsW cy adqh (fun _ => z0)) [(qr, .inl (cy 5, 6, .inr (.inr (.inr (.inr (fun _ => none))))))] [(ql, .inr (1, [.ref qt, .ref qd, .int 0]))] (wK1 cy (ad0 qk adqk) (fun _ => qt) z0) (wN1 cy (ad0 qn adqn) (fun _ => qw) z0) (wS1 cy (ad0 qs adqs) (fun _ => qw) z0)
  have e0 : ((x, .inr (11, [.ref qt, .ref qw, .ref qd, .ref mm, .ref qm, .ref qh, .ref qr, .int 0, .ref ql, .ref qk, .ref qn, .ref qs])) :: (((((((((mm, .inl (cy 6, 4, .inr (.inr (.inr (.inr (fun i => if i < 4 then some (ia (23 * i)) else none)))))) :: (((([] ++ wQ cy (ad0 qt adqt) z0) ++ wW cy (ad0 qw adqw) Tc0 Oc0 z0 z0) ++ wW cy (ad0 qd adqd) Tc0 Oc0 z0 z0) ++ imW cy ia (fun _ => Tc0) (fun _ => Oc0) (fun _ => z0) (fun _ => z0))) ++ [(qm, .inl (cy 3, 4, .inl (fun _ => 0)))]) ++ ((qh, .inr (0, [.ref (adqh 1), .int 0, .int 0])) :: hsW cy adqh (fun _ => z0))) ++ [(qr, .inl (cy 5, 6, .inr (.inr (.inr (.inr (fun _ => none))))))]) ++ [(ql, .inr (1, [.ref qt, .ref qd, .int 0]))]) ++ wK1 cy (ad0 qk adqk) (fun _ => qt) z0) ++ wN1 cy (ad0 qn adqn) (fun _ => qw) z0) ++ wS1 cy (ad0 qs adqs) (fun _ => qw) z0)) = [(x, .inr (11, [.ref qt, .ref qw, .ref qd, .ref mm, .ref qm, .ref qh, .ref qr, .int 0, .ref ql, .ref qk, .ref qn, .ref qs]))] ++ ([(mm, .inl (cy 6, 4, .inr (.inr (.inr (.inr (fun i => if i < 4 then some (ia (23 * i)) else none))))))] ++ ((wQ cy (ad0 qt adqt) z0) ++ ((wW cy (ad0 qw adqw) Tc0 Oc0 z0 z0) ++ ((wW cy (ad0 qd adqd) Tc0 Oc0 z0 z0) ++ ((imW cy ia (fun _ => Tc0) (fun _ => Oc0) (fun _ => z0) (fun _ => z0)) ++ ([(qm, .inl (cy 3, 4, .inl (fun _ => 0)))] ++ ([(qh, .inr (0, [.ref (adqh 1), .int 0, .int 0]))] ++ ((hsW cy adqh (fun _ => z0)) ++ ([(qr, .inl (cy 5, 6, .inr (.inr (.inr (.inr (fun _ => none))))))] ++ ([(ql, .inr (1, [.ref qt, .ref qd, .int 0]))] ++ ((wK1 cy (ad0 qk adqk) (fun _ => qt) z0) ++ ((wN1 cy (ad0 qn adqn) (fun _ => qw) z0) ++ ((wS1 cy (ad0 qs adqs) (fun _ => qw) z0) ++ []))))))))))))) := by simp only [List.append_assoc, List.cons_append, List.nil_append, List.append_nil]
  have e1 : wF cy (ad0 x (adl [0, mm, qm, qr])) (ad0 qh adqh) (ad0 qk adqk) (ad0 qn adqn) (adl [ql]) (ad0 qt adqt) (ad0 qd adqd) (ad0 qs adqs) (ad0 qw adqw) Fz z0 Tc0 Oc0 z0 z0 Tc0 Oc0 z0 z0 z0 z0 z0 z0 z0 = [(x, .inr (11, [.ref qt, .ref qw, .ref qd, .ref mm, .ref qm, .ref qh, .ref qr, .int 0, .ref ql, .ref qk, .ref qn, .ref qs]))] ++ ([(qm, .inl (cy 3, 4, .inl (fun _ => 0)))] ++ ([(qh, .inr (0, [.ref (adqh 1), .int 0, .int 0]))] ++ ((wK1 cy (ad0 qk adqk) (fun _ => qt) z0) ++ ((wN1 cy (ad0 qn adqn) (fun _ => qw) z0) ++ ([(ql, .inr (1, [.ref qt, .ref qd, .int 0]))] ++ ((wQ cy (ad0 qt adqt) z0) ++ ((wW cy (ad0 qd adqd) Tc0 Oc0 z0 z0) ++ ((wS1 cy (ad0 qs adqs) (fun _ => qw) z0) ++ (wW cy (ad0 qw adqw) Tc0 Oc0 z0 z0))))))))) := rfl
  have e2 : wX0 cy x (jn (fun c => match c with | 0 => adl [0, mm, qm, qr] | 1 => ad0 qh adqh | 2 => ad0 qk adqk | 3 => ad0 qn adqn | 4 => adl [ql] | 5 => ad0 qt adqt | 6 => ad0 qd adqd | 7 => ad0 qs adqs | 8 => ad0 qw adqw | _ => ia)) = wX cy (ad0 x (adl [0, mm, qm, qr])) (ad0 qh adqh) (ad0 qk adqk) (ad0 qn adqn) (adl [ql]) (ad0 qt adqt) (ad0 qd adqd) (ad0 qs adqs) (ad0 qw adqw) ia (fun _ _ => 0) (fun _ _ => 0) 0 Fz z0 Tc0 Oc0 z0 z0 Tc0 Oc0 z0 z0 z0 z0 z0 z0 z0 (fun _ => z0) (fun _ => Tc0) (fun _ => Oc0) (fun _ => z0) (fun _ => z0) (fun _ => z0) := by
    unfold wX0
    rw [pj_jn _ 0 (by decide), pj_jn _ 1 (by decide), pj_jn _ 2 (by decide), pj_jn _ 3 (by decide), pj_jn _ 4 (by decide), pj_jn _ 5 (by decide), pj_jn _ 6 (by decide), pj_jn _ 7 (by decide), pj_jn _ 8 (by decide), pj_jn _ 9 (by decide)]
    rfl
  rw [e2]
  unfold wX
  rw [e1, hsW_ad0]
  have e3 : (fun i => if i < 0 then some ((fun _ _ => 0 : Nat → Nat → Nat) i 0) else none) = (fun _ : Nat => (none : Option Nat)) := by funext i; rw [if_neg (by omega)]
  rw [e3]
  refine (e0 ▸ h1).trans ?_
  simp only [List.append_assoc, List.cons_append, List.nil_append, List.append_nil]
  exact List.Perm.refl _
