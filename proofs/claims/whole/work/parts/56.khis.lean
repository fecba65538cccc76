theorem qX0_3 : Cond.methodLink RX0 3 ⟨"java/lang/Object", "<init>", "()V"⟩ ∈ TG := tg2 58 (by decide +kernel) (by decide +kernel)
theorem qX0_9 : Cond.classLink RX0 9 "FrontFour$Moment" ∈ TG := tg2 59 (by decide +kernel) (by decide +kernel)
/-! families of blocks; the History's constructor -/
theorem wO_congr {cy : Nat → ClassId} {b b2 : Nat → Nat} {O : Sg} (h : ∀ t, t < 6 → b t = b2 t) : wO cy b O = wO cy b2 O := by
  unfold wO O_g0
  rw [h 0 (by decide), h 1 (by decide), h 2 (by decide), h 3 (by decide), h 4 (by decide), h 5 (by decide)]
def hsW (cy : Nat → ClassId) (ha : Nat → Nat) (MM : Nat → Sg) : va_W := (ha 1, .inl (cy 4, 20, .inr (.inr (.inr (.inr (fun i => if i < 20 then some (ha (2 + 6 * i)) else none)))))) :: (List.range 20).flatMap (fun i => wO cy (fun j => ha (2 + 6 * i + j)) (MM i))
def hsP (cy : Nat → ClassId) (a mm i : Nat) (f : Nat → Nat) (g : Nat → Nat → Nat) : va_W := (a, .inr (0, [.ref mm, .int 0, .int 0])) :: (mm, .inl (cy 4, 20, .inr (.inr (.inr (.inr (fun j => if j < i then some (f j) else none)))))) :: (List.range i).flatMap (fun j => wO cy (ad0 (f j) (g j)) z0)
theorem rf_step (f : Nat → Nat) (i q : Nat) : va_up (fun j => if j < i then some (f j) else none) i (some q) = (fun j => if j < i + 1 then some (va_up f i q j) else none) := by
  funext j
  unfold va_up
  by_cases h : j = i
  · subst h
    rw [if_pos rfl, if_pos (by omega), if_pos rfl]
  · rw [if_neg h]
    dsimp only
    by_cases h2 : j < i
    · rw [if_pos h2, if_pos (by omega), if_neg h]
    · rw [if_neg h2, if_neg (by omega)]
theorem fm_step {β : Type} (B : Nat → Nat → (Nat → Nat) → List β) (f : Nat → Nat) (g : Nat → Nat → Nat) (i q : Nat) (ad : Nat → Nat) : (List.range i).flatMap (fun j => B j (f j) (g j)) ++ B i q ad = (List.range (i + 1)).flatMap (fun j => B j (va_up f i q j) (va_up g i ad j)) := by
  rw [List.range_succ, List.flatMap_append, List.flatMap_singleton]
  have h1 : va_up f i q i = q := by unfold va_up; rw [if_pos rfl]
  have h2 : va_up g i ad i = ad := by unfold va_up; rw [if_pos rfl]
  rw [h1, h2]
  congr 1
  rw [List.flatMap_def, List.flatMap_def]
  congr 1
  apply List.map_congr_left
  intro j hj
  have hji : ¬ j = i := by have := List.mem_range.mp hj; omega
  unfold va_up
  rw [if_neg hji, if_neg hji]
theorem hs_end (cy : Nat → ClassId) (a mm : Nat) (f : Nat → Nat) (g : Nat → Nat → Nat) : ∃ ha : Nat → Nat, hsP cy a mm 20 f g = (a, .inr (0, [.ref (ha 1), .int 0, .int 0])) :: hsW cy ha (fun _ => z0) := by
  refine ⟨fun n => if n = 1 then mm else ad0 (f ((n - 2) / 6)) (g ((n - 2) / 6)) ((n - 2) % 6), ?_⟩
  unfold hsP hsW
  have e1 : (fun j => if j < 20 then some (f j) else none) = (fun i => if i < 20 then some ((fun n => if n = 1 then mm else ad0 (f ((n - 2) / 6)) (g ((n - 2) / 6)) ((n - 2) % 6)) (2 + 6 * i)) else none) := by
    funext i
    have h1 : ¬ 2 + 6 * i = 1 := by omega
    have h2 : (2 + 6 * i - 2) / 6 = i := by omega
    have h3 : (2 + 6 * i - 2) % 6 = 0 := by omega
    show _ = (if i < 20 then some (if 2 + 6 * i = 1 then mm else ad0 (f ((2 + 6 * i - 2) / 6)) (g ((2 + 6 * i - 2) / 6)) ((2 + 6 * i - 2) % 6)) else none)
    rw [if_neg h1, h2, h3]
    rfl
  have e2 : (List.range 20).flatMap (fun j => wO cy (ad0 (f j) (g j)) z0) = (List.range 20).flatMap (fun i => wO cy (fun j => (fun n => if n = 1 then mm else ad0 (f ((n - 2) / 6)) (g ((n - 2) / 6)) ((n - 2) % 6)) (2 + 6 * i + j)) z0) := by
    congr 1
    funext i
    apply wO_congr
    intro t ht
    have h1 : ¬ 2 + 6 * i + t = 1 := by omega
    have h2 : (2 + 6 * i + t - 2) / 6 = i := by omega
    have h3 : (2 + 6 * i + t - 2) % 6 = t := by omega
    show _ = (if 2 + 6 * i + t = 1 then mm else ad0 (f ((2 + 6 * i + t - 2) / 6)) (g ((2 + 6 * i + t - 2) / 6)) ((2 + 6 * i + t - 2) % 6))
    rw [if_neg h1, h2, h3]
  rw [e1, e2]
  rfl
set_option maxHeartbeats 1000000 in
theorem e_X0 (l : Launch) (D : va_G) (cy : Nat → ClassId) (a : Nat) : Ce l D cy yX0_init cX0_init 2 2 60 121 760 [.ref a] [(a, .inr (0, [.null, .int 0, .int 0]))] (fun ad => (a, .inr (0, [.ref (ad 1), .int 0, .int 0])) :: hsW cy ad (fun _ => z0)) := by
  refine Ce_of tX0_init hX0_init (by decide) rfl (Nat.le_of_ble_eq_true rfl) ?_
  intro Z hZ C hE hI hR
  subst hZ
  replace C : Cx Z D cy RX0 tX0_init 2 2 60 121 760 := C
  show Wk Z D 2 0 0 [(a, .inr (0, [.null, .int 0, .int 0]))] 0 [(0, .ref a)] []
  refine k_aload_0 C 0 rfl 0 rfl ?_
  refine k_obj C 1 rfl qX0_3 obw (by decide) (by decide) (Nat.le_of_ble_eq_true rfl) ?_
  refine k_aload_0 C 2 rfl 0 rfl ?_
  refine k_bipush C 3 rfl cb_20 ?_
  refine k_newqM C hE.2.2.2.2.2.2.1 4 20 rfl qX0_9 (by decide) (by decide) (by decide) ⟨by decide, by decide⟩ (fun mm => ?_)
  refine kf0_0 (w2 := [(a, .inr (0, [.ref mm, .int 0, .int 0])), (mm, .inl (cy 4, 20, .inr (.inr (.inr (.inr (fun _ => none))))))]) C hI 5 rfl qX0_11 0 (a := a) (fs := _) rfl rfl rfl ?_
  refine k_iconst C 6 rfl ci_0 ?_
  refine k_istore_1 C 7 rfl (by decide) rfl ?_
  have loop : ∀ (n i : Nat) (f : Nat → Nat) (g : Nat → Nat → Nat) (x1 : Int32), i + n = 20 → x1 = nI i → Wk Z D 2 (1 + 6 * i) (20 + 37 * i) (hsP cy a mm i f g) 15 [(1, .int x1), (0, .ref a)] [] := by
    intro n
    induction n with
    | zero =>
      intro i f g x1 hi hx
      have hi20 : i = 20 := by omega
      subst hi20
      subst hx
      refine k_iload_1 C 8 rfl 0 rfl ?_
      refine k_bipush C 9 rfl cb_20 ?_
      refine k_icmp_ge C 10 rfl 40 (by decide) (fun hc => ?_) (fun hc => absurd (by decide) hc)
      obtain ⟨ha, e⟩ := hs_end cy a mm f g
      rw [e]
      exact hR 20 40 _ ha rfl
    | succ n ih =>
      intro i f g x1 hi hx
      have hi20 : i < 20 := by omega
      refine k_iload_1 C 8 rfl 0 rfl ?_
      refine k_bipush C 9 rfl cb_20 ?_
      refine k_icmp_ge C 10 rfl 40 (by decide) (fun hc => absurd hc (by rw [hx]; exact nI_ge hi20 (by decide))) (fun hc => ?_)
      refine k_aload_0 C 11 rfl 1 rfl ?_
      refine kg0_0 C 12 rfl qX0_11 0 (fs := [.ref mm, .int 0, .int 0]) rfl (v := .ref mm) rfl ?_
      refine k_iload_1 C 13 rfl 0 rfl ?_
      refine kn2 C 14 rfl qX0_9 ⟨by omega, by omega⟩ (fun q => ?_)
      refine k_dup C 15 rfl rfl ?_
      refine k_callIN (X := hsP cy a mm i f g) (Y := []) C hE 16 (e_X2 Z.2.1 D cy q) rfl hE.2.2.2.2.1 miX2_init (by simp) rfl (Nat.le_of_ble_eq_true rfl) ⟨Nat.le_of_ble_eq_true rfl, Nat.le_of_ble_eq_true rfl, by omega, by omega⟩ (fun ad => ?_)
      obtain ⟨qk, hqk⟩ := List.getElem?_of_mem (show (q, (.inr (2, O_g0 (ad0 q ad) z0) : va_E)) ∈ hsP cy a mm i f g ++ wO cy (ad0 q ad) z0 ++ [] from List.mem_append_left _ (List.mem_append_right _ List.mem_cons_self))
      refine k_aast (w2 := hsP cy a mm (i + 1) (va_up f i q) (va_up g i ad)) C 17 rfl 1 4 qk 2 (f := fun j => if j < i then some (f j) else none) rfl rfl hqk rfl (by rw [hx]; exact vp_in_nI hi20 (by decide)) (k := i) (by rw [hx]; exact nI_clamp (by omega)) ?_ ?_
      · rw [rf_step]
        have hfm := fm_step (fun _ x y => wO cy (ad0 x y) z0) f g i q ad
        show (a, _) :: (mm, _) :: (((List.range i).flatMap (fun j => wO cy (ad0 (f j) (g j)) z0) ++ wO cy (ad0 q ad) z0) ++ []) = _
        rw [List.append_nil, hfm]
        rfl
      · refine k_iinc C 18 rfl 0 rfl (cn_1 _) (by decide) rfl ?_
        refine k_goto C 19 rfl 15 (by decide) ?_
        have h9 := ih (i + 1) (va_up f i q) (va_up g i ad) (x1 + 1) (by omega) (by rw [hx]; exact nI_1 i)
        have e1 : 1 + 6 * i + 1 + 5 = 1 + 6 * (i + 1) := by omega
        have e2 : 20 + 37 * i + 7 + 30 = 20 + 37 * (i + 1) := by omega
        rw [e1, e2]
        exact h9
  exact loop 20 0 (fun _ => 0) (fun _ _ => 0) 0 rfl rfl
