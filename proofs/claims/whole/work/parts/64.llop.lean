theorem qL_7 : Cond.classLink RL 7 "FrontFour" ∈ TG := tg1 22 (by decide +kernel) (by decide +kernel)
theorem qL_9 : Cond.methodLink RL 9 yX11_init ∈ TG := tg1 24 (by decide +kernel) (by decide +kernel)
theorem qL_10 : Cond.classLink RL 10 "FrontFourModel" ∈ TG := tg5 207 (by decide +kernel) (by decide +kernel)
theorem qL_12 : Cond.methodLink RL 12 yX12_init ∈ TG := tg5 209 (by decide +kernel) (by decide +kernel)
/-! the law's loop and its start -/
theorem law_le {L i : Nat} (hL : L ≤ 3072) (hi : i ≤ L) (h : ¬ nI L - 6 < nI i) : i + 6 ≤ L := by
  have h1 : (nI L - 6).toInt = (L : Int) - 6 := by
    rw [Int32.toInt_sub, nI_toInt (by omega)]
    have h6 : (6 : Int32).toInt = 6 := by decide
    rw [h6]
    exact Int.bmod_eq_of_le (by omega) (by omega)
  have h2 : (nI i).toInt = (i : Int) := nI_toInt (by omega)
  rw [Int32.lt_iff_toInt_lt, h1, h2] at h
  omega
section
variable {Z : Cz} {D : va_G} {cy : Nat → ClassId} {b L : Nat} {xs : Nat → Int32} {R : XS → Sg → Prop}
set_option maxRecDepth 8000 in
theorem la_loop (HS : Sim R) (hC : Cl Z D cy) (hE : Ew (zS Z)) (S : Sx Z b L xs) (hL : L ≤ 3072) (AD : Nat → Nat → Nat) (hret : ∀ (kc ks : Nat) (w : va_W) (lv : List (Nat × Value)), kc ≤ 600000 → ks ≤ 7302250 → Wk Z D 4 kc ks w 1058 lv [.int 1]) : ∀ (n i kc ks : Nat) (ra : Nat → Nat → Nat) (s : XS) (M : Sg), i ≤ L → L < i + 6 * n → kc + 5 * n ≤ 600000 → ks + 1604 * n ≤ 7302250 → R s M → Wk Z D 4 kc ks (wLw cy AD ra s M) 18 [(0, .ref b), (1, .ref (AD 0 0)), (2, .ref (AD 10 0)), (3, .int (nI i))] [] := by
  have C := hC tLh htLh
  intro n
  induction n with
  | zero => intro i kc ks ra s M h1 h2; omega
  | succ n ih =>
    intro i kc ks ra s M hi0 hn hkc hks hr
    refine k_iload_3 C 10 rfl 3 rfl ?_
    refine k_aload_0 C 11 rfl 0 rfl ?_
    refine k_slen C S 12 rfl ?_
    refine k_bipush C 13 rfl cb_6 ?_
    refine k_isub C 14 rfl ?_
    refine k_icmp_gt C 15 rfl 1057 (by decide) (fun _ => ?_) (fun hc => ?_)
    · refine k_iconst C 24 rfl ci_1 ?_
      exact hret _ _ _ _ (by omega) (by omega)
    · have hi := law_le hL hi0 hc
      have hk2 : ∀ ra s M, R s M → Wk Z D 4 (kc + 5) (ks + 1604) (wLw cy AD ra s M) 1051 [(0, .ref b), (1, .ref (AD 0 0)), (2, .ref (AD 10 0)), (3, .int (nI i))] [] := by
        intro ra s M hr
        refine k_iinc C 22 rfl 3 rfl (nI_add i 6) (by decide) rfl ?_
        refine k_goto C 23 rfl 18 (by decide) ?_
        refine k_sub (lv2 := [(0, .ref b), (1, .ref (AD 0 0)), (2, .ref (AD 10 0)), (3, .int (nI (i + 6)))]) [1, 2, 3, 0] rfl ?_
        exact ih (i + 6) _ _ ra s M hi (by omega) (by omega) (by omega) hr
      have hk : kc + 5 ≤ 600000 ∧ ks + 1604 ≤ 7302250 := ⟨by omega, by omega⟩
      obtain ⟨s_feed, s_end, s_line, s_rule, s_coach, s_way, s_stop, s_rider, s_inside, s_outside, s_pass, s_shut, s_undo, s_run, s_soonest, s_row, s_latest, s_lost, s_voice, s_voices, s_put, s_family, s_meet, s_seen, s_gotIn, s_sit, s_seed, s_journeys, s_count, s_image, s_back⟩ := HS
      refine k_aload_0 C 16 rfl 0 rfl ?_
      refine k_iload_3 C 17 rfl 3 rfl ?_
      refine k_sld C S hL 18 rfl rfl (by omega) ?_
      refine k_bipush C 19 rfl cb_31 ?_
      refine k_iand C 20 rfl ?_
      obtain ⟨z, hz⟩ : ∃ z, xs i &&& 31 = z := ⟨_, rfl⟩
      refine k_topi hz ?_
      clear hz
      by_cases hs0 : z = 0
      · subst hs0
        refine k_tabIn C 21 rfl 172 (by decide) (by decide) rfl (by decide) ?_
        exact la_feed s_feed hC S hL hi hr hk hk2
      by_cases hs1 : z = 1
      · subst hs1
        refine k_tabIn C 21 rfl 235 (by decide) (by decide) rfl (by decide) ?_
        exact la_end s_end hC S hL hi hr hk hk2
      by_cases hs2 : z = 2
      · subst hs2
        refine k_tabIn C 21 rfl 258 (by decide) (by decide) rfl (by decide) ?_
        exact la_line s_line hC S hL hi hr hk hk2
      by_cases hs3 : z = 3
      · subst hs3
        refine k_tabIn C 21 rfl 271 (by decide) (by decide) rfl (by decide) ?_
        exact la_rule s_rule hC hE S hL hi hr hk hk2
      by_cases hs4 : z = 4
      · subst hs4
        refine k_tabIn C 21 rfl 284 (by decide) (by decide) rfl (by decide) ?_
        exact la_coach s_coach hC S hL hi hr hk hk2
      by_cases hs5 : z = 5
      · subst hs5
        refine k_tabIn C 21 rfl 317 (by decide) (by decide) rfl (by decide) ?_
        exact la_way s_way hC S hL hi hr hk hk2
      by_cases hs6 : z = 6
      · subst hs6
        refine k_tabIn C 21 rfl 350 (by decide) (by decide) rfl (by decide) ?_
        exact la_stop s_stop hC S hL hi hr hk hk2
      by_cases hs7 : z = 7
      · subst hs7
        refine k_tabIn C 21 rfl 383 (by decide) (by decide) rfl (by decide) ?_
        exact la_rider s_rider hC S hL hi hr hk hk2
      by_cases hs8 : z = 8
      · subst hs8
        refine k_tabIn C 21 rfl 416 (by decide) (by decide) rfl (by decide) ?_
        exact la_inside s_inside hC S hL hi hr hk hk2
      by_cases hs9 : z = 9
      · subst hs9
        refine k_tabIn C 21 rfl 449 (by decide) (by decide) rfl (by decide) ?_
        exact la_outside s_outside hC S hL hi hr hk hk2
      by_cases hs10 : z = 10
      · subst hs10
        refine k_tabIn C 21 rfl 482 (by decide) (by decide) rfl (by decide) ?_
        exact la_pass s_pass hC S hL hi hr hk hk2
      by_cases hs11 : z = 11
      · subst hs11
        refine k_tabIn C 21 rfl 505 (by decide) (by decide) rfl (by decide) ?_
        exact la_shut s_shut hC S hL hi hr hk hk2
      by_cases hs12 : z = 12
      · subst hs12
        refine k_tabIn C 21 rfl 554 (by decide) (by decide) rfl (by decide) ?_
        exact la_undo s_undo hC S hL hi hr hk hk2
      by_cases hs13 : z = 13
      · subst hs13
        refine k_tabIn C 21 rfl 567 (by decide) (by decide) rfl (by decide) ?_
        exact la_run s_run hC S hL hi hr hk hk2
      by_cases hs14 : z = 14
      · subst hs14
        refine k_tabIn C 21 rfl 600 (by decide) (by decide) rfl (by decide) ?_
        exact la_soonest s_soonest hC S hL hi hr hk hk2
      by_cases hs15 : z = 15
      · subst hs15
        refine k_tabIn C 21 rfl 623 (by decide) (by decide) rfl (by decide) ?_
        exact la_row s_row hC S hL hi hr hk hk2
      by_cases hs16 : z = 16
      · subst hs16
        refine k_tabIn C 21 rfl 666 (by decide) (by decide) rfl (by decide) ?_
        exact la_latest s_latest hC S hL hi hr hk hk2
      by_cases hs17 : z = 17
      · subst hs17
        refine k_tabIn C 21 rfl 689 (by decide) (by decide) rfl (by decide) ?_
        exact la_lost s_lost hC S hL hi hr hk hk2
      by_cases hs18 : z = 18
      · subst hs18
        refine k_tabIn C 21 rfl 702 (by decide) (by decide) rfl (by decide) ?_
        exact la_voice s_voice hC S hL hi hr hk hk2
      by_cases hs19 : z = 19
      · subst hs19
        refine k_tabIn C 21 rfl 725 (by decide) (by decide) rfl (by decide) ?_
        exact la_voices s_voices hC S hL hi hr hk hk2
      by_cases hs20 : z = 20
      · subst hs20
        refine k_tabIn C 21 rfl 738 (by decide) (by decide) rfl (by decide) ?_
        exact la_put s_put hC S hL hi hr hk hk2
      by_cases hs21 : z = 21
      · subst hs21
        refine k_tabIn C 21 rfl 761 (by decide) (by decide) rfl (by decide) ?_
        exact la_family s_family hC S hL hi hr hk hk2
      by_cases hs22 : z = 22
      · subst hs22
        refine k_tabIn C 21 rfl 794 (by decide) (by decide) rfl (by decide) ?_
        exact la_meet s_meet hC S hL hi hr hk hk2
      by_cases hs23 : z = 23
      · subst hs23
        refine k_tabIn C 21 rfl 837 (by decide) (by decide) rfl (by decide) ?_
        exact la_seen s_seen hC S hL hi hr hk hk2
      by_cases hs24 : z = 24
      · subst hs24
        refine k_tabIn C 21 rfl 880 (by decide) (by decide) rfl (by decide) ?_
        exact la_gotIn s_gotIn hC S hL hi hr hk hk2
      by_cases hs25 : z = 25
      · subst hs25
        refine k_tabIn C 21 rfl 903 (by decide) (by decide) rfl (by decide) ?_
        exact la_sit s_sit hC S hL hi hr hk hk2
      by_cases hs26 : z = 26
      · subst hs26
        refine k_tabIn C 21 rfl 926 (by decide) (by decide) rfl (by decide) ?_
        exact la_seed s_seed hC S hL hi hr hk hk2
      by_cases hs27 : z = 27
      · subst hs27
        refine k_tabIn C 21 rfl 949 (by decide) (by decide) rfl (by decide) ?_
        exact la_journeys s_journeys hC S hL hi hr hk hk2
      by_cases hs28 : z = 28
      · subst hs28
        refine k_tabIn C 21 rfl 982 (by decide) (by decide) rfl (by decide) ?_
        exact la_count s_count hC S hL hi hr hk hk2
      by_cases hs29 : z = 29
      · subst hs29
        refine k_tabIn C 21 rfl 1005 (by decide) (by decide) rfl (by decide) ?_
        exact la_image s_image hC S hL hi hr hk hk2
      by_cases hs30 : z = 30
      · subst hs30
        refine k_tabIn C 21 rfl 1028 (by decide) (by decide) rfl (by decide) ?_
        exact la_back s_back hC S hL hi hr hk hk2
      refine k_tabOut C 21 rfl 1051 (sw_out [0, 1, 2, 3, 4, 5, 6, 7, 8, 9, 10, 11, 12, 13, 14, 15, 16, 17, 18, 19, 20, 21, 22, 23, 24, 25, 26, 27, 28, 29, 30] (by intro v hv; simp only [List.mem_cons, List.not_mem_nil, or_false] at hv; rcases hv with rfl | rfl | rfl | rfl | rfl | rfl | rfl | rfl | rfl | rfl | rfl | rfl | rfl | rfl | rfl | rfl | rfl | rfl | rfl | rfl | rfl | rfl | rfl | rfl | rfl | rfl | rfl | rfl | rfl | rfl | rfl <;> assumption) (by decide)) (by decide) ?_
      exact k_widen (by omega) (by omega) (hk2 _ _ _ hr)
def ADx (q : Nat) (ad : Nat → Nat) (q2 : Nat) (ad2 : Nat → Nat) : Nat → Nat → Nat := fun k => if k = 0 then ad0 q (pj 0 ad) else if k = 10 then ad0 q2 ad2 else pj k ad
theorem wL_0 (cy : Nat → ClassId) (q : Nat) (ad : Nat → Nat) (q2 : Nat) (ad2 : Nat → Nat) : ([] ++ wX0 cy q ad) ++ mw cy (ad0 q2 ad2) z0 = wLw cy (ADx q ad q2 ad2) (fun _ _ => 0) XS0 z0 := by
  unfold wX0 wX wLw
  rw [List.nil_append, List.append_assoc]
  rfl
theorem la_start (HS : Sim R) (h0 : R XS0 z0) (hC : Cl Z D cy) (hE : Ew (zS Z)) (S : Sx Z b L xs) (hL : L ≤ 3072) (hret : ∀ (kc ks : Nat) (w : va_W) (lv : List (Nat × Value)), kc ≤ 600000 → ks ≤ 7302250 → Wk Z D 4 kc ks w 1058 lv [.int 1]) : Wk Z D 4 0 0 [] 0 [(0, .ref b)] [] := by
  have C := hC tLh htLh
  refine kn11 C 0 rfl qL_7 ⟨by decide, by decide⟩ (fun q => ?_)
  refine k_dup C 1 rfl rfl ?_
  refine k_callI0 (X := []) C hE 2 (e_X11 Z.2.1 D cy q) rfl qL_9 miX11_init rfl rfl (Nat.le_of_ble_eq_true rfl) ⟨Nat.le_of_ble_eq_true rfl, Nat.le_of_ble_eq_true rfl, Nat.le_of_ble_eq_true rfl, Nat.le_of_ble_eq_true rfl⟩ (fun ad => ?_)
  refine k_astore_1 C 3 rfl (by decide) rfl ?_
  refine kn12 C 4 rfl qL_10 ⟨by decide, by decide⟩ (fun q2 => ?_)
  refine k_dup C 5 rfl rfl ?_
  refine k_callI0 (X := [] ++ wX0 cy q ad) C hE 6 (e_X12 Z.2.1 D cy q2) rfl qL_12 miX12_init rfl rfl (Nat.le_of_ble_eq_true rfl) ⟨Nat.le_of_ble_eq_true rfl, Nat.le_of_ble_eq_true rfl, Nat.le_of_ble_eq_true rfl, Nat.le_of_ble_eq_true rfl⟩ (fun ad2 => ?_)
  refine k_astore_2 C 7 rfl (by decide) rfl ?_
  refine k_iconst C 8 rfl ci_0 ?_
  refine k_istore_3 C 9 rfl (by decide) rfl ?_
  rw [wL_0]
  refine k_sub (lv2 := [(0, .ref b), (1, .ref (ADx q ad q2 ad2 0 0)), (2, .ref (ADx q ad q2 ad2 10 0)), (3, .int (nI 0))]) [3, 2, 1, 0] rfl ?_
  exact la_loop HS hC hE S hL (ADx q ad q2 ad2) hret 513 0 _ _ _ XS0 z0 (by omega) (by omega) (by decide) (by decide) h0
end
