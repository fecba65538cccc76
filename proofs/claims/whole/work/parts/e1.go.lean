/-! the law's start: the classes, the arrays, the String constant and the statics as the tables have them -/
theorem lt1 {w : Cond} (j : Nat) (h : tables_1_1[j]? = some w) : w ∈ lw_tbl := List.mem_append_right _ (show w ∈ tables_1 from (List.mem_append_left _ (List.mem_of_getElem? h)))
theorem lt2 {w : Cond} (j : Nat) (h : tables_1_2[j]? = some w) : w ∈ lw_tbl := List.mem_append_right _ (show w ∈ tables_1 from (List.mem_append_right _ (List.mem_append_left _ (List.mem_of_getElem? h))))
theorem lt3 {w : Cond} (j : Nat) (h : tables_1_3[j]? = some w) : w ∈ lw_tbl := List.mem_append_right _ (show w ∈ tables_1 from (List.mem_append_right _ (List.mem_append_right _ (List.mem_append_left _ (List.mem_of_getElem? h)))))
theorem lt5 {w : Cond} (j : Nat) (h : tables_1_5[j]? = some w) : w ∈ lw_tbl := List.mem_append_right _ (show w ∈ tables_1 from (List.mem_append_right _ (List.mem_append_right _ (List.mem_append_right _ (List.mem_append_right _ (List.mem_append_left _ (List.mem_of_getElem? h)))))))
theorem ar_p {ty : FieldType} {args : Array Value} {s : State} (h : (Cond.arrayClass ty).before args s = true) : ∃ cA : ClassId, ArrOfT s cA ty ∧ s.vm.findClass ("[" ++ ty.toString) = some cA := by
  obtain ⟨c, k, comp, h1, h2, h3⟩ := Cond.arrayClass_spec h
  exact ⟨c, fun n z => ⟨fun k h => (by cases h), k, h2, comp, h3⟩, h1⟩
theorem ar_o {C : String} {args : Array Value} {s : State} (h : (Cond.arrayOver (.object C)).before args s = true) : ∃ cA : ClassId, ArrOfT s cA (.object C) ∧ va_RA s cA (.object C) := by
  obtain ⟨comp, c, k, h1, h2, h3, h4, h5⟩ := Cond.arrayOver_spec h
  exact ⟨c, fun n z => ⟨fun k h => (by cases h), k, h3, comp, h4⟩, ⟨k, comp, h3, h4, h1, h5⟩⟩
theorem cl_0 {s : State} {args : Array Value} (hT : ∀ w ∈ TG, w.before args s = true) : ∃ D : va_G, ∀ (k : Nat) (q : vw_C), vwCl[k]? = some q → u_Kn s q.1 q.2.1 q.2.2 (D.1 k) (D.2 k) := by
  obtain ⟨c0, i0, h0⟩ := u_known (C := RX0) (T := TX0) (N := 3) (n := 3) hT uw0 (hT _ (tg2 54 (by decide +kernel) (by decide +kernel)))
  obtain ⟨c1, i1, h1⟩ := u_known (C := RX1) (T := TX1) (N := 3) (n := 3) hT uw1 (hT _ (tg2 77 (by decide +kernel) (by decide +kernel)))
  obtain ⟨c2, i2, h2⟩ := u_known (C := RX2) (T := TX2) (N := 7) (n := 7) hT uw2 (hT _ (tg1 184 (by decide +kernel) (by decide +kernel)))
  obtain ⟨c3, i3, h3⟩ := u_known (C := RX3) (T := TX3) (N := 3) (n := 3) hT uw3 (hT _ (tg2 130 (by decide +kernel) (by decide +kernel)))
  obtain ⟨c4, i4, h4⟩ := u_known (C := RX4) (T := TX4) (N := 4) (n := 4) hT uw4 (hT _ (tg3 224 (by decide +kernel) (by decide +kernel)))
  obtain ⟨c5, i5, h5⟩ := u_known (C := RX5) (T := TX5) (N := 8) (n := 8) hT uw5 (hT _ (tg2 93 (by decide +kernel) (by decide +kernel)))
  obtain ⟨c6, i6, h6⟩ := u_known (C := RX6) (T := TX6) (N := 14) (n := 14) hT uw6 (hT _ (tg2 147 (by decide +kernel) (by decide +kernel)))
  obtain ⟨c7, i7, h7⟩ := u_known (C := RX7) (T := TX7) (N := 4) (n := 4) hT uw7 (hT _ (tg1 230 (by decide +kernel) (by decide +kernel)))
  obtain ⟨c8, i8, h8⟩ := u_known (C := RX8) (T := TX8) (N := 8) (n := 8) hT uw8 (hT _ (tg1 31 (by decide +kernel) (by decide +kernel)))
  obtain ⟨c9, i9, h9⟩ := u_known (C := RX9) (T := TX9) (N := 17) (n := 17) hT uw9 (hT _ (tg1 74 (by decide +kernel) (by decide +kernel)))
  obtain ⟨ca, ia, ha⟩ := u_known (C := RX10) (T := TX10) (N := 4) (n := 4) hT uw10 (hT _ (tg1 68 (by decide +kernel) (by decide +kernel)))
  obtain ⟨cb, ib, hb⟩ := u_known (C := RX11) (T := TX11) (N := 12) (n := 12) hT uw11 (hT _ (tg1 23 (by decide +kernel) (by decide +kernel)))
  obtain ⟨cc, ic, hc⟩ := u_known (C := RX12) (T := TX12) (N := 39) (n := 39) hT uw12 (hT _ (tg5 208 (by decide +kernel) (by decide +kernel)))
  refine ⟨(fun k => [c0, c1, c2, c3, c4, c5, c6, c7, c8, c9, ca, cb, cc].getD k 0, fun k => [i0, i1, i2, i3, i4, i5, i6, i7, i8, i9, ia, ib, ic].getD k (fun _ => 0)), ?_⟩
  intro k q hq
  match k, hq with
  | 0, hq => cases hq; exact h0
  | 1, hq => cases hq; exact h1
  | 2, hq => cases hq; exact h2
  | 3, hq => cases hq; exact h3
  | 4, hq => cases hq; exact h4
  | 5, hq => cases hq; exact h5
  | 6, hq => cases hq; exact h6
  | 7, hq => cases hq; exact h7
  | 8, hq => cases hq; exact h8
  | 9, hq => cases hq; exact h9
  | 10, hq => cases hq; exact ha
  | 11, hq => cases hq; exact hb
  | 12, hq => cases hq; exact hc
  | k + 13, hq => cases hq
def tmW : Term := .string RX8 62
theorem na_i (i : Nat) (w : Cond) (h : (flatC (Jvm.Cond.and given_1 narrow_1))[i]? = some w) {args : Array Value} {s : State} (hg : (Jvm.Cond.and given_1 narrow_1).before args s = true) : w.before args s = true := flat_of_before _ hg w (List.mem_of_getElem? h)
theorem na_el : ∀ j : Fin 152, (flatC (Jvm.Cond.and given_1 narrow_1))[52 + j.val]? = some (Cond.eq (.elem (.field tmW "java/lang/String" "value" "[B") (.int (Int32.ofNat j.val))) (.int (WB.getD j.val 0))) := by decide +kernel
theorem ev_0 {s : State} {args : Array Value} (hts : ∀ w ∈ lw_tbl, w.before args s = true) (hg : (Jvm.Cond.and given_1 narrow_1).before args s = true) {A : Nat → Prop} (hA : ∀ a : Nat, a < s.heap.size → ¬ A a) : ∃ aK aV : Nat, vk_S 1 [152] [WB] (fun _ => aK) (fun _ => aV) A s s.heap ∧ vk_R RX8 62 WT aK s ∧ va_Z "java/lang/String" "COMPACT_STRINGS" "Z" (.int 1) A s s.heap ∧ va_Zq "jdk/internal/util/Preconditions" "SIOOBE_FORMATTER" "Ljava/util/function/BiFunction;" A s s.heap := by
  obtain ⟨adK, adV, h1, h2⟩ := vk_Sof (args := args) (s := s) (N := 1) (tm := fun _ => tmW) (len := [152]) (byt := [WB]) (A := A)
    (fun i hi => by have e : i = 0 := by omega
                    subst e; decide)
    (fun i hi => na_i 48 _ (by decide +kernel) hg)
    (fun i hi => na_i 49 _ (by decide +kernel) hg)
    (fun i hi => na_i 50 _ (by decide +kernel) hg)
    (fun i hi => by have e : i = 0 := by omega
                    subst e; exact na_i 51 _ (by decide +kernel) hg)
    (fun i hi j hj => by have e : i = 0 := by omega
                         subst e
                         exact na_i (52 + j) _ (na_el ⟨j, hj⟩) hg)
    (fun i j hi hj hne => by omega) hA
  refine ⟨adK 0, adV 0, ⟨fun i hi => ?_, fun i j hi hj _ => by omega⟩, vk_R.of (hts _ (lt3 46 (by decide +kernel))) (h2 0 (by omega)), va_Zof (hts _ (lt3 56 (by decide +kernel))) (hts _ (lt1 14 (by decide +kernel))) (va_eqt (na_i 4 _ (by decide +kernel) hg)) hA, va_Zqof (hts _ (lt3 72 (by decide +kernel))) (hts _ (lt1 16 (by decide +kernel))) (na_i 5 _ (by decide +kernel) hg) hA⟩
  have e : i = 0 := by omega
  subst e
  exact h1.1 0 hi
theorem ew_0 {s : State} {args : Array Value} (hts : ∀ w ∈ lw_tbl, w.before args s = true) : Ew s := ⟨va_Nw.of (by decide +kernel) (hts _ (lt1 32 (by decide +kernel))), va_Nw.of (by decide +kernel) (hts _ (lt1 75 (by decide +kernel))), va_Nw.of (by decide +kernel) (hts _ (lt1 185 (by decide +kernel))), va_Nw.of (by decide +kernel) (hts _ (lt1 231 (by decide +kernel))), va_Nw.of (by decide +kernel) (hts _ (lt2 61 (by decide +kernel))), va_AO.of (hts _ (lt2 52 (by decide +kernel))), va_AO.of (hts _ (lt2 60 (by decide +kernel))), va_AO.of (hts _ (lt2 75 (by decide +kernel))), va_Nw.of (by decide +kernel) (hts _ (lt3 237 (by decide +kernel)))⟩
theorem tb_0 {cy : Nat → ClassId} {s : State} (h0 : ArrOfT s (cy 0) .byte ∧ va_RA s (cy 0) .byte) (h1 : ArrOfT s (cy 1) .int ∧ va_RA s (cy 1) .int) (h2 : ArrOfT s (cy 2) .long ∧ va_RA s (cy 2) .long) (h3 : ArrOfT s (cy 3) .boolean ∧ va_RA s (cy 3) .boolean) (h4 : ArrOfT s (cy 4) (.object RX2) ∧ va_RA s (cy 4) (.object RX2)) (h5 : ArrOfT s (cy 5) (.object RX4) ∧ va_RA s (cy 5) (.object RX4)) (h6 : ArrOfT s (cy 6) (.object RX10) ∧ va_RA s (cy 6) (.object RX10)) : ∀ (k : Nat) (q : ClassId × FieldType), (tys cy)[k]? = some q → ArrOfT s q.1 q.2 ∧ va_RA s q.1 q.2 := by
  intro k q hq
  match k, hq with
  | 0, hq => cases hq; exact h0
  | 1, hq => cases hq; exact h1
  | 2, hq => cases hq; exact h2
  | 3, hq => cases hq; exact h3
  | 4, hq => cases hq; exact h4
  | 5, hq => cases hq; exact h5
  | 6, hq => cases hq; exact h6
  | k + 7, hq => cases hq
