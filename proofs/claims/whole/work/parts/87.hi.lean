/-! what was done, kept and undone -/
theorem TrM_congr {d : Tr} (hG : TrG d) {f g : Nat → Int32} (h : TrM d f) (e : ∀ k, k < 100 → g k = f k) : TrM d g := by
  have hb := hG.b
  obtain ⟨⟨h1, h2, h3⟩, h4, h5, h6, h7, h8⟩ := h
  refine ⟨⟨by rw [e 0 (by omega)]; exact h1, by rw [e 1 (by omega)]; exact h2, by rw [e 2 (by omega)]; exact h3⟩, fun q => ?_, fun c hc => ?_, fun w hw => ?_, fun s hs => ?_, fun r hr => ?_⟩
  · rw [e 4 (by omega), e 5 (by omega)]; exact h4 q
  · rw [e (10 + c) (by omega), e (44 + c) (by omega)]; exact h5 c hc
  · rw [e (37 + w) (by omega)]; exact h6 w hw
  · rw [e (18 + 2 * s) (by omega), e (18 + 2 * s + 1) (by omega)]; exact h7 s hs
  · rw [e (52 + 8 * r + 1) (by omega), e (52 + 8 * r + 2) (by omega), e (52 + 8 * r + 3) (by omega), e (52 + 8 * r + 4) (by omega)]; exact h8 r hr
theorem MoM_congr {d : Tr} (hG : TrG d) {m : Mo} {f g : Nat → Int32} (h : MoM d m f) (e : ∀ k, k < 100 → g k = f k) : MoM d m g := by
  have hb := hG.b
  obtain ⟨⟨h1, h2⟩, h3, h4⟩ := h
  refine ⟨⟨by rw [e 3 (by omega)]; exact h1, by rw [e 8 (by omega)]; exact h2⟩, fun w hw => ?_, fun r hr => ?_⟩
  · rw [e (30 + w) (by omega)]; exact h3 w hw
  · rw [e (52 + 8 * r) (by omega), e (52 + 8 * r + 5) (by omega), e (52 + 8 * r + 6) (by omega), e (52 + 8 * r + 7) (by omega)]; exact h4 r hr
/-- the cells of a train -/
def trC (k : Nat) : Prop := k < 3 ∨ k = 4 ∨ k = 5 ∨ (10 ≤ k ∧ k < 30) ∨ (37 ≤ k ∧ k < 52) ∨ (52 ≤ k ∧ k < 100 ∧ 1 ≤ (k - 52) % 8 ∧ (k - 52) % 8 ≤ 4)
theorem TrM_congr2 {d : Tr} (hG : TrG d) {f g : Nat → Int32} (h : TrM d f) (e : ∀ k, trC k → g k = f k) : TrM d g := by
  have hb := hG.b
  obtain ⟨⟨h1, h2, h3⟩, h4, h5, h6, h7, h8⟩ := h
  refine ⟨⟨by rw [e 0 (by unfold trC; omega)]; exact h1, by rw [e 1 (by unfold trC; omega)]; exact h2, by rw [e 2 (by unfold trC; omega)]; exact h3⟩, fun q => ?_, fun c hc => ?_, fun w hw => ?_, fun s hs => ?_, fun r hr => ?_⟩
  · rw [e 4 (by unfold trC; omega), e 5 (by unfold trC; omega)]; exact h4 q
  · rw [e (10 + c) (by unfold trC; omega), e (44 + c) (by unfold trC; omega)]; exact h5 c hc
  · rw [e (37 + w) (by unfold trC; omega)]; exact h6 w hw
  · rw [e (18 + 2 * s) (by unfold trC; omega), e (18 + 2 * s + 1) (by unfold trC; omega)]; exact h7 s hs
  · rw [e (52 + 8 * r + 1) (by unfold trC; omega), e (52 + 8 * r + 2) (by unfold trC; omega), e (52 + 8 * r + 3) (by unfold trC; omega), e (52 + 8 * r + 4) (by unfold trC; omega)]; exact h8 r hr
theorem SR_congr {d : Tr} {n : Nat} {a : Nat → Nat → Nat} {π : Nat → Nat} {E : Sg} {f g : Nat → Int32} (h : SR d n a π E f) (e : ∀ k, 100 ≤ k → k < 137 → g k = f k) : SR d n a π E g := by
  obtain ⟨h1, h2, h3, h4, h5⟩ := h
  refine ⟨h1, by rw [e 136 (by omega) (by omega)]; exact h2, h3, fun k hk => ?_, h5⟩
  rw [e (100 + 3 * k) (by omega) (by omega), e (100 + 3 * k + 1) (by omega) (by omega), e (100 + 3 * k + 2) (by omega) (by omega)]
  exact h4 k hk
theorem MoC_congr {d : Tr} (hG : TrG d) {m : Mo} {O P : Sg} (h : MoC d m P) (e1 : O.1 0 = P.1 0 ∧ O.1 1 = P.1 1) (e : ∀ q i, 2 ≤ q → q ≤ 6 → i < 6 → O.2.1 q i = P.2.1 q i) : MoC d m O := by
  have hb := hG.b
  refine ⟨by rw [e1.1, e1.2]; exact h.1, fun r hr => ?_⟩
  rw [e 2 r (by omega) (by omega) (by omega), e 3 r (by omega) (by omega) (by omega), e 4 r (by omega) (by omega) (by omega), e 5 r (by omega) (by omega) (by omega), e 6 r (by omega) (by omega) (by omega)]
  exact h.2 r hr
theorem cpy0 {α : Type} (f g : Nat → α) {n i : Nat} (h : i < n) : va_cpy f g 0 0 n i = f i := by
  rw [pk_cpy_in (by omega) (by omega)]
  congr 1
  omega
theorem x_cpO (O P : Sg) : ∃ O', f_X2_copyFrom O P = some O' ∧ (O'.1 0 = P.1 0 ∧ O'.1 1 = P.1 1) ∧ ∀ q i, 2 ≤ q → q ≤ 6 → i < 6 → O'.2.1 q i = P.2.1 q i := by
  refine ⟨_, rfl, ⟨rfl, rfl⟩, fun q i h1 h2 hi => ?_⟩
  have h3 : q = 2 ∨ q = 3 ∨ q = 4 ∨ q = 5 ∨ q = 6 := by omega
  rcases h3 with rfl | rfl | rfl | rfl | rfl
  · exact cpy0 _ _ hi
  · exact cpy0 _ _ hi
  · exact cpy0 _ _ hi
  · exact cpy0 _ _ hi
  · exact cpy0 _ _ hi
def kM (M : Sg) (w : Nat → Int32) (l : Int32) : Sg := sI (sF M 22 w) 23 l
theorem kM_id (M : Sg) : kM M (M.2.1 22) (M.1 23) = M := by
  unfold kM
  rw [sF_self]
  show (upd M.1 23 (M.1 23), M.2) = M
  rw [upd_se]
theorem kM_A (M : Sg) (f : Nat → Int32) (l : Int32) (i : Nat) (v : Int32) : sA (kM M f l) 22 i v = kM M (upd f i v) l := by
  show (upd M.1 23 l, va_up (va_up M.2.1 22 f) 22 (upd f i v), M.2.2) = (upd M.1 23 l, va_up M.2.1 22 (upd f i v), M.2.2)
  rw [va_up_up]
theorem kM_I (M : Sg) (f : Nat → Int32) (l l' : Int32) : sI (kM M f l) 23 l' = kM M f l' := by
  show (upd (upd M.1 23 l) 23 l', va_up M.2.1 22 f, M.2.2) = (upd M.1 23 l', va_up M.2.1 22 f, M.2.2)
  rw [upd_upd]
theorem kM_22 (M : Sg) (f : Nat → Int32) (l : Int32) : (kM M f l).2.1 22 = f := rfl
theorem kM_20 (M : Sg) (f : Nat → Int32) (l : Int32) : (kM M f l).2.1 20 = M.2.1 20 := rfl
theorem kM_23 (M : Sg) (f : Nat → Int32) (l : Int32) : (kM M f l).1 23 = l := rfl
theorem m_keep50 {M : Sg} {w : Nat → Int32} {z : Nat} (hz : z < 20) : ∃ w', f_X12_keeps_b50 (kM M w (nI z)) = some (kM M w' (nI (z + 1))) ∧ (∀ i, i < 100 * z → w' i = w i) ∧ ∀ k, k < 100 → w' (100 * z + k) = M.2.1 20 k := by
  have key : Wp (f_X12_keeps_b50 (kM M w (nI z))) (fun o => ∃ w', o = kM M w' (nI (z + 1)) ∧ (∀ i, i < 100 * z → w' i = w i) ∧ ∀ k, k < 100 → w' (100 * z + k) = M.2.1 20 k) := by
    unfold f_X12_keeps_b50
    refine wp_fl2 (fun j x Z => ∃ i w', x = nI i ∧ Z = kM M w' (nI z) ∧ i + j = 100 ∧ (∀ k, k < 100 * z → w' k = w k) ∧ ∀ k, k < i → w' (100 * z + k) = M.2.1 20 k) ?_ 100 (FU_lt (by omega)) _ _ ⟨0, w, rfl, rfl, by omega, fun k _ => rfl, fun k hk => by omega⟩
    rintro j K _ _ ⟨i, w', rfl, rfl, hij, h1, h2⟩ ih
    unfold f_X12_keeps_b52
    cases j with
    | zero =>
      have e : i = 100 := by omega
      subst e
      rw [if_pos (by decide), bnd_eq, kM_23, kM_I, ← nI_succ]
      exact wp_some.mpr ⟨w', rfl, h1, h2⟩
    | succ j =>
      rw [if_neg (by rw [show (100 : Int32) = nI 100 from rfl]; exact nI_ge (by omega) (by omega)), kM_23, show (100 : Int32) = nI 100 from rfl, nI_mul, nI_add, ixd_nI (by omega) (by omega), ixd_nI (by omega) (by omega), bnd_eq, kM_A, kM_20, wp_bnd]
      refine ih j _ _ (by omega) ⟨i + 1, _, (nI_succ i).symm, rfl, by omega, fun k hk => ?_, fun k hk => ?_⟩
      · rw [upd_at, if_neg (by omega)]; exact h1 k hk
      · rw [upd_at]
        by_cases e : k = i
        · rw [if_pos (by omega), e]
        · rw [if_neg (by omega)]; exact h2 k (by omega)
  obtain ⟨x, h1, w', h2, h3, h4⟩ := key
  exact ⟨w', by rw [h1, h2], h3, h4⟩
theorem m_keeps {M : Sg} {z z0 : Nat} (hz : (z < 20 ∧ z0 = z) ∨ (z = 20 ∧ z0 = 19)) (hM : M.1 23 = nI z) : ∃ w', f_X12_keeps M = some (kM M w' (nI (z0 + 1))) ∧ (∀ i, i < 100 * z0 → w' i = M.2.1 22 (i + 100 * (z - z0))) ∧ ∀ k, k < 100 → w' (100 * z0 + k) = M.2.1 20 k := by
  unfold f_X12_keeps
  have e0 : kM M (M.2.1 22) (nI z) = M := by rw [← hM]; exact kM_id M
  rw [hM]
  by_cases c : z = 20
  · have ez : z0 = 19 := by omega
    subst c ez
    rw [if_pos (by decide)]
    have key : Wp (fl2 f_X12_keeps_b12 FU 100 M) (fun o => ∃ w', o = kM M w' (nI (19 + 1)) ∧ (∀ i, i < 1900 → w' i = M.2.1 22 (i + 100)) ∧ ∀ k, k < 100 → w' (1900 + k) = M.2.1 20 k) := by
      refine wp_fl2 (fun j x Z => ∃ i w', x = nI i ∧ Z = kM M w' (nI 20) ∧ i + j = 2000 ∧ 100 ≤ i ∧ (∀ k, k + 100 < i → w' k = M.2.1 22 (k + 100)) ∧ ∀ k, i ≤ k + 100 → w' k = M.2.1 22 k) ?_ 1900 (FU_lt (by omega)) _ _ ⟨100, M.2.1 22, rfl, e0.symm, by omega, by omega, fun k hk => by omega, fun k _ => rfl⟩
      rintro j K _ _ ⟨i, w', rfl, rfl, hij, hi, h1, h2⟩ ih
      unfold f_X12_keeps_b12
      cases j with
      | zero =>
        have e : i = 2000 := by omega
        subst e
        rw [if_pos (by decide), bnd_eq, kM_23, show nI 20 - 1 = nI 19 from rfl, kM_I]
        obtain ⟨w2, q1, q2, q3⟩ := m_keep50 (M := M) (w := w') (z := 19) (by omega)
        rw [q1]
        exact wp_some.mpr ⟨w2, rfl, fun i hi => by rw [q2 i (by omega), h1 i (by omega)], q3⟩
      | succ j =>
        rw [if_neg (by rw [show (2000 : Int32) = nI 2000 from rfl]; exact nI_ge (by omega) (by omega)), show (100 : Int32) = nI 100 from rfl, nI_sub (by omega), ixd_nI (by omega) (by omega), ixd_nI (by omega) (by omega), bnd_eq, kM_A, kM_22, wp_bnd, h2 i (by omega)]
        refine ih j _ _ (by omega) ⟨i + 1, _, (nI_succ i).symm, rfl, by omega, by omega, fun k hk => ?_, fun k hk => ?_⟩
        · rw [upd_at]
          by_cases e : k = i - 100
          · rw [if_pos e, show k + 100 = i by omega]
          · rw [if_neg e]; exact h1 k (by omega)
        · rw [upd_at, if_neg (by omega)]; exact h2 k (by omega)
    obtain ⟨x, h1, w', h2, h3, h4⟩ := key
    exact ⟨w', by rw [h1, h2], fun i hi => h3 i (by omega), h4⟩
  · rw [if_neg (by rw [show (20 : Int32) = nI 20 from rfl, nI_eq (by omega) (by omega)]; exact c)]
    have e1 : z0 = z := by omega
    obtain ⟨w2, q1, q2, q3⟩ := m_keep50 (M := M) (w := M.2.1 22) (z := z) (by omega)
    rw [e0] at q1
    subst e1
    refine ⟨w2, q1, fun i hi => ?_, q3⟩
    rw [q2 i hi, show i + 100 * (z0 - z0) = i by omega]
/-- one moment more is kept -/
theorem HR_keep {d : Tr} {m : Mo} {H O : Sg} {hm : Nat → Sg} {M : Sg} (hG : TrG d) (h : HR d H hm (M.2.1 22) (M.1 23)) (hM : TrM d (M.2.1 20)) (hmo : MoOK d m) (hO : MoC d m O) (hN : MoM d m (M.2.1 20)) : ∃ j Om1 H1 w l, j < 20 ∧ f_X0_keep j H (hm j) O = some (H1, Om1) ∧ f_X12_keeps M = some (kM M w l) ∧ HR d H1 (va_up hm j Om1) w l := by
  obtain ⟨nx, sz, ms, h1, h2, h3, h4, h5, h6⟩ := h
  obtain ⟨O', q1, q2, q3⟩ := x_cpO (hm nx) O
  obtain ⟨z0, hz0⟩ : ∃ z0, (sz < 20 ∧ z0 = sz) ∨ (sz = 20 ∧ z0 = 19) := by
    by_cases c : sz < 20
    · exact ⟨sz, Or.inl ⟨c, rfl⟩⟩
    · exact ⟨19, Or.inr ⟨by omega, rfl⟩⟩
  obtain ⟨w', r1, r2, r3⟩ := m_keeps hz0 h5
  have e1 : ((nx + 1) % 20) < 20 := Nat.mod_lt _ (by decide)
  refine ⟨nx, O', sI (sI H 1 (nI ((nx + 1) % 20))) 2 (nI (min (sz + 1) 20)), w', nI (z0 + 1), h1, ?_, r1, (nx + 1) % 20, z0 + 1, fun j => if j = z0 then m else ms (j + (sz - z0)), e1, by omega, rfl, by show nI (min (sz + 1) 20) = nI (z0 + 1); congr 1; omega, rfl, fun j hj => ?_⟩
  · unfold f_X0_keep
    have e2 : (sI H 1 (nI ((nx + 1) % 20))).1 2 = nI sz := h4
    rw [h3, ixd_nI h1 (by omega)]
    unfold gE
    rw [if_pos rfl, q1, ob1_s, nzI_eq (by decide), show (1 : Int32) = nI 1 from rfl, nI_add, show (20 : Int32) = nI 20 from rfl, pk_rem (by omega) (by omega) (by omega), bnd_eq, e2, nI_add, nI_min (by omega) (by omega), bnd_eq]
  · by_cases e : j = z0
    · simp only [e, if_true]
      refine ⟨hmo, ?_, MoM_congr hG hN (fun k hk => r3 k hk), TrM_congr hG hM (fun k hk => r3 k hk)⟩
      have e3 : ((nx + 1) % 20 + 20 - (z0 + 1 - z0)) % 20 = nx := by omega
      rw [e3]
      show MoC d m (if nx = nx then O' else hm nx)
      rw [if_pos rfl]
      exact MoC_congr hG hO q2 q3
    · simp only [if_neg e]
      obtain ⟨t1, t2, t3, t4⟩ := h6 (j + (sz - z0)) (by omega)
      have e4 : ∀ k, k < 100 → w' (100 * j + k) = M.2.1 22 (100 * (j + (sz - z0)) + k) := by
        intro k hk
        rw [r2 _ (by omega), show 100 * (j + (sz - z0)) + k = 100 * j + k + 100 * (sz - z0) by omega]
      refine ⟨t1, ?_, MoM_congr hG t3 e4, TrM_congr hG t4 e4⟩
      have e3 : ((nx + 1) % 20 + 20 - (z0 + 1 - j)) % 20 = (nx + 20 - (sz - (j + (sz - z0)))) % 20 := by omega
      rw [e3]
      have e5 : (nx + 20 - (sz - (j + (sz - z0)))) % 20 ≠ nx := by omega
      show MoC d (ms (j + (sz - z0))) (if (nx + 20 - (sz - (j + (sz - z0)))) % 20 = nx then O' else hm ((nx + 20 - (sz - (j + (sz - z0)))) % 20))
      rw [if_neg e5]
      exact t2
theorem same_s (s : XS) (j : Nat) : ((va_up (va_up s.1 3 (s.1 3)) 14 (s.1 14), va_up s.2.1 0 (va_up (s.2.1 0) j (s.2.1 0 j)), s.2.2) : XS) = s := by
  rw [va_up_se, va_up_se, va_up_se, va_up_se]
theorem xor_bit : ∀ (v : Fin 128) (w : Fin 7), nI v ^^^ ((1 : Int32) <<< (nI w &&& 31)) = nI (v.val ^^^ 2 ^ w.val) ∧ (v.val ^^^ 2 ^ w.val) < 128 := by decide +kernel
theorem xor_test : ∀ (v : Fin 128) (w i : Fin 7), (v.val ^^^ 2 ^ w.val).testBit i = (if i = w then !(v.val.testBit w) else v.val.testBit i) := by decide +kernel
def shM (m : Mo) (v : Nat) : Mo := (fun k => if k = 1 then v else m.1 k, m.2)
theorem st_shut : St_shut RR := by
  intro s M p1 p2 hR
  have hR0 := hR; obtain ⟨hTp, ⟨d, m, n, a, π, ⟨hG, hT, hM, hm, hO, hN, hS, hX, hX0⟩, hH⟩, hI, hU⟩ := hR
  have hno0 : ∀ {A : Nat → Option (Bool × Sg × Sg × Sg)} {B : Option (Bool × Sg)}, (∀ j, A j = some (false, s.1 3, s.1 14, s.2.1 0 j)) → B = some (false, M) → ∃ (j : Nat) (r : Bool) (O1 : Sg) (H1 : Sg) (Om1 : Sg) (M1 : Sg), j < 20 ∧ A j = some (r, O1, H1, Om1) ∧ B = some (r, M1) ∧ RR (va_up (va_up s.1 3 O1) 14 H1, va_up s.2.1 0 (va_up (s.2.1 0) j Om1), s.2.2) M1 := fun h1 h2 => ⟨0, _, _, _, _, _, by omega, h1 0, h2, by rw [same_s]; exact hR0⟩
  unfold f_X11_shut f_X12_shut f_X11_shut_b23 f_X12_shut_b26 f_X12_shut_b30 f_X12_shut_b53
  rcases csI p1 (d.n - 1) with ⟨c, hc, rfl⟩ | hno
  · have hd := hG.ok (by omega)
    have hn := hd.n8
    have hc1 : c + 1 < d.n := by omega
    have t3 := hN.2.1 c hc1
    obtain ⟨j, Om1, H1, w, l, k1, k2, k3, k4⟩ := HR_keep hG hH hM hm hO hN
    rw [m_isWay hG hM hc1, ob1_s, itT, show (30 : Int32) = nI 30 from rfl, nI_add, ixd_nI (by omega) (by omega), t3]
    by_cases e : m.sh.testBit c = p2
    · refine hno0 (fun j => ?_) ?_
      · rw [x_hasWay hG hT hc1, ob1_s, itT, x_isShut hm hO (by omega), ob1_s, e, if_pos rfl]
      · cases p2 with
        | true => rw [e]; rfl
        | false => rw [e]; rfl
    · have hx := xor_bit ⟨m.sh, hm.2.1⟩ ⟨c, by omega⟩
      have hy := xor_test ⟨m.sh, hm.2.1⟩ ⟨c, by omega⟩
      simp only at hx
      have e9 : ¬ bI (m.sh.testBit c) = bI p2 := by
        intro h
        apply e
        cases h1 : m.sh.testBit c <;> cases p2 <;> first | rfl | (rw [h1] at h; exact absurd h (by decide))
      refine ⟨j, true, sI (s.1 3) 1 ((s.1 3).1 1 ^^^ ((1 : Int32) <<< (nI c &&& 31))), H1, Om1, sF (kM M w l) 20 (upd (M.2.1 20) (30 + c) (bI p2)), k1, ?_, ?_, hTp, ⟨d, shM m (m.sh ^^^ 2 ^ c), n, a, π, ⟨hG, hT, ?_, ?_, ?_, ?_, ?_, hX, hX0⟩, k4⟩, hI, hU⟩
      · rw [x_hasWay hG hT hc1, ob1_s, itT, x_isShut hm hO (by omega), ob1_s, if_neg e9, k2, ob2_s, bnd_eq]
      · have e8 : ∀ v, sA (kM M w l) 20 (30 + c) v = sF (kM M w l) 20 (upd (M.2.1 20) (30 + c) v) := fun v => rfl
        cases p2 with
        | true =>
          have e7 : m.sh.testBit c = false := by cases h1 : m.sh.testBit c with
            | true => exact absurd h1 e
            | false => rfl
          rw [e7]
          rw [if_neg (by decide), if_neg (by decide), k3, ob1_s, itT, ixd_nI (by omega) (by omega), bnd_eq, e8]
          rfl
        | false =>
          have e7 : m.sh.testBit c = true := by cases h1 : m.sh.testBit c with
            | true => rfl
            | false => exact absurd h1 e
          rw [e7]
          rw [if_pos (by decide), if_neg (by decide), k3, ob1_s, itF, ixd_nI (by omega) (by omega), bnd_eq, e8]
          rfl
      · refine TrM_congr2 hG hM (fun k hk => ?_)
        show upd (M.2.1 20) (30 + c) (bI p2) k = M.2.1 20 k
        rw [upd_at, if_neg (by unfold trC at hk; omega)]
      · exact ⟨hm.1, hx.2, hm.2.2⟩
      · refine ⟨⟨hO.1.1, ?_⟩, hO.2⟩
        show (s.1 3).1 1 ^^^ ((1 : Int32) <<< (nI c &&& 31)) = nI (m.sh ^^^ 2 ^ c)
        rw [hO.1.2, hx.1]
      · obtain ⟨⟨a1, a2⟩, a3, a4⟩ := hN
        have e30 : ∀ k, k ≠ 30 + c → (sF (kM M w l) 20 (upd (M.2.1 20) (30 + c) (bI p2))).2.1 20 k = M.2.1 20 k := fun k hk => if_neg hk
        refine ⟨⟨by rw [e30 3 (by omega)]; exact a1, by rw [e30 8 (by omega)]; exact a2⟩, fun w' hw' => ?_, fun r hr => ?_⟩
        · show upd (M.2.1 20) (30 + c) (bI p2) (30 + w') = nI (if (m.sh ^^^ 2 ^ c).testBit w' then 1 else 0)
          have h8 := hy ⟨w', by omega⟩
          simp only [Fin.mk.injEq] at h8
          rw [upd_at, h8]
          by_cases e2 : w' = c
          · rw [if_pos (by omega), if_pos e2]
            cases p2 with
            | true =>
              have e7 : m.sh.testBit c = false := by cases h1 : m.sh.testBit c with
                | true => exact absurd h1 e
                | false => rfl
              rw [e7]; rfl
            | false =>
              have e7 : m.sh.testBit c = true := by cases h1 : m.sh.testBit c with
                | true => rfl
                | false => exact absurd h1 e
              rw [e7]; rfl
          · rw [if_neg (by omega), if_neg e2]; exact a3 w' hw'
        · rw [e30 (52 + 8 * r) (by omega), e30 (52 + 8 * r + 5) (by omega), e30 (52 + 8 * r + 6) (by omega), e30 (52 + 8 * r + 7) (by omega)]; exact a4 r hr
      · refine SR_congr hS (fun k hk _ => ?_)
        show upd (M.2.1 20) (30 + c) (bI p2) k = M.2.1 20 k
        rw [upd_at, if_neg (by omega)]
  · refine hno0 (fun j => ?_) ?_
    · rw [x_hasWayN hG hT (fun c hc => hno c (by omega)), ob1_s, itF]
    · rw [m_isWayN hG hM (fun c hc => hno c (by omega)), ob1_s, itF]
theorem st_undo : St_undo RR := by
  intro s M hR
  have hR0 := hR; obtain ⟨hTp, ⟨d, m, n, a, π, ⟨hG, hT, hM, hm, hO, hN, hS, hX, hX0⟩, hH⟩, hI, hU⟩ := hR
  have hH0 := hH
  obtain ⟨nx, sz, ms, h1, h2, h3, h4, h5, h6⟩ := hH
  unfold f_X11_undo f_X12_undo
  rw [h4, h5]
  by_cases c : sz = 0
  · subst c
    refine ⟨0, _, _, _, _, by omega, by rw [if_neg (by decide)], by rw [if_pos (by decide)], ?_⟩
    rw [same_s]; exact hR0
  · have e1 : (nx + 19) % 20 < 20 := Nat.mod_lt _ (by decide)
    obtain ⟨t1, t2, t3, t4⟩ := h6 (sz - 1) (by omega)
    have e2 : (nx + 20 - (sz - (sz - 1))) % 20 = (nx + 19) % 20 := by omega
    rw [e2] at t2
    obtain ⟨O', q1, q2, q3⟩ := x_cpO (s.1 3) (s.2.1 0 ((nx + 19) % 20))
    have key : Wp (fl2 (f_X12_undo_b21) FU 0 (sI M 23 (nI (sz - 1)))) (fun o => o.1 = nI (sz - 1) ∧ ∃ f, o.2 = sF (sI M 23 (nI (sz - 1))) 20 f ∧ (∀ k, k < 100 → f k = M.2.1 22 (100 * (sz - 1) + k)) ∧ ∀ k, 100 ≤ k → f k = M.2.1 20 k) := by
      refine wp_fl2 (fun j x Z => ∃ i f, x = nI i ∧ Z = sF (sI M 23 (nI (sz - 1))) 20 f ∧ i + j = 100 ∧ (∀ k, k < i → f k = M.2.1 22 (100 * (sz - 1) + k)) ∧ ∀ k, 100 ≤ k → f k = M.2.1 20 k) ?_ 100 (FU_lt (by omega)) _ _ ⟨0, M.2.1 20, rfl, (sF_self (sI M 23 (nI (sz - 1))) 20).symm, by omega, fun k hk => by omega, fun k _ => rfl⟩
      rintro j K _ _ ⟨i, f, rfl, rfl, hij, w1, w2⟩ ih
      unfold f_X12_undo_b21
      have e3 : (sF (sI M 23 (nI (sz - 1))) 20 f).1 23 = nI (sz - 1) := rfl
      have e4 : (sF (sI M 23 (nI (sz - 1))) 20 f).2.1 22 = M.2.1 22 := rfl
      cases j with
      | zero =>
        have e : i = 100 := by omega
        subst e
        rw [if_pos (by decide)]
        exact wp_some.mpr ⟨rfl, f, rfl, w1, w2⟩
      | succ j =>
        rw [if_neg (by rw [show (100 : Int32) = nI 100 from rfl]; exact nI_ge (by omega) (by omega)), e3, e4, show (100 : Int32) = nI 100 from rfl, nI_mul, nI_add, ixd_nI (by omega) (by omega), ixd_nI (by omega) (by omega), bnd_eq, sA_sF, wp_bnd]
        refine ih j _ _ (by omega) ⟨i + 1, _, (nI_succ i).symm, rfl, by omega, fun k hk => ?_, fun k hk => ?_⟩
        · rw [upd_at]
          by_cases e : k = i
          · rw [if_pos e, e]
          · rw [if_neg e]; exact w1 k (by omega)
        · rw [upd_at, if_neg (by omega)]; exact w2 k hk
    obtain ⟨⟨r, M1⟩, k1, k2, f, k3, k4, k5⟩ := key
    simp only at k2 k3
    subst k2 k3
    refine ⟨(nx + 19) % 20, nI (sz - 1), O', sI (sI (s.1 14) 1 (nI ((nx + 19) % 20))) 2 (nI (sz - 1)), sF (sI M 23 (nI (sz - 1))) 20 f, e1, ?_, ?_, hTp, ⟨d, ms (sz - 1), n, a, π, ⟨hG, hT, TrM_congr hG t4 k4, t1, MoC_congr hG t2 q2 q3, MoM_congr hG t3 k4, SR_congr hS (fun k hk _ => k5 k hk), hX, hX0⟩, ?_⟩, hI, hU⟩
    · rw [if_pos (by rw [show (0 : Int32) = nI 0 from rfl]; exact nI_lt (by omega) (by omega))]
      unfold f_X0_restore
      have e5 : ∀ v, (sI (s.1 14) 1 v).1 2 = nI sz := fun v => h4
      have e6 : ∀ v u, (sI (sI (s.1 14) 1 v) 2 u).1 1 = v := fun v u => rfl
      rw [nzI_eq (by decide), h3, show (20 : Int32) = nI 20 from rfl, nI_add, show (1 : Int32) = nI 1 from rfl, nI_sub (by omega), show nx + 20 - 1 = nx + 19 by omega, pk_rem (by omega) (by omega) (by omega), bnd_eq, bnd_eq, e5, nI_sub (by omega), e6, ixd_nI e1 (by omega)]
      unfold gE
      rw [if_pos rfl, q1, ob1_s, ob2_s]
      rfl
    · rw [if_neg (by rw [show (0 : Int32) = nI 0 from rfl, nI_eq (by omega) (by omega)]; exact c), show (1 : Int32) = nI 1 from rfl, nI_sub (by omega), bnd_eq]
      exact k1
    · show HR d (sI (sI (s.1 14) 1 (nI ((nx + 19) % 20))) 2 (nI (sz - 1))) (va_up (s.2.1 0) ((nx + 19) % 20) (s.2.1 0 ((nx + 19) % 20))) (M.2.1 22) (nI (sz - 1))
      rw [va_up_se]
      refine ⟨(nx + 19) % 20, sz - 1, ms, e1, by omega, rfl, rfl, rfl, fun j hj => ?_⟩
      obtain ⟨t1, t2, t3, t4⟩ := h6 j (by omega)
      refine ⟨t1, ?_, t3, t4⟩
      rw [show ((nx + 19) % 20 + 20 - (sz - 1 - j)) % 20 = (nx + 20 - (sz - j)) % 20 by omega]
      exact t2
