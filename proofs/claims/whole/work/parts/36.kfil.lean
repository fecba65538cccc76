theorem ixd_nI {γ : Type} {i n : Nat} {k : Nat → Option γ} (h : i < n) (hn : n < 2 ^ 31) : ixd (nI i) n k = k i := by
  have h1 : ¬ (nI i < 0 ∨ n ≤ (nI i).toNatClampNeg) := nI_in h hn
  unfold ixd
  rw [if_pos h1, nI_clamp (by omega)]
theorem fill_loop (n : Nat) (v : Int32) (hn : n < 2 ^ 31) : ∀ (m i : Nat) (A : Sg), i ≤ n → n - i < m → ∃ A', fl3 (f_J7_fill_53178_b5 n v) m (nI i) (nI n) A = some A' ∧ A'.2.1 0 = (fun j => if i ≤ j ∧ j < n then v else A.2.1 0 j) := by
  intro m
  induction m with
  | zero => intro i A h1 h2; omega
  | succ m ih =>
    intro i A h1 h2
    show ∃ A', f_J7_fill_53178_b5 n v (fl3 (f_J7_fill_53178_b5 n v) m) (nI i) (nI n) A = some A' ∧ _
    generalize hk : fl3 (f_J7_fill_53178_b5 n v) m = kk at ih
    unfold f_J7_fill_53178_b5
    by_cases hin : i = n
    · subst hin
      rw [if_pos (nI_le (Nat.le_refl i) hn)]
      refine ⟨A, rfl, ?_⟩
      funext j
      rw [if_neg (by omega)]
    · rw [if_neg (nI_ge (by omega) hn), ixd_nI (by omega) hn]
      simp only [bnd, nI_1]
      obtain ⟨A', e1, e2⟩ := ih (i + 1) (sA A 0 i v) (by omega) (by omega)
      refine ⟨A', e1, ?_⟩
      rw [e2]
      funext j
      show (if i + 1 ≤ j ∧ j < n then v else upd (A.2.1 0) i v j) = _
      unfold upd
      by_cases hj : j = i
      · subst hj
        rw [if_neg (by omega), if_pos rfl, if_pos (by omega)]
      · rw [if_neg hj]
        by_cases hj2 : i + 1 ≤ j ∧ j < n
        · rw [if_pos hj2, if_pos (by omega)]
        · rw [if_neg hj2, if_neg (by omega)]
theorem c_fill (l : Launch) (D : va_G) (cy : Nat → ClassId) (ad n : Nat) (f : Nat → Int32) (v : Int32) (hn : n ≤ 4000) : Ct l D cy yJ7_fill_53178 cJ7_fill_53178 4 none 0 0 0 0 [.ref ad, .int v] [(ad, .inl (cy 1, n, .inl f))] none [(ad, .inl (cy 1, n, .inl (fillf f n v)))] := by
  obtain ⟨A', e1, e2⟩ := fill_loop n v (by omega) FU 0 ((fun _ => 0), (fun _ => f), (fun _ _ => 0)) (Nat.zero_le n) (by unfold FU; omega)
  have h := c_J7_fill_53178 l D cy (fun _ => ad) n ((fun _ => 0), (fun _ => f), (fun _ _ => 0)) v A' (by unfold f_J7_fill_53178; exact e1)
  have e3 : fillf f n v = A'.2.1 0 := by
    rw [e2]
    funext j
    unfold fillf
    by_cases hj : j < n
    · rw [if_pos hj, if_pos ⟨Nat.zero_le j, hj⟩]
    · rw [if_neg hj, if_neg (by omega)]
  rw [e3]
  exact h
theorem k_fill {Z : Cz} {D : va_G} {cy : Nat → ClassId} {own : String} {tab : List (Nat × Instr × Nat)} {nL fr lo mc ms kc ks : Nat} {w : va_W} {pc : Nat} {lv : List (Nat × Value)} {st : List Value} (C : Cx Z D cy own tab nL fr lo mc ms) (i : Nat) {idx : Nat} {v : Int32} (hi : tab[i]? = some (pc, .invokestatic idx, 3)) (hlk : Cond.methodLink own idx yJ7_fill_53178 ∈ TG) (q : Nat) {a n : Nat} {f : Nat → Int32} (he : w[q]? = some (a, .inl (cy 1, n, .inl f))) (hn : n ≤ 4000) (hf1 : 1 ≤ fr) (hl1 : 23 ≤ lo) (hsm : (st.map fun v => v.category).sum ≤ 8) (hkc : kc ≤ mc ∧ ks ≤ ms) {w2 : va_W} (hw : w.set q (a, .inl (cy 1, n, .inl (fillf f n v))) = w2) (h : Wk Z D nL kc ks w2 (pc + 3) lv st) : Wk Z D nL kc ks w pc lv (.int v :: .ref a :: st) :=
  k_callS (X := w.take q) (Y := w.drop (q + 1)) C i (c_fill Z.2.1 D cy a n f v hn) hi hlk msJ7_fill_53178 (w_cut he) ((w_set he).trans hw) rfl rfl hsm ⟨hf1, hl1, hkc.1, hkc.2⟩ h
theorem jw_max : JW Lib.Math.max.name Lib.Math.max.code 2 := ⟨(tg_i 935 (by decide +kernel) (by decide +kernel)), (tg_i 149 (by decide +kernel) (by decide +kernel)), (tg_i 936 (by decide +kernel) (by decide +kernel))⟩
theorem jw_min : JW Lib.Math.min.name Lib.Math.min.code 2 := ⟨(tg_i 849 (by decide +kernel) (by decide +kernel)), (tg_i 149 (by decide +kernel) (by decide +kernel)), (tg_i 850 (by decide +kernel) (by decide +kernel))⟩
theorem jw_abs : JW Lib.Math.abs.name Lib.Math.abs.code 1 := ⟨(tg_i 964 (by decide +kernel) (by decide +kernel)), (tg_i 149 (by decide +kernel) (by decide +kernel)), (tg_i 965 (by decide +kernel) (by decide +kernel))⟩
theorem jw_copy : Cond.native arraycopyName ∈ TG ∧ Cond.static arraycopyName ∈ TG ∧ Cond.initialized "java/lang/System" ∈ TG := ⟨(tg_i 768 (by decide +kernel) (by decide +kernel)), (tg_i 767 (by decide +kernel) (by decide +kernel)), (tg_i 147 (by decide +kernel) (by decide +kernel))⟩
