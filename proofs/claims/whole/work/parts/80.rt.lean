/-! right by a second, from a coach at a second: forwards and backwards -/
theorem mnr_spec {p : Nat → Bool} {f : Nat → Nat} {u : Nat} (hu : u < 1000000) : ∀ {k : Nat}, (mnr p f k ≤ u ↔ ∃ c, c < k ∧ p c = true ∧ f c ≤ u) := by
  intro k
  induction k with
  | zero =>
    constructor
    · intro h; have h2 : (1000000 : Nat) ≤ u := h; omega
    · rintro ⟨c, hc, -⟩; omega
  | succ k ih =>
    rw [mnr_s]
    by_cases hp : p k = true
    · rw [if_pos hp]
      constructor
      · intro h
        by_cases h2 : f k ≤ u
        · exact ⟨k, by omega, hp, h2⟩
        · obtain ⟨c, h3, h4, h5⟩ := ih.mp (by omega)
          exact ⟨c, by omega, h4, h5⟩
      · rintro ⟨c, h3, h4, h5⟩
        by_cases e : c = k
        · subst e; omega
        · have := ih.mpr ⟨c, by omega, h4, h5⟩; omega
    · rw [if_neg hp, ih]
      constructor
      · rintro ⟨c, h3, h4, h5⟩; exact ⟨c, by omega, h4, h5⟩
      · rintro ⟨c, h3, h4, h5⟩
        by_cases e : c = k
        · subst e; exact absurd h4 hp
        · exact ⟨c, by omega, h4, h5⟩
def rtA (n : Nat) (p : Nat → Bool) (F : Nat → Nat → Nat → Nat) (a s : Nat) : Nat := if s ≤ 999 then mnr p (F a s) n else 1000000
/-- of how many first seconds one is right by another -/
def vV (n : Nat) (p : Nat → Bool) (F : Nat → Nat → Nat → Nat) (u a : Nat) : Nat := cN (fun s => decide (rtA n p F a s ≤ u)) (u + 1)
section
variable {n : Nat} {E F : Nat → Nat → Nat → Nat} {p : Nat → Bool}
theorem F_ge (hE : EP n E) (HS : ∀ a s, a < n → s ≤ 999 → Sn n E a s (F a s)) {a s : Nat} (ha : a < n) (hs : s ≤ 999) : ∀ v t, t < n → F a s t ≤ v → s ≤ F a s t := by
  have h := HS a s ha hs
  intro v
  induction v with
  | zero =>
    intro t ht hv
    rcases h.2.2.2 t ht (by omega) with e | ⟨c, q1, q2, q3, q4⟩
    · subst e; rw [h.1]; exact Nat.le_refl _
    · omega
  | succ v ih =>
    intro t ht hv
    rcases h.2.1 t ht with h5 | h5
    · rcases h.2.2.2 t ht h5 with e | ⟨c, q1, q2, q3, q4⟩
      · subst e; rw [h.1]; exact Nat.le_refl _
      · have := ih c q1 (by omega); omega
    · omega
theorem F_mono (hE : EP n E) (HS : ∀ a s, a < n → s ≤ 999 → Sn n E a s (F a s)) {a s s' : Nat} (ha : a < n) (hss : s ≤ s') (hs : s' ≤ 999) {t : Nat} (ht : t < n) : F a s t ≤ F a s' t := by
  have h := HS a s ha (by omega)
  exact sn_le hE (by rw [h.1]; exact hss) h.2.2.1 h.le9 (HS a s' ha hs) _ t ht (Nat.le_refl _)
theorem F_step (hE : EP n E) (HS : ∀ a s, a < n → s ≤ 999 → Sn n E a s (F a s)) {a b s : Nat} (ha : a < n) (hb : b < n) (hab : a ≠ b) (he : E a b s ≤ 999) {t : Nat} (ht : t < n) : F a s t ≤ F b (E a b s) t := by
  have h1 := hE.2.2 a b s ha hb hab he
  have h := HS a s ha (by omega)
  refine sn_le hE ?_ h.2.2.1 h.le9 (HS b (E a b s) hb he) _ t ht (Nat.le_refl _)
  have h2 := h.2.2.1 a b ha hb hab (by rw [h.1]; omega)
  rw [h.1] at h2
  exact h2
theorem F_first (hE : EP n E) (HS : ∀ a s, a < n → s ≤ 999 → Sn n E a s (F a s)) {a s : Nat} (ha : a < n) (hs : s ≤ 999) : ∀ v t, t < n → t ≠ a → F a s t ≤ 999 → F a s t ≤ v → ∃ b, b < n ∧ a ≠ b ∧ E a b s ≤ 999 ∧ F b (E a b s) t ≤ F a s t := by
  have h := HS a s ha hs
  intro v
  induction v with
  | zero =>
    intro t ht hta h9 hv
    rcases h.2.2.2 t ht h9 with e | ⟨c, q1, q2, q3, q4⟩
    · exact absurd e hta
    · omega
  | succ v ih =>
    intro t ht hta h9 hv
    rcases h.2.2.2 t ht h9 with e | ⟨c, q1, q2, q3, q4⟩
    · exact absurd e hta
    · by_cases e : c = a
      · subst e
        rw [h.1] at q4
        refine ⟨t, ht, q2, by omega, ?_⟩
        rw [(HS t (E c t s) ht (by omega)).1]
        omega
      · obtain ⟨b, w1, w2, w3, w4⟩ := ih c q1 e (by omega) (by omega)
        refine ⟨b, w1, w2, w3, ?_⟩
        have h5 := HS b (E a b s) w1 w3
        have h6 := h5.2.2.1 c t q1 ht q2 (by omega)
        have h7 := hE.2.1 c t _ _ q1 ht q2 w4
        omega
theorem rtA_ge (hE : EP n E) (HS : ∀ a s, a < n → s ≤ 999 → Sn n E a s (F a s)) {a s u : Nat} (ha : a < n) (hu : u ≤ 999) (h : rtA n p F a s ≤ u) : s ≤ u := by
  unfold rtA at h
  by_cases hs : s ≤ 999
  · rw [if_pos hs, mnr_spec (by omega)] at h
    obtain ⟨c, h1, h2, h3⟩ := h
    have := F_ge hE HS ha hs _ c h1 (Nat.le_refl _)
    omega
  · rw [if_neg hs] at h; omega
theorem rtA_iff {a s u : Nat} (hs : s ≤ 999) (hu : u ≤ 999) : rtA n p F a s ≤ u ↔ ∃ c, c < n ∧ p c = true ∧ F a s c ≤ u := by
  unfold rtA; rw [if_pos hs]; exact mnr_spec (by omega)
theorem rtA_mono (hE : EP n E) (HS : ∀ a s, a < n → s ≤ 999 → Sn n E a s (F a s)) {a s s' u : Nat} (ha : a < n) (hss : s ≤ s') (hu : u ≤ 999) (h : rtA n p F a s' ≤ u) : rtA n p F a s ≤ u := by
  have h1 := rtA_ge hE HS ha hu h
  rw [rtA_iff (by omega) hu] at h ⊢
  obtain ⟨c, h3, h4, h5⟩ := h
  have := F_mono hE HS ha hss (by omega) h3
  exact ⟨c, h3, h4, by omega⟩
theorem rtA_step (hE : EP n E) (HS : ∀ a s, a < n → s ≤ 999 → Sn n E a s (F a s)) {a b s u : Nat} (ha : a < n) (hb : b < n) (hab : a ≠ b) (he : E a b s ≤ 999) (hu : u ≤ 999) (h : rtA n p F b (E a b s) ≤ u) : rtA n p F a s ≤ u := by
  have h1 := hE.2.2 a b s ha hb hab he
  rw [rtA_iff (by omega) hu] at h ⊢
  obtain ⟨c, h3, h4, h5⟩ := h
  have := F_step hE HS ha hb hab he h3
  exact ⟨c, h3, h4, by omega⟩
theorem rtA_first (hE : EP n E) (HS : ∀ a s, a < n → s ≤ 999 → Sn n E a s (F a s)) {a s u : Nat} (ha : a < n) (hp : p a = false) (hu : u ≤ 999) (h : rtA n p F a s ≤ u) : ∃ b, b < n ∧ a ≠ b ∧ E a b s ≤ 999 ∧ rtA n p F b (E a b s) ≤ u := by
  have h1 := rtA_ge hE HS ha hu h
  rw [rtA_iff (by omega) hu] at h
  obtain ⟨c, h3, h4, h5⟩ := h
  obtain ⟨b, w1, w2, w3, w4⟩ := F_first hE HS (s := s) ha (by omega) _ c h3 (fun e => by subst e; rw [hp] at h4; cases h4) (by omega) (Nat.le_refl _)
  refine ⟨b, w1, w2, w3, ?_⟩
  rw [rtA_iff w3 hu]
  exact ⟨c, h3, h4, by omega⟩
theorem rtA_right (hE : EP n E) (HS : ∀ a s, a < n → s ≤ 999 → Sn n E a s (F a s)) {a s u : Nat} (ha : a < n) (hp : p a = true) (hu : u ≤ 999) : rtA n p F a s ≤ u ↔ s ≤ u := by
  constructor
  · exact rtA_ge hE HS ha hu
  · intro h
    rw [rtA_iff (by omega) hu]
    exact ⟨a, ha, hp, by rw [(HS a s ha (by omega)).1]; exact h⟩
theorem vV_iff (hE : EP n E) (HS : ∀ a s, a < n → s ≤ 999 → Sn n E a s (F a s)) {a s u : Nat} (ha : a < n) (hu : u ≤ 999) : s < vV n p F u a ↔ rtA n p F a s ≤ u := by
  unfold vV
  by_cases h : s < u + 1
  · have h2 := cN_down (p := fun s => decide (rtA n p F a s ≤ u)) (n := u + 1) (fun s s' h1 h2 h3 => by simp only [decide_eq_true_eq] at h3 ⊢; exact rtA_mono hE HS ha h1 hu h3) s h
    rw [← h2]
    simp only [decide_eq_true_eq]
  · have h1 := cN_le (fun s => decide (rtA n p F a s ≤ u)) (u + 1)
    constructor
    · intro h2; omega
    · intro h2; have := rtA_ge hE HS ha hu h2; omega
theorem vV_le {a u : Nat} : vV n p F u a ≤ u + 1 := cN_le _ _
theorem vV_right (hE : EP n E) (HS : ∀ a s, a < n → s ≤ 999 → Sn n E a s (F a s)) {a u : Nat} (ha : a < n) (hp : p a = true) (hu : u ≤ 999) : vV n p F u a = u + 1 := by
  have h1 := (vV_iff hE HS (p := p) (s := u) ha hu).mpr ((rtA_right hE HS ha hp hu).mpr (Nat.le_refl _))
  have h2 := @vV_le n F p a u
  omega
end
/-- going back: what is closed and attained -/
def BV (n : Nat) (p : Nat → Bool) (L : Nat → Nat → Nat → Nat) (u : Nat) (V : Nat → Nat) : Prop := (∀ c, c < n → V c ≤ u + 1) ∧ (∀ c, c < n → p c = true → V c = u + 1) ∧ (∀ c t, c < n → t < n → c ≠ t → L c t (V t) ≤ V c) ∧ (∀ c, c < n → 0 < V c → p c = true ∨ ∃ t, t < n ∧ c ≠ t ∧ V c < V t ∧ V c ≤ L c t (V t)) ∧ (∀ c t w w', c < n → t < n → c ≠ t → w ≤ w' → w' ≤ u + 1 → L c t w ≤ L c t w')
theorem vV_BV {n : Nat} {E F L : Nat → Nat → Nat → Nat} {p : Nat → Bool} {u : Nat} (hE : EP n E) (HS : ∀ a s, a < n → s ≤ 999 → Sn n E a s (F a s)) (hu : u ≤ 999) (hL : ∀ c t s w, c < n → t < n → c ≠ t → w ≤ u + 1 → (E c t s < w ↔ s < L c t w)) : BV n p L u (vV n p F u) := by
  refine ⟨fun c _ => vV_le, fun c hc hp => vV_right hE HS hc hp hu, fun c t hc ht hct => ?_, fun c hc h0 => ?_, fun c t w w' hc ht hct hw hw' => ?_⟩
  · by_cases h : L c t (vV n p F u t) = 0
    · omega
    · have h1 := (hL c t (L c t (vV n p F u t) - 1) (vV n p F u t) hc ht hct vV_le).mpr (by omega)
      have h2 := @vV_le n F p t u
      have h3 := (vV_iff hE HS ht hu).mp h1
      have h4 := rtA_step hE HS hc ht hct (by omega) hu h3
      have h5 := (vV_iff hE HS hc hu).mpr h4
      omega
  · by_cases hp : p c = true
    · exact Or.inl hp
    · simp only [Bool.not_eq_true] at hp
      right
      have h1 := (vV_iff hE HS (p := p) (s := vV n p F u c - 1) hc hu).mp (by omega)
      obtain ⟨b, w1, w2, w3, w4⟩ := rtA_first hE HS hc hp hu h1
      have h2 := (vV_iff hE HS w1 hu).mpr w4
      have h3 := hE.2.2 c b _ hc w1 w2 w3
      have h4 := (hL c b _ _ hc w1 w2 vV_le).mp h2
      exact ⟨b, w1, w2, by omega, by omega⟩
  · by_cases h : L c t w = 0
    · omega
    · have h1 := (hL c t (L c t w - 1) w hc ht hct (by omega)).mpr (by omega)
      have h2 := (hL c t (L c t w - 1) w' hc ht hct hw').mp (by omega)
      omega
def rkB (n : Nat) (V : Nat → Nat) (t : Nat) : Nat := cN (fun c => decide (V t < V c)) n
theorem rkB_lt {n : Nat} {V : Nat → Nat} {c t : Nat} (hc : c < n) (h : V t < V c) : rkB n V c < rkB n V t := by
  refine cN_lt (c0 := c) ?_ hc ?_ ?_
  · intro x _ hx; simp only [decide_eq_true_eq] at hx ⊢; omega
  · simp only [decide_eq_true_eq]; exact h
  · simp
theorem rkB_n {n : Nat} {V : Nat → Nat} {t : Nat} (ht : t < n) : rkB n V t < n := cN_ltn ht (by simp)
def rlB (L : Nat → Nat → Nat → Nat) (c k : Nat) (U : Nat → Nat) : Nat → Nat := fun t => if t < k ∧ t ≠ c then max (U t) (L t c (U c)) else U t
theorem rlB_s {L : Nat → Nat → Nat → Nat} {c k : Nat} {B : Nat → Nat} (hc : k ≠ c) : ∀ t, rlB L c (k + 1) B t = if t = k then max (B k) (L k c (B c)) else rlB L c k B t := by
  intro t
  unfold rlB
  by_cases e : t = k
  · subst e; rw [if_pos ⟨by omega, hc⟩, if_pos rfl]
  · rw [if_neg e]
    by_cases e2 : t < k ∧ t ≠ c
    · rw [if_pos ⟨by omega, e2.2⟩, if_pos e2]
    · rw [if_neg (by omega), if_neg e2]
theorem rlB_same {L : Nat → Nat → Nat → Nat} {c : Nat} {B : Nat → Nat} : ∀ t, rlB L c (c + 1) B t = rlB L c c B t := by
  intro t
  unfold rlB
  by_cases e : t < c + 1 ∧ t ≠ c
  · rw [if_pos e, if_pos ⟨by omega, e.2⟩]
  · rw [if_neg e, if_neg (by omega)]
def BB (n : Nat) (V : Nat → Nat) (k : Nat) (U : Nat → Nat) : Prop := (∀ t, t < n → U t ≤ V t) ∧ ∀ t, t < n → rkB n V t ≤ k → U t = V t
def RB (n : Nat) (L : Nat → Nat → Nat → Nat) (V U0 U : Nat → Nat) (c : Nat) (b : Bool) : Prop := (∀ t, t < n → U t ≤ V t ∧ U0 t ≤ U t) ∧ (∀ c' t, c' < c → t < n → t ≠ c' → U0 c' = V c' → L t c' (V c') ≤ U t) ∧ (b = false → (∀ t, t < n → U t = U0 t) ∧ ∀ c' t, c' < c → t < n → t ≠ c' → L t c' (U0 c') ≤ U0 t)
section
variable {n : Nat} {L : Nat → Nat → Nat → Nat} {p : Nat → Bool} {u : Nat} {V U0 U : Nat → Nat}
theorem rb_0 {k : Nat} (h : BB n V k U) : RB n L V U U 0 false := ⟨fun t ht => ⟨h.1 t ht, Nat.le_refl _⟩, fun c' t hc => by omega, fun _ => ⟨fun t _ => rfl, fun c' t hc => by omega⟩⟩
theorem rb_skip {c : Nat} {b : Bool} (h0 : ∀ c t, L c t 0 = 0) (hc : c < n) (h : RB n L V U0 U c b) (hU : U c = 0) : RB n L V U0 U (c + 1) b := by
  obtain ⟨h1, h2, h3⟩ := h
  have h4 := h1 c hc
  have h5 : U0 c = 0 := by omega
  refine ⟨h1, fun c' t hc' ht htc he => ?_, fun hb => ⟨(h3 hb).1, fun c' t hc' ht htc => ?_⟩⟩
  · by_cases e : c' = c
    · subst e; rw [← he, h5, h0]; omega
    · exact h2 c' t (by omega) ht htc he
  · by_cases e : c' = c
    · subst e; rw [h5, h0]; omega
    · exact (h3 hb).2 c' t (by omega) ht htc
theorem rb_go {c : Nat} {b b' : Bool} (hV : BV n p L u V) (hc : c < n) (h : RB n L V U0 U c b) (hb : b' = false → ∀ t, t < n → t ≠ c → L t c (U c) ≤ U t) : RB n L V U0 (rlB L c n U) (c + 1) (b || b') := by
  obtain ⟨h1, h2, h3⟩ := h
  have h1c := h1 c hc
  have hle : ∀ t, U t ≤ rlB L c n U t := fun t => by unfold rlB; split <;> omega
  refine ⟨fun t ht => ?_, fun c' t hc' ht htc he => ?_, fun hbb => ?_⟩
  · have h4 := h1 t ht
    have h5 := hle t
    refine ⟨?_, by omega⟩
    unfold rlB
    by_cases e : t = c
    · rw [if_neg (by omega)]; exact h4.1
    · rw [if_pos ⟨ht, e⟩]
      have h6 := hV.2.2.1 t c ht hc e
      have h7 := hV.2.2.2.2 t c (U c) (V c) ht hc e h1c.1 (hV.1 c hc)
      omega
  · by_cases e : c' = c
    · subst e
      have h4 : U c' = V c' := by omega
      unfold rlB
      rw [if_pos ⟨ht, htc⟩, h4]
      omega
    · have := h2 c' t (by omega) ht htc he
      have := hle t
      omega
  · simp only [Bool.or_eq_false_iff] at hbb
    have h4 := hb hbb.2
    have h5 := h3 hbb.1
    have h6 : ∀ t, t < n → rlB L c n U t = U t := by
      intro t ht
      unfold rlB
      by_cases e : t = c
      · rw [if_neg (by omega)]
      · rw [if_pos ⟨ht, e⟩]; have := h4 t ht e; omega
    refine ⟨fun t ht => by rw [h6 t ht, h5.1 t ht], fun c' t hc' ht htc => ?_⟩
    by_cases e : c' = c
    · subst e
      have := h4 t ht htc
      rw [h5.1 t ht, h5.1 c' hc] at this
      exact this
    · exact h5.2 c' t (by omega) ht htc
theorem bb_round {k : Nat} {b : Bool} (hV : BV n p L u V) (h0 : BB n V k U0) (hr0 : ∀ t, t < n → p t = true → U0 t = u + 1) (h : RB n L V U0 U n b) : BB n V (k + 1) U ∧ (∀ t, t < n → p t = true → U t = u + 1) ∧ (b = false → ∀ t, t < n → U t = V t) := by
  obtain ⟨h1, h2, h3⟩ := h
  have hr : ∀ t, t < n → p t = true → U t = u + 1 := fun t ht hp => by
    have := h1 t ht
    have := hr0 t ht hp
    have := hV.1 t ht
    omega
  refine ⟨⟨fun t ht => (h1 t ht).1, fun t ht hk => ?_⟩, hr, fun hb => ?_⟩
  · have h4 := h1 t ht
    by_cases h5 : V t = 0
    · omega
    · rcases hV.2.2.2.1 t ht (by omega) with hp | ⟨c, q1, q2, q3, q4⟩
      · rw [hr t ht hp, hV.2.1 t ht hp]
      · have h6 := rkB_lt (n := n) q1 q3
        have h7 := h0.2 c q1 (by omega)
        have h8 := h2 c t q1 ht q2 h7
        omega
  · have h4 := h3 hb
    have key : ∀ v t, t < n → u + 1 - V t ≤ v → V t ≤ U0 t := by
      intro v
      induction v with
      | zero =>
        intro t ht hv
        have h9 := hV.1 t ht
        rcases hV.2.2.2.1 t ht (by omega) with hp | ⟨c, q1, q2, q3, q4⟩
        · rw [hr0 t ht hp]; exact h9
        · have := hV.1 c q1; omega
      | succ v ih =>
        intro t ht hv
        by_cases h5 : V t = 0
        · omega
        · rcases hV.2.2.2.1 t ht (by omega) with hp | ⟨c, q1, q2, q3, q4⟩
          · rw [hr0 t ht hp]; exact hV.1 t ht
          · have h6 := ih c q1 (by omega)
            have h7 := h4.2 c t q1 ht q2
            have h8 := hV.2.2.2.2 t c (V c) (U0 c) ht q1 q2 h6 (by have := h0.1 c q1; have := hV.1 c q1; omega)
            omega
    intro t ht
    have h5 := key _ t ht (Nat.le_refl _)
    have h6 := h0.1 t ht
    rw [h4.1 t ht]
    omega
theorem bb_0 (hV : BV n p L u V) : BB n V 0 (fun t => if p t then u + 1 else 0) := by
  refine ⟨fun t ht => ?_, fun t ht hk => ?_⟩
  · by_cases e : p t = true
    · simp only [e, if_true]; rw [hV.2.1 t ht e]; exact Nat.le_refl _
    · show (if p t then u + 1 else 0) ≤ V t
      rw [if_neg e]; omega
  · by_cases e : p t = true
    · simp only [e, if_true]; rw [hV.2.1 t ht e]
    · show (if p t then u + 1 else 0) = V t
      rw [if_neg e]
      by_cases h5 : V t = 0
      · omega
      · rcases hV.2.2.2.1 t ht (by omega) with hp | ⟨c, q1, q2, q3, q4⟩
        · exact absurd hp e
        · have h6 := rkB_lt (n := n) q1 q3
          omega
end
/-- the last begin of a going, one more (0: none) -/
def shO (o : Option Nat) : Nat := match o with | none => 0 | some b => b + 1
def lL (d : Tr) (m : Mo) (r c t w : Nat) : Nat := if w = 0 then 0 else max (shO (sOL d (sOu d r c t) (w - 1))) (if dist c t = 1 then shO (sIL d m r c t (w - 1)) else 0)
theorem fndD_some {p : Nat → Bool} {j : Nat} : ∀ {k : Nat}, fndD p k = some j → p j = true ∧ j < k ∧ ∀ i, j < i → i < k → p i = false := by
  intro k
  induction k with
  | zero => intro h; cases h
  | succ k ih =>
    intro h
    rw [fndD_s] at h
    by_cases hp : p k = true
    · rw [if_pos hp] at h; cases h
      exact ⟨hp, by omega, fun i h1 h2 => by omega⟩
    · rw [if_neg hp] at h
      obtain ⟨h1, h2, h3⟩ := ih h
      refine ⟨h1, by omega, fun i h5 h6 => ?_⟩
      by_cases hi : i = k
      · subst hi; exact Bool.eq_false_iff.mpr hp
      · exact h3 i h5 (by omega)
theorem fndD_none {p : Nat → Bool} : ∀ {k : Nat}, fndD p k = none → ∀ i, i < k → p i = false := by
  intro k
  induction k with
  | zero => intro h i; omega
  | succ k ih =>
    intro h i h1
    rw [fndD_s] at h
    by_cases hp : p k = true
    · rw [if_pos hp] at h; cases h
    · rw [if_neg hp] at h
      by_cases hi : i = k
      · subst hi; exact Bool.eq_false_iff.mpr hp
      · exact ih h i (by omega)
section
variable {d : Tr} {m : Mo}
theorem gal_O (hd : TrOK d) {r c t s u : Nat} (hx : 1 ≤ sOu d r c t) (hu : u ≤ 999) : eO d r c t s < u + 1 ↔ s < shO (sOL d (sOu d r c t) u) := by
  have hp := hd.pst
  unfold eO sOL sOB
  generalize sOu d r c t = x at hx ⊢
  cases h1 : fnd (fun k => decide (max s (d.hb k) + x ≤ d.he k)) (d.ps + 1) 0 with
  | none =>
    have a1 := fnd_none h1
    simp only [Option.map_none]
    constructor
    · intro h; omega
    · intro h
      cases h2 : fndD (fun k => decide (d.hb k + x ≤ min u (d.he k))) (d.ps + 1) with
      | none => rw [h2] at h; simp only [Option.map_none, shO] at h; omega
      | some k =>
        rw [h2] at h
        obtain ⟨b1, b2, b3⟩ := fndD_some h2
        have := a1 k (by omega) (by omega)
        simp only [Option.map_some, shO, decide_eq_true_eq, decide_eq_false_iff_not] at h b1 this
        omega
  | some k =>
    obtain ⟨a1, a2, a3, a4⟩ := fnd_some h1
    simp only [Option.map_some, decide_eq_true_eq] at a1 ⊢
    have hk := hd.heb (s := k) (by omega)
    cases h2 : fndD (fun k => decide (d.hb k + x ≤ min u (d.he k))) (d.ps + 1) with
    | none =>
      have b1 := fndD_none h2 k (by omega)
      simp only [decide_eq_false_iff_not] at b1
      simp only [Option.map_none, shO]
      omega
    | some j =>
      obtain ⟨b1, b2, b3⟩ := fndD_some h2
      simp only [decide_eq_true_eq] at b1
      simp only [Option.map_some, shO]
      have hj := hd.heb (s := j) (by omega)
      constructor
      · intro h
        by_cases e : k = j
        · subst e; omega
        · by_cases e2 : k < j
          · have := hd.hm (s := k) (t := j) e2 (by omega); omega
          · have := b3 k (by omega) (by omega)
            simp only [decide_eq_false_iff_not] at this
            omega
      · intro h
        by_cases e : k = j
        · subst e; omega
        · by_cases e2 : k < j
          · have := hd.hm (s := k) (t := j) e2 (by omega); omega
          · have := a4 j (by omega) (by omega)
            simp only [decide_eq_false_iff_not] at this
            omega
theorem gal_I (hd : TrOK d) {r c t s u : Nat} (hr : r < d.rd) (hct : dist c t = 1) (hu : u ≤ d.pa) : eI d m r c t s < u + 1 ↔ s < shO (sIL d m r c t u) := by
  have hp := hd.pa9
  have hin := hd.inr hr
  unfold eI sIL sIF sIB
  rw [if_pos hct]
  by_cases c1 : m.sh.testBit (min c t) = true
  · simp only [c1, if_true, shO]; omega
  · simp only [if_neg c1]
    by_cases c2 : d.g c ≠ d.g t ∧ d.pa < max s (d.tr (min c t)) + d.ins r
    · rw [if_pos c2]
      simp only
      by_cases c3 : d.tr (min c t) + d.ins r ≤ min u d.pa
      · rw [if_pos c3]; simp only [shO]; omega
      · rw [if_neg c3]; simp only [shO]; omega
    · rw [if_neg c2]
      simp only
      by_cases c4 : max s (d.tr (min c t)) + d.ins r ≤ 999
      · rw [if_pos c4]
        simp only
        by_cases c3 : d.tr (min c t) + d.ins r ≤ min u d.pa
        · rw [if_pos c3]; simp only [shO]; omega
        · rw [if_neg c3]; simp only [shO]; omega
      · rw [if_neg c4]
        simp only
        by_cases c3 : d.tr (min c t) + d.ins r ≤ min u d.pa
        · rw [if_pos c3]; simp only [shO]; omega
        · rw [if_neg c3]; simp only [shO]; omega
theorem gal_E (hd : TrOK d) {r c t s w u : Nat} (hr : r < d.rd) (hct : c ≠ t) (hu : u ≤ d.pa) (hw : w ≤ u + 1) : eE d m r c t s < w ↔ s < lL d m r c t w := by
  have hp := hd.pa9
  unfold lL
  by_cases h0 : w = 0
  · rw [if_pos h0]; omega
  · rw [if_neg h0, eE_min hd]
    have h1 := gal_O hd (s := s) (u := w - 1) (sOu_pos hd hr hct) (by omega)
    by_cases h2 : dist c t = 1
    · have h3 := gal_I (m := m) hd (s := s) (u := w - 1) hr h2 (by omega)
      rw [if_pos h2]
      omega
    · rw [if_neg h2]
      have h4 : eI d m r c t s = 1000000 := by unfold eI; rw [if_neg h2]
      omega
theorem lL_0 (r c t : Nat) : lL d m r c t 0 = 0 := by unfold lL; rw [if_pos rfl]
theorem lL_le (r c t w : Nat) : lL d m r c t w ≤ w := by
  unfold lL
  by_cases h0 : w = 0
  · rw [if_pos h0]; omega
  · rw [if_neg h0]
    have h1 : shO (sOL d (sOu d r c t) (w - 1)) ≤ w := by
      unfold sOL
      cases h2 : fndD (fun k => decide (d.hb k + sOu d r c t ≤ min (w - 1) (d.he k))) (d.ps + 1) with
      | none => simp only [Option.map_none, shO]; omega
      | some k => simp only [Option.map_some, shO]; omega
    have h2 : shO (sIL d m r c t (w - 1)) ≤ w := by
      unfold sIL
      split
      · simp only [shO]; omega
      · split
        · simp only [shO]; omega
        · simp only [shO]; omega
    split <;> omega
end
