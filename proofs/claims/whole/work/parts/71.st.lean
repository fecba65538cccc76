/-! the train and the moment as numbers -/
abbrev Tr : Type := (Nat → Nat) × (Nat → Nat → Nat)
def Tr.n (d : Tr) : Nat := d.1 0
def Tr.st (d : Tr) : Nat := d.1 1
def Tr.rd (d : Tr) : Nat := d.1 2
def Tr.ps (d : Tr) : Nat := d.1 3
def Tr.pl (d : Tr) : Nat := d.1 4
def Tr.g (d : Tr) (c : Nat) : Nat := d.2 0 c
def Tr.se (d : Tr) (c : Nat) : Nat := d.2 1 c
def Tr.tr (d : Tr) (c : Nat) : Nat := d.2 2 c
def Tr.hb (d : Tr) (c : Nat) : Nat := d.2 3 c
def Tr.he (d : Tr) (c : Nat) : Nat := d.2 4 c
def Tr.ds (d : Tr) (c : Nat) : Nat := d.2 5 c
def Tr.pc (d : Tr) (c : Nat) : Nat := d.2 6 c
def Tr.ld (d : Tr) (c : Nat) : Nat := d.2 7 c
def Tr.kn (d : Tr) (c : Nat) : Nat := d.2 8 c
def Tr.tm (d : Tr) (r : Nat) : Nat := if d.ld r < 2 then 1 else 2 * d.ld r - 1
def Tr.pa (d : Tr) : Nat := d.he d.ps
def Tr.ins (d : Tr) (r : Nat) : Nat := d.tm r * d.pc r
abbrev Mo : Type := (Nat → Nat) × (Nat → Nat → Nat) × (Nat → Bool)
def Mo.sec (m : Mo) : Nat := m.1 0
def Mo.sh (m : Mo) : Nat := m.1 1
def Mo.ib (m : Mo) : Nat := m.1 2
def Mo.co (m : Mo) (r : Nat) : Nat := m.2.1 0 r
def Mo.to (m : Mo) (r : Nat) : Nat := m.2.1 1 r
def Mo.en (m : Mo) (r : Nat) : Nat := m.2.1 2 r
def Mo.mv (m : Mo) (r : Nat) : Nat := m.2.1 3 r
def Mo.gq (m : Mo) (r : Nat) : Bool := m.2.2 r
/-- a train that was told -/
def TrOK (d : Tr) : Prop := (2 ≤ d.n ∧ d.n ≤ 8) ∧ (1 ≤ d.st ∧ d.st ≤ 6) ∧ d.rd ≤ 6 ∧ d.ps < d.st ∧ (1 ≤ d.pl ∧ d.pl ≤ 20) ∧ (∀ c, c < d.n → d.g c ≤ 3) ∧ (∀ c, c < d.n → d.se c ≤ 9) ∧ (∀ w, w + 1 < d.n → d.tr w ≤ 999) ∧ (∀ s, s < d.st → 1 ≤ d.hb s ∧ d.hb s < d.he s ∧ d.he s ≤ 159 * (s + 1)) ∧ (∀ s, s + 1 < d.st → d.he s < d.hb (s + 1)) ∧ (∀ r, r < d.rd → d.ds r ≤ 3 ∧ (1 ≤ d.pc r ∧ d.pc r ≤ 20) ∧ d.ld r ≤ 3 ∧ d.kn r ≤ 999)
/-- a train, or none -/
def TrG (d : Tr) : Prop := TrOK d ∨ (d.n = 0 ∧ d.st = 0 ∧ d.rd = 0)
def TrC (d : Tr) (T : Sg) : Prop := (T.1 0 = nI d.n ∧ T.1 1 = nI d.st ∧ T.1 2 = nI d.rd) ∧ (0 < d.n → T.1 3 = nI d.ps ∧ T.1 4 = nI d.pa ∧ T.1 5 = nI d.pl) ∧ (d.n = 0 → T.1 4 = -nI 1) ∧ (∀ c, c < d.n → T.2.1 6 c = nI (d.g c) ∧ T.2.1 7 c = nI (d.se c)) ∧ (∀ w, w + 1 < d.n → T.2.1 8 w = nI (d.tr w)) ∧ (∀ s, s < d.st → T.2.1 9 s = nI (d.hb s) ∧ T.2.1 10 s = nI (d.he s)) ∧ (∀ r, r < d.rd → T.2.1 11 r = nI (d.ds r) ∧ T.2.1 12 r = nI (d.pc r) ∧ T.2.1 13 r = nI (d.ld r) ∧ T.2.1 14 r = nI (d.kn r) ∧ T.2.1 15 r = nI (d.ins r) ∧ T.2.1 16 r = nI (d.tm r * d.pl))
def TrM (d : Tr) (f : Nat → Int32) : Prop := (f 0 = nI d.n ∧ f 1 = nI d.st ∧ f 2 = nI d.rd) ∧ (0 < d.n → f 4 = nI d.ps ∧ f 5 = nI d.pl) ∧ (∀ c, c < d.n → f (10 + c) = nI (d.g c) ∧ f (44 + c) = nI (d.se c)) ∧ (∀ w, w + 1 < d.n → f (37 + w) = nI (d.tr w)) ∧ (∀ s, s < d.st → f (18 + 2 * s) = nI (d.hb s) ∧ f (18 + 2 * s + 1) = nI (d.he s)) ∧ (∀ r, r < d.rd → f (52 + 8 * r + 1) = nI (d.ds r) ∧ f (52 + 8 * r + 2) = nI (d.pc r) ∧ f (52 + 8 * r + 3) = nI (d.ld r) ∧ f (52 + 8 * r + 4) = nI (d.kn r))
def MoOK (d : Tr) (m : Mo) : Prop := m.sec ≤ 999 ∧ m.sh < 128 ∧ m.ib < 64 ∧ (∀ r, r < d.rd → m.co r < d.n) ∧ (∀ r, r < d.rd → m.gq r = true → m.to r < d.n ∧ m.to r ≠ m.co r ∧ m.sec < m.en r ∧ m.en r ≤ 1999)
def MoC (d : Tr) (m : Mo) (O : Sg) : Prop := (O.1 0 = nI m.sec ∧ O.1 1 = nI m.sh) ∧ (∀ r, r < d.rd → O.2.1 2 r = nI (m.co r) ∧ O.2.1 3 r = (if m.gq r then nI (m.to r) else -nI 1) ∧ O.2.1 4 r = (if m.gq r then nI (m.en r) else -nI 1) ∧ O.2.1 5 r = (if m.gq r && m.ib.testBit r then nI (min (m.co r) (m.to r)) else -nI 1) ∧ O.2.1 6 r = nI (m.mv r))
def MoM (d : Tr) (m : Mo) (f : Nat → Int32) : Prop := (f 3 = nI m.sec ∧ f 8 = nI m.ib) ∧ (∀ w, w + 1 < d.n → f (30 + w) = nI (if m.sh.testBit w then 1 else 0)) ∧ (∀ r, r < d.rd → f (52 + 8 * r) = nI (m.co r) ∧ f (52 + 8 * r + 5) = (if m.gq r then nI (m.to r) else -nI 1) ∧ f (52 + 8 * r + 6) = (if m.gq r then nI (m.en r) else -nI 1) ∧ f (52 + 8 * r + 7) = nI (m.mv r))
theorem TrOK.n8 {d : Tr} (h : TrOK d) : 2 ≤ d.n ∧ d.n ≤ 8 := h.1
theorem TrOK.s6 {d : Tr} (h : TrOK d) : 1 ≤ d.st ∧ d.st ≤ 6 := h.2.1
theorem TrOK.r6 {d : Tr} (h : TrOK d) : d.rd ≤ 6 := h.2.2.1
theorem TrOK.pst {d : Tr} (h : TrOK d) : d.ps < d.st := h.2.2.2.1
theorem TrOK.plt {d : Tr} (h : TrOK d) : 1 ≤ d.pl ∧ d.pl ≤ 20 := h.2.2.2.2.1
theorem TrOK.g3 {d : Tr} (h : TrOK d) : ∀ c, c < d.n → d.g c ≤ 3 := h.2.2.2.2.2.1
theorem TrOK.se9 {d : Tr} (h : TrOK d) : ∀ c, c < d.n → d.se c ≤ 9 := h.2.2.2.2.2.2.1
theorem TrOK.tr9 {d : Tr} (h : TrOK d) : ∀ w, w + 1 < d.n → d.tr w ≤ 999 := h.2.2.2.2.2.2.2.1
theorem TrOK.hh {d : Tr} (h : TrOK d) : ∀ s, s < d.st → 1 ≤ d.hb s ∧ d.hb s < d.he s ∧ d.he s ≤ 159 * (s + 1) := h.2.2.2.2.2.2.2.2.1
theorem TrOK.hr {d : Tr} (h : TrOK d) : ∀ s, s + 1 < d.st → d.he s < d.hb (s + 1) := h.2.2.2.2.2.2.2.2.2.1
theorem TrOK.rr {d : Tr} (h : TrOK d) : ∀ r, r < d.rd → d.ds r ≤ 3 ∧ (1 ≤ d.pc r ∧ d.pc r ≤ 20) ∧ d.ld r ≤ 3 ∧ d.kn r ≤ 999 := h.2.2.2.2.2.2.2.2.2.2
theorem TrOK.tmr {d : Tr} (h : TrOK d) {r : Nat} (hr : r < d.rd) : 1 ≤ d.tm r ∧ d.tm r ≤ 5 := by
  obtain ⟨-, -, h1, -⟩ := h.rr r hr
  unfold Tr.tm
  split <;> omega
theorem TrOK.inr {d : Tr} (h : TrOK d) {r : Nat} (hr : r < d.rd) : 1 ≤ d.ins r ∧ d.ins r ≤ 100 := by
  obtain ⟨-, ⟨h2, h3⟩, -, -⟩ := h.rr r hr
  obtain ⟨h4, h5⟩ := h.tmr hr
  unfold Tr.ins
  exact ⟨Nat.mul_pos h4 h2, Nat.mul_le_mul h5 h3⟩
theorem TrOK.our {d : Tr} (h : TrOK d) {r : Nat} (hr : r < d.rd) : 1 ≤ d.tm r * d.pl ∧ d.tm r * d.pl ≤ 100 := by
  obtain ⟨h4, h5⟩ := h.tmr hr
  exact ⟨Nat.mul_pos h4 h.plt.1, Nat.mul_le_mul h5 h.plt.2⟩
theorem TrOK.hm {d : Tr} (h : TrOK d) {s t : Nat} (hst : s < t) (ht : t < d.st) : d.he s < d.hb t := by
  induction t with
  | zero => omega
  | succ t ih =>
    by_cases he : s = t
    · subst he; exact h.hr _ ht
    · have h1 := ih (by omega) (by omega)
      have h2 := (h.hh t (by omega)).2.1
      have h3 := h.hr t ht
      omega
theorem TrOK.pa9 {d : Tr} (h : TrOK d) : 2 ≤ d.pa ∧ d.pa ≤ 954 := by
  have h1 := h.hh d.ps h.pst
  have h2 := h.pst
  have h3 := h.s6
  unfold Tr.pa
  omega
theorem TrOK.heb {d : Tr} (h : TrOK d) {s : Nat} (hs : s ≤ d.ps) : 1 ≤ d.hb s ∧ d.hb s < d.he s ∧ d.he s ≤ d.pa ∧ d.he s ≤ 954 := by
  have h0 := h.pst
  have h9 := h.pa9
  have h1 := h.hh s (by omega)
  by_cases he : s = d.ps
  · subst he; unfold Tr.pa at h9 ⊢; omega
  · have h2 := h.hm (s := s) (t := d.ps) (by omega) h0
    have h3 := h.hh d.ps h0
    unfold Tr.pa at h9 ⊢
    omega
