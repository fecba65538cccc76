set_option maxHeartbeats 400000 in
theorem whole_start {p : Program} {e : Env} {s : State} {m : MethodId} {below : List Frame} {meth : Method} {c : Code} (l : Launch) (hflags : l.flags = flags0) {b L : Nat} {xs : Nat → Int32} (hL : L ≤ 3072) (C0 : lw_At p s m meth c b L xs) : W p l e room_1 s m #[Value.ref b] below meth c s.heap [] 0 0 (lw_Z below #[Value.ref b] s) (entryFrame m ([Value.ref b] : List Value).toArray 4) := by
  obtain ⟨hx, hb, hr, hml, hown, hts, hX, hbl, hlocks, hgv⟩ := id C0
  have hT : ∀ w ∈ TG, w.before #[Value.ref b] s = true := fun w hw => hts w (tg_good w hw).1
  obtain ⟨D, hD0⟩ := cl_0 hT
  obtain ⟨a0, x0, y0⟩ := ar_p (hT _ acB)
  obtain ⟨a1, x1, y1⟩ := ar_p (hT _ acI)
  obtain ⟨a2, x2, y2⟩ := ar_p (hT _ acJ)
  obtain ⟨a3, x3, y3⟩ := ar_p (hT _ acZ)
  obtain ⟨a4, x4⟩ := ar_o (C := RX2) (hts _ (lt2 60 (by decide +kernel)))
  obtain ⟨a5, x5⟩ := ar_o (C := RX4) (hts _ (lt2 75 (by decide +kernel)))
  obtain ⟨a6, x6⟩ := ar_o (C := RX10) (hts _ (lt2 52 (by decide +kernel)))
  obtain ⟨aK, aV, hEv⟩ := ev_0 (A := fun q : Nat => s.heap.size ≤ q) hts hgv (fun a h => Nat.not_le.mpr h)
  obtain ⟨cy, hcy⟩ : ∃ cy : Nat → ClassId, cy = (fun k => [a0, a1, a2, a3, a4, a5, a6, 0, 0, 0, aK, aV].getD k 0) := ⟨_, rfl⟩
  have e0 : cy 0 = a0 := by rw [hcy]; rfl
  have e1 : cy 1 = a1 := by rw [hcy]; rfl
  have e2 : cy 2 = a2 := by rw [hcy]; rfl
  have e3 : cy 3 = a3 := by rw [hcy]; rfl
  have e4 : cy 4 = a4 := by rw [hcy]; rfl
  have e5 : cy 5 = a5 := by rw [hcy]; rfl
  have e6 : cy 6 = a6 := by rw [hcy]; rfl
  have e10 : cy 10 = aK := by rw [hcy]; rfl
  have e11 : cy 11 = aV := by rw [hcy]; rfl
  have hK : va_K D vwCl (tys cy) s := ⟨hD0, tb_0 (by rw [e0]; exact ⟨x0, y0⟩) (by rw [e1]; exact ⟨x1, y1⟩) (by rw [e2]; exact ⟨x2, y2⟩) (by rw [e3]; exact ⟨x3, y3⟩) (by rw [e4]; exact x4) (by rw [e5]; exact x5) (by rw [e6]; exact x6)⟩
  have hEv2 : Ev cy (fun q : Nat => s.heap.size ≤ q) s s.heap := by unfold Ev; rw [e10, e11]; exact hEv
  clear hcy e0 e1 e2 e3 e4 e5 e6 e10 e11
  have hC : Cl (p, l, e, room_1, s, m, #[Value.ref b], below, meth, c, (fun q : Nat => s.heap.size ≤ q), lw_Z below #[Value.ref b] s) D cy := cx_0 hx hb hT hown hml hK (fun _ h => h) hEv2
  have hS : Sx (p, l, e, room_1, s, m, #[Value.ref b], below, meth, c, (fun q : Nat => s.heap.size ≤ q), lw_Z below #[Value.ref b] s) b L xs := ⟨hX, hbl, Nat.not_le.mpr hbl⟩
  have hE : Ew s := ew_0 hts
  have key := la_start rr_sim rr_0 hC hE hS hL (hr_0 hx hb hr hlocks)
  have hl := lv_entry ([.ref b]) (n := 4) (Nat.le_of_ble_eq_true rfl)
  rw [lg_entry_eq]
  generalize (lg_sl ([.ref b]) ++ List.replicate (4 - (lg_sl ([.ref b])).length) Slot.unset).toArray = ls at hl ⊢
  exact key s.heap [] ls (fun k q h => by simp at h) ⟨fun i j p q h => by simp at h, fun k q h => by simp at h⟩ va_S.rf hl
