/-! the law's walk may begin -/
theorem cx_0 {p : Program} {l : Launch} {e : Env} {s : State} {m : MethodId} {args : Array Value} {below : List Frame} {meth : Method} {c : Code} {A : Nat → Prop} {Q : State → Prop} {D : va_G} {cy : Nat → ClassId} (hx : p.tables.exec = Jvm.exec) (hb : c.code = code) (hT : ∀ w ∈ TG, w.before args s = true) (hown : s.vm.findClass RL = some m.cls) (hml : c.maxLocals = 4) (hK : va_K D vwCl (tys cy) s) (hA : ∀ q : Nat, s.heap.size ≤ q → A q) (hEv : Ev cy A s s.heap) : Cl (p, l, e, room_1, s, m, args, below, meth, c, A, Q) D cy := by
  intro tab htab
  have hd : ∀ (pc : Nat) (ins : Instr) (len : Nat), (pc, ins, len) ∈ tab → decode c.code pc = .ok (ins, len) := by
    intro pc ins len h
    have h2 := htab (pc, ins, len) h
    rw [hb]
    exact h2
  exact ⟨hx, hd, hT, hown, hml, hK, hA, Nat.le_of_ble_eq_true rfl, Nat.le_of_ble_eq_true rfl, Nat.le_of_ble_eq_true rfl, Nat.le_of_ble_eq_true rfl, hEv⟩
theorem dl_1058 : decode code 1058 = .ok (.ireturn, 1) := by decide +kernel
theorem hr_0 {p : Program} {l : Launch} {e : Env} {s : State} {m : MethodId} {below : List Frame} {meth : Method} {c : Code} {b : Nat} {D : va_G} (hx : p.tables.exec = Jvm.exec) (hb : c.code = code) (hr : meth.sig.returnType = ret) (hlocks : meth.locks = false) : ∀ (kc ks : Nat) (w : va_W) (lv : List (Nat × Value)), kc ≤ 600000 → ks ≤ 7302250 → Wk (p, l, e, room_1, s, m, #[Value.ref b], below, meth, c, (fun q : Nat => s.heap.size ≤ q), lw_Z below #[Value.ref b] s) D 4 kc ks w 1058 lv [.int 1] := by
  intro kc ks w lv hkc hks H locs ls hP hDD hSS hl
  refine va_forget hSS.2.2 ?_
  refine W.widen (k := 600000) (n := 7302250) hkc hks ?_
  exact lw_ret hx hb hr hlocks dl_1058
