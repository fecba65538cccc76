def tX0_init : List (Nat × Instr × Nat) := [(0, .aload_n 0, 1), (1, .invokespecial 3, 3), (4, .aload_n 0, 1), (5, .bipush 20, 2), (7, .anewarray 9, 3), (10, .putfield 11, 3), (13, .iconst 0, 1), (14, .istore_n 1, 1), (15, .iload_n 1, 1), (16, .bipush 20, 2), (18, .if_icmp .ge 22, 3), (21, .aload_n 0, 1), (22, .getfield 11, 3), (25, .iload_n 1, 1), (26, .new 9, 3), (29, .dup, 1), (30, .invokespecial 17, 3), (33, .aastore, 1), (34, .iinc 1 1, 3), (37, .goto (-22), 3), (40, .return_, 1)]
set_option maxRecDepth 20000 in
theorem hX0_init : ∀ q ∈ tX0_init, decode cX0_init q.1 = .ok (q.2.1, q.2.2) := by decide +kernel
def tX1_init : List (Nat × Instr × Nat) := [(0, .aload_n 0, 1), (1, .invokespecial 3, 3), (4, .aload_n 0, 1), (5, .aload_n 1, 1), (6, .putfield 9, 3), (9, .aload_n 0, 1), (10, .aload_n 2, 1), (11, .putfield 15, 3), (14, .return_, 1)]
set_option maxRecDepth 20000 in
theorem hX1_init : ∀ q ∈ tX1_init, decode cX1_init q.1 = .ok (q.2.1, q.2.2) := by decide +kernel
def tX2_init : List (Nat × Instr × Nat) := [(0, .aload_n 0, 1), (1, .invokespecial 3, 3), (4, .aload_n 0, 1), (5, .bipush 6, 2), (7, .newarray .int, 2), (9, .putfield 9, 3), (12, .aload_n 0, 1), (13, .bipush 6, 2), (15, .newarray .int, 2), (17, .putfield 15, 3), (20, .aload_n 0, 1), (21, .bipush 6, 2), (23, .newarray .int, 2), (25, .putfield 18, 3), (28, .aload_n 0, 1), (29, .bipush 6, 2), (31, .newarray .int, 2), (33, .putfield 21, 3), (36, .aload_n 0, 1), (37, .bipush 6, 2), (39, .newarray .int, 2), (41, .putfield 24, 3), (44, .return_, 1)]
set_option maxRecDepth 20000 in
theorem hX2_init : ∀ q ∈ tX2_init, decode cX2_init q.1 = .ok (q.2.1, q.2.2) := by decide +kernel
def tX3_init : List (Nat × Instr × Nat) := [(0, .aload_n 0, 1), (1, .invokespecial 3, 3), (4, .aload_n 0, 1), (5, .sipush 128, 3), (8, .newarray .long, 2), (10, .putfield 11, 3), (13, .aload_n 0, 1), (14, .aload_n 1, 1), (15, .putfield 15, 3), (18, .return_, 1)]
set_option maxRecDepth 20000 in
theorem hX3_init : ∀ q ∈ tX3_init, decode cX3_init q.1 = .ok (q.2.1, q.2.2) := by decide +kernel
def tX4_init : List (Nat × Instr × Nat) := [(0, .aload_n 0, 1), (1, .invokespecial 1, 3), (4, .aload_n 0, 1), (5, .aload_n 1, 1), (6, .getfield 7, 3), (9, .aload_n 1, 1), (10, .getfield 13, 3), (13, .invokestatic 17, 3), (16, .putfield 23, 3), (19, .aload_n 0, 1), (20, .aload_n 1, 1), (21, .getfield 26, 3), (24, .aload_n 1, 1), (25, .getfield 29, 3), (28, .invokestatic 17, 3), (31, .putfield 32, 3), (34, .aload_n 0, 1), (35, .aload_n 1, 1), (36, .getfield 33, 3), (39, .aload_n 1, 1), (40, .getfield 29, 3), (43, .invokestatic 17, 3), (46, .putfield 36, 3), (49, .aload_n 0, 1), (50, .aload_n 1, 1), (51, .getfield 37, 3), (54, .aload_n 1, 1), (55, .getfield 29, 3), (58, .invokestatic 17, 3), (61, .putfield 40, 3), (64, .return_, 1)]
set_option maxRecDepth 20000 in
theorem hX4_init : ∀ q ∈ tX4_init, decode cX4_init q.1 = .ok (q.2.1, q.2.2) := by decide +kernel
def tX5_init : List (Nat × Instr × Nat) := [(0, .aload_n 0, 1), (1, .invokespecial 3, 3), (4, .aload_n 0, 1), (5, .sipush 400, 3), (8, .newarray .int, 2), (10, .putfield 9, 3), (13, .aload_n 0, 1), (14, .bipush 12, 2), (16, .newarray .int, 2), (18, .putfield 15, 3), (21, .aload_n 0, 1), (22, .bipush 12, 2), (24, .newarray .int, 2), (26, .putfield 18, 3), (29, .aload_n 0, 1), (30, .bipush 12, 2), (32, .newarray .int, 2), (34, .putfield 21, 3), (37, .aload_n 0, 1), (38, .aload_n 1, 1), (39, .putfield 24, 3), (42, .return_, 1)]
set_option maxRecDepth 20000 in
theorem hX5_init : ∀ q ∈ tX5_init, decode cX5_init q.1 = .ok (q.2.1, q.2.2) := by decide +kernel
def tX6_init : List (Nat × Instr × Nat) := [(0, .aload_n 0, 1), (1, .invokespecial 3, 3), (4, .aload_n 0, 1), (5, .bipush 8, 2), (7, .newarray .int, 2), (9, .putfield 9, 3), (12, .aload_n 0, 1), (13, .bipush 8, 2), (15, .newarray .int, 2), (17, .putfield 15, 3), (20, .aload_n 0, 1), (21, .bipush 8, 2), (23, .newarray .int, 2), (25, .putfield 18, 3), (28, .aload_n 0, 1), (29, .bipush 8, 2), (31, .newarray .int, 2), (33, .putfield 21, 3), (36, .aload_n 0, 1), (37, .bipush 8, 2), (39, .newarray .int, 2), (41, .putfield 24, 3), (44, .aload_n 0, 1), (45, .bipush 8, 2), (47, .newarray .int, 2), (49, .putfield 27, 3), (52, .aload_n 0, 1), (53, .bipush 8, 2), (55, .newarray .int, 2), (57, .putfield 30, 3), (60, .aload_n 0, 1), (61, .aload_n 1, 1), (62, .putfield 33, 3), (65, .return_, 1)]
set_option maxRecDepth 20000 in
theorem hX6_init : ∀ q ∈ tX6_init, decode cX6_init q.1 = .ok (q.2.1, q.2.2) := by decide +kernel
def tX7_init : List (Nat × Instr × Nat) := [(0, .aload_n 0, 1), (1, .invokespecial 3, 3), (4, .aload_n 0, 1), (5, .bipush 12, 2), (7, .newarray .int, 2), (9, .putfield 9, 3), (12, .aload_n 0, 1), (13, .bipush 12, 2), (15, .newarray .int, 2), (17, .putfield 15, 3), (20, .aload_n 0, 1), (21, .bipush 12, 2), (23, .newarray .int, 2), (25, .putfield 18, 3), (28, .return_, 1)]
set_option maxRecDepth 20000 in
theorem hX7_init : ∀ q ∈ tX7_init, decode cX7_init q.1 = .ok (q.2.1, q.2.2) := by decide +kernel
def tX8_init : List (Nat × Instr × Nat) := [(0, .aload_n 0, 1), (1, .invokespecial 3, 3), (4, .aload_n 0, 1), (5, .sipush 400, 3), (8, .newarray .byte, 2), (10, .putfield 9, 3), (13, .aload_n 0, 1), (14, .sipush 401, 3), (17, .newarray .int, 2), (19, .putfield 15, 3), (22, .aload_n 0, 1), (23, .sipush 401, 3), (26, .newarray .int, 2), (28, .putfield 19, 3), (31, .aload_n 0, 1), (32, .sipush 401, 3), (35, .newarray .int, 2), (37, .putfield 22, 3), (40, .return_, 1)]
set_option maxRecDepth 20000 in
theorem hX8_init : ∀ q ∈ tX8_init, decode cX8_init q.1 = .ok (q.2.1, q.2.2) := by decide +kernel
def tX9_init : List (Nat × Instr × Nat) := [(0, .aload_n 0, 1), (1, .invokespecial 3, 3), (4, .aload_n 0, 1), (5, .bipush 8, 2), (7, .newarray .int, 2), (9, .putfield 9, 3), (12, .aload_n 0, 1), (13, .bipush 8, 2), (15, .newarray .int, 2), (17, .putfield 15, 3), (20, .aload_n 0, 1), (21, .bipush 8, 2), (23, .newarray .int, 2), (25, .putfield 18, 3), (28, .aload_n 0, 1), (29, .bipush 6, 2), (31, .newarray .int, 2), (33, .putfield 21, 3), (36, .aload_n 0, 1), (37, .bipush 6, 2), (39, .newarray .int, 2), (41, .putfield 24, 3), (44, .aload_n 0, 1), (45, .bipush 6, 2), (47, .newarray .int, 2), (49, .putfield 27, 3), (52, .aload_n 0, 1), (53, .bipush 6, 2), (55, .newarray .int, 2), (57, .putfield 30, 3), (60, .aload_n 0, 1), (61, .bipush 6, 2), (63, .newarray .int, 2), (65, .putfield 33, 3), (68, .aload_n 0, 1), (69, .bipush 6, 2), (71, .newarray .int, 2), (73, .putfield 36, 3), (76, .aload_n 0, 1), (77, .bipush 6, 2), (79, .newarray .int, 2), (81, .putfield 39, 3), (84, .aload_n 0, 1), (85, .bipush 6, 2), (87, .newarray .int, 2), (89, .putfield 42, 3), (92, .return_, 1)]
set_option maxRecDepth 20000 in
theorem hX9_init : ∀ q ∈ tX9_init, decode cX9_init q.1 = .ok (q.2.1, q.2.2) := by decide +kernel
def tX10_init : List (Nat × Instr × Nat) := [(0, .aload_n 0, 1), (1, .invokespecial 3, 3), (4, .aload_n 0, 1), (5, .new 9, 3), (8, .dup, 1), (9, .invokespecial 11, 3), (12, .putfield 12, 3), (15, .aload_n 0, 1), (16, .new 18, 3), (19, .dup, 1), (20, .invokespecial 20, 3), (23, .putfield 21, 3), (26, .aload_n 0, 1), (27, .new 25, 3), (30, .dup, 1), (31, .invokespecial 27, 3), (34, .putfield 28, 3), (37, .aload_n 0, 1), (38, .invokevirtual 32, 3), (41, .return_, 1)]
set_option maxRecDepth 20000 in
theorem hX10_init : ∀ q ∈ tX10_init, decode cX10_init q.1 = .ok (q.2.1, q.2.2) := by decide +kernel
def tX11_init : List (Nat × Instr × Nat) := [(0, .aload_n 0, 1), (1, .invokespecial 3, 3), (4, .aload_n 0, 1), (5, .new 9, 3), (8, .dup, 1), (9, .invokespecial 11, 3), (12, .putfield 12, 3), (15, .aload_n 0, 1), (16, .new 16, 3), (19, .dup, 1), (20, .invokespecial 18, 3), (23, .putfield 19, 3), (26, .aload_n 0, 1), (27, .new 16, 3), (30, .dup, 1), (31, .invokespecial 18, 3), (34, .putfield 23, 3), (37, .aload_n 0, 1), (38, .iconst 4, 1), (39, .anewarray 16, 3), (42, .putfield 26, 3), (45, .iconst 0, 1), (46, .istore_n 1, 1), (47, .iload_n 1, 1), (48, .iconst 4, 1), (49, .if_icmp .ge 22, 3), (52, .aload_n 0, 1), (53, .getfield 26, 3), (56, .iload_n 1, 1), (57, .new 16, 3), (60, .dup, 1), (61, .invokespecial 18, 3), (64, .aastore, 1), (65, .iinc 1 1, 3), (68, .goto (-21), 3), (71, .aload_n 0, 1), (72, .iconst 4, 1), (73, .newarray .boolean, 2), (75, .putfield 30, 3), (78, .aload_n 0, 1), (79, .new 34, 3), (82, .dup, 1), (83, .invokespecial 36, 3), (86, .putfield 37, 3), (89, .aload_n 0, 1), (90, .bipush 6, 2), (92, .anewarray 41, 3), (95, .putfield 43, 3), (98, .aload_n 0, 1), (99, .iconst 0, 1), (100, .putfield 47, 3), (103, .aload_n 0, 1), (104, .new 51, 3), (107, .dup, 1), (108, .aload_n 0, 1), (109, .getfield 12, 3), (112, .aload_n 0, 1), (113, .getfield 23, 3), (116, .invokespecial 53, 3), (119, .putfield 56, 3), (122, .aload_n 0, 1), (123, .new 60, 3), (126, .dup, 1), (127, .aload_n 0, 1), (128, .getfield 12, 3), (131, .invokespecial 62, 3), (134, .putfield 65, 3), (137, .aload_n 0, 1), (138, .new 69, 3), (141, .dup, 1), (142, .aload_n 0, 1), (143, .getfield 19, 3), (146, .invokespecial 71, 3), (149, .putfield 74, 3), (152, .aload_n 0, 1), (153, .new 78, 3), (156, .dup, 1), (157, .aload_n 0, 1), (158, .getfield 19, 3), (161, .invokespecial 80, 3), (164, .putfield 81, 3), (167, .return_, 1)]
set_option maxRecDepth 20000 in
theorem hX11_init : ∀ q ∈ tX11_init, decode cX11_init q.1 = .ok (q.2.1, q.2.2) := by decide +kernel
theorem miX2_init : MWi yX2_init cX2_init 1 0 := ⟨(tg1 186 (by decide +kernel) (by decide +kernel)), (tg1 5 (by decide +kernel) (by decide +kernel)), (tg1 187 (by decide +kernel) (by decide +kernel)), rfl, by decide, by decide, by decide +kernel⟩
theorem miX9_init : MWi yX9_init cX9_init 1 0 := ⟨(tg1 76 (by decide +kernel) (by decide +kernel)), (tg1 4 (by decide +kernel) (by decide +kernel)), (tg1 77 (by decide +kernel) (by decide +kernel)), rfl, by decide, by decide, by decide +kernel⟩
theorem miX7_init : MWi yX7_init cX7_init 1 0 := ⟨(tg1 232 (by decide +kernel) (by decide +kernel)), (tg1 6 (by decide +kernel) (by decide +kernel)), (tg1 233 (by decide +kernel) (by decide +kernel)), rfl, by decide, by decide, by decide +kernel⟩
theorem miX8_init : MWi yX8_init cX8_init 1 0 := ⟨(tg1 33 (by decide +kernel) (by decide +kernel)), (tg1 2 (by decide +kernel) (by decide +kernel)), (tg1 34 (by decide +kernel) (by decide +kernel)), rfl, by decide, by decide, by decide +kernel⟩
theorem miX12_init : MWi yX12_init cX12_init 1 0 := ⟨(tg5 210 (by decide +kernel) (by decide +kernel)), (tg1 13 (by decide +kernel) (by decide +kernel)), (tg5 211 (by decide +kernel) (by decide +kernel)), rfl, by decide, by decide, by decide +kernel⟩
theorem miX5_init : MWi yX5_init cX5_init 2 1 := ⟨(tg2 95 (by decide +kernel) (by decide +kernel)), (tg1 10 (by decide +kernel) (by decide +kernel)), (tg2 96 (by decide +kernel) (by decide +kernel)), rfl, by decide, by decide, by decide +kernel⟩
theorem miX6_init : MWi yX6_init cX6_init 2 1 := ⟨(tg2 149 (by decide +kernel) (by decide +kernel)), (tg1 12 (by decide +kernel) (by decide +kernel)), (tg2 150 (by decide +kernel) (by decide +kernel)), rfl, by decide, by decide, by decide +kernel⟩
theorem miX3_init : MWi yX3_init cX3_init 2 1 := ⟨(tg2 132 (by decide +kernel) (by decide +kernel)), (tg1 11 (by decide +kernel) (by decide +kernel)), (tg2 133 (by decide +kernel) (by decide +kernel)), rfl, by decide, by decide, by decide +kernel⟩
theorem miX1_init : MWi yX1_init cX1_init 3 2 := ⟨(tg2 79 (by decide +kernel) (by decide +kernel)), (tg1 9 (by decide +kernel) (by decide +kernel)), (tg2 80 (by decide +kernel) (by decide +kernel)), rfl, by decide, by decide, by decide +kernel⟩
theorem miX10_init : MWi yX10_init cX10_init 1 0 := ⟨(tg1 70 (by decide +kernel) (by decide +kernel)), (tg1 3 (by decide +kernel) (by decide +kernel)), (tg1 71 (by decide +kernel) (by decide +kernel)), rfl, by decide, by decide, by decide +kernel⟩
theorem miX0_init : MWi yX0_init cX0_init 2 0 := ⟨(tg2 56 (by decide +kernel) (by decide +kernel)), (tg1 8 (by decide +kernel) (by decide +kernel)), (tg2 57 (by decide +kernel) (by decide +kernel)), rfl, by decide, by decide, by decide +kernel⟩
theorem miX11_init : MWi yX11_init cX11_init 2 0 := ⟨(tg1 25 (by decide +kernel) (by decide +kernel)), (tg1 1 (by decide +kernel) (by decide +kernel)), (tg1 26 (by decide +kernel) (by decide +kernel)), rfl, by decide, by decide, by decide +kernel⟩
theorem miX4_init : MWi yX4_init cX4_init 2 1 := ⟨(tg3 226 (by decide +kernel) (by decide +kernel)), (tg1 19 (by decide +kernel) (by decide +kernel)), (tg3 227 (by decide +kernel) (by decide +kernel)), rfl, by decide, by decide, by decide +kernel⟩
theorem qX1_3 : Cond.methodLink RX1 3 ⟨"java/lang/Object", "<init>", "()V"⟩ ∈ TG := tg2 81 (by decide +kernel) (by decide +kernel)
theorem qX10_3 : Cond.methodLink RX10 3 ⟨"java/lang/Object", "<init>", "()V"⟩ ∈ TG := tg1 72 (by decide +kernel) (by decide +kernel)
theorem qX10_9 : Cond.classLink RX10 9 "FrontFour$Train" ∈ TG := tg1 73 (by decide +kernel) (by decide +kernel)
theorem qX10_18 : Cond.classLink RX10 18 "FrontFour$Moment" ∈ TG := tg1 183 (by decide +kernel) (by decide +kernel)
theorem qX10_25 : Cond.classLink RX10 25 "FrontFour$Sightings" ∈ TG := tg1 229 (by decide +kernel) (by decide +kernel)
theorem qX10_32 : Cond.methodLink RX10 32 yX10_clear ∈ TG := tg2 13 (by decide +kernel) (by decide +kernel)
theorem qX12_1 : Cond.methodLink RX12 1 ⟨"java/lang/Object", "<init>", "()V"⟩ ∈ TG := tg5 212 (by decide +kernel) (by decide +kernel)
theorem qX2_3 : Cond.methodLink RX2 3 ⟨"java/lang/Object", "<init>", "()V"⟩ ∈ TG := tg1 188 (by decide +kernel) (by decide +kernel)
theorem qX3_3 : Cond.methodLink RX3 3 ⟨"java/lang/Object", "<init>", "()V"⟩ ∈ TG := tg2 134 (by decide +kernel) (by decide +kernel)
theorem qX5_3 : Cond.methodLink RX5 3 ⟨"java/lang/Object", "<init>", "()V"⟩ ∈ TG := tg2 97 (by decide +kernel) (by decide +kernel)
theorem qX6_3 : Cond.methodLink RX6 3 ⟨"java/lang/Object", "<init>", "()V"⟩ ∈ TG := tg2 151 (by decide +kernel) (by decide +kernel)
theorem qX7_3 : Cond.methodLink RX7 3 ⟨"java/lang/Object", "<init>", "()V"⟩ ∈ TG := tg1 234 (by decide +kernel) (by decide +kernel)
theorem qX8_3 : Cond.methodLink RX8 3 ⟨"java/lang/Object", "<init>", "()V"⟩ ∈ TG := tg1 35 (by decide +kernel) (by decide +kernel)
theorem qX9_3 : Cond.methodLink RX9 3 ⟨"java/lang/Object", "<init>", "()V"⟩ ∈ TG := tg1 78 (by decide +kernel) (by decide +kernel)
def ad0 (a : Nat) (ad : Nat → Nat) : Nat → Nat := fun i => if i = 0 then a else ad i
def adl (l : List Nat) : Nat → Nat := fun i => l.getD i 0
theorem clear_z : f_X10_clear z0 z0 = some (Tc0, Oc0) := rfl
set_option maxHeartbeats 1000000 in
theorem e_X2 (l : Launch) (D : va_G) (cy : Nat → ClassId) (a : Nat) : Ce l D cy yX2_init cX2_init 1 1 30 5 30 [.ref a] [(a, .inr (2, [.int 0, .int 0, .null, .null, .null, .null, .null]))] (fun ad => wO cy (ad0 a ad) z0) := by
  refine Ce_of tX2_init hX2_init (by decide) rfl (Nat.le_of_ble_eq_true rfl) ?_
  intro Z hZ C hE hI hR
  subst hZ
  replace C : Cx Z D cy RX2 tX2_init 1 1 30 5 30 := C
  show Wk Z D 1 0 0 [(a, .inr (2, [.int 0, .int 0, .null, .null, .null, .null, .null]))] 0 [(0, .ref a)] []
  refine k_aload_0 C 0 rfl 0 rfl ?_
  refine k_obj C 1 rfl qX2_3 obw (by decide) (by decide) (Nat.le_of_ble_eq_true rfl) ?_
  refine k_aload_0 C 2 rfl 0 rfl ?_
  refine k_bipush C 3 rfl cb_6 ?_
  refine k_newI C 4 6 rfl acI (by decide) (by decide) (by decide) ⟨by decide, by decide⟩ (fun q7 => ?_)
  refine kf2_2 (w2 := [(a, .inr (2, [.int 0, .int 0, .ref q7, .null, .null, .null, .null])), (q7, .inl (cy 1, 6, .inl (fun _ => 0)))]) C hI 5 rfl qX2_9 0 (a := a) (fs := _) rfl rfl rfl ?_
  refine k_aload_0 C 6 rfl 0 rfl ?_
  refine k_bipush C 7 rfl cb_6 ?_
  refine k_newI C 8 6 rfl acI (by decide) (by decide) (by decide) ⟨by decide, by decide⟩ (fun q15 => ?_)
  refine kf2_3 (w2 := [(a, .inr (2, [.int 0, .int 0, .ref q7, .ref q15, .null, .null, .null])), (q7, .inl (cy 1, 6, .inl (fun _ => 0))), (q15, .inl (cy 1, 6, .inl (fun _ => 0)))]) C hI 9 rfl qX2_15 0 (a := a) (fs := _) rfl rfl rfl ?_
  refine k_aload_0 C 10 rfl 0 rfl ?_
  refine k_bipush C 11 rfl cb_6 ?_
  refine k_newI C 12 6 rfl acI (by decide) (by decide) (by decide) ⟨by decide, by decide⟩ (fun q23 => ?_)
  refine kf2_4 (w2 := [(a, .inr (2, [.int 0, .int 0, .ref q7, .ref q15, .ref q23, .null, .null])), (q7, .inl (cy 1, 6, .inl (fun _ => 0))), (q15, .inl (cy 1, 6, .inl (fun _ => 0))), (q23, .inl (cy 1, 6, .inl (fun _ => 0)))]) C hI 13 rfl qX2_18 0 (a := a) (fs := _) rfl rfl rfl ?_
  refine k_aload_0 C 14 rfl 0 rfl ?_
  refine k_bipush C 15 rfl cb_6 ?_
  refine k_newI C 16 6 rfl acI (by decide) (by decide) (by decide) ⟨by decide, by decide⟩ (fun q31 => ?_)
  refine kf2_5 (w2 := [(a, .inr (2, [.int 0, .int 0, .ref q7, .ref q15, .ref q23, .ref q31, .null])), (q7, .inl (cy 1, 6, .inl (fun _ => 0))), (q15, .inl (cy 1, 6, .inl (fun _ => 0))), (q23, .inl (cy 1, 6, .inl (fun _ => 0))), (q31, .inl (cy 1, 6, .inl (fun _ => 0)))]) C hI 17 rfl qX2_21 0 (a := a) (fs := _) rfl rfl rfl ?_
  refine k_aload_0 C 18 rfl 0 rfl ?_
  refine k_bipush C 19 rfl cb_6 ?_
  refine k_newI C 20 6 rfl acI (by decide) (by decide) (by decide) ⟨by decide, by decide⟩ (fun q39 => ?_)
  refine kf2_6 (w2 := [(a, .inr (2, [.int 0, .int 0, .ref q7, .ref q15, .ref q23, .ref q31, .ref q39])), (q7, .inl (cy 1, 6, .inl (fun _ => 0))), (q15, .inl (cy 1, 6, .inl (fun _ => 0))), (q23, .inl (cy 1, 6, .inl (fun _ => 0))), (q31, .inl (cy 1, 6, .inl (fun _ => 0))), (q39, .inl (cy 1, 6, .inl (fun _ => 0)))]) C hI 21 rfl qX2_24 0 (a := a) (fs := _) rfl rfl rfl ?_
  exact hR 22 44 _ (adl [0, q7, q15, q23, q31, q39]) rfl
set_option maxHeartbeats 1000000 in
theorem e_X9 (l : Launch) (D : va_G) (cy : Nat → ClassId) (a : Nat) : Ce l D cy yX9_init cX9_init 1 1 30 11 72 [.ref a] [(a, .inr (9, [.int 0, .int 0, .int 0, .int 0, .int 0, .int 0, .null, .null, .null, .null, .null, .null, .null, .null, .null, .null, .null]))] (fun ad => wT cy (ad0 a ad) z0) := by
  refine Ce_of tX9_init hX9_init (by decide) rfl (Nat.le_of_ble_eq_true rfl) ?_
  intro Z hZ C hE hI hR
  subst hZ
  replace C : Cx Z D cy RX9 tX9_init 1 1 30 11 72 := C
  show Wk Z D 1 0 0 [(a, .inr (9, [.int 0, .int 0, .int 0, .int 0, .int 0, .int 0, .null, .null, .null, .null, .null, .null, .null, .null, .null, .null, .null]))] 0 [(0, .ref a)] []
  refine k_aload_0 C 0 rfl 0 rfl ?_
  refine k_obj C 1 rfl qX9_3 obw (by decide) (by decide) (Nat.le_of_ble_eq_true rfl) ?_
  refine k_aload_0 C 2 rfl 0 rfl ?_
  refine k_bipush C 3 rfl cb_8 ?_
  refine k_newI C 4 8 rfl acI (by decide) (by decide) (by decide) ⟨by decide, by decide⟩ (fun q7 => ?_)
  refine kf9_6 (w2 := [(a, .inr (9, [.int 0, .int 0, .int 0, .int 0, .int 0, .int 0, .ref q7, .null, .null, .null, .null, .null, .null, .null, .null, .null, .null])), (q7, .inl (cy 1, 8, .inl (fun _ => 0)))]) C hI 5 rfl qX9_9 0 (a := a) (fs := _) rfl rfl rfl ?_
  refine k_aload_0 C 6 rfl 0 rfl ?_
  refine k_bipush C 7 rfl cb_8 ?_
  refine k_newI C 8 8 rfl acI (by decide) (by decide) (by decide) ⟨by decide, by decide⟩ (fun q15 => ?_)
  refine kf9_7 (w2 := [(a, .inr (9, [.int 0, .int 0, .int 0, .int 0, .int 0, .int 0, .ref q7, .ref q15, .null, .null, .null, .null, .null, .null, .null, .null, .null])), (q7, .inl (cy 1, 8, .inl (fun _ => 0))), (q15, .inl (cy 1, 8, .inl (fun _ => 0)))]) C hI 9 rfl qX9_15 0 (a := a) (fs := _) rfl rfl rfl ?_
  refine k_aload_0 C 10 rfl 0 rfl ?_
  refine k_bipush C 11 rfl cb_8 ?_
  refine k_newI C 12 8 rfl acI (by decide) (by decide) (by decide) ⟨by decide, by decide⟩ (fun q23 => ?_)
  refine kf9_8 (w2 := [(a, .inr (9, [.int 0, .int 0, .int 0, .int 0, .int 0, .int 0, .ref q7, .ref q15, .ref q23, .null, .null, .null, .null, .null, .null, .null, .null])), (q7, .inl (cy 1, 8, .inl (fun _ => 0))), (q15, .inl (cy 1, 8, .inl (fun _ => 0))), (q23, .inl (cy 1, 8, .inl (fun _ => 0)))]) C hI 13 rfl qX9_18 0 (a := a) (fs := _) rfl rfl rfl ?_
  refine k_aload_0 C 14 rfl 0 rfl ?_
  refine k_bipush C 15 rfl cb_6 ?_
  refine k_newI C 16 6 rfl acI (by decide) (by decide) (by decide) ⟨by decide, by decide⟩ (fun q31 => ?_)
  refine kf9_9 (w2 := [(a, .inr (9, [.int 0, .int 0, .int 0, .int 0, .int 0, .int 0, .ref q7, .ref q15, .ref q23, .ref q31, .null, .null, .null, .null, .null, .null, .null])), (q7, .inl (cy 1, 8, .inl (fun _ => 0))), (q15, .inl (cy 1, 8, .inl (fun _ => 0))), (q23, .inl (cy 1, 8, .inl (fun _ => 0))), (q31, .inl (cy 1, 6, .inl (fun _ => 0)))]) C hI 17 rfl qX9_21 0 (a := a) (fs := _) rfl rfl rfl ?_
  refine k_aload_0 C 18 rfl 0 rfl ?_
  refine k_bipush C 19 rfl cb_6 ?_
  refine k_newI C 20 6 rfl acI (by decide) (by decide) (by decide) ⟨by decide, by decide⟩ (fun q39 => ?_)
  refine kf9_10 (w2 := [(a, .inr (9, [.int 0, .int 0, .int 0, .int 0, .int 0, .int 0, .ref q7, .ref q15, .ref q23, .ref q31, .ref q39, .null, .null, .null, .null, .null, .null])), (q7, .inl (cy 1, 8, .inl (fun _ => 0))), (q15, .inl (cy 1, 8, .inl (fun _ => 0))), (q23, .inl (cy 1, 8, .inl (fun _ => 0))), (q31, .inl (cy 1, 6, .inl (fun _ => 0))), (q39, .inl (cy 1, 6, .inl (fun _ => 0)))]) C hI 21 rfl qX9_24 0 (a := a) (fs := _) rfl rfl rfl ?_
  refine k_aload_0 C 22 rfl 0 rfl ?_
  refine k_bipush C 23 rfl cb_6 ?_
  refine k_newI C 24 6 rfl acI (by decide) (by decide) (by decide) ⟨by decide, by decide⟩ (fun q47 => ?_)
  refine kf9_11 (w2 := [(a, .inr (9, [.int 0, .int 0, .int 0, .int 0, .int 0, .int 0, .ref q7, .ref q15, .ref q23, .ref q31, .ref q39, .ref q47, .null, .null, .null, .null, .null])), (q7, .inl (cy 1, 8, .inl (fun _ => 0))), (q15, .inl (cy 1, 8, .inl (fun _ => 0))), (q23, .inl (cy 1, 8, .inl (fun _ => 0))), (q31, .inl (cy 1, 6, .inl (fun _ => 0))), (q39, .inl (cy 1, 6, .inl (fun _ => 0))), (q47, .inl (cy 1, 6, .inl (fun _ => 0)))]) C hI 25 rfl qX9_27 0 (a := a) (fs := _) rfl rfl rfl ?_
  refine k_aload_0 C 26 rfl 0 rfl ?_
  refine k_bipush C 27 rfl cb_6 ?_
  refine k_newI C 28 6 rfl acI (by decide) (by decide) (by decide) ⟨by decide, by decide⟩ (fun q55 => ?_)
  refine kf9_12 (w2 := [(a, .inr (9, [.int 0, .int 0, .int 0, .int 0, .int 0, .int 0, .ref q7, .ref q15, .ref q23, .ref q31, .ref q39, .ref q47, .ref q55, .null, .null, .null, .null])), (q7, .inl (cy 1, 8, .inl (fun _ => 0))), (q15, .inl (cy 1, 8, .inl (fun _ => 0))), (q23, .inl (cy 1, 8, .inl (fun _ => 0))), (q31, .inl (cy 1, 6, .inl (fun _ => 0))), (q39, .inl (cy 1, 6, .inl (fun _ => 0))), (q47, .inl (cy 1, 6, .inl (fun _ => 0))), (q55, .inl (cy 1, 6, .inl (fun _ => 0)))]) C hI 29 rfl qX9_30 0 (a := a) (fs := _) rfl rfl rfl ?_
  refine k_aload_0 C 30 rfl 0 rfl ?_
  refine k_bipush C 31 rfl cb_6 ?_
  refine k_newI C 32 6 rfl acI (by decide) (by decide) (by decide) ⟨by decide, by decide⟩ (fun q63 => ?_)
  refine kf9_13 (w2 := [(a, .inr (9, [.int 0, .int 0, .int 0, .int 0, .int 0, .int 0, .ref q7, .ref q15, .ref q23, .ref q31, .ref q39, .ref q47, .ref q55, .ref q63, .null, .null, .null])), (q7, .inl (cy 1, 8, .inl (fun _ => 0))), (q15, .inl (cy 1, 8, .inl (fun _ => 0))), (q23, .inl (cy 1, 8, .inl (fun _ => 0))), (q31, .inl (cy 1, 6, .inl (fun _ => 0))), (q39, .inl (cy 1, 6, .inl (fun _ => 0))), (q47, .inl (cy 1, 6, .inl (fun _ => 0))), (q55, .inl (cy 1, 6, .inl (fun _ => 0))), (q63, .inl (cy 1, 6, .inl (fun _ => 0)))]) C hI 33 rfl qX9_33 0 (a := a) (fs := _) rfl rfl rfl ?_
  refine k_aload_0 C 34 rfl 0 rfl ?_
  refine k_bipush C 35 rfl cb_6 ?_
  refine k_newI C 36 6 rfl acI (by decide) (by decide) (by decide) ⟨by decide, by decide⟩ (fun q71 => ?_)
  refine kf9_14 (w2 := [(a, .inr (9, [.int 0, .int 0, .int 0, .int 0, .int 0, .int 0, .ref q7, .ref q15, .ref q23, .ref q31, .ref q39, .ref q47, .ref q55, .ref q63, .ref q71, .null, .null])), (q7, .inl (cy 1, 8, .inl (fun _ => 0))), (q15, .inl (cy 1, 8, .inl (fun _ => 0))), (q23, .inl (cy 1, 8, .inl (fun _ => 0))), (q31, .inl (cy 1, 6, .inl (fun _ => 0))), (q39, .inl (cy 1, 6, .inl (fun _ => 0))), (q47, .inl (cy 1, 6, .inl (fun _ => 0))), (q55, .inl (cy 1, 6, .inl (fun _ => 0))), (q63, .inl (cy 1, 6, .inl (fun _ => 0))), (q71, .inl (cy 1, 6, .inl (fun _ => 0)))]) C hI 37 rfl qX9_36 0 (a := a) (fs := _) rfl rfl rfl ?_
  refine k_aload_0 C 38 rfl 0 rfl ?_
  refine k_bipush C 39 rfl cb_6 ?_
  refine k_newI C 40 6 rfl acI (by decide) (by decide) (by decide) ⟨by decide, by decide⟩ (fun q79 => ?_)
  refine kf9_15 (w2 := [(a, .inr (9, [.int 0, .int 0, .int 0, .int 0, .int 0, .int 0, .ref q7, .ref q15, .ref q23, .ref q31, .ref q39, .ref q47, .ref q55, .ref q63, .ref q71, .ref q79, .null])), (q7, .inl (cy 1, 8, .inl (fun _ => 0))), (q15, .inl (cy 1, 8, .inl (fun _ => 0))), (q23, .inl (cy 1, 8, .inl (fun _ => 0))), (q31, .inl (cy 1, 6, .inl (fun _ => 0))), (q39, .inl (cy 1, 6, .inl (fun _ => 0))), (q47, .inl (cy 1, 6, .inl (fun _ => 0))), (q55, .inl (cy 1, 6, .inl (fun _ => 0))), (q63, .inl (cy 1, 6, .inl (fun _ => 0))), (q71, .inl (cy 1, 6, .inl (fun _ => 0))), (q79, .inl (cy 1, 6, .inl (fun _ => 0)))]) C hI 41 rfl qX9_39 0 (a := a) (fs := _) rfl rfl rfl ?_
  refine k_aload_0 C 42 rfl 0 rfl ?_
  refine k_bipush C 43 rfl cb_6 ?_
  refine k_newI C 44 6 rfl acI (by decide) (by decide) (by decide) ⟨by decide, by decide⟩ (fun q87 => ?_)
  refine kf9_16 (w2 := [(a, .inr (9, [.int 0, .int 0, .int 0, .int 0, .int 0, .int 0, .ref q7, .ref q15, .ref q23, .ref q31, .ref q39, .ref q47, .ref q55, .ref q63, .ref q71, .ref q79, .ref q87])), (q7, .inl (cy 1, 8, .inl (fun _ => 0))), (q15, .inl (cy 1, 8, .inl (fun _ => 0))), (q23, .inl (cy 1, 8, .inl (fun _ => 0))), (q31, .inl (cy 1, 6, .inl (fun _ => 0))), (q39, .inl (cy 1, 6, .inl (fun _ => 0))), (q47, .inl (cy 1, 6, .inl (fun _ => 0))), (q55, .inl (cy 1, 6, .inl (fun _ => 0))), (q63, .inl (cy 1, 6, .inl (fun _ => 0))), (q71, .inl (cy 1, 6, .inl (fun _ => 0))), (q79, .inl (cy 1, 6, .inl (fun _ => 0))), (q87, .inl (cy 1, 6, .inl (fun _ => 0)))]) C hI 45 rfl qX9_42 0 (a := a) (fs := _) rfl rfl rfl ?_
  exact hR 46 92 _ (adl [0, q7, q15, q23, q31, q39, q47, q55, q63, q71, q79, q87]) rfl
set_option maxHeartbeats 1000000 in
theorem e_X7 (l : Launch) (D : va_G) (cy : Nat → ClassId) (a : Nat) : Ce l D cy yX7_init cX7_init 1 1 30 3 36 [.ref a] [(a, .inr (7, [.int 0, .null, .null, .null]))] (fun ad => wE cy (ad0 a ad) z0) := by
  refine Ce_of tX7_init hX7_init (by decide) rfl (Nat.le_of_ble_eq_true rfl) ?_
  intro Z hZ C hE hI hR
  subst hZ
  replace C : Cx Z D cy RX7 tX7_init 1 1 30 3 36 := C
  show Wk Z D 1 0 0 [(a, .inr (7, [.int 0, .null, .null, .null]))] 0 [(0, .ref a)] []
  refine k_aload_0 C 0 rfl 0 rfl ?_
  refine k_obj C 1 rfl qX7_3 obw (by decide) (by decide) (Nat.le_of_ble_eq_true rfl) ?_
  refine k_aload_0 C 2 rfl 0 rfl ?_
  refine k_bipush C 3 rfl cb_12 ?_
  refine k_newI C 4 12 rfl acI (by decide) (by decide) (by decide) ⟨by decide, by decide⟩ (fun q7 => ?_)
  refine kf7_1 (w2 := [(a, .inr (7, [.int 0, .ref q7, .null, .null])), (q7, .inl (cy 1, 12, .inl (fun _ => 0)))]) C hI 5 rfl qX7_9 0 (a := a) (fs := _) rfl rfl rfl ?_
  refine k_aload_0 C 6 rfl 0 rfl ?_
  refine k_bipush C 7 rfl cb_12 ?_
  refine k_newI C 8 12 rfl acI (by decide) (by decide) (by decide) ⟨by decide, by decide⟩ (fun q15 => ?_)
  refine kf7_2 (w2 := [(a, .inr (7, [.int 0, .ref q7, .ref q15, .null])), (q7, .inl (cy 1, 12, .inl (fun _ => 0))), (q15, .inl (cy 1, 12, .inl (fun _ => 0)))]) C hI 9 rfl qX7_15 0 (a := a) (fs := _) rfl rfl rfl ?_
  refine k_aload_0 C 10 rfl 0 rfl ?_
  refine k_bipush C 11 rfl cb_12 ?_
  refine k_newI C 12 12 rfl acI (by decide) (by decide) (by decide) ⟨by decide, by decide⟩ (fun q23 => ?_)
  refine kf7_3 (w2 := [(a, .inr (7, [.int 0, .ref q7, .ref q15, .ref q23])), (q7, .inl (cy 1, 12, .inl (fun _ => 0))), (q15, .inl (cy 1, 12, .inl (fun _ => 0))), (q23, .inl (cy 1, 12, .inl (fun _ => 0)))]) C hI 13 rfl qX7_18 0 (a := a) (fs := _) rfl rfl rfl ?_
  exact hR 14 28 _ (adl [0, q7, q15, q23]) rfl
set_option maxHeartbeats 1000000 in
theorem e_X8 (l : Launch) (D : va_G) (cy : Nat → ClassId) (a : Nat) : Ce l D cy yX8_init cX8_init 1 1 30 4 1603 [.ref a] [(a, .inr (8, [.null, .int 0, .int 0, .null, .null, .null, .int 0, .int 0]))] (fun ad => wQ cy (ad0 a ad) z0) := by
  refine Ce_of tX8_init hX8_init (by decide) rfl (Nat.le_of_ble_eq_true rfl) ?_
  intro Z hZ C hE hI hR
  subst hZ
  replace C : Cx Z D cy RX8 tX8_init 1 1 30 4 1603 := C
  show Wk Z D 1 0 0 [(a, .inr (8, [.null, .int 0, .int 0, .null, .null, .null, .int 0, .int 0]))] 0 [(0, .ref a)] []
  refine k_aload_0 C 0 rfl 0 rfl ?_
  refine k_obj C 1 rfl qX8_3 obw (by decide) (by decide) (Nat.le_of_ble_eq_true rfl) ?_
  refine k_aload_0 C 2 rfl 0 rfl ?_
  refine k_sipush C 3 rfl cs_400 ?_
  refine k_newB C 4 400 rfl acB (by decide) (by decide) (by decide) ⟨by decide, by decide⟩ (fun q8 => ?_)
  refine kf8_0 (w2 := [(a, .inr (8, [.ref q8, .int 0, .int 0, .null, .null, .null, .int 0, .int 0])), (q8, .inl (cy 0, 400, .inl (fun _ => 0)))]) C hI 5 rfl qX8_9 0 (a := a) (fs := _) rfl rfl rfl ?_
  refine k_aload_0 C 6 rfl 0 rfl ?_
  refine k_sipush C 7 rfl cs_401 ?_
  refine k_newI C 8 401 rfl acI (by decide) (by decide) (by decide) ⟨by decide, by decide⟩ (fun q17 => ?_)
  refine kf8_3 (w2 := [(a, .inr (8, [.ref q8, .int 0, .int 0, .ref q17, .null, .null, .int 0, .int 0])), (q8, .inl (cy 0, 400, .inl (fun _ => 0))), (q17, .inl (cy 1, 401, .inl (fun _ => 0)))]) C hI 9 rfl qX8_15 0 (a := a) (fs := _) rfl rfl rfl ?_
  refine k_aload_0 C 10 rfl 0 rfl ?_
  refine k_sipush C 11 rfl cs_401 ?_
  refine k_newI C 12 401 rfl acI (by decide) (by decide) (by decide) ⟨by decide, by decide⟩ (fun q26 => ?_)
  refine kf8_4 (w2 := [(a, .inr (8, [.ref q8, .int 0, .int 0, .ref q17, .ref q26, .null, .int 0, .int 0])), (q8, .inl (cy 0, 400, .inl (fun _ => 0))), (q17, .inl (cy 1, 401, .inl (fun _ => 0))), (q26, .inl (cy 1, 401, .inl (fun _ => 0)))]) C hI 13 rfl qX8_19 0 (a := a) (fs := _) rfl rfl rfl ?_
  refine k_aload_0 C 14 rfl 0 rfl ?_
  refine k_sipush C 15 rfl cs_401 ?_
  refine k_newI C 16 401 rfl acI (by decide) (by decide) (by decide) ⟨by decide, by decide⟩ (fun q35 => ?_)
  refine kf8_5 (w2 := [(a, .inr (8, [.ref q8, .int 0, .int 0, .ref q17, .ref q26, .ref q35, .int 0, .int 0])), (q8, .inl (cy 0, 400, .inl (fun _ => 0))), (q17, .inl (cy 1, 401, .inl (fun _ => 0))), (q26, .inl (cy 1, 401, .inl (fun _ => 0))), (q35, .inl (cy 1, 401, .inl (fun _ => 0)))]) C hI 17 rfl qX8_22 0 (a := a) (fs := _) rfl rfl rfl ?_
  exact hR 18 40 _ (adl [0, q8, q17, q26, q35]) rfl
set_option maxHeartbeats 1000000 in
theorem e_X12 (l : Launch) (D : va_G) (cy : Nat → ClassId) (a : Nat) : Ce l D cy yX12_init cX12_init 1 1 30 24 9507 [.ref a] [(a, .inr (12, [.null, .int 0, .int 0, .null, .null, .null, .null, .null, .int 0, .int 0, .int 0, .int 0, .int 0, .int 0, .int 0, .null, .int 0, .null, .int 0, .null, .null, .int 0, .null, .int 0, .null, .null, .null, .null, .null, .int 0, .null, .null, .null, .null, .null, .long 0, .null, .null, .null]))] (fun ad => mw cy (ad0 a ad) z0) := by
  refine Ce_of tX12_init hX12_init (by decide) rfl (Nat.le_of_ble_eq_true rfl) ?_
  intro Z hZ C hE hI hR
  subst hZ
  replace C : Cx Z D cy RX12 tX12_init 1 1 30 24 9507 := C
  show Wk Z D 1 0 0 [(a, .inr (12, [.null, .int 0, .int 0, .null, .null, .null, .null, .null, .int 0, .int 0, .int 0, .int 0, .int 0, .int 0, .int 0, .null, .int 0, .null, .int 0, .null, .null, .int 0, .null, .int 0, .null, .null, .null, .null, .null, .int 0, .null, .null, .null, .null, .null, .long 0, .null, .null, .null]))] 0 [(0, .ref a)] []
  refine k_aload_0 C 0 rfl 0 rfl ?_
  refine k_obj C 1 rfl qX12_1 obw (by decide) (by decide) (Nat.le_of_ble_eq_true rfl) ?_
  refine k_aload_0 C 2 rfl 0 rfl ?_
  refine k_sipush C 3 rfl cs_400 ?_
  refine k_newB C 4 400 rfl acB (by decide) (by decide) (by decide) ⟨by decide, by decide⟩ (fun q8 => ?_)
  refine kf12_0 (w2 := [(a, .inr (12, [.ref q8, .int 0, .int 0, .null, .null, .null, .null, .null, .int 0, .int 0, .int 0, .int 0, .int 0, .int 0, .int 0, .null, .int 0, .null, .int 0, .null, .null, .int 0, .null, .int 0, .null, .null, .null, .null, .null, .int 0, .null, .null, .null, .null, .null, .long 0, .null, .null, .null])), (q8, .inl (cy 0, 400, .inl (fun _ => 0)))]) C hI 5 rfl qX12_7 0 (a := a) (fs := _) rfl rfl rfl ?_
  refine k_aload_0 C 6 rfl 0 rfl ?_
  refine k_sipush C 7 rfl cs_2400 ?_
  refine k_newI C 8 2400 rfl acI (by decide) (by decide) (by decide) ⟨by decide, by decide⟩ (fun q17 => ?_)
  refine kf12_3 (w2 := [(a, .inr (12, [.ref q8, .int 0, .int 0, .ref q17, .null, .null, .null, .null, .int 0, .int 0, .int 0, .int 0, .int 0, .int 0, .int 0, .null, .int 0, .null, .int 0, .null, .null, .int 0, .null, .int 0, .null, .null, .null, .null, .null, .int 0, .null, .null, .null, .null, .null, .long 0, .null, .null, .null])), (q8, .inl (cy 0, 400, .inl (fun _ => 0))), (q17, .inl (cy 1, 2400, .inl (fun _ => 0)))]) C hI 9 rfl qX12_13 0 (a := a) (fs := _) rfl rfl rfl ?_
  refine k_aload_0 C 10 rfl 0 rfl ?_
  refine k_bipush C 11 rfl cb_7 ?_
  refine k_newI C 12 7 rfl acI (by decide) (by decide) (by decide) ⟨by decide, by decide⟩ (fun q25 => ?_)
  refine kf12_4 (w2 := [(a, .inr (12, [.ref q8, .int 0, .int 0, .ref q17, .ref q25, .null, .null, .null, .int 0, .int 0, .int 0, .int 0, .int 0, .int 0, .int 0, .null, .int 0, .null, .int 0, .null, .null, .int 0, .null, .int 0, .null, .null, .null, .null, .null, .int 0, .null, .null, .null, .null, .null, .long 0, .null, .null, .null])), (q8, .inl (cy 0, 400, .inl (fun _ => 0))), (q17, .inl (cy 1, 2400, .inl (fun _ => 0))), (q25, .inl (cy 1, 7, .inl (fun _ => 0)))]) C hI 13 rfl qX12_17 0 (a := a) (fs := _) rfl rfl rfl ?_
  refine k_aload_0 C 14 rfl 0 rfl ?_
  refine k_sipush C 15 rfl cs_360 ?_
  refine k_newI C 16 360 rfl acI (by decide) (by decide) (by decide) ⟨by decide, by decide⟩ (fun q34 => ?_)
  refine kf12_5 (w2 := [(a, .inr (12, [.ref q8, .int 0, .int 0, .ref q17, .ref q25, .ref q34, .null, .null, .int 0, .int 0, .int 0, .int 0, .int 0, .int 0, .int 0, .null, .int 0, .null, .int 0, .null, .null, .int 0, .null, .int 0, .null, .null, .null, .null, .null, .int 0, .null, .null, .null, .null, .null, .long 0, .null, .null, .null])), (q8, .inl (cy 0, 400, .inl (fun _ => 0))), (q17, .inl (cy 1, 2400, .inl (fun _ => 0))), (q25, .inl (cy 1, 7, .inl (fun _ => 0))), (q34, .inl (cy 1, 360, .inl (fun _ => 0)))]) C hI 17 rfl qX12_20 0 (a := a) (fs := _) rfl rfl rfl ?_
  refine k_aload_0 C 18 rfl 0 rfl ?_
  refine k_bipush C 19 rfl cb_6 ?_
  refine k_newI C 20 6 rfl acI (by decide) (by decide) (by decide) ⟨by decide, by decide⟩ (fun q42 => ?_)
  refine kf12_6 (w2 := [(a, .inr (12, [.ref q8, .int 0, .int 0, .ref q17, .ref q25, .ref q34, .ref q42, .null, .int 0, .int 0, .int 0, .int 0, .int 0, .int 0, .int 0, .null, .int 0, .null, .int 0, .null, .null, .int 0, .null, .int 0, .null, .null, .null, .null, .null, .int 0, .null, .null, .null, .null, .null, .long 0, .null, .null, .null])), (q8, .inl (cy 0, 400, .inl (fun _ => 0))), (q17, .inl (cy 1, 2400, .inl (fun _ => 0))), (q25, .inl (cy 1, 7, .inl (fun _ => 0))), (q34, .inl (cy 1, 360, .inl (fun _ => 0))), (q42, .inl (cy 1, 6, .inl (fun _ => 0)))]) C hI 21 rfl qX12_23 0 (a := a) (fs := _) rfl rfl rfl ?_
  refine k_aload_0 C 22 rfl 0 rfl ?_
  refine k_bipush C 23 rfl cb_100 ?_
  refine k_newI C 24 100 rfl acI (by decide) (by decide) (by decide) ⟨by decide, by decide⟩ (fun q50 => ?_)
  refine kf12_7 (w2 := [(a, .inr (12, [.ref q8, .int 0, .int 0, .ref q17, .ref q25, .ref q34, .ref q42, .ref q50, .int 0, .int 0, .int 0, .int 0, .int 0, .int 0, .int 0, .null, .int 0, .null, .int 0, .null, .null, .int 0, .null, .int 0, .null, .null, .null, .null, .null, .int 0, .null, .null, .null, .null, .null, .long 0, .null, .null, .null])), (q8, .inl (cy 0, 400, .inl (fun _ => 0))), (q17, .inl (cy 1, 2400, .inl (fun _ => 0))), (q25, .inl (cy 1, 7, .inl (fun _ => 0))), (q34, .inl (cy 1, 360, .inl (fun _ => 0))), (q42, .inl (cy 1, 6, .inl (fun _ => 0))), (q50, .inl (cy 1, 100, .inl (fun _ => 0)))]) C hI 25 rfl qX12_26 0 (a := a) (fs := _) rfl rfl rfl ?_
  refine k_aload_0 C 26 rfl 0 rfl ?_
  refine k_sipush C 27 rfl cs_400 ?_
  refine k_newI C 28 400 rfl acI (by decide) (by decide) (by decide) ⟨by decide, by decide⟩ (fun q59 => ?_)
  refine kf12_15 (w2 := [(a, .inr (12, [.ref q8, .int 0, .int 0, .ref q17, .ref q25, .ref q34, .ref q42, .ref q50, .int 0, .int 0, .int 0, .int 0, .int 0, .int 0, .int 0, .ref q59, .int 0, .null, .int 0, .null, .null, .int 0, .null, .int 0, .null, .null, .null, .null, .null, .int 0, .null, .null, .null, .null, .null, .long 0, .null, .null, .null])), (q8, .inl (cy 0, 400, .inl (fun _ => 0))), (q17, .inl (cy 1, 2400, .inl (fun _ => 0))), (q25, .inl (cy 1, 7, .inl (fun _ => 0))), (q34, .inl (cy 1, 360, .inl (fun _ => 0))), (q42, .inl (cy 1, 6, .inl (fun _ => 0))), (q50, .inl (cy 1, 100, .inl (fun _ => 0))), (q59, .inl (cy 1, 400, .inl (fun _ => 0)))]) C hI 29 rfl qX12_29 0 (a := a) (fs := _) rfl rfl rfl ?_
  refine k_aload_0 C 30 rfl 0 rfl ?_
  refine k_bipush C 31 rfl cb_64 ?_
  refine k_newJ C 32 64 rfl acJ (by decide) (by decide) (by decide) ⟨by decide, by decide⟩ (fun q67 => ?_)
  refine kf12_17 (w2 := [(a, .inr (12, [.ref q8, .int 0, .int 0, .ref q17, .ref q25, .ref q34, .ref q42, .ref q50, .int 0, .int 0, .int 0, .int 0, .int 0, .int 0, .int 0, .ref q59, .int 0, .ref q67, .int 0, .null, .null, .int 0, .null, .int 0, .null, .null, .null, .null, .null, .int 0, .null, .null, .null, .null, .null, .long 0, .null, .null, .null])), (q8, .inl (cy 0, 400, .inl (fun _ => 0))), (q17, .inl (cy 1, 2400, .inl (fun _ => 0))), (q25, .inl (cy 1, 7, .inl (fun _ => 0))), (q34, .inl (cy 1, 360, .inl (fun _ => 0))), (q42, .inl (cy 1, 6, .inl (fun _ => 0))), (q50, .inl (cy 1, 100, .inl (fun _ => 0))), (q59, .inl (cy 1, 400, .inl (fun _ => 0))), (q67, .inl (cy 2, 64, .inr (.inl (fun _ => 0))))]) C hI 33 rfl qX12_32 0 (a := a) (fs := _) rfl rfl rfl ?_
  refine k_aload_0 C 34 rfl 0 rfl ?_
  refine k_bipush C 35 rfl cb_13 ?_
  refine k_newJ C 36 13 rfl acJ (by decide) (by decide) (by decide) ⟨by decide, by decide⟩ (fun q75 => ?_)
  refine kf12_19 (w2 := [(a, .inr (12, [.ref q8, .int 0, .int 0, .ref q17, .ref q25, .ref q34, .ref q42, .ref q50, .int 0, .int 0, .int 0, .int 0, .int 0, .int 0, .int 0, .ref q59, .int 0, .ref q67, .int 0, .ref q75, .null, .int 0, .null, .int 0, .null, .null, .null, .null, .null, .int 0, .null, .null, .null, .null, .null, .long 0, .null, .null, .null])), (q8, .inl (cy 0, 400, .inl (fun _ => 0))), (q17, .inl (cy 1, 2400, .inl (fun _ => 0))), (q25, .inl (cy 1, 7, .inl (fun _ => 0))), (q34, .inl (cy 1, 360, .inl (fun _ => 0))), (q42, .inl (cy 1, 6, .inl (fun _ => 0))), (q50, .inl (cy 1, 100, .inl (fun _ => 0))), (q59, .inl (cy 1, 400, .inl (fun _ => 0))), (q67, .inl (cy 2, 64, .inr (.inl (fun _ => 0)))), (q75, .inl (cy 2, 13, .inr (.inl (fun _ => 0))))]) C hI 37 rfl qX12_36 0 (a := a) (fs := _) rfl rfl rfl ?_
  refine k_aload_0 C 38 rfl 0 rfl ?_
  refine k_sipush C 39 rfl cs_137 ?_
  refine k_newI C 40 137 rfl acI (by decide) (by decide) (by decide) ⟨by decide, by decide⟩ (fun q84 => ?_)
  refine kf12_20 (w2 := [(a, .inr (12, [.ref q8, .int 0, .int 0, .ref q17, .ref q25, .ref q34, .ref q42, .ref q50, .int 0, .int 0, .int 0, .int 0, .int 0, .int 0, .int 0, .ref q59, .int 0, .ref q67, .int 0, .ref q75, .ref q84, .int 0, .null, .int 0, .null, .null, .null, .null, .null, .int 0, .null, .null, .null, .null, .null, .long 0, .null, .null, .null])), (q8, .inl (cy 0, 400, .inl (fun _ => 0))), (q17, .inl (cy 1, 2400, .inl (fun _ => 0))), (q25, .inl (cy 1, 7, .inl (fun _ => 0))), (q34, .inl (cy 1, 360, .inl (fun _ => 0))), (q42, .inl (cy 1, 6, .inl (fun _ => 0))), (q50, .inl (cy 1, 100, .inl (fun _ => 0))), (q59, .inl (cy 1, 400, .inl (fun _ => 0))), (q67, .inl (cy 2, 64, .inr (.inl (fun _ => 0)))), (q75, .inl (cy 2, 13, .inr (.inl (fun _ => 0)))), (q84, .inl (cy 1, 137, .inl (fun _ => 0)))]) C hI 41 rfl qX12_39 0 (a := a) (fs := _) rfl rfl rfl ?_
  refine k_aload_0 C 42 rfl 0 rfl ?_
  refine k_sipush C 43 rfl cs_2000 ?_
  refine k_newI C 44 2000 rfl acI (by decide) (by decide) (by decide) ⟨by decide, by decide⟩ (fun q93 => ?_)
  refine kf12_22 (w2 := [(a, .inr (12, [.ref q8, .int 0, .int 0, .ref q17, .ref q25, .ref q34, .ref q42, .ref q50, .int 0, .int 0, .int 0, .int 0, .int 0, .int 0, .int 0, .ref q59, .int 0, .ref q67, .int 0, .ref q75, .ref q84, .int 0, .ref q93, .int 0, .null, .null, .null, .null, .null, .int 0, .null, .null, .null, .null, .null, .long 0, .null, .null, .null])), (q8, .inl (cy 0, 400, .inl (fun _ => 0))), (q17, .inl (cy 1, 2400, .inl (fun _ => 0))), (q25, .inl (cy 1, 7, .inl (fun _ => 0))), (q34, .inl (cy 1, 360, .inl (fun _ => 0))), (q42, .inl (cy 1, 6, .inl (fun _ => 0))), (q50, .inl (cy 1, 100, .inl (fun _ => 0))), (q59, .inl (cy 1, 400, .inl (fun _ => 0))), (q67, .inl (cy 2, 64, .inr (.inl (fun _ => 0)))), (q75, .inl (cy 2, 13, .inr (.inl (fun _ => 0)))), (q84, .inl (cy 1, 137, .inl (fun _ => 0))), (q93, .inl (cy 1, 2000, .inl (fun _ => 0)))]) C hI 45 rfl qX12_42 0 (a := a) (fs := _) rfl rfl rfl ?_
  refine k_aload_0 C 46 rfl 0 rfl ?_
  refine k_bipush C 47 rfl cb_8 ?_
  refine k_newI C 48 8 rfl acI (by decide) (by decide) (by decide) ⟨by decide, by decide⟩ (fun q101 => ?_)
  refine kf12_24 (w2 := [(a, .inr (12, [.ref q8, .int 0, .int 0, .ref q17, .ref q25, .ref q34, .ref q42, .ref q50, .int 0, .int 0, .int 0, .int 0, .int 0, .int 0, .int 0, .ref q59, .int 0, .ref q67, .int 0, .ref q75, .ref q84, .int 0, .ref q93, .int 0, .ref q101, .null, .null, .null, .null, .int 0, .null, .null, .null, .null, .null, .long 0, .null, .null, .null])), (q8, .inl (cy 0, 400, .inl (fun _ => 0))), (q17, .inl (cy 1, 2400, .inl (fun _ => 0))), (q25, .inl (cy 1, 7, .inl (fun _ => 0))), (q34, .inl (cy 1, 360, .inl (fun _ => 0))), (q42, .inl (cy 1, 6, .inl (fun _ => 0))), (q50, .inl (cy 1, 100, .inl (fun _ => 0))), (q59, .inl (cy 1, 400, .inl (fun _ => 0))), (q67, .inl (cy 2, 64, .inr (.inl (fun _ => 0)))), (q75, .inl (cy 2, 13, .inr (.inl (fun _ => 0)))), (q84, .inl (cy 1, 137, .inl (fun _ => 0))), (q93, .inl (cy 1, 2000, .inl (fun _ => 0))), (q101, .inl (cy 1, 8, .inl (fun _ => 0)))]) C hI 49 rfl qX12_45 0 (a := a) (fs := _) rfl rfl rfl ?_
  refine k_aload_0 C 50 rfl 0 rfl ?_
  refine k_bipush C 51 rfl cb_8 ?_
  refine k_newZ C 52 8 rfl acZ (by decide) (by decide) (by decide) ⟨by decide, by decide⟩ (fun q109 => ?_)
  refine kf12_25 (w2 := [(a, .inr (12, [.ref q8, .int 0, .int 0, .ref q17, .ref q25, .ref q34, .ref q42, .ref q50, .int 0, .int 0, .int 0, .int 0, .int 0, .int 0, .int 0, .ref q59, .int 0, .ref q67, .int 0, .ref q75, .ref q84, .int 0, .ref q93, .int 0, .ref q101, .ref q109, .null, .null, .null, .int 0, .null, .null, .null, .null, .null, .long 0, .null, .null, .null])), (q8, .inl (cy 0, 400, .inl (fun _ => 0))), (q17, .inl (cy 1, 2400, .inl (fun _ => 0))), (q25, .inl (cy 1, 7, .inl (fun _ => 0))), (q34, .inl (cy 1, 360, .inl (fun _ => 0))), (q42, .inl (cy 1, 6, .inl (fun _ => 0))), (q50, .inl (cy 1, 100, .inl (fun _ => 0))), (q59, .inl (cy 1, 400, .inl (fun _ => 0))), (q67, .inl (cy 2, 64, .inr (.inl (fun _ => 0)))), (q75, .inl (cy 2, 13, .inr (.inl (fun _ => 0)))), (q84, .inl (cy 1, 137, .inl (fun _ => 0))), (q93, .inl (cy 1, 2000, .inl (fun _ => 0))), (q101, .inl (cy 1, 8, .inl (fun _ => 0))), (q109, .inl (cy 3, 8, .inl (fun _ => 0)))]) C hI 53 rfl qX12_48 0 (a := a) (fs := _) rfl rfl rfl ?_
  refine k_aload_0 C 54 rfl 0 rfl ?_
  refine k_sipush C 55 rfl cs_1000 ?_
  refine k_newI C 56 1000 rfl acI (by decide) (by decide) (by decide) ⟨by decide, by decide⟩ (fun q118 => ?_)
  refine kf12_26 (w2 := [(a, .inr (12, [.ref q8, .int 0, .int 0, .ref q17, .ref q25, .ref q34, .ref q42, .ref q50, .int 0, .int 0, .int 0, .int 0, .int 0, .int 0, .int 0, .ref q59, .int 0, .ref q67, .int 0, .ref q75, .ref q84, .int 0, .ref q93, .int 0, .ref q101, .ref q109, .ref q118, .null, .null, .int 0, .null, .null, .null, .null, .null, .long 0, .null, .null, .null])), (q8, .inl (cy 0, 400, .inl (fun _ => 0))), (q17, .inl (cy 1, 2400, .inl (fun _ => 0))), (q25, .inl (cy 1, 7, .inl (fun _ => 0))), (q34, .inl (cy 1, 360, .inl (fun _ => 0))), (q42, .inl (cy 1, 6, .inl (fun _ => 0))), (q50, .inl (cy 1, 100, .inl (fun _ => 0))), (q59, .inl (cy 1, 400, .inl (fun _ => 0))), (q67, .inl (cy 2, 64, .inr (.inl (fun _ => 0)))), (q75, .inl (cy 2, 13, .inr (.inl (fun _ => 0)))), (q84, .inl (cy 1, 137, .inl (fun _ => 0))), (q93, .inl (cy 1, 2000, .inl (fun _ => 0))), (q101, .inl (cy 1, 8, .inl (fun _ => 0))), (q109, .inl (cy 3, 8, .inl (fun _ => 0))), (q118, .inl (cy 1, 1000, .inl (fun _ => 0)))]) C hI 57 rfl qX12_52 0 (a := a) (fs := _) rfl rfl rfl ?_
  refine k_aload_0 C 58 rfl 0 rfl ?_
  refine k_sipush C 59 rfl cs_1000 ?_
  refine k_newI C 60 1000 rfl acI (by decide) (by decide) (by decide) ⟨by decide, by decide⟩ (fun q127 => ?_)
  refine kf12_27 (w2 := [(a, .inr (12, [.ref q8, .int 0, .int 0, .ref q17, .ref q25, .ref q34, .ref q42, .ref q50, .int 0, .int 0, .int 0, .int 0, .int 0, .int 0, .int 0, .ref q59, .int 0, .ref q67, .int 0, .ref q75, .ref q84, .int 0, .ref q93, .int 0, .ref q101, .ref q109, .ref q118, .ref q127, .null, .int 0, .null, .null, .null, .null, .null, .long 0, .null, .null, .null])), (q8, .inl (cy 0, 400, .inl (fun _ => 0))), (q17, .inl (cy 1, 2400, .inl (fun _ => 0))), (q25, .inl (cy 1, 7, .inl (fun _ => 0))), (q34, .inl (cy 1, 360, .inl (fun _ => 0))), (q42, .inl (cy 1, 6, .inl (fun _ => 0))), (q50, .inl (cy 1, 100, .inl (fun _ => 0))), (q59, .inl (cy 1, 400, .inl (fun _ => 0))), (q67, .inl (cy 2, 64, .inr (.inl (fun _ => 0)))), (q75, .inl (cy 2, 13, .inr (.inl (fun _ => 0)))), (q84, .inl (cy 1, 137, .inl (fun _ => 0))), (q93, .inl (cy 1, 2000, .inl (fun _ => 0))), (q101, .inl (cy 1, 8, .inl (fun _ => 0))), (q109, .inl (cy 3, 8, .inl (fun _ => 0))), (q118, .inl (cy 1, 1000, .inl (fun _ => 0))), (q127, .inl (cy 1, 1000, .inl (fun _ => 0)))]) C hI 61 rfl qX12_55 0 (a := a) (fs := _) rfl rfl rfl ?_
  refine k_aload_0 C 62 rfl 0 rfl ?_
  refine k_sipush C 63 rfl cs_1000 ?_
  refine k_newI C 64 1000 rfl acI (by decide) (by decide) (by decide) ⟨by decide, by decide⟩ (fun q136 => ?_)
  refine kf12_28 (w2 := [(a, .inr (12, [.ref q8, .int 0, .int 0, .ref q17, .ref q25, .ref q34, .ref q42, .ref q50, .int 0, .int 0, .int 0, .int 0, .int 0, .int 0, .int 0, .ref q59, .int 0, .ref q67, .int 0, .ref q75, .ref q84, .int 0, .ref q93, .int 0, .ref q101, .ref q109, .ref q118, .ref q127, .ref q136, .int 0, .null, .null, .null, .null, .null, .long 0, .null, .null, .null])), (q8, .inl (cy 0, 400, .inl (fun _ => 0))), (q17, .inl (cy 1, 2400, .inl (fun _ => 0))), (q25, .inl (cy 1, 7, .inl (fun _ => 0))), (q34, .inl (cy 1, 360, .inl (fun _ => 0))), (q42, .inl (cy 1, 6, .inl (fun _ => 0))), (q50, .inl (cy 1, 100, .inl (fun _ => 0))), (q59, .inl (cy 1, 400, .inl (fun _ => 0))), (q67, .inl (cy 2, 64, .inr (.inl (fun _ => 0)))), (q75, .inl (cy 2, 13, .inr (.inl (fun _ => 0)))), (q84, .inl (cy 1, 137, .inl (fun _ => 0))), (q93, .inl (cy 1, 2000, .inl (fun _ => 0))), (q101, .inl (cy 1, 8, .inl (fun _ => 0))), (q109, .inl (cy 3, 8, .inl (fun _ => 0))), (q118, .inl (cy 1, 1000, .inl (fun _ => 0))), (q127, .inl (cy 1, 1000, .inl (fun _ => 0))), (q136, .inl (cy 1, 1000, .inl (fun _ => 0)))]) C hI 65 rfl qX12_58 0 (a := a) (fs := _) rfl rfl rfl ?_
  refine k_aload_0 C 66 rfl 0 rfl ?_
  refine k_iconst C 67 rfl ci_4 ?_
  refine k_newI C 68 4 rfl acI (by decide) (by decide) (by decide) ⟨by decide, by decide⟩ (fun q143 => ?_)
  refine kf12_30 (w2 := [(a, .inr (12, [.ref q8, .int 0, .int 0, .ref q17, .ref q25, .ref q34, .ref q42, .ref q50, .int 0, .int 0, .int 0, .int 0, .int 0, .int 0, .int 0, .ref q59, .int 0, .ref q67, .int 0, .ref q75, .ref q84, .int 0, .ref q93, .int 0, .ref q101, .ref q109, .ref q118, .ref q127, .ref q136, .int 0, .ref q143, .null, .null, .null, .null, .long 0, .null, .null, .null])), (q8, .inl (cy 0, 400, .inl (fun _ => 0))), (q17, .inl (cy 1, 2400, .inl (fun _ => 0))), (q25, .inl (cy 1, 7, .inl (fun _ => 0))), (q34, .inl (cy 1, 360, .inl (fun _ => 0))), (q42, .inl (cy 1, 6, .inl (fun _ => 0))), (q50, .inl (cy 1, 100, .inl (fun _ => 0))), (q59, .inl (cy 1, 400, .inl (fun _ => 0))), (q67, .inl (cy 2, 64, .inr (.inl (fun _ => 0)))), (q75, .inl (cy 2, 13, .inr (.inl (fun _ => 0)))), (q84, .inl (cy 1, 137, .inl (fun _ => 0))), (q93, .inl (cy 1, 2000, .inl (fun _ => 0))), (q101, .inl (cy 1, 8, .inl (fun _ => 0))), (q109, .inl (cy 3, 8, .inl (fun _ => 0))), (q118, .inl (cy 1, 1000, .inl (fun _ => 0))), (q127, .inl (cy 1, 1000, .inl (fun _ => 0))), (q136, .inl (cy 1, 1000, .inl (fun _ => 0))), (q143, .inl (cy 1, 4, .inl (fun _ => 0)))]) C hI 69 rfl qX12_61 0 (a := a) (fs := _) rfl rfl rfl ?_
  refine k_aload_0 C 70 rfl 0 rfl ?_
  refine k_bipush C 71 rfl cb_8 ?_
  refine k_newI C 72 8 rfl acI (by decide) (by decide) (by decide) ⟨by decide, by decide⟩ (fun q151 => ?_)
  refine kf12_31 (w2 := [(a, .inr (12, [.ref q8, .int 0, .int 0, .ref q17, .ref q25, .ref q34, .ref q42, .ref q50, .int 0, .int 0, .int 0, .int 0, .int 0, .int 0, .int 0, .ref q59, .int 0, .ref q67, .int 0, .ref q75, .ref q84, .int 0, .ref q93, .int 0, .ref q101, .ref q109, .ref q118, .ref q127, .ref q136, .int 0, .ref q143, .ref q151, .null, .null, .null, .long 0, .null, .null, .null])), (q8, .inl (cy 0, 400, .inl (fun _ => 0))), (q17, .inl (cy 1, 2400, .inl (fun _ => 0))), (q25, .inl (cy 1, 7, .inl (fun _ => 0))), (q34, .inl (cy 1, 360, .inl (fun _ => 0))), (q42, .inl (cy 1, 6, .inl (fun _ => 0))), (q50, .inl (cy 1, 100, .inl (fun _ => 0))), (q59, .inl (cy 1, 400, .inl (fun _ => 0))), (q67, .inl (cy 2, 64, .inr (.inl (fun _ => 0)))), (q75, .inl (cy 2, 13, .inr (.inl (fun _ => 0)))), (q84, .inl (cy 1, 137, .inl (fun _ => 0))), (q93, .inl (cy 1, 2000, .inl (fun _ => 0))), (q101, .inl (cy 1, 8, .inl (fun _ => 0))), (q109, .inl (cy 3, 8, .inl (fun _ => 0))), (q118, .inl (cy 1, 1000, .inl (fun _ => 0))), (q127, .inl (cy 1, 1000, .inl (fun _ => 0))), (q136, .inl (cy 1, 1000, .inl (fun _ => 0))), (q143, .inl (cy 1, 4, .inl (fun _ => 0))), (q151, .inl (cy 1, 8, .inl (fun _ => 0)))]) C hI 73 rfl qX12_64 0 (a := a) (fs := _) rfl rfl rfl ?_
  refine k_aload_0 C 74 rfl 0 rfl ?_
  refine k_bipush C 75 rfl cb_8 ?_
  refine k_newI C 76 8 rfl acI (by decide) (by decide) (by decide) ⟨by decide, by decide⟩ (fun q159 => ?_)
  refine kf12_32 (w2 := [(a, .inr (12, [.ref q8, .int 0, .int 0, .ref q17, .ref q25, .ref q34, .ref q42, .ref q50, .int 0, .int 0, .int 0, .int 0, .int 0, .int 0, .int 0, .ref q59, .int 0, .ref q67, .int 0, .ref q75, .ref q84, .int 0, .ref q93, .int 0, .ref q101, .ref q109, .ref q118, .ref q127, .ref q136, .int 0, .ref q143, .ref q151, .ref q159, .null, .null, .long 0, .null, .null, .null])), (q8, .inl (cy 0, 400, .inl (fun _ => 0))), (q17, .inl (cy 1, 2400, .inl (fun _ => 0))), (q25, .inl (cy 1, 7, .inl (fun _ => 0))), (q34, .inl (cy 1, 360, .inl (fun _ => 0))), (q42, .inl (cy 1, 6, .inl (fun _ => 0))), (q50, .inl (cy 1, 100, .inl (fun _ => 0))), (q59, .inl (cy 1, 400, .inl (fun _ => 0))), (q67, .inl (cy 2, 64, .inr (.inl (fun _ => 0)))), (q75, .inl (cy 2, 13, .inr (.inl (fun _ => 0)))), (q84, .inl (cy 1, 137, .inl (fun _ => 0))), (q93, .inl (cy 1, 2000, .inl (fun _ => 0))), (q101, .inl (cy 1, 8, .inl (fun _ => 0))), (q109, .inl (cy 3, 8, .inl (fun _ => 0))), (q118, .inl (cy 1, 1000, .inl (fun _ => 0))), (q127, .inl (cy 1, 1000, .inl (fun _ => 0))), (q136, .inl (cy 1, 1000, .inl (fun _ => 0))), (q143, .inl (cy 1, 4, .inl (fun _ => 0))), (q151, .inl (cy 1, 8, .inl (fun _ => 0))), (q159, .inl (cy 1, 8, .inl (fun _ => 0)))]) C hI 77 rfl qX12_67 0 (a := a) (fs := _) rfl rfl rfl ?_
  refine k_aload_0 C 78 rfl 0 rfl ?_
  refine k_bipush C 79 rfl cb_14 ?_
  refine k_newI C 80 14 rfl acI (by decide) (by decide) (by decide) ⟨by decide, by decide⟩ (fun q167 => ?_)
  refine kf12_33 (w2 := [(a, .inr (12, [.ref q8, .int 0, .int 0, .ref q17, .ref q25, .ref q34, .ref q42, .ref q50, .int 0, .int 0, .int 0, .int 0, .int 0, .int 0, .int 0, .ref q59, .int 0, .ref q67, .int 0, .ref q75, .ref q84, .int 0, .ref q93, .int 0, .ref q101, .ref q109, .ref q118, .ref q127, .ref q136, .int 0, .ref q143, .ref q151, .ref q159, .ref q167, .null, .long 0, .null, .null, .null])), (q8, .inl (cy 0, 400, .inl (fun _ => 0))), (q17, .inl (cy 1, 2400, .inl (fun _ => 0))), (q25, .inl (cy 1, 7, .inl (fun _ => 0))), (q34, .inl (cy 1, 360, .inl (fun _ => 0))), (q42, .inl (cy 1, 6, .inl (fun _ => 0))), (q50, .inl (cy 1, 100, .inl (fun _ => 0))), (q59, .inl (cy 1, 400, .inl (fun _ => 0))), (q67, .inl (cy 2, 64, .inr (.inl (fun _ => 0)))), (q75, .inl (cy 2, 13, .inr (.inl (fun _ => 0)))), (q84, .inl (cy 1, 137, .inl (fun _ => 0))), (q93, .inl (cy 1, 2000, .inl (fun _ => 0))), (q101, .inl (cy 1, 8, .inl (fun _ => 0))), (q109, .inl (cy 3, 8, .inl (fun _ => 0))), (q118, .inl (cy 1, 1000, .inl (fun _ => 0))), (q127, .inl (cy 1, 1000, .inl (fun _ => 0))), (q136, .inl (cy 1, 1000, .inl (fun _ => 0))), (q143, .inl (cy 1, 4, .inl (fun _ => 0))), (q151, .inl (cy 1, 8, .inl (fun _ => 0))), (q159, .inl (cy 1, 8, .inl (fun _ => 0))), (q167, .inl (cy 1, 14, .inl (fun _ => 0)))]) C hI 81 rfl qX12_70 0 (a := a) (fs := _) rfl rfl rfl ?_
  refine k_aload_0 C 82 rfl 0 rfl ?_
  refine k_bipush C 83 rfl cb_14 ?_
  refine k_newI C 84 14 rfl acI (by decide) (by decide) (by decide) ⟨by decide, by decide⟩ (fun q175 => ?_)
  refine kf12_34 (w2 := [(a, .inr (12, [.ref q8, .int 0, .int 0, .ref q17, .ref q25, .ref q34, .ref q42, .ref q50, .int 0, .int 0, .int 0, .int 0, .int 0, .int 0, .int 0, .ref q59, .int 0, .ref q67, .int 0, .ref q75, .ref q84, .int 0, .ref q93, .int 0, .ref q101, .ref q109, .ref q118, .ref q127, .ref q136, .int 0, .ref q143, .ref q151, .ref q159, .ref q167, .ref q175, .long 0, .null, .null, .null])), (q8, .inl (cy 0, 400, .inl (fun _ => 0))), (q17, .inl (cy 1, 2400, .inl (fun _ => 0))), (q25, .inl (cy 1, 7, .inl (fun _ => 0))), (q34, .inl (cy 1, 360, .inl (fun _ => 0))), (q42, .inl (cy 1, 6, .inl (fun _ => 0))), (q50, .inl (cy 1, 100, .inl (fun _ => 0))), (q59, .inl (cy 1, 400, .inl (fun _ => 0))), (q67, .inl (cy 2, 64, .inr (.inl (fun _ => 0)))), (q75, .inl (cy 2, 13, .inr (.inl (fun _ => 0)))), (q84, .inl (cy 1, 137, .inl (fun _ => 0))), (q93, .inl (cy 1, 2000, .inl (fun _ => 0))), (q101, .inl (cy 1, 8, .inl (fun _ => 0))), (q109, .inl (cy 3, 8, .inl (fun _ => 0))), (q118, .inl (cy 1, 1000, .inl (fun _ => 0))), (q127, .inl (cy 1, 1000, .inl (fun _ => 0))), (q136, .inl (cy 1, 1000, .inl (fun _ => 0))), (q143, .inl (cy 1, 4, .inl (fun _ => 0))), (q151, .inl (cy 1, 8, .inl (fun _ => 0))), (q159, .inl (cy 1, 8, .inl (fun _ => 0))), (q167, .inl (cy 1, 14, .inl (fun _ => 0))), (q175, .inl (cy 1, 14, .inl (fun _ => 0)))]) C hI 85 rfl qX12_73 0 (a := a) (fs := _) rfl rfl rfl ?_
  refine k_aload_0 C 86 rfl 0 rfl ?_
  refine k_sipush C 87 rfl cs_548 ?_
  refine k_newI C 88 548 rfl acI (by decide) (by decide) (by decide) ⟨by decide, by decide⟩ (fun q184 => ?_)
  refine kf12_36 (w2 := [(a, .inr (12, [.ref q8, .int 0, .int 0, .ref q17, .ref q25, .ref q34, .ref q42, .ref q50, .int 0, .int 0, .int 0, .int 0, .int 0, .int 0, .int 0, .ref q59, .int 0, .ref q67, .int 0, .ref q75, .ref q84, .int 0, .ref q93, .int 0, .ref q101, .ref q109, .ref q118, .ref q127, .ref q136, .int 0, .ref q143, .ref q151, .ref q159, .ref q167, .ref q175, .long 0, .ref q184, .null, .null])), (q8, .inl (cy 0, 400, .inl (fun _ => 0))), (q17, .inl (cy 1, 2400, .inl (fun _ => 0))), (q25, .inl (cy 1, 7, .inl (fun _ => 0))), (q34, .inl (cy 1, 360, .inl (fun _ => 0))), (q42, .inl (cy 1, 6, .inl (fun _ => 0))), (q50, .inl (cy 1, 100, .inl (fun _ => 0))), (q59, .inl (cy 1, 400, .inl (fun _ => 0))), (q67, .inl (cy 2, 64, .inr (.inl (fun _ => 0)))), (q75, .inl (cy 2, 13, .inr (.inl (fun _ => 0)))), (q84, .inl (cy 1, 137, .inl (fun _ => 0))), (q93, .inl (cy 1, 2000, .inl (fun _ => 0))), (q101, .inl (cy 1, 8, .inl (fun _ => 0))), (q109, .inl (cy 3, 8, .inl (fun _ => 0))), (q118, .inl (cy 1, 1000, .inl (fun _ => 0))), (q127, .inl (cy 1, 1000, .inl (fun _ => 0))), (q136, .inl (cy 1, 1000, .inl (fun _ => 0))), (q143, .inl (cy 1, 4, .inl (fun _ => 0))), (q151, .inl (cy 1, 8, .inl (fun _ => 0))), (q159, .inl (cy 1, 8, .inl (fun _ => 0))), (q167, .inl (cy 1, 14, .inl (fun _ => 0))), (q175, .inl (cy 1, 14, .inl (fun _ => 0))), (q184, .inl (cy 1, 548, .inl (fun _ => 0)))]) C hI 89 rfl qX12_76 0 (a := a) (fs := _) rfl rfl rfl ?_
  refine k_aload_0 C 90 rfl 0 rfl ?_
  refine k_iconst C 91 rfl ci_4 ?_
  refine k_newI C 92 4 rfl acI (by decide) (by decide) (by decide) ⟨by decide, by decide⟩ (fun q191 => ?_)
  refine kf12_37 (w2 := [(a, .inr (12, [.ref q8, .int 0, .int 0, .ref q17, .ref q25, .ref q34, .ref q42, .ref q50, .int 0, .int 0, .int 0, .int 0, .int 0, .int 0, .int 0, .ref q59, .int 0, .ref q67, .int 0, .ref q75, .ref q84, .int 0, .ref q93, .int 0, .ref q101, .ref q109, .ref q118, .ref q127, .ref q136, .int 0, .ref q143, .ref q151, .ref q159, .ref q167, .ref q175, .long 0, .ref q184, .ref q191, .null])), (q8, .inl (cy 0, 400, .inl (fun _ => 0))), (q17, .inl (cy 1, 2400, .inl (fun _ => 0))), (q25, .inl (cy 1, 7, .inl (fun _ => 0))), (q34, .inl (cy 1, 360, .inl (fun _ => 0))), (q42, .inl (cy 1, 6, .inl (fun _ => 0))), (q50, .inl (cy 1, 100, .inl (fun _ => 0))), (q59, .inl (cy 1, 400, .inl (fun _ => 0))), (q67, .inl (cy 2, 64, .inr (.inl (fun _ => 0)))), (q75, .inl (cy 2, 13, .inr (.inl (fun _ => 0)))), (q84, .inl (cy 1, 137, .inl (fun _ => 0))), (q93, .inl (cy 1, 2000, .inl (fun _ => 0))), (q101, .inl (cy 1, 8, .inl (fun _ => 0))), (q109, .inl (cy 3, 8, .inl (fun _ => 0))), (q118, .inl (cy 1, 1000, .inl (fun _ => 0))), (q127, .inl (cy 1, 1000, .inl (fun _ => 0))), (q136, .inl (cy 1, 1000, .inl (fun _ => 0))), (q143, .inl (cy 1, 4, .inl (fun _ => 0))), (q151, .inl (cy 1, 8, .inl (fun _ => 0))), (q159, .inl (cy 1, 8, .inl (fun _ => 0))), (q167, .inl (cy 1, 14, .inl (fun _ => 0))), (q175, .inl (cy 1, 14, .inl (fun _ => 0))), (q184, .inl (cy 1, 548, .inl (fun _ => 0))), (q191, .inl (cy 1, 4, .inl (fun _ => 0)))]) C hI 93 rfl qX12_79 0 (a := a) (fs := _) rfl rfl rfl ?_
  refine k_aload_0 C 94 rfl 0 rfl ?_
  refine k_iconst C 95 rfl ci_4 ?_
  refine k_newZ C 96 4 rfl acZ (by decide) (by decide) (by decide) ⟨by decide, by decide⟩ (fun q198 => ?_)
  refine kf12_38 (w2 := [(a, .inr (12, [.ref q8, .int 0, .int 0, .ref q17, .ref q25, .ref q34, .ref q42, .ref q50, .int 0, .int 0, .int 0, .int 0, .int 0, .int 0, .int 0, .ref q59, .int 0, .ref q67, .int 0, .ref q75, .ref q84, .int 0, .ref q93, .int 0, .ref q101, .ref q109, .ref q118, .ref q127, .ref q136, .int 0, .ref q143, .ref q151, .ref q159, .ref q167, .ref q175, .long 0, .ref q184, .ref q191, .ref q198])), (q8, .inl (cy 0, 400, .inl (fun _ => 0))), (q17, .inl (cy 1, 2400, .inl (fun _ => 0))), (q25, .inl (cy 1, 7, .inl (fun _ => 0))), (q34, .inl (cy 1, 360, .inl (fun _ => 0))), (q42, .inl (cy 1, 6, .inl (fun _ => 0))), (q50, .inl (cy 1, 100, .inl (fun _ => 0))), (q59, .inl (cy 1, 400, .inl (fun _ => 0))), (q67, .inl (cy 2, 64, .inr (.inl (fun _ => 0)))), (q75, .inl (cy 2, 13, .inr (.inl (fun _ => 0)))), (q84, .inl (cy 1, 137, .inl (fun _ => 0))), (q93, .inl (cy 1, 2000, .inl (fun _ => 0))), (q101, .inl (cy 1, 8, .inl (fun _ => 0))), (q109, .inl (cy 3, 8, .inl (fun _ => 0))), (q118, .inl (cy 1, 1000, .inl (fun _ => 0))), (q127, .inl (cy 1, 1000, .inl (fun _ => 0))), (q136, .inl (cy 1, 1000, .inl (fun _ => 0))), (q143, .inl (cy 1, 4, .inl (fun _ => 0))), (q151, .inl (cy 1, 8, .inl (fun _ => 0))), (q159, .inl (cy 1, 8, .inl (fun _ => 0))), (q167, .inl (cy 1, 14, .inl (fun _ => 0))), (q175, .inl (cy 1, 14, .inl (fun _ => 0))), (q184, .inl (cy 1, 548, .inl (fun _ => 0))), (q191, .inl (cy 1, 4, .inl (fun _ => 0))), (q198, .inl (cy 3, 4, .inl (fun _ => 0)))]) C hI 97 rfl qX12_82 0 (a := a) (fs := _) rfl rfl rfl ?_
  exact hR 98 203 _ (adl [0, q8, 0, 0, q17, q25, q34, q42, q50, 0, 0, 0, 0, 0, 0, 0, q59, 0, q67, 0, q75, q84, 0, q93, 0, q101, q109, q118, q127, q136, 0, q143, q151, q159, q167, q175, 0, q184, q191, q198]) rfl
set_option maxHeartbeats 1000000 in
theorem e_X5 (l : Launch) (D : va_G) (cy : Nat → ClassId) (a : Nat) (x1 : Nat) : Ce l D cy yX5_init cX5_init 2 1 30 4 436 [.ref a, .ref x1] [(a, .inr (5, [.null, .int 0, .null, .null, .null, .int 0, .null, .int 0]))] (fun ad => wK1 cy (ad0 a ad) (fun _ => x1) z0) := by
  refine Ce_of tX5_init hX5_init (by decide) rfl (Nat.le_of_ble_eq_true rfl) ?_
  intro Z hZ C hE hI hR
  subst hZ
  replace C : Cx Z D cy RX5 tX5_init 2 1 30 4 436 := C
  show Wk Z D 2 0 0 [(a, .inr (5, [.null, .int 0, .null, .null, .null, .int 0, .null, .int 0]))] 0 [(0, .ref a), (1, .ref x1)] []
  refine k_aload_0 C 0 rfl 0 rfl ?_
  refine k_obj C 1 rfl qX5_3 obw (by decide) (by decide) (Nat.le_of_ble_eq_true rfl) ?_
  refine k_aload_0 C 2 rfl 0 rfl ?_
  refine k_sipush C 3 rfl cs_400 ?_
  refine k_newI C 4 400 rfl acI (by decide) (by decide) (by decide) ⟨by decide, by decide⟩ (fun q8 => ?_)
  refine kf5_0 (w2 := [(a, .inr (5, [.ref q8, .int 0, .null, .null, .null, .int 0, .null, .int 0])), (q8, .inl (cy 1, 400, .inl (fun _ => 0)))]) C hI 5 rfl qX5_9 0 (a := a) (fs := _) rfl rfl rfl ?_
  refine k_aload_0 C 6 rfl 0 rfl ?_
  refine k_bipush C 7 rfl cb_12 ?_
  refine k_newI C 8 12 rfl acI (by decide) (by decide) (by decide) ⟨by decide, by decide⟩ (fun q16 => ?_)
  refine kf5_2 (w2 := [(a, .inr (5, [.ref q8, .int 0, .ref q16, .null, .null, .int 0, .null, .int 0])), (q8, .inl (cy 1, 400, .inl (fun _ => 0))), (q16, .inl (cy 1, 12, .inl (fun _ => 0)))]) C hI 9 rfl qX5_15 0 (a := a) (fs := _) rfl rfl rfl ?_
  refine k_aload_0 C 10 rfl 0 rfl ?_
  refine k_bipush C 11 rfl cb_12 ?_
  refine k_newI C 12 12 rfl acI (by decide) (by decide) (by decide) ⟨by decide, by decide⟩ (fun q24 => ?_)
  refine kf5_3 (w2 := [(a, .inr (5, [.ref q8, .int 0, .ref q16, .ref q24, .null, .int 0, .null, .int 0])), (q8, .inl (cy 1, 400, .inl (fun _ => 0))), (q16, .inl (cy 1, 12, .inl (fun _ => 0))), (q24, .inl (cy 1, 12, .inl (fun _ => 0)))]) C hI 13 rfl qX5_18 0 (a := a) (fs := _) rfl rfl rfl ?_
  refine k_aload_0 C 14 rfl 0 rfl ?_
  refine k_bipush C 15 rfl cb_12 ?_
  refine k_newI C 16 12 rfl acI (by decide) (by decide) (by decide) ⟨by decide, by decide⟩ (fun q32 => ?_)
  refine kf5_4 (w2 := [(a, .inr (5, [.ref q8, .int 0, .ref q16, .ref q24, .ref q32, .int 0, .null, .int 0])), (q8, .inl (cy 1, 400, .inl (fun _ => 0))), (q16, .inl (cy 1, 12, .inl (fun _ => 0))), (q24, .inl (cy 1, 12, .inl (fun _ => 0))), (q32, .inl (cy 1, 12, .inl (fun _ => 0)))]) C hI 17 rfl qX5_21 0 (a := a) (fs := _) rfl rfl rfl ?_
  refine k_aload_0 C 18 rfl 0 rfl ?_
  refine k_aload_1 C 19 rfl 1 rfl ?_
  refine kf5_6 (w2 := [(a, .inr (5, [.ref q8, .int 0, .ref q16, .ref q24, .ref q32, .int 0, .ref x1, .int 0])), (q8, .inl (cy 1, 400, .inl (fun _ => 0))), (q16, .inl (cy 1, 12, .inl (fun _ => 0))), (q24, .inl (cy 1, 12, .inl (fun _ => 0))), (q32, .inl (cy 1, 12, .inl (fun _ => 0)))]) C hI 20 rfl qX5_24 0 (a := a) (fs := _) rfl rfl rfl ?_
  exact hR 21 42 _ (adl [0, q8, q16, q24, q32]) rfl
set_option maxHeartbeats 1000000 in
theorem e_X6 (l : Launch) (D : va_G) (cy : Nat → ClassId) (a : Nat) (x1 : Nat) : Ce l D cy yX6_init cX6_init 2 1 30 7 56 [.ref a, .ref x1] [(a, .inr (6, [.null, .null, .null, .null, .null, .null, .null, .null, .int 0, .int 0, .int 0, .int 0, .int 0, .int 0]))] (fun ad => wS1 cy (ad0 a ad) (fun _ => x1) z0) := by
  refine Ce_of tX6_init hX6_init (by decide) rfl (Nat.le_of_ble_eq_true rfl) ?_
  intro Z hZ C hE hI hR
  subst hZ
  replace C : Cx Z D cy RX6 tX6_init 2 1 30 7 56 := C
  show Wk Z D 2 0 0 [(a, .inr (6, [.null, .null, .null, .null, .null, .null, .null, .null, .int 0, .int 0, .int 0, .int 0, .int 0, .int 0]))] 0 [(0, .ref a), (1, .ref x1)] []
  refine k_aload_0 C 0 rfl 0 rfl ?_
  refine k_obj C 1 rfl qX6_3 obw (by decide) (by decide) (Nat.le_of_ble_eq_true rfl) ?_
  refine k_aload_0 C 2 rfl 0 rfl ?_
  refine k_bipush C 3 rfl cb_8 ?_
  refine k_newI C 4 8 rfl acI (by decide) (by decide) (by decide) ⟨by decide, by decide⟩ (fun q7 => ?_)
  refine kf6_1 (w2 := [(a, .inr (6, [.null, .ref q7, .null, .null, .null, .null, .null, .null, .int 0, .int 0, .int 0, .int 0, .int 0, .int 0])), (q7, .inl (cy 1, 8, .inl (fun _ => 0)))]) C hI 5 rfl qX6_9 0 (a := a) (fs := _) rfl rfl rfl ?_
  refine k_aload_0 C 6 rfl 0 rfl ?_
  refine k_bipush C 7 rfl cb_8 ?_
  refine k_newI C 8 8 rfl acI (by decide) (by decide) (by decide) ⟨by decide, by decide⟩ (fun q15 => ?_)
  refine kf6_2 (w2 := [(a, .inr (6, [.null, .ref q7, .ref q15, .null, .null, .null, .null, .null, .int 0, .int 0, .int 0, .int 0, .int 0, .int 0])), (q7, .inl (cy 1, 8, .inl (fun _ => 0))), (q15, .inl (cy 1, 8, .inl (fun _ => 0)))]) C hI 9 rfl qX6_15 0 (a := a) (fs := _) rfl rfl rfl ?_
  refine k_aload_0 C 10 rfl 0 rfl ?_
  refine k_bipush C 11 rfl cb_8 ?_
  refine k_newI C 12 8 rfl acI (by decide) (by decide) (by decide) ⟨by decide, by decide⟩ (fun q23 => ?_)
  refine kf6_3 (w2 := [(a, .inr (6, [.null, .ref q7, .ref q15, .ref q23, .null, .null, .null, .null, .int 0, .int 0, .int 0, .int 0, .int 0, .int 0])), (q7, .inl (cy 1, 8, .inl (fun _ => 0))), (q15, .inl (cy 1, 8, .inl (fun _ => 0))), (q23, .inl (cy 1, 8, .inl (fun _ => 0)))]) C hI 13 rfl qX6_18 0 (a := a) (fs := _) rfl rfl rfl ?_
  refine k_aload_0 C 14 rfl 0 rfl ?_
  refine k_bipush C 15 rfl cb_8 ?_
  refine k_newI C 16 8 rfl acI (by decide) (by decide) (by decide) ⟨by decide, by decide⟩ (fun q31 => ?_)
  refine kf6_4 (w2 := [(a, .inr (6, [.null, .ref q7, .ref q15, .ref q23, .ref q31, .null, .null, .null, .int 0, .int 0, .int 0, .int 0, .int 0, .int 0])), (q7, .inl (cy 1, 8, .inl (fun _ => 0))), (q15, .inl (cy 1, 8, .inl (fun _ => 0))), (q23, .inl (cy 1, 8, .inl (fun _ => 0))), (q31, .inl (cy 1, 8, .inl (fun _ => 0)))]) C hI 17 rfl qX6_21 0 (a := a) (fs := _) rfl rfl rfl ?_
  refine k_aload_0 C 18 rfl 0 rfl ?_
  refine k_bipush C 19 rfl cb_8 ?_
  refine k_newI C 20 8 rfl acI (by decide) (by decide) (by decide) ⟨by decide, by decide⟩ (fun q39 => ?_)
  refine kf6_5 (w2 := [(a, .inr (6, [.null, .ref q7, .ref q15, .ref q23, .ref q31, .ref q39, .null, .null, .int 0, .int 0, .int 0, .int 0, .int 0, .int 0])), (q7, .inl (cy 1, 8, .inl (fun _ => 0))), (q15, .inl (cy 1, 8, .inl (fun _ => 0))), (q23, .inl (cy 1, 8, .inl (fun _ => 0))), (q31, .inl (cy 1, 8, .inl (fun _ => 0))), (q39, .inl (cy 1, 8, .inl (fun _ => 0)))]) C hI 21 rfl qX6_24 0 (a := a) (fs := _) rfl rfl rfl ?_
  refine k_aload_0 C 22 rfl 0 rfl ?_
  refine k_bipush C 23 rfl cb_8 ?_
  refine k_newI C 24 8 rfl acI (by decide) (by decide) (by decide) ⟨by decide, by decide⟩ (fun q47 => ?_)
  refine kf6_6 (w2 := [(a, .inr (6, [.null, .ref q7, .ref q15, .ref q23, .ref q31, .ref q39, .ref q47, .null, .int 0, .int 0, .int 0, .int 0, .int 0, .int 0])), (q7, .inl (cy 1, 8, .inl (fun _ => 0))), (q15, .inl (cy 1, 8, .inl (fun _ => 0))), (q23, .inl (cy 1, 8, .inl (fun _ => 0))), (q31, .inl (cy 1, 8, .inl (fun _ => 0))), (q39, .inl (cy 1, 8, .inl (fun _ => 0))), (q47, .inl (cy 1, 8, .inl (fun _ => 0)))]) C hI 25 rfl qX6_27 0 (a := a) (fs := _) rfl rfl rfl ?_
  refine k_aload_0 C 26 rfl 0 rfl ?_
  refine k_bipush C 27 rfl cb_8 ?_
  refine k_newI C 28 8 rfl acI (by decide) (by decide) (by decide) ⟨by decide, by decide⟩ (fun q55 => ?_)
  refine kf6_7 (w2 := [(a, .inr (6, [.null, .ref q7, .ref q15, .ref q23, .ref q31, .ref q39, .ref q47, .ref q55, .int 0, .int 0, .int 0, .int 0, .int 0, .int 0])), (q7, .inl (cy 1, 8, .inl (fun _ => 0))), (q15, .inl (cy 1, 8, .inl (fun _ => 0))), (q23, .inl (cy 1, 8, .inl (fun _ => 0))), (q31, .inl (cy 1, 8, .inl (fun _ => 0))), (q39, .inl (cy 1, 8, .inl (fun _ => 0))), (q47, .inl (cy 1, 8, .inl (fun _ => 0))), (q55, .inl (cy 1, 8, .inl (fun _ => 0)))]) C hI 29 rfl qX6_30 0 (a := a) (fs := _) rfl rfl rfl ?_
  refine k_aload_0 C 30 rfl 0 rfl ?_
  refine k_aload_1 C 31 rfl 1 rfl ?_
  refine kf6_0 (w2 := [(a, .inr (6, [.ref x1, .ref q7, .ref q15, .ref q23, .ref q31, .ref q39, .ref q47, .ref q55, .int 0, .int 0, .int 0, .int 0, .int 0, .int 0])), (q7, .inl (cy 1, 8, .inl (fun _ => 0))), (q15, .inl (cy 1, 8, .inl (fun _ => 0))), (q23, .inl (cy 1, 8, .inl (fun _ => 0))), (q31, .inl (cy 1, 8, .inl (fun _ => 0))), (q39, .inl (cy 1, 8, .inl (fun _ => 0))), (q47, .inl (cy 1, 8, .inl (fun _ => 0))), (q55, .inl (cy 1, 8, .inl (fun _ => 0)))]) C hI 32 rfl qX6_33 0 (a := a) (fs := _) rfl rfl rfl ?_
  exact hR 33 65 _ (adl [0, q7, q15, q23, q31, q39, q47, q55]) rfl
set_option maxHeartbeats 1000000 in
theorem e_X3 (l : Launch) (D : va_G) (cy : Nat → ClassId) (a : Nat) (x1 : Nat) : Ce l D cy yX3_init cX3_init 2 1 30 1 128 [.ref a, .ref x1] [(a, .inr (3, [.null, .null, .int 0]))] (fun ad => wN1 cy (ad0 a ad) (fun _ => x1) z0) := by
  refine Ce_of tX3_init hX3_init (by decide) rfl (Nat.le_of_ble_eq_true rfl) ?_
  intro Z hZ C hE hI hR
  subst hZ
  replace C : Cx Z D cy RX3 tX3_init 2 1 30 1 128 := C
  show Wk Z D 2 0 0 [(a, .inr (3, [.null, .null, .int 0]))] 0 [(0, .ref a), (1, .ref x1)] []
  refine k_aload_0 C 0 rfl 0 rfl ?_
  refine k_obj C 1 rfl qX3_3 obw (by decide) (by decide) (Nat.le_of_ble_eq_true rfl) ?_
  refine k_aload_0 C 2 rfl 0 rfl ?_
  refine k_sipush C 3 rfl cs_128 ?_
  refine k_newJ C 4 128 rfl acJ (by decide) (by decide) (by decide) ⟨by decide, by decide⟩ (fun q8 => ?_)
  refine kf3_1 (w2 := [(a, .inr (3, [.null, .ref q8, .int 0])), (q8, .inl (cy 2, 128, .inr (.inl (fun _ => 0))))]) C hI 5 rfl qX3_11 0 (a := a) (fs := _) rfl rfl rfl ?_
  refine k_aload_0 C 6 rfl 0 rfl ?_
  refine k_aload_1 C 7 rfl 1 rfl ?_
  refine kf3_0 (w2 := [(a, .inr (3, [.ref x1, .ref q8, .int 0])), (q8, .inl (cy 2, 128, .inr (.inl (fun _ => 0))))]) C hI 8 rfl qX3_15 0 (a := a) (fs := _) rfl rfl rfl ?_
  exact hR 9 18 _ (adl [0, q8]) rfl
set_option maxHeartbeats 1000000 in
theorem e_X1 (l : Launch) (D : va_G) (cy : Nat → ClassId) (a : Nat) (x1 : Nat) (x2 : Nat) : Ce l D cy yX1_init cX1_init 3 1 30 0 0 [.ref a, .ref x1, .ref x2] [(a, .inr (1, [.null, .null, .int 0]))] (fun ad => [(a, .inr (1, [.ref x1, .ref x2, .int 0]))]) := by
  refine Ce_of tX1_init hX1_init (by decide) rfl (Nat.le_of_ble_eq_true rfl) ?_
  intro Z hZ C hE hI hR
  subst hZ
  replace C : Cx Z D cy RX1 tX1_init 3 1 30 0 0 := C
  show Wk Z D 3 0 0 [(a, .inr (1, [.null, .null, .int 0]))] 0 [(0, .ref a), (1, .ref x1), (2, .ref x2)] []
  refine k_aload_0 C 0 rfl 0 rfl ?_
  refine k_obj C 1 rfl qX1_3 obw (by decide) (by decide) (Nat.le_of_ble_eq_true rfl) ?_
  refine k_aload_0 C 2 rfl 0 rfl ?_
  refine k_aload_1 C 3 rfl 1 rfl ?_
  refine kf1_0 (w2 := [(a, .inr (1, [.ref x1, .null, .int 0]))]) C hI 4 rfl qX1_9 0 (a := a) (fs := _) rfl rfl rfl ?_
  refine k_aload_0 C 5 rfl 0 rfl ?_
  refine k_aload_2 C 6 rfl 2 rfl ?_
  refine kf1_1 (w2 := [(a, .inr (1, [.ref x1, .ref x2, .int 0]))]) C hI 7 rfl qX1_15 0 (a := a) (fs := _) rfl rfl rfl ?_
  exact hR 8 14 _ (adl [0]) rfl
set_option maxHeartbeats 1000000 in
theorem e_X10 (l : Launch) (D : va_G) (cy : Nat → ClassId) (a : Nat) : Ce l D cy yX10_init cX10_init 1 3 240 22 166 [.ref a] [(a, .inr (10, [.null, .null, .null, .int 0]))] (fun ad => wW cy (ad0 a ad) Tc0 Oc0 z0 z0) := by
  refine Ce_of tX10_init hX10_init (by decide) rfl (Nat.le_of_ble_eq_true rfl) ?_
  intro Z hZ C hE hI hR
  subst hZ
  replace C : Cx Z D cy RX10 tX10_init 1 3 240 22 166 := C
  show Wk Z D 1 0 0 [(a, .inr (10, [.null, .null, .null, .int 0]))] 0 [(0, .ref a)] []
  refine k_aload_0 C 0 rfl 0 rfl ?_
  refine k_obj C 1 rfl qX10_3 obw (by decide) (by decide) (Nat.le_of_ble_eq_true rfl) ?_
  refine k_aload_0 C 2 rfl 0 rfl ?_
  refine kn9 C 3 rfl qX10_9 ⟨by decide, by decide⟩ (fun q5 => ?_)
  refine k_dup C 4 rfl rfl ?_
  refine k_callIN (X := [(a, .inr (10, [.null, .null, .null, .int 0]))]) (Y := []) C hE 5 (e_X9 Z.2.1 D cy q5) rfl hE.2.1 miX9_init rfl rfl (Nat.le_of_ble_eq_true rfl) ⟨Nat.le_of_ble_eq_true rfl, Nat.le_of_ble_eq_true rfl, Nat.le_of_ble_eq_true rfl, Nat.le_of_ble_eq_true rfl⟩ (fun ad9 => ?_)
  refine kf10_0 (w2 := (([(a, .inr (10, [.ref q5, .null, .null, .int 0]))] ++ wT cy (ad0 q5 ad9) z0) ++ [])) C hI 6 rfl qX10_12 0 (a := a) (fs := _) rfl rfl rfl ?_
  refine k_aload_0 C 7 rfl 0 rfl ?_
  refine kn2 C 8 rfl qX10_18 ⟨by decide, by decide⟩ (fun q16 => ?_)
  refine k_dup C 9 rfl rfl ?_
  refine k_callIN (X := (([(a, .inr (10, [.ref q5, .null, .null, .int 0]))] ++ wT cy (ad0 q5 ad9) z0) ++ [])) (Y := []) C hE 10 (e_X2 Z.2.1 D cy q16) rfl hE.2.2.1 miX2_init rfl rfl (Nat.le_of_ble_eq_true rfl) ⟨Nat.le_of_ble_eq_true rfl, Nat.le_of_ble_eq_true rfl, Nat.le_of_ble_eq_true rfl, Nat.le_of_ble_eq_true rfl⟩ (fun ad2 => ?_)
  refine kf10_1 (w2 := (((([(a, .inr (10, [.ref q5, .ref q16, .null, .int 0]))] ++ wT cy (ad0 q5 ad9) z0) ++ []) ++ wO cy (ad0 q16 ad2) z0) ++ [])) C hI 11 rfl qX10_21 0 (a := a) (fs := _) rfl rfl rfl ?_
  refine k_aload_0 C 12 rfl 0 rfl ?_
  refine kn7 C 13 rfl qX10_25 ⟨by decide, by decide⟩ (fun q27 => ?_)
  refine k_dup C 14 rfl rfl ?_
  refine k_callIN (X := (((([(a, .inr (10, [.ref q5, .ref q16, .null, .int 0]))] ++ wT cy (ad0 q5 ad9) z0) ++ []) ++ wO cy (ad0 q16 ad2) z0) ++ [])) (Y := []) C hE 15 (e_X7 Z.2.1 D cy q27) rfl hE.2.2.2.1 miX7_init rfl rfl (Nat.le_of_ble_eq_true rfl) ⟨Nat.le_of_ble_eq_true rfl, Nat.le_of_ble_eq_true rfl, Nat.le_of_ble_eq_true rfl, Nat.le_of_ble_eq_true rfl⟩ (fun ad7 => ?_)
  refine kf10_2 (w2 := (((((([(a, .inr (10, [.ref q5, .ref q16, .ref q27, .int 0]))] ++ wT cy (ad0 q5 ad9) z0) ++ []) ++ wO cy (ad0 q16 ad2) z0) ++ []) ++ wE cy (ad0 q27 ad7) z0) ++ [])) C hI 16 rfl qX10_28 0 (a := a) (fs := _) rfl rfl rfl ?_
  refine k_aload_0 C 17 rfl 0 rfl ?_
  refine k_callV (X := []) (Y := []) (w2 := wW cy (fun i => if i = 0 then a else if i = 1 then q5 else if i < 13 then ad9 (i - 1) else if i = 13 then q16 else if i < 19 then ad2 (i - 13) else if i = 19 then q27 else ad7 (i - 19)) Tc0 Oc0 z0 z0) C 18 (c_X10_clear Z.2.1 D cy (fun i => if i = 0 then a else if i = 1 then q5 else if i < 13 then ad9 (i - 1) else if i = 13 then q16 else if i < 19 then ad2 (i - 13) else if i = 19 then q27 else ad7 (i - 19)) z0 z0 z0 z0 Tc0 Oc0 clear_z) rfl qX10_32 mvX10_clear 0 10 W_c0 rfl rfl rfl rfl rfl (Nat.le_of_ble_eq_true rfl) ⟨Nat.le_of_ble_eq_true rfl, Nat.le_of_ble_eq_true rfl, Nat.le_of_ble_eq_true rfl, Nat.le_of_ble_eq_true rfl⟩ ?_
  exact hR 19 41 _ (fun i => if i = 0 then a else if i = 1 then q5 else if i < 13 then ad9 (i - 1) else if i = 13 then q16 else if i < 19 then ad2 (i - 13) else if i = 19 then q27 else ad7 (i - 19)) rfl
