-- ===== PART A: goes FIRST, ahead of the names: the tables' words, and 'selects' of the private methods out of them =====
/-- a private method of a class that the tables say can be made, by its rows of tables_1 -/
def lw_okq (q : MethodName × Nat) : Prop := (q.1.cls ≠ "java/lang/invoke/MethodHandle" ∧ q.1.cls ≠ "java/lang/invoke/VarHandle") ∧ Cond.instantiable q.1.cls q.2 ∈ tables_1 ∧ Cond.privateMethod q.1 ∈ tables_1 ∧ Cond.instanceMethod q.1 ∈ tables_1
theorem lw_p0 : lw_okq (⟨"FrontFour$Text", "scan", "(I)I"⟩, 8) := ⟨⟨by decide +kernel, by decide +kernel⟩, List.mem_of_getElem? (i := 31) (by decide +kernel), List.mem_of_getElem? (i := 505) (by decide +kernel), List.mem_of_getElem? (i := 506) (by decide +kernel)⟩
theorem lw_p1 : lw_okq (⟨"FrontFour$Text", "scanNumber", "(I)I"⟩, 8) := ⟨⟨by decide +kernel, by decide +kernel⟩, List.mem_of_getElem? (i := 31) (by decide +kernel), List.mem_of_getElem? (i := 512) (by decide +kernel), List.mem_of_getElem? (i := 513) (by decide +kernel)⟩
theorem lw_p2 : lw_okq (⟨"FrontFour$Text", "scanWord", "(I)I"⟩, 8) := ⟨⟨by decide +kernel, by decide +kernel⟩, List.mem_of_getElem? (i := 31) (by decide +kernel), List.mem_of_getElem? (i := 519) (by decide +kernel), List.mem_of_getElem? (i := 520) (by decide +kernel)⟩
theorem lw_p3 : lw_okq (⟨"FrontFour$Text", "wordNumber", "(II)I"⟩, 8) := ⟨⟨by decide +kernel, by decide +kernel⟩, List.mem_of_getElem? (i := 31) (by decide +kernel), List.mem_of_getElem? (i := 523) (by decide +kernel), List.mem_of_getElem? (i := 524) (by decide +kernel)⟩
theorem lw_p4 : lw_okq (⟨"FrontFour$Text", "isSame", "(IIII)Z"⟩, 8) := ⟨⟨by decide +kernel, by decide +kernel⟩, List.mem_of_getElem? (i := 31) (by decide +kernel), List.mem_of_getElem? (i := 576) (by decide +kernel), List.mem_of_getElem? (i := 577) (by decide +kernel)⟩
theorem lw_p5 : lw_okq (⟨"FrontFour$Text", "scanSign", "(I)I"⟩, 8) := ⟨⟨by decide +kernel, by decide +kernel⟩, List.mem_of_getElem? (i := 31) (by decide +kernel), List.mem_of_getElem? (i := 580) (by decide +kernel), List.mem_of_getElem? (i := 581) (by decide +kernel)⟩
theorem lw_p6 : lw_okq (⟨"FrontFour$LineReader", "readClause", "(I)V"⟩, 3) := ⟨⟨by decide +kernel, by decide +kernel⟩, List.mem_of_getElem? (i := 317) (by decide +kernel), List.mem_of_getElem? (i := 584) (by decide +kernel), List.mem_of_getElem? (i := 585) (by decide +kernel)⟩
theorem lw_p7 : lw_okq (⟨"FrontFour$LineReader", "canStand", "(II)Z"⟩, 3) := ⟨⟨by decide +kernel, by decide +kernel⟩, List.mem_of_getElem? (i := 317) (by decide +kernel), List.mem_of_getElem? (i := 596) (by decide +kernel), List.mem_of_getElem? (i := 597) (by decide +kernel)⟩
theorem lw_p8 : lw_okq (⟨"FrontFour$LineReader", "readStop", "()V"⟩, 3) := ⟨⟨by decide +kernel, by decide +kernel⟩, List.mem_of_getElem? (i := 317) (by decide +kernel), List.mem_of_getElem? (i := 604) (by decide +kernel), List.mem_of_getElem? (i := 605) (by decide +kernel)⟩
theorem lw_p9 : lw_okq (⟨"FrontFour$LineReader", "readRider", "()V"⟩, 3) := ⟨⟨by decide +kernel, by decide +kernel⟩, List.mem_of_getElem? (i := 317) (by decide +kernel), List.mem_of_getElem? (i := 614) (by decide +kernel), List.mem_of_getElem? (i := 615) (by decide +kernel)⟩
theorem lw_p10 : lw_okq (⟨"FrontFour$LineReader", "readOther", "(I)V"⟩, 3) := ⟨⟨by decide +kernel, by decide +kernel⟩, List.mem_of_getElem? (i := 317) (by decide +kernel), List.mem_of_getElem? (i := 618) (by decide +kernel), List.mem_of_getElem? (i := 619) (by decide +kernel)⟩
theorem lw_p11 : lw_okq (⟨"FrontFour$LineReader", "finish", "()V"⟩, 3) := ⟨⟨by decide +kernel, by decide +kernel⟩, List.mem_of_getElem? (i := 317) (by decide +kernel), List.mem_of_getElem? (i := 630) (by decide +kernel), List.mem_of_getElem? (i := 631) (by decide +kernel)⟩
theorem lw_p12 : lw_okq (⟨"FrontFour$RuleReader", "readClause", "()V"⟩, 8) := ⟨⟨by decide +kernel, by decide +kernel⟩, List.mem_of_getElem? (i := 333) (by decide +kernel), List.mem_of_getElem? (i := 655) (by decide +kernel), List.mem_of_getElem? (i := 656) (by decide +kernel)⟩
theorem lw_p13 : lw_okq (⟨"FrontFour$RuleReader", "readSum", "()V"⟩, 8) := ⟨⟨by decide +kernel, by decide +kernel⟩, List.mem_of_getElem? (i := 333) (by decide +kernel), List.mem_of_getElem? (i := 662) (by decide +kernel), List.mem_of_getElem? (i := 663) (by decide +kernel)⟩
theorem lw_p14 : lw_okq (⟨"FrontFour$RuleReader", "readValue", "()V"⟩, 8) := ⟨⟨by decide +kernel, by decide +kernel⟩, List.mem_of_getElem? (i := 333) (by decide +kernel), List.mem_of_getElem? (i := 666) (by decide +kernel), List.mem_of_getElem? (i := 667) (by decide +kernel)⟩
theorem lw_p15 : lw_okq (⟨"FrontFour$RuleReader", "emit", "(I)V"⟩, 8) := ⟨⟨by decide +kernel, by decide +kernel⟩, List.mem_of_getElem? (i := 333) (by decide +kernel), List.mem_of_getElem? (i := 679) (by decide +kernel), List.mem_of_getElem? (i := 680) (by decide +kernel)⟩
def lw_privs_1 : List (MethodName × Nat) := [(⟨"FrontFour$Text", "scan", "(I)I"⟩, 8), (⟨"FrontFour$Text", "scanNumber", "(I)I"⟩, 8), (⟨"FrontFour$Text", "scanWord", "(I)I"⟩, 8), (⟨"FrontFour$Text", "wordNumber", "(II)I"⟩, 8), (⟨"FrontFour$Text", "isSame", "(IIII)Z"⟩, 8), (⟨"FrontFour$Text", "scanSign", "(I)I"⟩, 8), (⟨"FrontFour$LineReader", "readClause", "(I)V"⟩, 3), (⟨"FrontFour$LineReader", "canStand", "(II)Z"⟩, 3), (⟨"FrontFour$LineReader", "readStop", "()V"⟩, 3), (⟨"FrontFour$LineReader", "readRider", "()V"⟩, 3), (⟨"FrontFour$LineReader", "readOther", "(I)V"⟩, 3), (⟨"FrontFour$LineReader", "finish", "()V"⟩, 3), (⟨"FrontFour$RuleReader", "readClause", "()V"⟩, 8), (⟨"FrontFour$RuleReader", "readSum", "()V"⟩, 8), (⟨"FrontFour$RuleReader", "readValue", "()V"⟩, 8), (⟨"FrontFour$RuleReader", "emit", "(I)V"⟩, 8)]
theorem lw_r1 : ∀ q ∈ lw_privs_1, lw_okq q := List.forall_mem_cons.mpr ⟨lw_p0, List.forall_mem_cons.mpr ⟨lw_p1, List.forall_mem_cons.mpr ⟨lw_p2, List.forall_mem_cons.mpr ⟨lw_p3, List.forall_mem_cons.mpr ⟨lw_p4, List.forall_mem_cons.mpr ⟨lw_p5, List.forall_mem_cons.mpr ⟨lw_p6, List.forall_mem_cons.mpr ⟨lw_p7, List.forall_mem_cons.mpr ⟨lw_p8, List.forall_mem_cons.mpr ⟨lw_p9, List.forall_mem_cons.mpr ⟨lw_p10, List.forall_mem_cons.mpr ⟨lw_p11, List.forall_mem_cons.mpr ⟨lw_p12, List.forall_mem_cons.mpr ⟨lw_p13, List.forall_mem_cons.mpr ⟨lw_p14, List.forall_mem_cons.mpr ⟨lw_p15, fun _ h => absurd h List.not_mem_nil⟩⟩⟩⟩⟩⟩⟩⟩⟩⟩⟩⟩⟩⟩⟩⟩
theorem lw_p16 : lw_okq (⟨"FrontFour$RuleReader", "readTest", "(I)V"⟩, 8) := ⟨⟨by decide +kernel, by decide +kernel⟩, List.mem_of_getElem? (i := 333) (by decide +kernel), List.mem_of_getElem? (i := 688) (by decide +kernel), List.mem_of_getElem? (i := 689) (by decide +kernel)⟩
theorem lw_p17 : lw_okq (⟨"FrontFour$RuleReader", "readFact", "(I)V"⟩, 8) := ⟨⟨by decide +kernel, by decide +kernel⟩, List.mem_of_getElem? (i := 333) (by decide +kernel), List.mem_of_getElem? (i := 692) (by decide +kernel), List.mem_of_getElem? (i := 693) (by decide +kernel)⟩
theorem lw_p18 : lw_okq (⟨"FrontFour$RuleReader", "takeComparison", "()I"⟩, 8) := ⟨⟨by decide +kernel, by decide +kernel⟩, List.mem_of_getElem? (i := 333) (by decide +kernel), List.mem_of_getElem? (i := 696) (by decide +kernel), List.mem_of_getElem? (i := 697) (by decide +kernel)⟩
theorem lw_p19 : lw_okq (⟨"FrontFour$World", "go", "(III)I"⟩, 4) := ⟨⟨by decide +kernel, by decide +kernel⟩, List.mem_of_getElem? (i := 68) (by decide +kernel), List.mem_of_getElem? (i := 819) (by decide +kernel), List.mem_of_getElem? (i := 820) (by decide +kernel)⟩
theorem lw_p20 : lw_okq (⟨"FrontFour", "canGoBy", "(I)Z"⟩, 12) := ⟨⟨by decide +kernel, by decide +kernel⟩, List.mem_of_getElem? (i := 23) (by decide +kernel), List.mem_of_getElem? (i := 850) (by decide +kernel), List.mem_of_getElem? (i := 851) (by decide +kernel)⟩
theorem lw_p21 : lw_okq (⟨"FrontFour", "takeTurns", "(LFrontFour$Rule;)V"⟩, 12) := ⟨⟨by decide +kernel, by decide +kernel⟩, List.mem_of_getElem? (i := 23) (by decide +kernel), List.mem_of_getElem? (i := 878) (by decide +kernel), List.mem_of_getElem? (i := 879) (by decide +kernel)⟩
theorem lw_p22 : lw_okq (⟨"FrontFour", "takeTurn", "(LFrontFour$Rule;I)V"⟩, 12) := ⟨⟨by decide +kernel, by decide +kernel⟩, List.mem_of_getElem? (i := 23) (by decide +kernel), List.mem_of_getElem? (i := 883) (by decide +kernel), List.mem_of_getElem? (i := 884) (by decide +kernel)⟩
theorem lw_p23 : lw_okq (⟨"FrontFour", "holds", "(LFrontFour$Rule;II)Z"⟩, 12) := ⟨⟨by decide +kernel, by decide +kernel⟩, List.mem_of_getElem? (i := 23) (by decide +kernel), List.mem_of_getElem? (i := 887) (by decide +kernel), List.mem_of_getElem? (i := 888) (by decide +kernel)⟩
theorem lw_p24 : lw_okq (⟨"FrontFour$Reckoner", "push", "(J)V"⟩, 3) := ⟨⟨by decide +kernel, by decide +kernel⟩, List.mem_of_getElem? (i := 370) (by decide +kernel), List.mem_of_getElem? (i := 896) (by decide +kernel), List.mem_of_getElem? (i := 897) (by decide +kernel)⟩
theorem lw_p25 : lw_okq (⟨"FrontFour$World", "nearestRight", "(I)I"⟩, 4) := ⟨⟨by decide +kernel, by decide +kernel⟩, List.mem_of_getElem? (i := 68) (by decide +kernel), List.mem_of_getElem? (i := 906) (by decide +kernel), List.mem_of_getElem? (i := 907) (by decide +kernel)⟩
theorem lw_p26 : lw_okq (⟨"FrontFour$Reckoner", "pop", "()J"⟩, 3) := ⟨⟨by decide +kernel, by decide +kernel⟩, List.mem_of_getElem? (i := 370) (by decide +kernel), List.mem_of_getElem? (i := 922) (by decide +kernel), List.mem_of_getElem? (i := 923) (by decide +kernel)⟩
theorem lw_p27 : lw_okq (⟨"FrontFour", "isDone", "(LFrontFour$Rule;II)Z"⟩, 12) := ⟨⟨by decide +kernel, by decide +kernel⟩, List.mem_of_getElem? (i := 23) (by decide +kernel), List.mem_of_getElem? (i := 932) (by decide +kernel), List.mem_of_getElem? (i := 933) (by decide +kernel)⟩
theorem lw_p28 : lw_okq (⟨"FrontFour$Search", "startOf", "(II)I"⟩, 14) := ⟨⟨by decide +kernel, by decide +kernel⟩, List.mem_of_getElem? (i := 387) (by decide +kernel), List.mem_of_getElem? (i := 952) (by decide +kernel), List.mem_of_getElem? (i := 953) (by decide +kernel)⟩
theorem lw_p29 : lw_okq (⟨"FrontFour$Search", "spread", "(III)V"⟩, 14) := ⟨⟨by decide +kernel, by decide +kernel⟩, List.mem_of_getElem? (i := 387) (by decide +kernel), List.mem_of_getElem? (i := 957) (by decide +kernel), List.mem_of_getElem? (i := 958) (by decide +kernel)⟩
theorem lw_p30 : lw_okq (⟨"FrontFour$Search", "spreadFrom", "(II)Z"⟩, 14) := ⟨⟨by decide +kernel, by decide +kernel⟩, List.mem_of_getElem? (i := 387) (by decide +kernel), List.mem_of_getElem? (i := 963) (by decide +kernel), List.mem_of_getElem? (i := 964) (by decide +kernel)⟩
theorem lw_p31 : lw_okq (⟨"FrontFour$Search", "firstEnd", "(IIII)I"⟩, 14) := ⟨⟨by decide +kernel, by decide +kernel⟩, List.mem_of_getElem? (i := 387) (by decide +kernel), List.mem_of_getElem? (i := 967) (by decide +kernel), List.mem_of_getElem? (i := 968) (by decide +kernel)⟩
def lw_privs_2 : List (MethodName × Nat) := [(⟨"FrontFour$RuleReader", "readTest", "(I)V"⟩, 8), (⟨"FrontFour$RuleReader", "readFact", "(I)V"⟩, 8), (⟨"FrontFour$RuleReader", "takeComparison", "()I"⟩, 8), (⟨"FrontFour$World", "go", "(III)I"⟩, 4), (⟨"FrontFour", "canGoBy", "(I)Z"⟩, 12), (⟨"FrontFour", "takeTurns", "(LFrontFour$Rule;)V"⟩, 12), (⟨"FrontFour", "takeTurn", "(LFrontFour$Rule;I)V"⟩, 12), (⟨"FrontFour", "holds", "(LFrontFour$Rule;II)Z"⟩, 12), (⟨"FrontFour$Reckoner", "push", "(J)V"⟩, 3), (⟨"FrontFour$World", "nearestRight", "(I)I"⟩, 4), (⟨"FrontFour$Reckoner", "pop", "()J"⟩, 3), (⟨"FrontFour", "isDone", "(LFrontFour$Rule;II)Z"⟩, 12), (⟨"FrontFour$Search", "startOf", "(II)I"⟩, 14), (⟨"FrontFour$Search", "spread", "(III)V"⟩, 14), (⟨"FrontFour$Search", "spreadFrom", "(II)Z"⟩, 14), (⟨"FrontFour$Search", "firstEnd", "(IIII)I"⟩, 14)]
theorem lw_r2 : ∀ q ∈ lw_privs_2, lw_okq q := List.forall_mem_cons.mpr ⟨lw_p16, List.forall_mem_cons.mpr ⟨lw_p17, List.forall_mem_cons.mpr ⟨lw_p18, List.forall_mem_cons.mpr ⟨lw_p19, List.forall_mem_cons.mpr ⟨lw_p20, List.forall_mem_cons.mpr ⟨lw_p21, List.forall_mem_cons.mpr ⟨lw_p22, List.forall_mem_cons.mpr ⟨lw_p23, List.forall_mem_cons.mpr ⟨lw_p24, List.forall_mem_cons.mpr ⟨lw_p25, List.forall_mem_cons.mpr ⟨lw_p26, List.forall_mem_cons.mpr ⟨lw_p27, List.forall_mem_cons.mpr ⟨lw_p28, List.forall_mem_cons.mpr ⟨lw_p29, List.forall_mem_cons.mpr ⟨lw_p30, List.forall_mem_cons.mpr ⟨lw_p31, fun _ h => absurd h List.not_mem_nil⟩⟩⟩⟩⟩⟩⟩⟩⟩⟩⟩⟩⟩⟩⟩⟩
theorem lw_p32 : lw_okq (⟨"FrontFour$Search", "spreadBack", "(II)V"⟩, 14) := ⟨⟨by decide +kernel, by decide +kernel⟩, List.mem_of_getElem? (i := 387) (by decide +kernel), List.mem_of_getElem? (i := 987) (by decide +kernel), List.mem_of_getElem? (i := 988) (by decide +kernel)⟩
theorem lw_p33 : lw_okq (⟨"FrontFour$Search", "spreadBackFrom", "(II)Z"⟩, 14) := ⟨⟨by decide +kernel, by decide +kernel⟩, List.mem_of_getElem? (i := 387) (by decide +kernel), List.mem_of_getElem? (i := 991) (by decide +kernel), List.mem_of_getElem? (i := 992) (by decide +kernel)⟩
theorem lw_p34 : lw_okq (⟨"FrontFour$Search", "lastBegin", "(IIII)I"⟩, 14) := ⟨⟨by decide +kernel, by decide +kernel⟩, List.mem_of_getElem? (i := 387) (by decide +kernel), List.mem_of_getElem? (i := 995) (by decide +kernel), List.mem_of_getElem? (i := 996) (by decide +kernel)⟩
theorem lw_p35 : lw_okq (⟨"FrontFour$Search", "findFirst", "(III)Z"⟩, 14) := ⟨⟨by decide +kernel, by decide +kernel⟩, List.mem_of_getElem? (i := 387) (by decide +kernel), List.mem_of_getElem? (i := 1007) (by decide +kernel), List.mem_of_getElem? (i := 1008) (by decide +kernel)⟩
theorem lw_p36 : lw_okq (⟨"FrontFour$Search", "isInTimeInside", "(IIII)Z"⟩, 14) := ⟨⟨by decide +kernel, by decide +kernel⟩, List.mem_of_getElem? (i := 387) (by decide +kernel), List.mem_of_getElem? (i := 1011) (by decide +kernel), List.mem_of_getElem? (i := 1012) (by decide +kernel)⟩
theorem lw_p37 : lw_okq (⟨"FrontFour$Search", "takeAsFound", "(ZIII)V"⟩, 14) := ⟨⟨by decide +kernel, by decide +kernel⟩, List.mem_of_getElem? (i := 387) (by decide +kernel), List.mem_of_getElem? (i := 1016) (by decide +kernel), List.mem_of_getElem? (i := 1017) (by decide +kernel)⟩
theorem lw_p38 : lw_okq (⟨"FrontFour$Search", "lineUp", "(I)V"⟩, 14) := ⟨⟨by decide +kernel, by decide +kernel⟩, List.mem_of_getElem? (i := 387) (by decide +kernel), List.mem_of_getElem? (i := 1060) (by decide +kernel), List.mem_of_getElem? (i := 1061) (by decide +kernel)⟩
theorem lw_p39 : lw_okq (⟨"FrontFour$Search", "misplacedRiders", "()I"⟩, 14) := ⟨⟨by decide +kernel, by decide +kernel⟩, List.mem_of_getElem? (i := 387) (by decide +kernel), List.mem_of_getElem? (i := 1064) (by decide +kernel), List.mem_of_getElem? (i := 1065) (by decide +kernel)⟩
theorem lw_p40 : lw_okq (⟨"FrontFour$Search", "bestFor", "(I)I"⟩, 14) := ⟨⟨by decide +kernel, by decide +kernel⟩, List.mem_of_getElem? (i := 387) (by decide +kernel), List.mem_of_getElem? (i := 1077) (by decide +kernel), List.mem_of_getElem? (i := 1078) (by decide +kernel)⟩
theorem lw_p41 : lw_okq (⟨"FrontFour$Search", "walk", "(II[I)V"⟩, 14) := ⟨⟨by decide +kernel, by decide +kernel⟩, List.mem_of_getElem? (i := 387) (by decide +kernel), List.mem_of_getElem? (i := 1089) (by decide +kernel), List.mem_of_getElem? (i := 1090) (by decide +kernel)⟩
theorem lw_p42 : lw_okq (⟨"FrontFourModel", "four", "(I)V"⟩, 39) := ⟨⟨by decide +kernel, by decide +kernel⟩, List.mem_of_getElem? (i := 1168) (by decide +kernel), List.mem_of_getElem? (i := 1296) (by decide +kernel), List.mem_of_getElem? (i := 1297) (by decide +kernel)⟩
theorem lw_p43 : lw_okq (⟨"FrontFourModel", "readsAll", "()Z"⟩, 39) := ⟨⟨by decide +kernel, by decide +kernel⟩, List.mem_of_getElem? (i := 1168) (by decide +kernel), List.mem_of_getElem? (i := 1308) (by decide +kernel), List.mem_of_getElem? (i := 1309) (by decide +kernel)⟩
theorem lw_p44 : lw_okq (⟨"FrontFourModel", "clauseHere", "()Z"⟩, 39) := ⟨⟨by decide +kernel, by decide +kernel⟩, List.mem_of_getElem? (i := 1168) (by decide +kernel), List.mem_of_getElem? (i := 1312) (by decide +kernel), List.mem_of_getElem? (i := 1313) (by decide +kernel)⟩
theorem lw_p45 : lw_okq (⟨"FrontFourModel", "see", "()I"⟩, 39) := ⟨⟨by decide +kernel, by decide +kernel⟩, List.mem_of_getElem? (i := 1168) (by decide +kernel), List.mem_of_getElem? (i := 1316) (by decide +kernel), List.mem_of_getElem? (i := 1317) (by decide +kernel)⟩
theorem lw_p46 : lw_okq (⟨"FrontFourModel", "isLineWord", "()Z"⟩, 39) := ⟨⟨by decide +kernel, by decide +kernel⟩, List.mem_of_getElem? (i := 1168) (by decide +kernel), List.mem_of_getElem? (i := 1320) (by decide +kernel), List.mem_of_getElem? (i := 1321) (by decide +kernel)⟩
theorem lw_p47 : lw_okq (⟨"FrontFourModel", "isWord", "(J)Z"⟩, 39) := ⟨⟨by decide +kernel, by decide +kernel⟩, List.mem_of_getElem? (i := 1168) (by decide +kernel), List.mem_of_getElem? (i := 1325) (by decide +kernel), List.mem_of_getElem? (i := 1326) (by decide +kernel)⟩
def lw_privs_3 : List (MethodName × Nat) := [(⟨"FrontFour$Search", "spreadBack", "(II)V"⟩, 14), (⟨"FrontFour$Search", "spreadBackFrom", "(II)Z"⟩, 14), (⟨"FrontFour$Search", "lastBegin", "(IIII)I"⟩, 14), (⟨"FrontFour$Search", "findFirst", "(III)Z"⟩, 14), (⟨"FrontFour$Search", "isInTimeInside", "(IIII)Z"⟩, 14), (⟨"FrontFour$Search", "takeAsFound", "(ZIII)V"⟩, 14), (⟨"FrontFour$Search", "lineUp", "(I)V"⟩, 14), (⟨"FrontFour$Search", "misplacedRiders", "()I"⟩, 14), (⟨"FrontFour$Search", "bestFor", "(I)I"⟩, 14), (⟨"FrontFour$Search", "walk", "(II[I)V"⟩, 14), (⟨"FrontFourModel", "four", "(I)V"⟩, 39), (⟨"FrontFourModel", "readsAll", "()Z"⟩, 39), (⟨"FrontFourModel", "clauseHere", "()Z"⟩, 39), (⟨"FrontFourModel", "see", "()I"⟩, 39), (⟨"FrontFourModel", "isLineWord", "()Z"⟩, 39), (⟨"FrontFourModel", "isWord", "(J)Z"⟩, 39)]
theorem lw_r3 : ∀ q ∈ lw_privs_3, lw_okq q := List.forall_mem_cons.mpr ⟨lw_p32, List.forall_mem_cons.mpr ⟨lw_p33, List.forall_mem_cons.mpr ⟨lw_p34, List.forall_mem_cons.mpr ⟨lw_p35, List.forall_mem_cons.mpr ⟨lw_p36, List.forall_mem_cons.mpr ⟨lw_p37, List.forall_mem_cons.mpr ⟨lw_p38, List.forall_mem_cons.mpr ⟨lw_p39, List.forall_mem_cons.mpr ⟨lw_p40, List.forall_mem_cons.mpr ⟨lw_p41, List.forall_mem_cons.mpr ⟨lw_p42, List.forall_mem_cons.mpr ⟨lw_p43, List.forall_mem_cons.mpr ⟨lw_p44, List.forall_mem_cons.mpr ⟨lw_p45, List.forall_mem_cons.mpr ⟨lw_p46, List.forall_mem_cons.mpr ⟨lw_p47, fun _ h => absurd h List.not_mem_nil⟩⟩⟩⟩⟩⟩⟩⟩⟩⟩⟩⟩⟩⟩⟩⟩
theorem lw_p48 : lw_okq (⟨"FrontFourModel", "isLetter", "(I)Z"⟩, 39) := ⟨⟨by decide +kernel, by decide +kernel⟩, List.mem_of_getElem? (i := 1168) (by decide +kernel), List.mem_of_getElem? (i := 1329) (by decide +kernel), List.mem_of_getElem? (i := 1330) (by decide +kernel)⟩
theorem lw_p49 : lw_okq (⟨"FrontFourModel", "fails", "(II)Z"⟩, 39) := ⟨⟨by decide +kernel, by decide +kernel⟩, List.mem_of_getElem? (i := 1168) (by decide +kernel), List.mem_of_getElem? (i := 1345) (by decide +kernel), List.mem_of_getElem? (i := 1346) (by decide +kernel)⟩
theorem lw_p50 : lw_okq (⟨"FrontFourModel", "lineLineHere", "(I)Z"⟩, 39) := ⟨⟨by decide +kernel, by decide +kernel⟩, List.mem_of_getElem? (i := 1168) (by decide +kernel), List.mem_of_getElem? (i := 1349) (by decide +kernel), List.mem_of_getElem? (i := 1350) (by decide +kernel)⟩
theorem lw_p51 : lw_okq (⟨"FrontFourModel", "isTrainHere", "(I)Z"⟩, 39) := ⟨⟨by decide +kernel, by decide +kernel⟩, List.mem_of_getElem? (i := 1168) (by decide +kernel), List.mem_of_getElem? (i := 1353) (by decide +kernel), List.mem_of_getElem? (i := 1354) (by decide +kernel)⟩
theorem lw_p52 : lw_okq (⟨"FrontFourModel", "passWord", "()V"⟩, 39) := ⟨⟨by decide +kernel, by decide +kernel⟩, List.mem_of_getElem? (i := 1168) (by decide +kernel), List.mem_of_getElem? (i := 1357) (by decide +kernel), List.mem_of_getElem? (i := 1358) (by decide +kernel)⟩
theorem lw_p53 : lw_okq (⟨"FrontFourModel", "cellHere", "(III)Z"⟩, 39) := ⟨⟨by decide +kernel, by decide +kernel⟩, List.mem_of_getElem? (i := 1168) (by decide +kernel), List.mem_of_getElem? (i := 1361) (by decide +kernel), List.mem_of_getElem? (i := 1362) (by decide +kernel)⟩
theorem lw_p54 : lw_okq (⟨"FrontFourModel", "numberHere", "(II)Z"⟩, 39) := ⟨⟨by decide +kernel, by decide +kernel⟩, List.mem_of_getElem? (i := 1168) (by decide +kernel), List.mem_of_getElem? (i := 1365) (by decide +kernel), List.mem_of_getElem? (i := 1366) (by decide +kernel)⟩
theorem lw_p55 : lw_okq (⟨"FrontFourModel", "isDigit", "(I)Z"⟩, 39) := ⟨⟨by decide +kernel, by decide +kernel⟩, List.mem_of_getElem? (i := 1168) (by decide +kernel), List.mem_of_getElem? (i := 1369) (by decide +kernel), List.mem_of_getElem? (i := 1370) (by decide +kernel)⟩
theorem lw_p56 : lw_okq (⟨"FrontFourModel", "isDestHere", "(I)Z"⟩, 39) := ⟨⟨by decide +kernel, by decide +kernel⟩, List.mem_of_getElem? (i := 1168) (by decide +kernel), List.mem_of_getElem? (i := 1376) (by decide +kernel), List.mem_of_getElem? (i := 1377) (by decide +kernel)⟩
theorem lw_p57 : lw_okq (⟨"FrontFourModel", "isStopHere", "(I)Z"⟩, 39) := ⟨⟨by decide +kernel, by decide +kernel⟩, List.mem_of_getElem? (i := 1168) (by decide +kernel), List.mem_of_getElem? (i := 1380) (by decide +kernel), List.mem_of_getElem? (i := 1381) (by decide +kernel)⟩
theorem lw_p58 : lw_okq (⟨"FrontFourModel", "isOnceHere", "(IIII)Z"⟩, 39) := ⟨⟨by decide +kernel, by decide +kernel⟩, List.mem_of_getElem? (i := 1168) (by decide +kernel), List.mem_of_getElem? (i := 1384) (by decide +kernel), List.mem_of_getElem? (i := 1385) (by decide +kernel)⟩
theorem lw_p59 : lw_okq (⟨"FrontFourModel", "isShutHere", "()Z"⟩, 39) := ⟨⟨by decide +kernel, by decide +kernel⟩, List.mem_of_getElem? (i := 1168) (by decide +kernel), List.mem_of_getElem? (i := 1388) (by decide +kernel), List.mem_of_getElem? (i := 1389) (by decide +kernel)⟩
theorem lw_p60 : lw_okq (⟨"FrontFourModel", "isCellOfHere", "(IIIII)Z"⟩, 39) := ⟨⟨by decide +kernel, by decide +kernel⟩, List.mem_of_getElem? (i := 1168) (by decide +kernel), List.mem_of_getElem? (i := 1392) (by decide +kernel), List.mem_of_getElem? (i := 1393) (by decide +kernel)⟩
theorem lw_p61 : lw_okq (⟨"FrontFourModel", "isRiderHere", "(I)Z"⟩, 39) := ⟨⟨by decide +kernel, by decide +kernel⟩, List.mem_of_getElem? (i := 1168) (by decide +kernel), List.mem_of_getElem? (i := 1396) (by decide +kernel), List.mem_of_getElem? (i := 1397) (by decide +kernel)⟩
theorem lw_p62 : lw_okq (⟨"FrontFourModel", "isDoingHere", "(I)Z"⟩, 39) := ⟨⟨by decide +kernel, by decide +kernel⟩, List.mem_of_getElem? (i := 1168) (by decide +kernel), List.mem_of_getElem? (i := 1400) (by decide +kernel), List.mem_of_getElem? (i := 1401) (by decide +kernel)⟩
theorem lw_p63 : lw_okq (⟨"FrontFourModel", "sum", "()Z"⟩, 39) := ⟨⟨by decide +kernel, by decide +kernel⟩, List.mem_of_getElem? (i := 1168) (by decide +kernel), List.mem_of_getElem? (i := 1404) (by decide +kernel), List.mem_of_getElem? (i := 1405) (by decide +kernel)⟩
def lw_privs_4 : List (MethodName × Nat) := [(⟨"FrontFourModel", "isLetter", "(I)Z"⟩, 39), (⟨"FrontFourModel", "fails", "(II)Z"⟩, 39), (⟨"FrontFourModel", "lineLineHere", "(I)Z"⟩, 39), (⟨"FrontFourModel", "isTrainHere", "(I)Z"⟩, 39), (⟨"FrontFourModel", "passWord", "()V"⟩, 39), (⟨"FrontFourModel", "cellHere", "(III)Z"⟩, 39), (⟨"FrontFourModel", "numberHere", "(II)Z"⟩, 39), (⟨"FrontFourModel", "isDigit", "(I)Z"⟩, 39), (⟨"FrontFourModel", "isDestHere", "(I)Z"⟩, 39), (⟨"FrontFourModel", "isStopHere", "(I)Z"⟩, 39), (⟨"FrontFourModel", "isOnceHere", "(IIII)Z"⟩, 39), (⟨"FrontFourModel", "isShutHere", "()Z"⟩, 39), (⟨"FrontFourModel", "isCellOfHere", "(IIIII)Z"⟩, 39), (⟨"FrontFourModel", "isRiderHere", "(I)Z"⟩, 39), (⟨"FrontFourModel", "isDoingHere", "(I)Z"⟩, 39), (⟨"FrontFourModel", "sum", "()Z"⟩, 39)]
theorem lw_r4 : ∀ q ∈ lw_privs_4, lw_okq q := List.forall_mem_cons.mpr ⟨lw_p48, List.forall_mem_cons.mpr ⟨lw_p49, List.forall_mem_cons.mpr ⟨lw_p50, List.forall_mem_cons.mpr ⟨lw_p51, List.forall_mem_cons.mpr ⟨lw_p52, List.forall_mem_cons.mpr ⟨lw_p53, List.forall_mem_cons.mpr ⟨lw_p54, List.forall_mem_cons.mpr ⟨lw_p55, List.forall_mem_cons.mpr ⟨lw_p56, List.forall_mem_cons.mpr ⟨lw_p57, List.forall_mem_cons.mpr ⟨lw_p58, List.forall_mem_cons.mpr ⟨lw_p59, List.forall_mem_cons.mpr ⟨lw_p60, List.forall_mem_cons.mpr ⟨lw_p61, List.forall_mem_cons.mpr ⟨lw_p62, List.forall_mem_cons.mpr ⟨lw_p63, fun _ h => absurd h List.not_mem_nil⟩⟩⟩⟩⟩⟩⟩⟩⟩⟩⟩⟩⟩⟩⟩⟩
theorem lw_p64 : lw_okq (⟨"FrontFourModel", "term", "()Z"⟩, 39) := ⟨⟨by decide +kernel, by decide +kernel⟩, List.mem_of_getElem? (i := 1168) (by decide +kernel), List.mem_of_getElem? (i := 1408) (by decide +kernel), List.mem_of_getElem? (i := 1409) (by decide +kernel)⟩
theorem lw_p65 : lw_okq (⟨"FrontFourModel", "value", "()Z"⟩, 39) := ⟨⟨by decide +kernel, by decide +kernel⟩, List.mem_of_getElem? (i := 1168) (by decide +kernel), List.mem_of_getElem? (i := 1412) (by decide +kernel), List.mem_of_getElem? (i := 1413) (by decide +kernel)⟩
theorem lw_p66 : lw_okq (⟨"FrontFourModel", "makes", "(I)Z"⟩, 39) := ⟨⟨by decide +kernel, by decide +kernel⟩, List.mem_of_getElem? (i := 1168) (by decide +kernel), List.mem_of_getElem? (i := 1417) (by decide +kernel), List.mem_of_getElem? (i := 1418) (by decide +kernel)⟩
theorem lw_p67 : lw_okq (⟨"FrontFourModel", "puts", "(II)V"⟩, 39) := ⟨⟨by decide +kernel, by decide +kernel⟩, List.mem_of_getElem? (i := 1168) (by decide +kernel), List.mem_of_getElem? (i := 1421) (by decide +kernel), List.mem_of_getElem? (i := 1422) (by decide +kernel)⟩
theorem lw_p68 : lw_okq (⟨"FrontFourModel", "wordHere", "()I"⟩, 39) := ⟨⟨by decide +kernel, by decide +kernel⟩, List.mem_of_getElem? (i := 1168) (by decide +kernel), List.mem_of_getElem? (i := 1425) (by decide +kernel), List.mem_of_getElem? (i := 1426) (by decide +kernel)⟩
theorem lw_p69 : lw_okq (⟨"FrontFourModel", "takesWord", "(J)Z"⟩, 39) := ⟨⟨by decide +kernel, by decide +kernel⟩, List.mem_of_getElem? (i := 1168) (by decide +kernel), List.mem_of_getElem? (i := 1440) (by decide +kernel), List.mem_of_getElem? (i := 1441) (by decide +kernel)⟩
theorem lw_p70 : lw_okq (⟨"FrontFourModel", "tested", "()Z"⟩, 39) := ⟨⟨by decide +kernel, by decide +kernel⟩, List.mem_of_getElem? (i := 1168) (by decide +kernel), List.mem_of_getElem? (i := 1444) (by decide +kernel), List.mem_of_getElem? (i := 1445) (by decide +kernel)⟩
theorem lw_p71 : lw_okq (⟨"FrontFourModel", "fact", "()Z"⟩, 39) := ⟨⟨by decide +kernel, by decide +kernel⟩, List.mem_of_getElem? (i := 1168) (by decide +kernel), List.mem_of_getElem? (i := 1448) (by decide +kernel), List.mem_of_getElem? (i := 1449) (by decide +kernel)⟩
theorem lw_p72 : lw_okq (⟨"FrontFourModel", "opens", "(I)Z"⟩, 39) := ⟨⟨by decide +kernel, by decide +kernel⟩, List.mem_of_getElem? (i := 1168) (by decide +kernel), List.mem_of_getElem? (i := 1453) (by decide +kernel), List.mem_of_getElem? (i := 1454) (by decide +kernel)⟩
theorem lw_p73 : lw_okq (⟨"FrontFourModel", "compare", "()Z"⟩, 39) := ⟨⟨by decide +kernel, by decide +kernel⟩, List.mem_of_getElem? (i := 1168) (by decide +kernel), List.mem_of_getElem? (i := 1457) (by decide +kernel), List.mem_of_getElem? (i := 1458) (by decide +kernel)⟩
theorem lw_p74 : lw_okq (⟨"FrontFourModel", "closes", "()V"⟩, 39) := ⟨⟨by decide +kernel, by decide +kernel⟩, List.mem_of_getElem? (i := 1168) (by decide +kernel), List.mem_of_getElem? (i := 1461) (by decide +kernel), List.mem_of_getElem? (i := 1462) (by decide +kernel)⟩
theorem lw_p75 : lw_okq (⟨"FrontFourModel", "settles", "(I)V"⟩, 39) := ⟨⟨by decide +kernel, by decide +kernel⟩, List.mem_of_getElem? (i := 1168) (by decide +kernel), List.mem_of_getElem? (i := 1465) (by decide +kernel), List.mem_of_getElem? (i := 1466) (by decide +kernel)⟩
theorem lw_p76 : lw_okq (⟨"FrontFourModel", "isInside", "()Z"⟩, 39) := ⟨⟨by decide +kernel, by decide +kernel⟩, List.mem_of_getElem? (i := 1168) (by decide +kernel), List.mem_of_getElem? (i := 1472) (by decide +kernel), List.mem_of_getElem? (i := 1473) (by decide +kernel)⟩
theorem lw_p77 : lw_okq (⟨"FrontFourModel", "isCoach", "(I)Z"⟩, 39) := ⟨⟨by decide +kernel, by decide +kernel⟩, List.mem_of_getElem? (i := 1168) (by decide +kernel), List.mem_of_getElem? (i := 1486) (by decide +kernel), List.mem_of_getElem? (i := 1487) (by decide +kernel)⟩
theorem lw_p78 : lw_okq (⟨"FrontFourModel", "ridersIn", "(I)I"⟩, 39) := ⟨⟨by decide +kernel, by decide +kernel⟩, List.mem_of_getElem? (i := 1168) (by decide +kernel), List.mem_of_getElem? (i := 1491) (by decide +kernel), List.mem_of_getElem? (i := 1492) (by decide +kernel)⟩
theorem lw_p79 : lw_okq (⟨"FrontFourModel", "riderOf", "(II)I"⟩, 39) := ⟨⟨by decide +kernel, by decide +kernel⟩, List.mem_of_getElem? (i := 1168) (by decide +kernel), List.mem_of_getElem? (i := 1495) (by decide +kernel), List.mem_of_getElem? (i := 1496) (by decide +kernel)⟩
def lw_privs_5 : List (MethodName × Nat) := [(⟨"FrontFourModel", "term", "()Z"⟩, 39), (⟨"FrontFourModel", "value", "()Z"⟩, 39), (⟨"FrontFourModel", "makes", "(I)Z"⟩, 39), (⟨"FrontFourModel", "puts", "(II)V"⟩, 39), (⟨"FrontFourModel", "wordHere", "()I"⟩, 39), (⟨"FrontFourModel", "takesWord", "(J)Z"⟩, 39), (⟨"FrontFourModel", "tested", "()Z"⟩, 39), (⟨"FrontFourModel", "fact", "()Z"⟩, 39), (⟨"FrontFourModel", "opens", "(I)Z"⟩, 39), (⟨"FrontFourModel", "compare", "()Z"⟩, 39), (⟨"FrontFourModel", "closes", "()V"⟩, 39), (⟨"FrontFourModel", "settles", "(I)V"⟩, 39), (⟨"FrontFourModel", "isInside", "()Z"⟩, 39), (⟨"FrontFourModel", "isCoach", "(I)Z"⟩, 39), (⟨"FrontFourModel", "ridersIn", "(I)I"⟩, 39), (⟨"FrontFourModel", "riderOf", "(II)I"⟩, 39)]
theorem lw_r5 : ∀ q ∈ lw_privs_5, lw_okq q := List.forall_mem_cons.mpr ⟨lw_p64, List.forall_mem_cons.mpr ⟨lw_p65, List.forall_mem_cons.mpr ⟨lw_p66, List.forall_mem_cons.mpr ⟨lw_p67, List.forall_mem_cons.mpr ⟨lw_p68, List.forall_mem_cons.mpr ⟨lw_p69, List.forall_mem_cons.mpr ⟨lw_p70, List.forall_mem_cons.mpr ⟨lw_p71, List.forall_mem_cons.mpr ⟨lw_p72, List.forall_mem_cons.mpr ⟨lw_p73, List.forall_mem_cons.mpr ⟨lw_p74, List.forall_mem_cons.mpr ⟨lw_p75, List.forall_mem_cons.mpr ⟨lw_p76, List.forall_mem_cons.mpr ⟨lw_p77, List.forall_mem_cons.mpr ⟨lw_p78, List.forall_mem_cons.mpr ⟨lw_p79, fun _ h => absurd h List.not_mem_nil⟩⟩⟩⟩⟩⟩⟩⟩⟩⟩⟩⟩⟩⟩⟩⟩
theorem lw_p80 : lw_okq (⟨"FrontFourModel", "isWay", "(I)Z"⟩, 39) := ⟨⟨by decide +kernel, by decide +kernel⟩, List.mem_of_getElem? (i := 1168) (by decide +kernel), List.mem_of_getElem? (i := 1503) (by decide +kernel), List.mem_of_getElem? (i := 1504) (by decide +kernel)⟩
theorem lw_p81 : lw_okq (⟨"FrontFourModel", "goerIn", "(I)I"⟩, 39) := ⟨⟨by decide +kernel, by decide +kernel⟩, List.mem_of_getElem? (i := 1168) (by decide +kernel), List.mem_of_getElem? (i := 1507) (by decide +kernel), List.mem_of_getElem? (i := 1508) (by decide +kernel)⟩
theorem lw_p82 : lw_okq (⟨"FrontFourModel", "isGoing", "(I)Z"⟩, 39) := ⟨⟨by decide +kernel, by decide +kernel⟩, List.mem_of_getElem? (i := 1168) (by decide +kernel), List.mem_of_getElem? (i := 1511) (by decide +kernel), List.mem_of_getElem? (i := 1512) (by decide +kernel)⟩
theorem lw_p83 : lw_okq (⟨"FrontFourModel", "isInside", "(I)Z"⟩, 39) := ⟨⟨by decide +kernel, by decide +kernel⟩, List.mem_of_getElem? (i := 1168) (by decide +kernel), List.mem_of_getElem? (i := 1515) (by decide +kernel), List.mem_of_getElem? (i := 1516) (by decide +kernel)⟩
theorem lw_p84 : lw_okq (⟨"FrontFourModel", "isRider", "(I)Z"⟩, 39) := ⟨⟨by decide +kernel, by decide +kernel⟩, List.mem_of_getElem? (i := 1168) (by decide +kernel), List.mem_of_getElem? (i := 1533) (by decide +kernel), List.mem_of_getElem? (i := 1534) (by decide +kernel)⟩
theorem lw_p85 : lw_okq (⟨"FrontFourModel", "isRight", "(II)Z"⟩, 39) := ⟨⟨by decide +kernel, by decide +kernel⟩, List.mem_of_getElem? (i := 1168) (by decide +kernel), List.mem_of_getElem? (i := 1538) (by decide +kernel), List.mem_of_getElem? (i := 1539) (by decide +kernel)⟩
theorem lw_p86 : lw_okq (⟨"FrontFourModel", "canInside", "(II)Z"⟩, 39) := ⟨⟨by decide +kernel, by decide +kernel⟩, List.mem_of_getElem? (i := 1168) (by decide +kernel), List.mem_of_getElem? (i := 1550) (by decide +kernel), List.mem_of_getElem? (i := 1551) (by decide +kernel)⟩
theorem lw_p87 : lw_okq (⟨"FrontFourModel", "mayInside", "(IIII)Z"⟩, 39) := ⟨⟨by decide +kernel, by decide +kernel⟩, List.mem_of_getElem? (i := 1168) (by decide +kernel), List.mem_of_getElem? (i := 1554) (by decide +kernel), List.mem_of_getElem? (i := 1555) (by decide +kernel)⟩
theorem lw_p88 : lw_okq (⟨"FrontFourModel", "timeOf", "(IIIZ)I"⟩, 39) := ⟨⟨by decide +kernel, by decide +kernel⟩, List.mem_of_getElem? (i := 1168) (by decide +kernel), List.mem_of_getElem? (i := 1558) (by decide +kernel), List.mem_of_getElem? (i := 1559) (by decide +kernel)⟩
theorem lw_p89 : lw_okq (⟨"FrontFourModel", "timesOf", "(I)I"⟩, 39) := ⟨⟨by decide +kernel, by decide +kernel⟩, List.mem_of_getElem? (i := 1168) (by decide +kernel), List.mem_of_getElem? (i := 1562) (by decide +kernel), List.mem_of_getElem? (i := 1563) (by decide +kernel)⟩
theorem lw_p90 : lw_okq (⟨"FrontFourModel", "parting", "()I"⟩, 39) := ⟨⟨by decide +kernel, by decide +kernel⟩, List.mem_of_getElem? (i := 1168) (by decide +kernel), List.mem_of_getElem? (i := 1566) (by decide +kernel), List.mem_of_getElem? (i := 1567) (by decide +kernel)⟩
theorem lw_p91 : lw_okq (⟨"FrontFourModel", "keeps", "()V"⟩, 39) := ⟨⟨by decide +kernel, by decide +kernel⟩, List.mem_of_getElem? (i := 1168) (by decide +kernel), List.mem_of_getElem? (i := 1570) (by decide +kernel), List.mem_of_getElem? (i := 1571) (by decide +kernel)⟩
theorem lw_p92 : lw_okq (⟨"FrontFourModel", "goes", "(IIZ)V"⟩, 39) := ⟨⟨by decide +kernel, by decide +kernel⟩, List.mem_of_getElem? (i := 1168) (by decide +kernel), List.mem_of_getElem? (i := 1574) (by decide +kernel), List.mem_of_getElem? (i := 1575) (by decide +kernel)⟩
theorem lw_p93 : lw_okq (⟨"FrontFourModel", "mayOutside", "(IIII)Z"⟩, 39) := ⟨⟨by decide +kernel, by decide +kernel⟩, List.mem_of_getElem? (i := 1168) (by decide +kernel), List.mem_of_getElem? (i := 1582) (by decide +kernel), List.mem_of_getElem? (i := 1583) (by decide +kernel)⟩
theorem lw_p94 : lw_okq (⟨"FrontFourModel", "isLine", "()Z"⟩, 39) := ⟨⟨by decide +kernel, by decide +kernel⟩, List.mem_of_getElem? (i := 1168) (by decide +kernel), List.mem_of_getElem? (i := 1590) (by decide +kernel), List.mem_of_getElem? (i := 1591) (by decide +kernel)⟩
theorem lw_p95 : lw_okq (⟨"FrontFourModel", "secondComes", "()V"⟩, 39) := ⟨⟨by decide +kernel, by decide +kernel⟩, List.mem_of_getElem? (i := 1168) (by decide +kernel), List.mem_of_getElem? (i := 1595) (by decide +kernel), List.mem_of_getElem? (i := 1596) (by decide +kernel)⟩
def lw_privs_6 : List (MethodName × Nat) := [(⟨"FrontFourModel", "isWay", "(I)Z"⟩, 39), (⟨"FrontFourModel", "goerIn", "(I)I"⟩, 39), (⟨"FrontFourModel", "isGoing", "(I)Z"⟩, 39), (⟨"FrontFourModel", "isInside", "(I)Z"⟩, 39), (⟨"FrontFourModel", "isRider", "(I)Z"⟩, 39), (⟨"FrontFourModel", "isRight", "(II)Z"⟩, 39), (⟨"FrontFourModel", "canInside", "(II)Z"⟩, 39), (⟨"FrontFourModel", "mayInside", "(IIII)Z"⟩, 39), (⟨"FrontFourModel", "timeOf", "(IIIZ)I"⟩, 39), (⟨"FrontFourModel", "timesOf", "(I)I"⟩, 39), (⟨"FrontFourModel", "parting", "()I"⟩, 39), (⟨"FrontFourModel", "keeps", "()V"⟩, 39), (⟨"FrontFourModel", "goes", "(IIZ)V"⟩, 39), (⟨"FrontFourModel", "mayOutside", "(IIII)Z"⟩, 39), (⟨"FrontFourModel", "isLine", "()Z"⟩, 39), (⟨"FrontFourModel", "secondComes", "()V"⟩, 39)]
theorem lw_r6 : ∀ q ∈ lw_privs_6, lw_okq q := List.forall_mem_cons.mpr ⟨lw_p80, List.forall_mem_cons.mpr ⟨lw_p81, List.forall_mem_cons.mpr ⟨lw_p82, List.forall_mem_cons.mpr ⟨lw_p83, List.forall_mem_cons.mpr ⟨lw_p84, List.forall_mem_cons.mpr ⟨lw_p85, List.forall_mem_cons.mpr ⟨lw_p86, List.forall_mem_cons.mpr ⟨lw_p87, List.forall_mem_cons.mpr ⟨lw_p88, List.forall_mem_cons.mpr ⟨lw_p89, List.forall_mem_cons.mpr ⟨lw_p90, List.forall_mem_cons.mpr ⟨lw_p91, List.forall_mem_cons.mpr ⟨lw_p92, List.forall_mem_cons.mpr ⟨lw_p93, List.forall_mem_cons.mpr ⟨lw_p94, List.forall_mem_cons.mpr ⟨lw_p95, fun _ h => absurd h List.not_mem_nil⟩⟩⟩⟩⟩⟩⟩⟩⟩⟩⟩⟩⟩⟩⟩⟩
theorem lw_p96 : lw_okq (⟨"FrontFourModel", "isRule", "(I)Z"⟩, 39) := ⟨⟨by decide +kernel, by decide +kernel⟩, List.mem_of_getElem? (i := 1168) (by decide +kernel), List.mem_of_getElem? (i := 1607) (by decide +kernel), List.mem_of_getElem? (i := 1608) (by decide +kernel)⟩
theorem lw_p97 : lw_okq (⟨"FrontFourModel", "asks", "(II)V"⟩, 39) := ⟨⟨by decide +kernel, by decide +kernel⟩, List.mem_of_getElem? (i := 1168) (by decide +kernel), List.mem_of_getElem? (i := 1611) (by decide +kernel), List.mem_of_getElem? (i := 1612) (by decide +kernel)⟩
theorem lw_p98 : lw_okq (⟨"FrontFourModel", "words", "(I)V"⟩, 39) := ⟨⟨by decide +kernel, by decide +kernel⟩, List.mem_of_getElem? (i := 1168) (by decide +kernel), List.mem_of_getElem? (i := 1615) (by decide +kernel), List.mem_of_getElem? (i := 1616) (by decide +kernel)⟩
theorem lw_p99 : lw_okq (⟨"FrontFourModel", "nearest", "(I)I"⟩, 39) := ⟨⟨by decide +kernel, by decide +kernel⟩, List.mem_of_getElem? (i := 1168) (by decide +kernel), List.mem_of_getElem? (i := 1619) (by decide +kernel), List.mem_of_getElem? (i := 1620) (by decide +kernel)⟩
theorem lw_p100 : lw_okq (⟨"FrontFourModel", "haltAt", "(I)I"⟩, 39) := ⟨⟨by decide +kernel, by decide +kernel⟩, List.mem_of_getElem? (i := 1168) (by decide +kernel), List.mem_of_getElem? (i := 1623) (by decide +kernel), List.mem_of_getElem? (i := 1624) (by decide +kernel)⟩
theorem lw_p101 : lw_okq (⟨"FrontFourModel", "reckons", "(III)J"⟩, 39) := ⟨⟨by decide +kernel, by decide +kernel⟩, List.mem_of_getElem? (i := 1168) (by decide +kernel), List.mem_of_getElem? (i := 1630) (by decide +kernel), List.mem_of_getElem? (i := 1631) (by decide +kernel)⟩
theorem lw_p102 : lw_okq (⟨"FrontFourModel", "push", "(J)V"⟩, 39) := ⟨⟨by decide +kernel, by decide +kernel⟩, List.mem_of_getElem? (i := 1168) (by decide +kernel), List.mem_of_getElem? (i := 1634) (by decide +kernel), List.mem_of_getElem? (i := 1635) (by decide +kernel)⟩
theorem lw_p103 : lw_okq (⟨"FrontFourModel", "pop", "()J"⟩, 39) := ⟨⟨by decide +kernel, by decide +kernel⟩, List.mem_of_getElem? (i := 1168) (by decide +kernel), List.mem_of_getElem? (i := 1638) (by decide +kernel), List.mem_of_getElem? (i := 1639) (by decide +kernel)⟩
theorem lw_p104 : lw_okq (⟨"FrontFourModel", "doesBy", "(III)Z"⟩, 39) := ⟨⟨by decide +kernel, by decide +kernel⟩, List.mem_of_getElem? (i := 1168) (by decide +kernel), List.mem_of_getElem? (i := 1645) (by decide +kernel), List.mem_of_getElem? (i := 1646) (by decide +kernel)⟩
theorem lw_p105 : lw_okq (⟨"FrontFourModel", "soonestOf", "(I)I"⟩, 39) := ⟨⟨by decide +kernel, by decide +kernel⟩, List.mem_of_getElem? (i := 1168) (by decide +kernel), List.mem_of_getElem? (i := 1653) (by decide +kernel), List.mem_of_getElem? (i := 1654) (by decide +kernel)⟩
theorem lw_p106 : lw_okq (⟨"FrontFourModel", "beginOf", "(II)I"⟩, 39) := ⟨⟨by decide +kernel, by decide +kernel⟩, List.mem_of_getElem? (i := 1168) (by decide +kernel), List.mem_of_getElem? (i := 1657) (by decide +kernel), List.mem_of_getElem? (i := 1658) (by decide +kernel)⟩
theorem lw_p107 : lw_okq (⟨"FrontFourModel", "whereOf", "(I)I"⟩, 39) := ⟨⟨by decide +kernel, by decide +kernel⟩, List.mem_of_getElem? (i := 1168) (by decide +kernel), List.mem_of_getElem? (i := 1661) (by decide +kernel), List.mem_of_getElem? (i := 1662) (by decide +kernel)⟩
theorem lw_p108 : lw_okq (⟨"FrontFourModel", "rightFrom", "(III)I"⟩, 39) := ⟨⟨by decide +kernel, by decide +kernel⟩, List.mem_of_getElem? (i := 1168) (by decide +kernel), List.mem_of_getElem? (i := 1665) (by decide +kernel), List.mem_of_getElem? (i := 1666) (by decide +kernel)⟩
theorem lw_p109 : lw_okq (⟨"FrontFourModel", "fillsSoon", "(III)V"⟩, 39) := ⟨⟨by decide +kernel, by decide +kernel⟩, List.mem_of_getElem? (i := 1168) (by decide +kernel), List.mem_of_getElem? (i := 1669) (by decide +kernel), List.mem_of_getElem? (i := 1670) (by decide +kernel)⟩
theorem lw_p110 : lw_okq (⟨"FrontFourModel", "nextSoon", "()I"⟩, 39) := ⟨⟨by decide +kernel, by decide +kernel⟩, List.mem_of_getElem? (i := 1168) (by decide +kernel), List.mem_of_getElem? (i := 1673) (by decide +kernel), List.mem_of_getElem? (i := 1674) (by decide +kernel)⟩
theorem lw_p111 : lw_okq (⟨"FrontFourModel", "insideFrom", "(IIII)I"⟩, 39) := ⟨⟨by decide +kernel, by decide +kernel⟩, List.mem_of_getElem? (i := 1168) (by decide +kernel), List.mem_of_getElem? (i := 1677) (by decide +kernel), List.mem_of_getElem? (i := 1678) (by decide +kernel)⟩
def lw_privs_7 : List (MethodName × Nat) := [(⟨"FrontFourModel", "isRule", "(I)Z"⟩, 39), (⟨"FrontFourModel", "asks", "(II)V"⟩, 39), (⟨"FrontFourModel", "words", "(I)V"⟩, 39), (⟨"FrontFourModel", "nearest", "(I)I"⟩, 39), (⟨"FrontFourModel", "haltAt", "(I)I"⟩, 39), (⟨"FrontFourModel", "reckons", "(III)J"⟩, 39), (⟨"FrontFourModel", "push", "(J)V"⟩, 39), (⟨"FrontFourModel", "pop", "()J"⟩, 39), (⟨"FrontFourModel", "doesBy", "(III)Z"⟩, 39), (⟨"FrontFourModel", "soonestOf", "(I)I"⟩, 39), (⟨"FrontFourModel", "beginOf", "(II)I"⟩, 39), (⟨"FrontFourModel", "whereOf", "(I)I"⟩, 39), (⟨"FrontFourModel", "rightFrom", "(III)I"⟩, 39), (⟨"FrontFourModel", "fillsSoon", "(III)V"⟩, 39), (⟨"FrontFourModel", "nextSoon", "()I"⟩, 39), (⟨"FrontFourModel", "insideFrom", "(IIII)I"⟩, 39)]
theorem lw_r7 : ∀ q ∈ lw_privs_7, lw_okq q := List.forall_mem_cons.mpr ⟨lw_p96, List.forall_mem_cons.mpr ⟨lw_p97, List.forall_mem_cons.mpr ⟨lw_p98, List.forall_mem_cons.mpr ⟨lw_p99, List.forall_mem_cons.mpr ⟨lw_p100, List.forall_mem_cons.mpr ⟨lw_p101, List.forall_mem_cons.mpr ⟨lw_p102, List.forall_mem_cons.mpr ⟨lw_p103, List.forall_mem_cons.mpr ⟨lw_p104, List.forall_mem_cons.mpr ⟨lw_p105, List.forall_mem_cons.mpr ⟨lw_p106, List.forall_mem_cons.mpr ⟨lw_p107, List.forall_mem_cons.mpr ⟨lw_p108, List.forall_mem_cons.mpr ⟨lw_p109, List.forall_mem_cons.mpr ⟨lw_p110, List.forall_mem_cons.mpr ⟨lw_p111, fun _ h => absurd h List.not_mem_nil⟩⟩⟩⟩⟩⟩⟩⟩⟩⟩⟩⟩⟩⟩⟩⟩
theorem lw_p112 : lw_okq (⟨"FrontFourModel", "comesAt", "(II)V"⟩, 39) := ⟨⟨by decide +kernel, by decide +kernel⟩, List.mem_of_getElem? (i := 1168) (by decide +kernel), List.mem_of_getElem? (i := 1681) (by decide +kernel), List.mem_of_getElem? (i := 1682) (by decide +kernel)⟩
theorem lw_p113 : lw_okq (⟨"FrontFourModel", "outsideFrom", "(IIII)I"⟩, 39) := ⟨⟨by decide +kernel, by decide +kernel⟩, List.mem_of_getElem? (i := 1168) (by decide +kernel), List.mem_of_getElem? (i := 1685) (by decide +kernel), List.mem_of_getElem? (i := 1686) (by decide +kernel)⟩
theorem lw_p114 : lw_okq (⟨"FrontFourModel", "fillsRow", "(I)Z"⟩, 39) := ⟨⟨by decide +kernel, by decide +kernel⟩, List.mem_of_getElem? (i := 1168) (by decide +kernel), List.mem_of_getElem? (i := 1693) (by decide +kernel), List.mem_of_getElem? (i := 1694) (by decide +kernel)⟩
theorem lw_p115 : lw_okq (⟨"FrontFourModel", "steps", "(IIII)Z"⟩, 39) := ⟨⟨by decide +kernel, by decide +kernel⟩, List.mem_of_getElem? (i := 1168) (by decide +kernel), List.mem_of_getElem? (i := 1697) (by decide +kernel), List.mem_of_getElem? (i := 1698) (by decide +kernel)⟩
theorem lw_p116 : lw_okq (⟨"FrontFourModel", "goesOn", "(IIIIZI)Z"⟩, 39) := ⟨⟨by decide +kernel, by decide +kernel⟩, List.mem_of_getElem? (i := 1168) (by decide +kernel), List.mem_of_getElem? (i := 1701) (by decide +kernel), List.mem_of_getElem? (i := 1702) (by decide +kernel)⟩
theorem lw_p117 : lw_okq (⟨"FrontFourModel", "latestOf", "(I)I"⟩, 39) := ⟨⟨by decide +kernel, by decide +kernel⟩, List.mem_of_getElem? (i := 1168) (by decide +kernel), List.mem_of_getElem? (i := 1709) (by decide +kernel), List.mem_of_getElem? (i := 1710) (by decide +kernel)⟩
theorem lw_p118 : lw_okq (⟨"FrontFourModel", "isLost", "(II)Z"⟩, 39) := ⟨⟨by decide +kernel, by decide +kernel⟩, List.mem_of_getElem? (i := 1168) (by decide +kernel), List.mem_of_getElem? (i := 1717) (by decide +kernel), List.mem_of_getElem? (i := 1718) (by decide +kernel)⟩
theorem lw_p119 : lw_okq (⟨"FrontFourModel", "voiceIn", "(I)I"⟩, 39) := ⟨⟨by decide +kernel, by decide +kernel⟩, List.mem_of_getElem? (i := 1168) (by decide +kernel), List.mem_of_getElem? (i := 1725) (by decide +kernel), List.mem_of_getElem? (i := 1726) (by decide +kernel)⟩
theorem lw_p120 : lw_okq (⟨"FrontFourModel", "isOrder", "(I)Z"⟩, 39) := ⟨⟨by decide +kernel, by decide +kernel⟩, List.mem_of_getElem? (i := 1168) (by decide +kernel), List.mem_of_getElem? (i := 1738) (by decide +kernel), List.mem_of_getElem? (i := 1739) (by decide +kernel)⟩
theorem lw_p121 : lw_okq (⟨"FrontFourModel", "wrongAsPut", "()I"⟩, 39) := ⟨⟨by decide +kernel, by decide +kernel⟩, List.mem_of_getElem? (i := 1168) (by decide +kernel), List.mem_of_getElem? (i := 1742) (by decide +kernel), List.mem_of_getElem? (i := 1743) (by decide +kernel)⟩
theorem lw_p122 : lw_okq (⟨"FrontFourModel", "isFirstPut", "()Z"⟩, 39) := ⟨⟨by decide +kernel, by decide +kernel⟩, List.mem_of_getElem? (i := 1168) (by decide +kernel), List.mem_of_getElem? (i := 1746) (by decide +kernel), List.mem_of_getElem? (i := 1747) (by decide +kernel)⟩
theorem lw_p123 : lw_okq (⟨"FrontFourModel", "allIn", "(II)I"⟩, 39) := ⟨⟨by decide +kernel, by decide +kernel⟩, List.mem_of_getElem? (i := 1168) (by decide +kernel), List.mem_of_getElem? (i := 1754) (by decide +kernel), List.mem_of_getElem? (i := 1755) (by decide +kernel)⟩
theorem lw_p124 : lw_okq (⟨"FrontFourModel", "goesStraight", "(III)V"⟩, 39) := ⟨⟨by decide +kernel, by decide +kernel⟩, List.mem_of_getElem? (i := 1168) (by decide +kernel), List.mem_of_getElem? (i := 1762) (by decide +kernel), List.mem_of_getElem? (i := 1763) (by decide +kernel)⟩
theorem lw_p125 : lw_okq (⟨"FrontFourModel", "canHaveBeen", "(II)Z"⟩, 39) := ⟨⟨by decide +kernel, by decide +kernel⟩, List.mem_of_getElem? (i := 1168) (by decide +kernel), List.mem_of_getElem? (i := 1775) (by decide +kernel), List.mem_of_getElem? (i := 1776) (by decide +kernel)⟩
theorem lw_p126 : lw_okq (⟨"FrontFourModel", "nextSeen", "(II)I"⟩, 39) := ⟨⟨by decide +kernel, by decide +kernel⟩, List.mem_of_getElem? (i := 1168) (by decide +kernel), List.mem_of_getElem? (i := 1779) (by decide +kernel), List.mem_of_getElem? (i := 1780) (by decide +kernel)⟩
theorem lw_p127 : lw_okq (⟨"FrontFourModel", "secondOf", "(I)I"⟩, 39) := ⟨⟨by decide +kernel, by decide +kernel⟩, List.mem_of_getElem? (i := 1168) (by decide +kernel), List.mem_of_getElem? (i := 1783) (by decide +kernel), List.mem_of_getElem? (i := 1784) (by decide +kernel)⟩
def lw_privs_8 : List (MethodName × Nat) := [(⟨"FrontFourModel", "comesAt", "(II)V"⟩, 39), (⟨"FrontFourModel", "outsideFrom", "(IIII)I"⟩, 39), (⟨"FrontFourModel", "fillsRow", "(I)Z"⟩, 39), (⟨"FrontFourModel", "steps", "(IIII)Z"⟩, 39), (⟨"FrontFourModel", "goesOn", "(IIIIZI)Z"⟩, 39), (⟨"FrontFourModel", "latestOf", "(I)I"⟩, 39), (⟨"FrontFourModel", "isLost", "(II)Z"⟩, 39), (⟨"FrontFourModel", "voiceIn", "(I)I"⟩, 39), (⟨"FrontFourModel", "isOrder", "(I)Z"⟩, 39), (⟨"FrontFourModel", "wrongAsPut", "()I"⟩, 39), (⟨"FrontFourModel", "isFirstPut", "()Z"⟩, 39), (⟨"FrontFourModel", "allIn", "(II)I"⟩, 39), (⟨"FrontFourModel", "goesStraight", "(III)V"⟩, 39), (⟨"FrontFourModel", "canHaveBeen", "(II)Z"⟩, 39), (⟨"FrontFourModel", "nextSeen", "(II)I"⟩, 39), (⟨"FrontFourModel", "secondOf", "(I)I"⟩, 39)]
theorem lw_r8 : ∀ q ∈ lw_privs_8, lw_okq q := List.forall_mem_cons.mpr ⟨lw_p112, List.forall_mem_cons.mpr ⟨lw_p113, List.forall_mem_cons.mpr ⟨lw_p114, List.forall_mem_cons.mpr ⟨lw_p115, List.forall_mem_cons.mpr ⟨lw_p116, List.forall_mem_cons.mpr ⟨lw_p117, List.forall_mem_cons.mpr ⟨lw_p118, List.forall_mem_cons.mpr ⟨lw_p119, List.forall_mem_cons.mpr ⟨lw_p120, List.forall_mem_cons.mpr ⟨lw_p121, List.forall_mem_cons.mpr ⟨lw_p122, List.forall_mem_cons.mpr ⟨lw_p123, List.forall_mem_cons.mpr ⟨lw_p124, List.forall_mem_cons.mpr ⟨lw_p125, List.forall_mem_cons.mpr ⟨lw_p126, List.forall_mem_cons.mpr ⟨lw_p127, fun _ h => absurd h List.not_mem_nil⟩⟩⟩⟩⟩⟩⟩⟩⟩⟩⟩⟩⟩⟩⟩⟩
theorem lw_p128 : lw_okq (⟨"FrontFourModel", "draw", "(I)I"⟩, 39) := ⟨⟨by decide +kernel, by decide +kernel⟩, List.mem_of_getElem? (i := 1168) (by decide +kernel), List.mem_of_getElem? (i := 1801) (by decide +kernel), List.mem_of_getElem? (i := 1802) (by decide +kernel)⟩
def lw_privs_9 : List (MethodName × Nat) := [(⟨"FrontFourModel", "draw", "(I)I"⟩, 39)]
theorem lw_r9 : ∀ q ∈ lw_privs_9, lw_okq q := List.forall_mem_cons.mpr ⟨lw_p128, fun _ h => absurd h List.not_mem_nil⟩
def lw_privs : List (MethodName × Nat) := lw_privs_1 ++ (lw_privs_2 ++ (lw_privs_3 ++ (lw_privs_4 ++ (lw_privs_5 ++ (lw_privs_6 ++ (lw_privs_7 ++ (lw_privs_8 ++ (lw_privs_9))))))))
def lw_tbl : List Cond := k2_sels lw_privs ++ tables_1
theorem lw_privs_ok : ∀ q ∈ lw_privs, lw_okq q := by
  show ∀ q ∈ lw_privs_1 ++ (lw_privs_2 ++ (lw_privs_3 ++ (lw_privs_4 ++ (lw_privs_5 ++ (lw_privs_6 ++ (lw_privs_7 ++ (lw_privs_8 ++ (lw_privs_9)))))))), lw_okq q
  exact List.forall_mem_append.mpr ⟨lw_r1, List.forall_mem_append.mpr ⟨lw_r2, List.forall_mem_append.mpr ⟨lw_r3, List.forall_mem_append.mpr ⟨lw_r4, List.forall_mem_append.mpr ⟨lw_r5, List.forall_mem_append.mpr ⟨lw_r6, List.forall_mem_append.mpr ⟨lw_r7, List.forall_mem_append.mpr ⟨lw_r8, lw_r9⟩⟩⟩⟩⟩⟩⟩⟩
def RX0 : String := "FrontFour$History"
def TX0 : u_T := fun k => match k with
  | 0 => ("FrontFour$History", "moments", "[LFrontFour$Moment;", true)
  | 1 => ("FrontFour$History", "next", "I", false)
  | _ => ("FrontFour$History", "size", "I", false)
def tyX0 : Nat → FieldType := fun k => match k with
  | 0 => .array (.object "FrontFour$Moment")
  | 1 => .int
  | _ => .int
theorem nmX0 : ∀ a, a < 3 → ∀ b, b < 3 → a ≠ b → (TX0 a).2.1 ≠ (TX0 b).2.1 := by decide +kernel
theorem tyX0_ok : ∀ k, k < 3 → parseFieldDescriptor (TX0 k).2.2.1 = some (tyX0 k) := by decide +kernel
abbrev cX0_init : ByteArray := prog_2_method_1_code
def yX0_init : MethodName := ⟨RX0, "<init>", "()V"⟩
abbrev cX0_keep : ByteArray := prog_2_method_2_code
def yX0_keep : MethodName := ⟨RX0, "keep", "(LFrontFour$Moment;)V"⟩
abbrev cX0_restore : ByteArray := prog_2_method_3_code
def yX0_restore : MethodName := ⟨RX0, "restore", "(LFrontFour$Moment;)V"⟩
def RX1 : String := "FrontFour$LineReader"
def TX1 : u_T := fun k => match k with
  | 0 => ("FrontFour$LineReader", "text", "LFrontFour$Text;", true)
  | 1 => ("FrontFour$LineReader", "draft", "LFrontFour$World;", true)
  | _ => ("FrontFour$LineReader", "told", "I", false)
def tyX1 : Nat → FieldType := fun k => match k with
  | 0 => .object "FrontFour$Text"
  | 1 => .object "FrontFour$World"
  | _ => .int
theorem nmX1 : ∀ a, a < 3 → ∀ b, b < 3 → a ≠ b → (TX1 a).2.1 ≠ (TX1 b).2.1 := by decide +kernel
theorem tyX1_ok : ∀ k, k < 3 → parseFieldDescriptor (TX1 k).2.2.1 = some (tyX1 k) := by decide +kernel
abbrev cX1_init : ByteArray := prog_3_method_1_code
def yX1_init : MethodName := ⟨RX1, "<init>", "(LFrontFour$Text;LFrontFour$World;)V"⟩
abbrev cX1_read : ByteArray := prog_3_method_2_code
def yX1_read : MethodName := ⟨RX1, "read", "()Z"⟩
abbrev cX1_readClause : ByteArray := prog_3_method_3_code
def yX1_readClause : MethodName := ⟨RX1, "readClause", "(I)V"⟩
abbrev cX1_canStand : ByteArray := prog_3_method_4_code
def yX1_canStand : MethodName := ⟨RX1, "canStand", "(II)Z"⟩
abbrev cX1_readStop : ByteArray := prog_3_method_5_code
def yX1_readStop : MethodName := ⟨RX1, "readStop", "()V"⟩
abbrev cX1_readRider : ByteArray := prog_3_method_6_code
def yX1_readRider : MethodName := ⟨RX1, "readRider", "()V"⟩
abbrev cX1_readOther : ByteArray := prog_3_method_7_code
def yX1_readOther : MethodName := ⟨RX1, "readOther", "(I)V"⟩
abbrev cX1_finish : ByteArray := prog_3_method_8_code
def yX1_finish : MethodName := ⟨RX1, "finish", "()V"⟩
def RX2 : String := "FrontFour$Moment"
def TX2 : u_T := fun k => match k with
  | 0 => ("FrontFour$Moment", "second", "I", false)
  | 1 => ("FrontFour$Moment", "shut", "I", false)
  | 2 => ("FrontFour$Moment", "coach", "[I", true)
  | 3 => ("FrontFour$Moment", "to", "[I", true)
  | 4 => ("FrontFour$Moment", "ends", "[I", true)
  | 5 => ("FrontFour$Moment", "through", "[I", true)
  | _ => ("FrontFour$Moment", "moved", "[I", true)
def tyX2 : Nat → FieldType := fun k => match k with
  | 0 => .int
  | 1 => .int
  | 2 => .array .int
  | 3 => .array .int
  | 4 => .array .int
  | 5 => .array .int
  | _ => .array .int
theorem nmX2 : ∀ a, a < 7 → ∀ b, b < 7 → a ≠ b → (TX2 a).2.1 ≠ (TX2 b).2.1 := by decide +kernel
theorem tyX2_ok : ∀ k, k < 7 → parseFieldDescriptor (TX2 k).2.2.1 = some (tyX2 k) := by decide +kernel
abbrev cX2_init : ByteArray := prog_4_method_1_code
def yX2_init : MethodName := ⟨RX2, "<init>", "()V"⟩
abbrev cX2_clear : ByteArray := prog_4_method_2_code
def yX2_clear : MethodName := ⟨RX2, "clear", "()V"⟩
abbrev cX2_copyFrom : ByteArray := prog_4_method_3_code
def yX2_copyFrom : MethodName := ⟨RX2, "copyFrom", "(LFrontFour$Moment;)V"⟩
def RX3 : String := "FrontFour$Reckoner"
def TX3 : u_T := fun k => match k with
  | 0 => ("FrontFour$Reckoner", "world", "LFrontFour$World;", true)
  | 1 => ("FrontFour$Reckoner", "stack", "[J", true)
  | _ => ("FrontFour$Reckoner", "height", "I", false)
def tyX3 : Nat → FieldType := fun k => match k with
  | 0 => .object "FrontFour$World"
  | 1 => .array .long
  | _ => .int
theorem nmX3 : ∀ a, a < 3 → ∀ b, b < 3 → a ≠ b → (TX3 a).2.1 ≠ (TX3 b).2.1 := by decide +kernel
theorem tyX3_ok : ∀ k, k < 3 → parseFieldDescriptor (TX3 k).2.2.1 = some (tyX3 k) := by decide +kernel
abbrev cX3_init : ByteArray := prog_5_method_1_code
def yX3_init : MethodName := ⟨RX3, "<init>", "(LFrontFour$World;)V"⟩
abbrev cX3_reckon : ByteArray := prog_5_method_2_code
def yX3_reckon : MethodName := ⟨RX3, "reckon", "([IIII)J"⟩
abbrev cX3_push : ByteArray := prog_5_method_3_code
def yX3_push : MethodName := ⟨RX3, "push", "(J)V"⟩
abbrev cX3_pop : ByteArray := prog_5_method_4_code
def yX3_pop : MethodName := ⟨RX3, "pop", "()J"⟩
abbrev cX3_combined : ByteArray := prog_5_method_5_code
def yX3_combined : MethodName := ⟨RX3, "combined", "(IJJ)J"⟩
abbrev cX3_isTrue : ByteArray := prog_5_method_6_code
def yX3_isTrue : MethodName := ⟨RX3, "isTrue", "(IJJ)Z"⟩
def RX4 : String := "FrontFour$Rule"
def TX4 : u_T := fun k => match k with
  | 0 => ("FrontFour$Rule", "code", "[I", true)
  | 1 => ("FrontFour$Rule", "kinds", "[I", true)
  | 2 => ("FrontFour$Rule", "sumEnds", "[I", true)
  | _ => ("FrontFour$Rule", "testEnds", "[I", true)
def tyX4 : Nat → FieldType := fun k => match k with
  | 0 => .array .int
  | 1 => .array .int
  | 2 => .array .int
  | _ => .array .int
theorem nmX4 : ∀ a, a < 4 → ∀ b, b < 4 → a ≠ b → (TX4 a).2.1 ≠ (TX4 b).2.1 := by decide +kernel
theorem tyX4_ok : ∀ k, k < 4 → parseFieldDescriptor (TX4 k).2.2.1 = some (tyX4 k) := by decide +kernel
abbrev cX4_init : ByteArray := prog_6_method_1_code
def yX4_init : MethodName := ⟨RX4, "<init>", "(LFrontFour$RuleReader;)V"⟩
abbrev cX4_begin : ByteArray := prog_6_method_2_code
def yX4_begin : MethodName := ⟨RX4, "begin", "(I)I"⟩
def RX5 : String := "FrontFour$RuleReader"
def TX5 : u_T := fun k => match k with
  | 0 => ("FrontFour$RuleReader", "code", "[I", true)
  | 1 => ("FrontFour$RuleReader", "size", "I", false)
  | 2 => ("FrontFour$RuleReader", "kinds", "[I", true)
  | 3 => ("FrontFour$RuleReader", "sumEnds", "[I", true)
  | 4 => ("FrontFour$RuleReader", "testEnds", "[I", true)
  | 5 => ("FrontFour$RuleReader", "clauses", "I", false)
  | 6 => ("FrontFour$RuleReader", "text", "LFrontFour$Text;", true)
  | _ => ("FrontFour$RuleReader", "counted", "I", false)
def tyX5 : Nat → FieldType := fun k => match k with
  | 0 => .array .int
  | 1 => .int
  | 2 => .array .int
  | 3 => .array .int
  | 4 => .array .int
  | 5 => .int
  | 6 => .object "FrontFour$Text"
  | _ => .int
theorem nmX5 : ∀ a, a < 8 → ∀ b, b < 8 → a ≠ b → (TX5 a).2.1 ≠ (TX5 b).2.1 := by decide +kernel
theorem tyX5_ok : ∀ k, k < 8 → parseFieldDescriptor (TX5 k).2.2.1 = some (tyX5 k) := by decide +kernel
abbrev cX5_init : ByteArray := prog_7_method_1_code
def yX5_init : MethodName := ⟨RX5, "<init>", "(LFrontFour$Text;)V"⟩
abbrev cX5_read : ByteArray := prog_7_method_2_code
def yX5_read : MethodName := ⟨RX5, "read", "()Z"⟩
abbrev cX5_readClause : ByteArray := prog_7_method_3_code
def yX5_readClause : MethodName := ⟨RX5, "readClause", "()V"⟩
abbrev cX5_readTest : ByteArray := prog_7_method_4_code
def yX5_readTest : MethodName := ⟨RX5, "readTest", "(I)V"⟩
abbrev cX5_readFact : ByteArray := prog_7_method_5_code
def yX5_readFact : MethodName := ⟨RX5, "readFact", "(I)V"⟩
abbrev cX5_takeComparison : ByteArray := prog_7_method_6_code
def yX5_takeComparison : MethodName := ⟨RX5, "takeComparison", "()I"⟩
abbrev cX5_readSum : ByteArray := prog_7_method_7_code
def yX5_readSum : MethodName := ⟨RX5, "readSum", "()V"⟩
abbrev cX5_readValue : ByteArray := prog_7_method_8_code
def yX5_readValue : MethodName := ⟨RX5, "readValue", "()V"⟩
abbrev cX5_emit : ByteArray := prog_7_method_9_code
def yX5_emit : MethodName := ⟨RX5, "emit", "(I)V"⟩
def RX6 : String := "FrontFour$Search"
def TX6 : u_T := fun k => match k with
  | 0 => ("FrontFour$Search", "world", "LFrontFour$World;", true)
  | 1 => ("FrontFour$Search", "arrival", "[I", true)
  | 2 => ("FrontFour$Search", "until", "[I", true)
  | 3 => ("FrontFour$Search", "worst", "[I", true)
  | 4 => ("FrontFour$Search", "oneBegins", "[I", true)
  | 5 => ("FrontFour$Search", "otherBegins", "[I", true)
  | 6 => ("FrontFour$Search", "bestOrder", "[I", true)
  | 7 => ("FrontFour$Search", "order", "[I", true)
  | 8 => ("FrontFour$Search", "goingIsOutside", "Z", false)
  | 9 => ("FrontFour$Search", "goingTo", "I", false)
  | 10 => ("FrontFour$Search", "goingBegin", "I", false)
  | 11 => ("FrontFour$Search", "goingEnd", "I", false)
  | 12 => ("FrontFour$Search", "journeysLost", "I", false)
  | _ => ("FrontFour$Search", "journeysAhead", "I", false)
def tyX6 : Nat → FieldType := fun k => match k with
  | 0 => .object "FrontFour$World"
  | 1 => .array .int
  | 2 => .array .int
  | 3 => .array .int
  | 4 => .array .int
  | 5 => .array .int
  | 6 => .array .int
  | 7 => .array .int
  | 8 => .boolean
  | 9 => .int
  | 10 => .int
  | 11 => .int
  | 12 => .int
  | _ => .int
theorem nmX6 : ∀ a, a < 14 → ∀ b, b < 14 → a ≠ b → (TX6 a).2.1 ≠ (TX6 b).2.1 := by decide +kernel
theorem tyX6_ok : ∀ k, k < 14 → parseFieldDescriptor (TX6 k).2.2.1 = some (tyX6 k) := by decide +kernel
abbrev cX6_init : ByteArray := prog_8_method_1_code
def yX6_init : MethodName := ⟨RX6, "<init>", "(LFrontFour$World;)V"⟩
abbrev cX6_startOf : ByteArray := prog_8_method_2_code
def yX6_startOf : MethodName := ⟨RX6, "startOf", "(II)I"⟩
abbrev cX6_spread : ByteArray := prog_8_method_3_code
def yX6_spread : MethodName := ⟨RX6, "spread", "(III)V"⟩
abbrev cX6_spreadFrom : ByteArray := prog_8_method_4_code
def yX6_spreadFrom : MethodName := ⟨RX6, "spreadFrom", "(II)Z"⟩
abbrev cX6_firstEnd : ByteArray := prog_8_method_5_code
def yX6_firstEnd : MethodName := ⟨RX6, "firstEnd", "(IIII)I"⟩
abbrev cX6_spreadBack : ByteArray := prog_8_method_6_code
def yX6_spreadBack : MethodName := ⟨RX6, "spreadBack", "(II)V"⟩
abbrev cX6_spreadBackFrom : ByteArray := prog_8_method_7_code
def yX6_spreadBackFrom : MethodName := ⟨RX6, "spreadBackFrom", "(II)Z"⟩
abbrev cX6_lastBegin : ByteArray := prog_8_method_8_code
def yX6_lastBegin : MethodName := ⟨RX6, "lastBegin", "(IIII)I"⟩
abbrev cX6_soonestOf : ByteArray := prog_8_method_9_code
def yX6_soonestOf : MethodName := ⟨RX6, "soonestOf", "(II)I"⟩
abbrev cX6_latestOf : ByteArray := prog_8_method_10_code
def yX6_latestOf : MethodName := ⟨RX6, "latestOf", "(I)I"⟩
abbrev cX6_isLost : ByteArray := prog_8_method_11_code
def yX6_isLost : MethodName := ⟨RX6, "isLost", "(II)Z"⟩
abbrev cX6_findGoing : ByteArray := prog_8_method_12_code
def yX6_findGoing : MethodName := ⟨RX6, "findGoing", "(II)Z"⟩
abbrev cX6_findFirst : ByteArray := prog_8_method_13_code
def yX6_findFirst : MethodName := ⟨RX6, "findFirst", "(III)Z"⟩
abbrev cX6_isInTimeInside : ByteArray := prog_8_method_14_code
def yX6_isInTimeInside : MethodName := ⟨RX6, "isInTimeInside", "(IIII)Z"⟩
abbrev cX6_takeAsFound : ByteArray := prog_8_method_15_code
def yX6_takeAsFound : MethodName := ⟨RX6, "takeAsFound", "(ZIII)V"⟩
abbrev cX6_voiceIn : ByteArray := prog_8_method_16_code
def yX6_voiceIn : MethodName := ⟨RX6, "voiceIn", "(I)I"⟩
abbrev cX6_findOrder : ByteArray := prog_8_method_17_code
def yX6_findOrder : MethodName := ⟨RX6, "findOrder", "()I"⟩
abbrev cX6_hasUnlikeDigits : ByteArray := prog_8_method_18_code
def yX6_hasUnlikeDigits : MethodName := ⟨RX6, "hasUnlikeDigits", "(I)Z"⟩
abbrev cX6_lineUp : ByteArray := prog_8_method_19_code
def yX6_lineUp : MethodName := ⟨RX6, "lineUp", "(I)V"⟩
abbrev cX6_misplacedRiders : ByteArray := prog_8_method_20_code
def yX6_misplacedRiders : MethodName := ⟨RX6, "misplacedRiders", "()I"⟩
abbrev cX6_familyCoach : ByteArray := prog_8_method_21_code
def yX6_familyCoach : MethodName := ⟨RX6, "familyCoach", "(I)I"⟩
abbrev cX6_bestFor : ByteArray := prog_8_method_22_code
def yX6_bestFor : MethodName := ⟨RX6, "bestFor", "(I)I"⟩
abbrev cX6_meetingWay : ByteArray := prog_8_method_23_code
def yX6_meetingWay : MethodName := ⟨RX6, "meetingWay", "(II)I"⟩
abbrev cX6_meetingSecond : ByteArray := prog_8_method_24_code
def yX6_meetingSecond : MethodName := ⟨RX6, "meetingSecond", "(I)I"⟩
abbrev cX6_walk : ByteArray := prog_8_method_25_code
def yX6_walk : MethodName := ⟨RX6, "walk", "(II[I)V"⟩
abbrev cX6_canHaveGotIn : ByteArray := prog_8_method_26_code
def yX6_canHaveGotIn : MethodName := ⟨RX6, "canHaveGotIn", "(II)Z"⟩
abbrev cX6_travel : ByteArray := prog_8_method_27_code
def yX6_travel : MethodName := ⟨RX6, "travel", "(I)V"⟩
def RX7 : String := "FrontFour$Sightings"
def TX7 : u_T := fun k => match k with
  | 0 => ("FrontFour$Sightings", "size", "I", false)
  | 1 => ("FrontFour$Sightings", "riders", "[I", true)
  | 2 => ("FrontFour$Sightings", "coaches", "[I", true)
  | _ => ("FrontFour$Sightings", "seconds", "[I", true)
def tyX7 : Nat → FieldType := fun k => match k with
  | 0 => .int
  | 1 => .array .int
  | 2 => .array .int
  | _ => .array .int
theorem nmX7 : ∀ a, a < 4 → ∀ b, b < 4 → a ≠ b → (TX7 a).2.1 ≠ (TX7 b).2.1 := by decide +kernel
theorem tyX7_ok : ∀ k, k < 4 → parseFieldDescriptor (TX7 k).2.2.1 = some (tyX7 k) := by decide +kernel
abbrev cX7_init : ByteArray := prog_9_method_1_code
def yX7_init : MethodName := ⟨RX7, "<init>", "()V"⟩
abbrev cX7_add : ByteArray := prog_9_method_2_code
def yX7_add : MethodName := ⟨RX7, "add", "(III)Z"⟩
abbrev cX7_copyFrom : ByteArray := prog_9_method_3_code
def yX7_copyFrom : MethodName := ⟨RX7, "copyFrom", "(LFrontFour$Sightings;)V"⟩
def RX8 : String := "FrontFour$Text"
def TX8 : u_T := fun k => match k with
  | 0 => ("FrontFour$Text", "tape", "[B", true)
  | 1 => ("FrontFour$Text", "length", "I", false)
  | 2 => ("FrontFour$Text", "fault", "I", false)
  | 3 => ("FrontFour$Text", "kinds", "[I", true)
  | 4 => ("FrontFour$Text", "values", "[I", true)
  | 5 => ("FrontFour$Text", "places", "[I", true)
  | 6 => ("FrontFour$Text", "tokens", "I", false)
  | _ => ("FrontFour$Text", "at", "I", false)
def tyX8 : Nat → FieldType := fun k => match k with
  | 0 => .array .byte
  | 1 => .int
  | 2 => .int
  | 3 => .array .int
  | 4 => .array .int
  | 5 => .array .int
  | 6 => .int
  | _ => .int
theorem nmX8 : ∀ a, a < 8 → ∀ b, b < 8 → a ≠ b → (TX8 a).2.1 ≠ (TX8 b).2.1 := by decide +kernel
theorem tyX8_ok : ∀ k, k < 8 → parseFieldDescriptor (TX8 k).2.2.1 = some (tyX8 k) := by decide +kernel
abbrev cX8_init : ByteArray := prog_10_method_1_code
def yX8_init : MethodName := ⟨RX8, "<init>", "()V"⟩
abbrev cX8_append : ByteArray := prog_10_method_2_code
def yX8_append : MethodName := ⟨RX8, "append", "(I)V"⟩
abbrev cX8_open : ByteArray := prog_10_method_3_code
def yX8_open : MethodName := ⟨RX8, "open", "()V"⟩
abbrev cX8_scan : ByteArray := prog_10_method_4_code
def yX8_scan : MethodName := ⟨RX8, "scan", "(I)I"⟩
abbrev cX8_scanNumber : ByteArray := prog_10_method_5_code
def yX8_scanNumber : MethodName := ⟨RX8, "scanNumber", "(I)I"⟩
abbrev cX8_scanWord : ByteArray := prog_10_method_6_code
def yX8_scanWord : MethodName := ⟨RX8, "scanWord", "(I)I"⟩
abbrev cX8_scanSign : ByteArray := prog_10_method_7_code
def yX8_scanSign : MethodName := ⟨RX8, "scanSign", "(I)I"⟩
abbrev cX8_wordNumber : ByteArray := prog_10_method_8_code
def yX8_wordNumber : MethodName := ⟨RX8, "wordNumber", "(II)I"⟩
abbrev cX8_isSame : ByteArray := prog_10_method_9_code
def yX8_isSame : MethodName := ⟨RX8, "isSame", "(IIII)Z"⟩
abbrev cX8_isDigit : ByteArray := prog_10_method_10_code
def yX8_isDigit : MethodName := ⟨RX8, "isDigit", "(I)Z"⟩
abbrev cX8_isSmall : ByteArray := prog_10_method_11_code
def yX8_isSmall : MethodName := ⟨RX8, "isSmall", "(I)Z"⟩
abbrev cX8_step : ByteArray := prog_10_method_12_code
def yX8_step : MethodName := ⟨RX8, "step", "()V"⟩
abbrev cX8_isAtEnd : ByteArray := prog_10_method_13_code
def yX8_isAtEnd : MethodName := ⟨RX8, "isAtEnd", "()Z"⟩
abbrev cX8_isNumber : ByteArray := prog_10_method_14_code
def yX8_isNumber : MethodName := ⟨RX8, "isNumber", "()Z"⟩
abbrev cX8_numberHere : ByteArray := prog_10_method_15_code
def yX8_numberHere : MethodName := ⟨RX8, "numberHere", "()I"⟩
abbrev cX8_wordHere : ByteArray := prog_10_method_16_code
def yX8_wordHere : MethodName := ⟨RX8, "wordHere", "()I"⟩
abbrev cX8_signHere : ByteArray := prog_10_method_17_code
def yX8_signHere : MethodName := ⟨RX8, "signHere", "()I"⟩
abbrev cX8_takesSign : ByteArray := prog_10_method_18_code
def yX8_takesSign : MethodName := ⟨RX8, "takesSign", "(I)Z"⟩
abbrev cX8_blame : ByteArray := prog_10_method_19_code
def yX8_blame : MethodName := ⟨RX8, "blame", "(I)V"⟩
abbrev cX8_takeNumber : ByteArray := prog_10_method_20_code
def yX8_takeNumber : MethodName := ⟨RX8, "takeNumber", "(II)I"⟩
def RX9 : String := "FrontFour$Train"
def TX9 : u_T := fun k => match k with
  | 0 => ("FrontFour$Train", "coaches", "I", false)
  | 1 => ("FrontFour$Train", "stops", "I", false)
  | 2 => ("FrontFour$Train", "riders", "I", false)
  | 3 => ("FrontFour$Train", "partingStop", "I", false)
  | 4 => ("FrontFour$Train", "parting", "I", false)
  | 5 => ("FrontFour$Train", "platform", "I", false)
  | 6 => ("FrontFour$Train", "goesTo", "[I", true)
  | 7 => ("FrontFour$Train", "seats", "[I", true)
  | 8 => ("FrontFour$Train", "trolley", "[I", true)
  | 9 => ("FrontFour$Train", "haltBegin", "[I", true)
  | 10 => ("FrontFour$Train", "haltEnd", "[I", true)
  | 11 => ("FrontFour$Train", "dest", "[I", true)
  | 12 => ("FrontFour$Train", "pace", "[I", true)
  | 13 => ("FrontFour$Train", "loads", "[I", true)
  | 14 => ("FrontFour$Train", "knows", "[I", true)
  | 15 => ("FrontFour$Train", "insideSeconds", "[I", true)
  | _ => ("FrontFour$Train", "platformSeconds", "[I", true)
def tyX9 : Nat → FieldType := fun k => match k with
  | 0 => .int
  | 1 => .int
  | 2 => .int
  | 3 => .int
  | 4 => .int
  | 5 => .int
  | 6 => .array .int
  | 7 => .array .int
  | 8 => .array .int
  | 9 => .array .int
  | 10 => .array .int
  | 11 => .array .int
  | 12 => .array .int
  | 13 => .array .int
  | 14 => .array .int
  | 15 => .array .int
  | _ => .array .int
theorem nmX9 : ∀ a, a < 17 → ∀ b, b < 17 → a ≠ b → (TX9 a).2.1 ≠ (TX9 b).2.1 := by decide +kernel
theorem tyX9_ok : ∀ k, k < 17 → parseFieldDescriptor (TX9 k).2.2.1 = some (tyX9 k) := by decide +kernel
abbrev cX9_init : ByteArray := prog_11_method_1_code
def yX9_init : MethodName := ⟨RX9, "<init>", "()V"⟩
abbrev cX9_clear : ByteArray := prog_11_method_2_code
def yX9_clear : MethodName := ⟨RX9, "clear", "()V"⟩
abbrev cX9_copyFrom : ByteArray := prog_11_method_3_code
def yX9_copyFrom : MethodName := ⟨RX9, "copyFrom", "(LFrontFour$Train;)V"⟩
def RX10 : String := "FrontFour$World"
def TX10 : u_T := fun k => match k with
  | 0 => ("FrontFour$World", "train", "LFrontFour$Train;", true)
  | 1 => ("FrontFour$World", "moment", "LFrontFour$Moment;", true)
  | 2 => ("FrontFour$World", "sightings", "LFrontFour$Sightings;", true)
  | _ => ("FrontFour$World", "seed", "I", false)
def tyX10 : Nat → FieldType := fun k => match k with
  | 0 => .object "FrontFour$Train"
  | 1 => .object "FrontFour$Moment"
  | 2 => .object "FrontFour$Sightings"
  | _ => .int
theorem nmX10 : ∀ a, a < 4 → ∀ b, b < 4 → a ≠ b → (TX10 a).2.1 ≠ (TX10 b).2.1 := by decide +kernel
theorem tyX10_ok : ∀ k, k < 4 → parseFieldDescriptor (TX10 k).2.2.1 = some (tyX10 k) := by decide +kernel
abbrev cX10_init : ByteArray := prog_12_method_1_code
def yX10_init : MethodName := ⟨RX10, "<init>", "()V"⟩
abbrev cX10_clear : ByteArray := prog_12_method_2_code
def yX10_clear : MethodName := ⟨RX10, "clear", "()V"⟩
abbrev cX10_copyFrom : ByteArray := prog_12_method_3_code
def yX10_copyFrom : MethodName := ⟨RX10, "copyFrom", "(LFrontFour$World;)V"⟩
abbrev cX10_hasLine : ByteArray := prog_12_method_4_code
def yX10_hasLine : MethodName := ⟨RX10, "hasLine", "()Z"⟩
abbrev cX10_hasCoach : ByteArray := prog_12_method_5_code
def yX10_hasCoach : MethodName := ⟨RX10, "hasCoach", "(I)Z"⟩
abbrev cX10_hasWay : ByteArray := prog_12_method_6_code
def yX10_hasWay : MethodName := ⟨RX10, "hasWay", "(I)Z"⟩
abbrev cX10_hasRider : ByteArray := prog_12_method_7_code
def yX10_hasRider : MethodName := ⟨RX10, "hasRider", "(I)Z"⟩
abbrev cX10_haltingStop : ByteArray := prog_12_method_8_code
def yX10_haltingStop : MethodName := ⟨RX10, "haltingStop", "()I"⟩
abbrev cX10_isShut : ByteArray := prog_12_method_9_code
def yX10_isShut : MethodName := ⟨RX10, "isShut", "(I)Z"⟩
abbrev cX10_isRight : ByteArray := prog_12_method_10_code
def yX10_isRight : MethodName := ⟨RX10, "isRight", "(II)Z"⟩
abbrev cX10_isGoing : ByteArray := prog_12_method_11_code
def yX10_isGoing : MethodName := ⟨RX10, "isGoing", "(I)Z"⟩
abbrev cX10_placeOf : ByteArray := prog_12_method_12_code
def yX10_placeOf : MethodName := ⟨RX10, "placeOf", "(I)I"⟩
abbrev cX10_ridersIn : ByteArray := prog_12_method_13_code
def yX10_ridersIn : MethodName := ⟨RX10, "ridersIn", "(I)I"⟩
abbrev cX10_goerThrough : ByteArray := prog_12_method_14_code
def yX10_goerThrough : MethodName := ⟨RX10, "goerThrough", "(I)I"⟩
abbrev cX10_goers : ByteArray := prog_12_method_15_code
def yX10_goers : MethodName := ⟨RX10, "goers", "()I"⟩
abbrev cX10_ridersWhoAreRight : ByteArray := prog_12_method_16_code
def yX10_ridersWhoAreRight : MethodName := ⟨RX10, "ridersWhoAreRight", "()I"⟩
abbrev cX10_insideBegin : ByteArray := prog_12_method_17_code
def yX10_insideBegin : MethodName := ⟨RX10, "insideBegin", "(IIII)I"⟩
abbrev cX10_insideLatest : ByteArray := prog_12_method_18_code
def yX10_insideLatest : MethodName := ⟨RX10, "insideLatest", "(IIII)I"⟩
abbrev cX10_outsideSeconds : ByteArray := prog_12_method_19_code
def yX10_outsideSeconds : MethodName := ⟨RX10, "outsideSeconds", "(III)I"⟩
abbrev cX10_outsideBegin : ByteArray := prog_12_method_20_code
def yX10_outsideBegin : MethodName := ⟨RX10, "outsideBegin", "(II)I"⟩
abbrev cX10_outsideLatest : ByteArray := prog_12_method_21_code
def yX10_outsideLatest : MethodName := ⟨RX10, "outsideLatest", "(II)I"⟩
abbrev cX10_mayGoInside : ByteArray := prog_12_method_22_code
def yX10_mayGoInside : MethodName := ⟨RX10, "mayGoInside", "(II)Z"⟩
abbrev cX10_goInside : ByteArray := prog_12_method_23_code
def yX10_goInside : MethodName := ⟨RX10, "goInside", "(II)I"⟩
abbrev cX10_mayGoOutside : ByteArray := prog_12_method_24_code
def yX10_mayGoOutside : MethodName := ⟨RX10, "mayGoOutside", "(II)Z"⟩
abbrev cX10_goOutside : ByteArray := prog_12_method_25_code
def yX10_goOutside : MethodName := ⟨RX10, "goOutside", "(II)I"⟩
abbrev cX10_go : ByteArray := prog_12_method_26_code
def yX10_go : MethodName := ⟨RX10, "go", "(III)I"⟩
abbrev cX10_goBy : ByteArray := prog_12_method_27_code
def yX10_goBy : MethodName := ⟨RX10, "goBy", "(I)V"⟩
abbrev cX10_wordOf : ByteArray := prog_12_method_28_code
def yX10_wordOf : MethodName := ⟨RX10, "wordOf", "(II)I"⟩
abbrev cX10_nearestRight : ByteArray := prog_12_method_29_code
def yX10_nearestRight : MethodName := ⟨RX10, "nearestRight", "(I)I"⟩
def RX11 : String := "FrontFour"
def TX11 : u_T := fun k => match k with
  | 0 => ("FrontFour", "text", "LFrontFour$Text;", true)
  | 1 => ("FrontFour", "world", "LFrontFour$World;", true)
  | 2 => ("FrontFour", "draft", "LFrontFour$World;", true)
  | 3 => ("FrontFour", "images", "[LFrontFour$World;", true)
  | 4 => ("FrontFour", "made", "[Z", true)
  | 5 => ("FrontFour", "history", "LFrontFour$History;", true)
  | 6 => ("FrontFour", "rules", "[LFrontFour$Rule;", true)
  | 7 => ("FrontFour", "ruleCount", "I", false)
  | 8 => ("FrontFour", "lineReader", "LFrontFour$LineReader;", true)
  | 9 => ("FrontFour", "ruleReader", "LFrontFour$RuleReader;", true)
  | 10 => ("FrontFour", "reckoner", "LFrontFour$Reckoner;", true)
  | _ => ("FrontFour", "search", "LFrontFour$Search;", true)
def tyX11 : Nat → FieldType := fun k => match k with
  | 0 => .object "FrontFour$Text"
  | 1 => .object "FrontFour$World"
  | 2 => .object "FrontFour$World"
  | 3 => .array (.object "FrontFour$World")
  | 4 => .array .boolean
  | 5 => .object "FrontFour$History"
  | 6 => .array (.object "FrontFour$Rule")
  | 7 => .int
  | 8 => .object "FrontFour$LineReader"
  | 9 => .object "FrontFour$RuleReader"
  | 10 => .object "FrontFour$Reckoner"
  | _ => .object "FrontFour$Search"
theorem nmX11 : ∀ a, a < 12 → ∀ b, b < 12 → a ≠ b → (TX11 a).2.1 ≠ (TX11 b).2.1 := by decide +kernel
theorem tyX11_ok : ∀ k, k < 12 → parseFieldDescriptor (TX11 k).2.2.1 = some (tyX11 k) := by decide +kernel
abbrev cX11_init : ByteArray := prog_1_method_1_code
def yX11_init : MethodName := ⟨RX11, "<init>", "()V"⟩
abbrev cX11_feed : ByteArray := prog_1_method_2_code
def yX11_feed : MethodName := ⟨RX11, "feed", "(IIIII)I"⟩
abbrev cX11_end : ByteArray := prog_1_method_3_code
def yX11_end : MethodName := ⟨RX11, "end", "(I)I"⟩
abbrev cX11_line : ByteArray := prog_1_method_4_code
def yX11_line : MethodName := ⟨RX11, "line", "()I"⟩
abbrev cX11_rule : ByteArray := prog_1_method_5_code
def yX11_rule : MethodName := ⟨RX11, "rule", "()I"⟩
abbrev cX11_coach : ByteArray := prog_1_method_6_code
def yX11_coach : MethodName := ⟨RX11, "coach", "(II)I"⟩
abbrev cX11_way : ByteArray := prog_1_method_7_code
def yX11_way : MethodName := ⟨RX11, "way", "(II)I"⟩
abbrev cX11_stop : ByteArray := prog_1_method_8_code
def yX11_stop : MethodName := ⟨RX11, "stop", "(II)I"⟩
abbrev cX11_rider : ByteArray := prog_1_method_9_code
def yX11_rider : MethodName := ⟨RX11, "rider", "(II)I"⟩
abbrev cX11_inside : ByteArray := prog_1_method_10_code
def yX11_inside : MethodName := ⟨RX11, "inside", "(II)I"⟩
abbrev cX11_outside : ByteArray := prog_1_method_11_code
def yX11_outside : MethodName := ⟨RX11, "outside", "(II)I"⟩
abbrev cX11_pass : ByteArray := prog_1_method_12_code
def yX11_pass : MethodName := ⟨RX11, "pass", "(I)I"⟩
abbrev cX11_shut : ByteArray := prog_1_method_13_code
def yX11_shut : MethodName := ⟨RX11, "shut", "(IZ)Z"⟩
abbrev cX11_undo : ByteArray := prog_1_method_14_code
def yX11_undo : MethodName := ⟨RX11, "undo", "()I"⟩
abbrev cX11_run : ByteArray := prog_1_method_15_code
def yX11_run : MethodName := ⟨RX11, "run", "(II)I"⟩
abbrev cX11_soonest : ByteArray := prog_1_method_16_code
def yX11_soonest : MethodName := ⟨RX11, "soonest", "(I)I"⟩
abbrev cX11_row : ByteArray := prog_1_method_17_code
def yX11_row : MethodName := ⟨RX11, "row", "(III)I"⟩
abbrev cX11_latest : ByteArray := prog_1_method_18_code
def yX11_latest : MethodName := ⟨RX11, "latest", "(I)I"⟩
abbrev cX11_lost : ByteArray := prog_1_method_19_code
def yX11_lost : MethodName := ⟨RX11, "lost", "()I"⟩
abbrev cX11_voice : ByteArray := prog_1_method_20_code
def yX11_voice : MethodName := ⟨RX11, "voice", "(I)I"⟩
abbrev cX11_voices : ByteArray := prog_1_method_21_code
def yX11_voices : MethodName := ⟨RX11, "voices", "()I"⟩
abbrev cX11_put : ByteArray := prog_1_method_22_code
def yX11_put : MethodName := ⟨RX11, "put", "(I)I"⟩
abbrev cX11_family : ByteArray := prog_1_method_23_code
def yX11_family : MethodName := ⟨RX11, "family", "(II)I"⟩
abbrev cX11_meet : ByteArray := prog_1_method_24_code
def yX11_meet : MethodName := ⟨RX11, "meet", "(III)I"⟩
abbrev cX11_seen : ByteArray := prog_1_method_25_code
def yX11_seen : MethodName := ⟨RX11, "seen", "(III)I"⟩
abbrev cX11_gotIn : ByteArray := prog_1_method_26_code
def yX11_gotIn : MethodName := ⟨RX11, "gotIn", "(I)I"⟩
abbrev cX11_sit : ByteArray := prog_1_method_27_code
def yX11_sit : MethodName := ⟨RX11, "sit", "(I)I"⟩
abbrev cX11_seed : ByteArray := prog_1_method_28_code
def yX11_seed : MethodName := ⟨RX11, "seed", "(I)I"⟩
abbrev cX11_journeys : ByteArray := prog_1_method_29_code
def yX11_journeys : MethodName := ⟨RX11, "journeys", "(II)I"⟩
abbrev cX11_count : ByteArray := prog_1_method_30_code
def yX11_count : MethodName := ⟨RX11, "count", "(I)I"⟩
abbrev cX11_image : ByteArray := prog_1_method_31_code
def yX11_image : MethodName := ⟨RX11, "image", "(I)I"⟩
abbrev cX11_back : ByteArray := prog_1_method_32_code
def yX11_back : MethodName := ⟨RX11, "back", "(I)I"⟩
abbrev cX11_canGoBy : ByteArray := prog_1_method_33_code
def yX11_canGoBy : MethodName := ⟨RX11, "canGoBy", "(I)Z"⟩
abbrev cX11_takeTurns : ByteArray := prog_1_method_34_code
def yX11_takeTurns : MethodName := ⟨RX11, "takeTurns", "(LFrontFour$Rule;)V"⟩
abbrev cX11_takeTurn : ByteArray := prog_1_method_35_code
def yX11_takeTurn : MethodName := ⟨RX11, "takeTurn", "(LFrontFour$Rule;I)V"⟩
abbrev cX11_holds : ByteArray := prog_1_method_36_code
def yX11_holds : MethodName := ⟨RX11, "holds", "(LFrontFour$Rule;II)Z"⟩
abbrev cX11_isDone : ByteArray := prog_1_method_37_code
def yX11_isDone : MethodName := ⟨RX11, "isDone", "(LFrontFour$Rule;II)Z"⟩
def RX12 : String := "FrontFourModel"
def TX12 : u_T := fun k => match k with
  | 0 => ("FrontFourModel", "tape", "[B", true)
  | 1 => ("FrontFourModel", "taped", "I", false)
  | 2 => ("FrontFourModel", "rules", "I", false)
  | 3 => ("FrontFourModel", "sign", "[I", true)
  | 4 => ("FrontFourModel", "length", "[I", true)
  | 5 => ("FrontFourModel", "clause", "[I", true)
  | 6 => ("FrontFourModel", "clauses", "[I", true)
  | 7 => ("FrontFourModel", "read", "[I", true)
  | 8 => ("FrontFourModel", "next", "I", false)
  | 9 => ("FrontFourModel", "wrong", "I", false)
  | 10 => ("FrontFourModel", "number", "I", false)
  | 11 => ("FrontFourModel", "text", "I", false)
  | 12 => ("FrontFourModel", "made", "I", false)
  | 13 => ("FrontFourModel", "deep", "I", false)
  | 14 => ("FrontFourModel", "lines", "I", false)
  | 15 => ("FrontFourModel", "open", "[I", true)
  | 16 => ("FrontFourModel", "opened", "I", false)
  | 17 => ("FrontFourModel", "stack", "[J", true)
  | 18 => ("FrontFourModel", "top", "I", false)
  | 19 => ("FrontFourModel", "word", "[J", true)
  | 20 => ("FrontFourModel", "said", "[I", true)
  | 21 => ("FrontFourModel", "x", "I", false)
  | 22 => ("FrontFourModel", "wasSaid", "[I", true)
  | 23 => ("FrontFourModel", "undone", "I", false)
  | 24 => ("FrontFourModel", "soon", "[I", true)
  | 25 => ("FrontFourModel", "isDone", "[Z", true)
  | 26 => ("FrontFourModel", "rowKind", "[I", true)
  | 27 => ("FrontFourModel", "rowTo", "[I", true)
  | 28 => ("FrontFourModel", "rowBegin", "[I", true)
  | 29 => ("FrontFourModel", "rowMany", "I", false)
  | 30 => ("FrontFourModel", "many", "[I", true)
  | 31 => ("FrontFourModel", "put", "[I", true)
  | 32 => ("FrontFourModel", "bestPut", "[I", true)
  | 33 => ("FrontFourModel", "wayBegin", "[I", true)
  | 34 => ("FrontFourModel", "wayEnd", "[I", true)
  | 35 => ("FrontFourModel", "drawX", "J", false)
  | 36 => ("FrontFourModel", "images", "[I", true)
  | 37 => ("FrontFourModel", "imageX", "[I", true)
  | _ => ("FrontFourModel", "isMade", "[Z", true)
def tyX12 : Nat → FieldType := fun k => match k with
  | 0 => .array .byte
  | 1 => .int
  | 2 => .int
  | 3 => .array .int
  | 4 => .array .int
  | 5 => .array .int
  | 6 => .array .int
  | 7 => .array .int
  | 8 => .int
  | 9 => .int
  | 10 => .int
  | 11 => .int
  | 12 => .int
  | 13 => .int
  | 14 => .int
  | 15 => .array .int
  | 16 => .int
  | 17 => .array .long
  | 18 => .int
  | 19 => .array .long
  | 20 => .array .int
  | 21 => .int
  | 22 => .array .int
  | 23 => .int
  | 24 => .array .int
  | 25 => .array .boolean
  | 26 => .array .int
  | 27 => .array .int
  | 28 => .array .int
  | 29 => .int
  | 30 => .array .int
  | 31 => .array .int
  | 32 => .array .int
  | 33 => .array .int
  | 34 => .array .int
  | 35 => .long
  | 36 => .array .int
  | 37 => .array .int
  | _ => .array .boolean
theorem nmX12 : ∀ a, a < 39 → ∀ b, b < 39 → a ≠ b → (TX12 a).2.1 ≠ (TX12 b).2.1 := by decide +kernel
theorem tyX12_ok : ∀ k, k < 39 → parseFieldDescriptor (TX12 k).2.2.1 = some (tyX12 k) := by decide +kernel
abbrev cX12_init : ByteArray := prog_14_method_1_code
def yX12_init : MethodName := ⟨RX12, "<init>", "()V"⟩
abbrev cX12_in : ByteArray := prog_14_method_2_code
def yX12_in : MethodName := ⟨RX12, "in", "(JJJ)Z"⟩
abbrev cX12_isOf : ByteArray := prog_14_method_3_code
def yX12_isOf : MethodName := ⟨RX12, "isOf", "(II)Z"⟩
abbrev cX12_four : ByteArray := prog_14_method_4_code
def yX12_four : MethodName := ⟨RX12, "four", "(I)V"⟩
abbrev cX12_feed : ByteArray := prog_14_method_5_code
def yX12_feed : MethodName := ⟨RX12, "feed", "(IIIII)I"⟩
abbrev cX12_end : ByteArray := prog_14_method_6_code
def yX12_end : MethodName := ⟨RX12, "end", "(I)I"⟩
abbrev cX12_fails : ByteArray := prog_14_method_7_code
def yX12_fails : MethodName := ⟨RX12, "fails", "(II)Z"⟩
abbrev cX12_see : ByteArray := prog_14_method_8_code
def yX12_see : MethodName := ⟨RX12, "see", "()I"⟩
abbrev cX12_isDigit : ByteArray := prog_14_method_9_code
def yX12_isDigit : MethodName := ⟨RX12, "isDigit", "(I)Z"⟩
abbrev cX12_isLetter : ByteArray := prog_14_method_10_code
def yX12_isLetter : MethodName := ⟨RX12, "isLetter", "(I)Z"⟩
abbrev cX12_isWord : ByteArray := prog_14_method_11_code
def yX12_isWord : MethodName := ⟨RX12, "isWord", "(J)Z"⟩
abbrev cX12_passWord : ByteArray := prog_14_method_12_code
def yX12_passWord : MethodName := ⟨RX12, "passWord", "()V"⟩
abbrev cX12_takesWord : ByteArray := prog_14_method_13_code
def yX12_takesWord : MethodName := ⟨RX12, "takesWord", "(J)Z"⟩
abbrev cX12_numberHere : ByteArray := prog_14_method_14_code
def yX12_numberHere : MethodName := ⟨RX12, "numberHere", "(II)Z"⟩
abbrev cX12_wordHere : ByteArray := prog_14_method_15_code
def yX12_wordHere : MethodName := ⟨RX12, "wordHere", "()I"⟩
abbrev cX12_puts : ByteArray := prog_14_method_16_code
def yX12_puts : MethodName := ⟨RX12, "puts", "(II)V"⟩
abbrev cX12_makes : ByteArray := prog_14_method_17_code
def yX12_makes : MethodName := ⟨RX12, "makes", "(I)Z"⟩
abbrev cX12_opens : ByteArray := prog_14_method_18_code
def yX12_opens : MethodName := ⟨RX12, "opens", "(I)Z"⟩
abbrev cX12_strength : ByteArray := prog_14_method_19_code
def yX12_strength : MethodName := ⟨RX12, "strength", "(I)I"⟩
abbrev cX12_settles : ByteArray := prog_14_method_20_code
def yX12_settles : MethodName := ⟨RX12, "settles", "(I)V"⟩
abbrev cX12_value : ByteArray := prog_14_method_21_code
def yX12_value : MethodName := ⟨RX12, "value", "()Z"⟩
abbrev cX12_term : ByteArray := prog_14_method_22_code
def yX12_term : MethodName := ⟨RX12, "term", "()Z"⟩
abbrev cX12_sum : ByteArray := prog_14_method_23_code
def yX12_sum : MethodName := ⟨RX12, "sum", "()Z"⟩
abbrev cX12_compare : ByteArray := prog_14_method_24_code
def yX12_compare : MethodName := ⟨RX12, "compare", "()Z"⟩
abbrev cX12_fact : ByteArray := prog_14_method_25_code
def yX12_fact : MethodName := ⟨RX12, "fact", "()Z"⟩
abbrev cX12_isInside : ByteArray := prog_14_method_26_code
def yX12_isInside : MethodName := ⟨RX12, "isInside", "()Z"⟩
abbrev cX12_closes : ByteArray := prog_14_method_27_code
def yX12_closes : MethodName := ⟨RX12, "closes", "()V"⟩
abbrev cX12_tested : ByteArray := prog_14_method_28_code
def yX12_tested : MethodName := ⟨RX12, "tested", "()Z"⟩
abbrev cX12_isDoingHere : ByteArray := prog_14_method_29_code
def yX12_isDoingHere : MethodName := ⟨RX12, "isDoingHere", "(I)Z"⟩
abbrev cX12_cellHere : ByteArray := prog_14_method_30_code
def yX12_cellHere : MethodName := ⟨RX12, "cellHere", "(III)Z"⟩
abbrev cX12_isTrainHere : ByteArray := prog_14_method_31_code
def yX12_isTrainHere : MethodName := ⟨RX12, "isTrainHere", "(I)Z"⟩
abbrev cX12_isDestHere : ByteArray := prog_14_method_32_code
def yX12_isDestHere : MethodName := ⟨RX12, "isDestHere", "(I)Z"⟩
abbrev cX12_isStopHere : ByteArray := prog_14_method_33_code
def yX12_isStopHere : MethodName := ⟨RX12, "isStopHere", "(I)Z"⟩
abbrev cX12_isOnceHere : ByteArray := prog_14_method_34_code
def yX12_isOnceHere : MethodName := ⟨RX12, "isOnceHere", "(IIII)Z"⟩
abbrev cX12_isShutHere : ByteArray := prog_14_method_35_code
def yX12_isShutHere : MethodName := ⟨RX12, "isShutHere", "()Z"⟩
abbrev cX12_isCellOfHere : ByteArray := prog_14_method_36_code
def yX12_isCellOfHere : MethodName := ⟨RX12, "isCellOfHere", "(IIIII)Z"⟩
abbrev cX12_isRiderHere : ByteArray := prog_14_method_37_code
def yX12_isRiderHere : MethodName := ⟨RX12, "isRiderHere", "(I)Z"⟩
abbrev cX12_lineLineHere : ByteArray := prog_14_method_38_code
def yX12_lineLineHere : MethodName := ⟨RX12, "lineLineHere", "(I)Z"⟩
abbrev cX12_isLineWord : ByteArray := prog_14_method_39_code
def yX12_isLineWord : MethodName := ⟨RX12, "isLineWord", "()Z"⟩
abbrev cX12_clauseHere : ByteArray := prog_14_method_40_code
def yX12_clauseHere : MethodName := ⟨RX12, "clauseHere", "()Z"⟩
abbrev cX12_readsAll : ByteArray := prog_14_method_41_code
def yX12_readsAll : MethodName := ⟨RX12, "readsAll", "()Z"⟩
abbrev cX12_rule : ByteArray := prog_14_method_42_code
def yX12_rule : MethodName := ⟨RX12, "rule", "()I"⟩
abbrev cX12_line : ByteArray := prog_14_method_43_code
def yX12_line : MethodName := ⟨RX12, "line", "()I"⟩
abbrev cX12_isRule : ByteArray := prog_14_method_44_code
def yX12_isRule : MethodName := ⟨RX12, "isRule", "(I)Z"⟩
abbrev cX12_push : ByteArray := prog_14_method_45_code
def yX12_push : MethodName := ⟨RX12, "push", "(J)V"⟩
abbrev cX12_pop : ByteArray := prog_14_method_46_code
def yX12_pop : MethodName := ⟨RX12, "pop", "()J"⟩
abbrev cX12_one : ByteArray := prog_14_method_47_code
def yX12_one : MethodName := ⟨RX12, "one", "(IJJ)J"⟩
abbrev cX12_reckons : ByteArray := prog_14_method_48_code
def yX12_reckons : MethodName := ⟨RX12, "reckons", "(III)J"⟩
abbrev cX12_isLine : ByteArray := prog_14_method_49_code
def yX12_isLine : MethodName := ⟨RX12, "isLine", "()Z"⟩
abbrev cX12_isCoach : ByteArray := prog_14_method_50_code
def yX12_isCoach : MethodName := ⟨RX12, "isCoach", "(I)Z"⟩
abbrev cX12_isWay : ByteArray := prog_14_method_51_code
def yX12_isWay : MethodName := ⟨RX12, "isWay", "(I)Z"⟩
abbrev cX12_isRider : ByteArray := prog_14_method_52_code
def yX12_isRider : MethodName := ⟨RX12, "isRider", "(I)Z"⟩
abbrev cX12_riderOf : ByteArray := prog_14_method_53_code
def yX12_riderOf : MethodName := ⟨RX12, "riderOf", "(II)I"⟩
abbrev cX12_isGoing : ByteArray := prog_14_method_54_code
def yX12_isGoing : MethodName := ⟨RX12, "isGoing", "(I)Z"⟩
abbrev cX12_parting : ByteArray := prog_14_method_55_code
def yX12_parting : MethodName := ⟨RX12, "parting", "()I"⟩
abbrev cX12_isRight : ByteArray := prog_14_method_56_code
def yX12_isRight : MethodName := ⟨RX12, "isRight", "(II)Z"⟩
abbrev cX12_ridersIn : ByteArray := prog_14_method_57_code
def yX12_ridersIn : MethodName := ⟨RX12, "ridersIn", "(I)I"⟩
abbrev cX12_bits : ByteArray := prog_14_method_58_code
def yX12_bits : MethodName := ⟨RX12, "bits", "(I)I"⟩
abbrev cX12_wayOf : ByteArray := prog_14_method_59_code
def yX12_wayOf : MethodName := ⟨RX12, "wayOf", "(II)I"⟩
abbrev cX12_goerIn : ByteArray := prog_14_method_60_code
def yX12_goerIn : MethodName := ⟨RX12, "goerIn", "(I)I"⟩
abbrev cX12_isInside_ : ByteArray := prog_14_method_61_code
def yX12_isInside_ : MethodName := ⟨RX12, "isInside", "(I)Z"⟩
abbrev cX12_coach : ByteArray := prog_14_method_62_code
def yX12_coach : MethodName := ⟨RX12, "coach", "(II)I"⟩
abbrev cX12_way : ByteArray := prog_14_method_63_code
def yX12_way : MethodName := ⟨RX12, "way", "(II)I"⟩
abbrev cX12_stop : ByteArray := prog_14_method_64_code
def yX12_stop : MethodName := ⟨RX12, "stop", "(II)I"⟩
abbrev cX12_rider : ByteArray := prog_14_method_65_code
def yX12_rider : MethodName := ⟨RX12, "rider", "(II)I"⟩
abbrev cX12_haltAt : ByteArray := prog_14_method_66_code
def yX12_haltAt : MethodName := ⟨RX12, "haltAt", "(I)I"⟩
abbrev cX12_timesOf : ByteArray := prog_14_method_67_code
def yX12_timesOf : MethodName := ⟨RX12, "timesOf", "(I)I"⟩
abbrev cX12_timeOf : ByteArray := prog_14_method_68_code
def yX12_timeOf : MethodName := ⟨RX12, "timeOf", "(IIIZ)I"⟩
abbrev cX12_mayInside : ByteArray := prog_14_method_69_code
def yX12_mayInside : MethodName := ⟨RX12, "mayInside", "(IIII)Z"⟩
abbrev cX12_mayOutside : ByteArray := prog_14_method_70_code
def yX12_mayOutside : MethodName := ⟨RX12, "mayOutside", "(IIII)Z"⟩
abbrev cX12_insideFrom : ByteArray := prog_14_method_71_code
def yX12_insideFrom : MethodName := ⟨RX12, "insideFrom", "(IIII)I"⟩
abbrev cX12_outsideFrom : ByteArray := prog_14_method_72_code
def yX12_outsideFrom : MethodName := ⟨RX12, "outsideFrom", "(IIII)I"⟩
abbrev cX12_keeps : ByteArray := prog_14_method_73_code
def yX12_keeps : MethodName := ⟨RX12, "keeps", "()V"⟩
abbrev cX12_undo : ByteArray := prog_14_method_74_code
def yX12_undo : MethodName := ⟨RX12, "undo", "()I"⟩
abbrev cX12_goes : ByteArray := prog_14_method_75_code
def yX12_goes : MethodName := ⟨RX12, "goes", "(IIZ)V"⟩
abbrev cX12_canInside : ByteArray := prog_14_method_76_code
def yX12_canInside : MethodName := ⟨RX12, "canInside", "(II)Z"⟩
abbrev cX12_inside : ByteArray := prog_14_method_77_code
def yX12_inside : MethodName := ⟨RX12, "inside", "(II)I"⟩
abbrev cX12_outside : ByteArray := prog_14_method_78_code
def yX12_outside : MethodName := ⟨RX12, "outside", "(II)I"⟩
abbrev cX12_secondComes : ByteArray := prog_14_method_79_code
def yX12_secondComes : MethodName := ⟨RX12, "secondComes", "()V"⟩
abbrev cX12_pass : ByteArray := prog_14_method_80_code
def yX12_pass : MethodName := ⟨RX12, "pass", "(I)I"⟩
abbrev cX12_shut : ByteArray := prog_14_method_81_code
def yX12_shut : MethodName := ⟨RX12, "shut", "(IZ)Z"⟩
abbrev cX12_nearest : ByteArray := prog_14_method_82_code
def yX12_nearest : MethodName := ⟨RX12, "nearest", "(I)I"⟩
abbrev cX12_words : ByteArray := prog_14_method_83_code
def yX12_words : MethodName := ⟨RX12, "words", "(I)V"⟩
abbrev cX12_doesBy : ByteArray := prog_14_method_84_code
def yX12_doesBy : MethodName := ⟨RX12, "doesBy", "(III)Z"⟩
abbrev cX12_asks : ByteArray := prog_14_method_85_code
def yX12_asks : MethodName := ⟨RX12, "asks", "(II)V"⟩
abbrev cX12_run : ByteArray := prog_14_method_86_code
def yX12_run : MethodName := ⟨RX12, "run", "(II)I"⟩
abbrev cX12_fillsSoon : ByteArray := prog_14_method_87_code
def yX12_fillsSoon : MethodName := ⟨RX12, "fillsSoon", "(III)V"⟩
abbrev cX12_nextSoon : ByteArray := prog_14_method_88_code
def yX12_nextSoon : MethodName := ⟨RX12, "nextSoon", "()I"⟩
abbrev cX12_comesAt : ByteArray := prog_14_method_89_code
def yX12_comesAt : MethodName := ⟨RX12, "comesAt", "(II)V"⟩
abbrev cX12_rightFrom : ByteArray := prog_14_method_90_code
def yX12_rightFrom : MethodName := ⟨RX12, "rightFrom", "(III)I"⟩
abbrev cX12_whereOf : ByteArray := prog_14_method_91_code
def yX12_whereOf : MethodName := ⟨RX12, "whereOf", "(I)I"⟩
abbrev cX12_beginOf : ByteArray := prog_14_method_92_code
def yX12_beginOf : MethodName := ⟨RX12, "beginOf", "(II)I"⟩
abbrev cX12_soonestOf : ByteArray := prog_14_method_93_code
def yX12_soonestOf : MethodName := ⟨RX12, "soonestOf", "(I)I"⟩
abbrev cX12_soonest : ByteArray := prog_14_method_94_code
def yX12_soonest : MethodName := ⟨RX12, "soonest", "(I)I"⟩
abbrev cX12_goesOn : ByteArray := prog_14_method_95_code
def yX12_goesOn : MethodName := ⟨RX12, "goesOn", "(IIIIZI)Z"⟩
abbrev cX12_steps : ByteArray := prog_14_method_96_code
def yX12_steps : MethodName := ⟨RX12, "steps", "(IIII)Z"⟩
abbrev cX12_fillsRow : ByteArray := prog_14_method_97_code
def yX12_fillsRow : MethodName := ⟨RX12, "fillsRow", "(I)Z"⟩
abbrev cX12_row : ByteArray := prog_14_method_98_code
def yX12_row : MethodName := ⟨RX12, "row", "(III)I"⟩
abbrev cX12_latestOf : ByteArray := prog_14_method_99_code
def yX12_latestOf : MethodName := ⟨RX12, "latestOf", "(I)I"⟩
abbrev cX12_latest : ByteArray := prog_14_method_100_code
def yX12_latest : MethodName := ⟨RX12, "latest", "(I)I"⟩
abbrev cX12_isLost : ByteArray := prog_14_method_101_code
def yX12_isLost : MethodName := ⟨RX12, "isLost", "(II)Z"⟩
abbrev cX12_lost : ByteArray := prog_14_method_102_code
def yX12_lost : MethodName := ⟨RX12, "lost", "()I"⟩
abbrev cX12_voiceIn : ByteArray := prog_14_method_103_code
def yX12_voiceIn : MethodName := ⟨RX12, "voiceIn", "(I)I"⟩
abbrev cX12_voice : ByteArray := prog_14_method_104_code
def yX12_voice : MethodName := ⟨RX12, "voice", "(I)I"⟩
abbrev cX12_voices : ByteArray := prog_14_method_105_code
def yX12_voices : MethodName := ⟨RX12, "voices", "()I"⟩
abbrev cX12_wrongAsPut : ByteArray := prog_14_method_106_code
def yX12_wrongAsPut : MethodName := ⟨RX12, "wrongAsPut", "()I"⟩
abbrev cX12_isOrder : ByteArray := prog_14_method_107_code
def yX12_isOrder : MethodName := ⟨RX12, "isOrder", "(I)Z"⟩
abbrev cX12_isFirstPut : ByteArray := prog_14_method_108_code
def yX12_isFirstPut : MethodName := ⟨RX12, "isFirstPut", "()Z"⟩
abbrev cX12_put : ByteArray := prog_14_method_109_code
def yX12_put : MethodName := ⟨RX12, "put", "(I)I"⟩
abbrev cX12_allIn : ByteArray := prog_14_method_110_code
def yX12_allIn : MethodName := ⟨RX12, "allIn", "(II)I"⟩
abbrev cX12_family : ByteArray := prog_14_method_111_code
def yX12_family : MethodName := ⟨RX12, "family", "(II)I"⟩
abbrev cX12_goesStraight : ByteArray := prog_14_method_112_code
def yX12_goesStraight : MethodName := ⟨RX12, "goesStraight", "(III)V"⟩
abbrev cX12_meet : ByteArray := prog_14_method_113_code
def yX12_meet : MethodName := ⟨RX12, "meet", "(III)I"⟩
abbrev cX12_seen : ByteArray := prog_14_method_114_code
def yX12_seen : MethodName := ⟨RX12, "seen", "(III)I"⟩
abbrev cX12_secondOf : ByteArray := prog_14_method_115_code
def yX12_secondOf : MethodName := ⟨RX12, "secondOf", "(I)I"⟩
abbrev cX12_nextSeen : ByteArray := prog_14_method_116_code
def yX12_nextSeen : MethodName := ⟨RX12, "nextSeen", "(II)I"⟩
abbrev cX12_canHaveBeen : ByteArray := prog_14_method_117_code
def yX12_canHaveBeen : MethodName := ⟨RX12, "canHaveBeen", "(II)Z"⟩
abbrev cX12_gotIn : ByteArray := prog_14_method_118_code
def yX12_gotIn : MethodName := ⟨RX12, "gotIn", "(I)I"⟩
abbrev cX12_sit : ByteArray := prog_14_method_119_code
def yX12_sit : MethodName := ⟨RX12, "sit", "(I)I"⟩
abbrev cX12_seed : ByteArray := prog_14_method_120_code
def yX12_seed : MethodName := ⟨RX12, "seed", "(I)I"⟩
abbrev cX12_draw : ByteArray := prog_14_method_121_code
def yX12_draw : MethodName := ⟨RX12, "draw", "(I)I"⟩
abbrev cX12_journeys : ByteArray := prog_14_method_122_code
def yX12_journeys : MethodName := ⟨RX12, "journeys", "(II)I"⟩
abbrev cX12_count : ByteArray := prog_14_method_123_code
def yX12_count : MethodName := ⟨RX12, "count", "(I)I"⟩
abbrev cX12_image : ByteArray := prog_14_method_124_code
def yX12_image : MethodName := ⟨RX12, "image", "(I)I"⟩
abbrev cX12_back : ByteArray := prog_14_method_125_code
def yX12_back : MethodName := ⟨RX12, "back", "(I)I"⟩
def RJ6 : String := "java/lang/Integer"
abbrev cJ6_bitCount_0f7a4 : ByteArray := prog_16_method_49_code
def yJ6_bitCount_0f7a4 : MethodName := ⟨RJ6, "bitCount", "(I)I"⟩
def RJ9 : String := "java/lang/Math"
abbrev cJ9_abs_0f7a4 : ByteArray := prog_17_method_59_code
def yJ9_abs_0f7a4 : MethodName := ⟨RJ9, "abs", "(I)I"⟩
abbrev cJ9_max_7cf53 : ByteArray := prog_17_method_65_code
def yJ9_max_7cf53 : MethodName := ⟨RJ9, "max", "(II)I"⟩
abbrev cJ9_min_7cf53 : ByteArray := prog_17_method_69_code
def yJ9_min_7cf53 : MethodName := ⟨RJ9, "min", "(II)I"⟩
def RJ0 : String := "java/lang/String"
abbrev cJ0_length_8abf5 : ByteArray := prog_18_method_54_code
def yJ0_length_8abf5 : MethodName := ⟨RJ0, "length", "()I"⟩
abbrev cJ0_charAt_5068e : ByteArray := prog_18_method_56_code
def yJ0_charAt_5068e : MethodName := ⟨RJ0, "charAt", "(I)C"⟩
abbrev cJ0_coder_7d493 : ByteArray := prog_18_method_152_code
def yJ0_coder_7d493 : MethodName := ⟨RJ0, "coder", "()B"⟩
abbrev cJ0_isLatin1_aae02 : ByteArray := prog_18_method_154_code
def yJ0_isLatin1_aae02 : MethodName := ⟨RJ0, "isLatin1", "()Z"⟩
abbrev cJ0_checkIndex_df160 : ByteArray := prog_18_method_155_code
def yJ0_checkIndex_df160 : MethodName := ⟨RJ0, "checkIndex", "(II)V"⟩
def RJ1 : String := "java/lang/StringLatin1"
abbrev cJ1_charAt_3b067 : ByteArray := prog_19_method_2_code
def yJ1_charAt_3b067 : MethodName := ⟨RJ1, "charAt", "([BI)C"⟩
def RJ2 : String := "java/lang/StringUTF16"
abbrev cJ2_getChar_3b067 : ByteArray := prog_20_method_5_code
def yJ2_getChar_3b067 : MethodName := ⟨RJ2, "getChar", "([BI)C"⟩
abbrev cJ2_length_9d52b : ByteArray := prog_20_method_6_code
def yJ2_length_9d52b : MethodName := ⟨RJ2, "length", "([B)I"⟩
abbrev cJ2_charAt_3b067 : ByteArray := prog_20_method_83_code
def yJ2_charAt_3b067 : MethodName := ⟨RJ2, "charAt", "([BI)C"⟩
abbrev cJ2_checkIndex_2214a : ByteArray := prog_20_method_91_code
def yJ2_checkIndex_2214a : MethodName := ⟨RJ2, "checkIndex", "(I[B)V"⟩
def RJ10 : String := "java/lang/System"
def RJ7 : String := "java/util/Arrays"
abbrev cJ7_fill_53178 : ByteArray := prog_22_method_103_code
def yJ7_fill_53178 : MethodName := ⟨RJ7, "fill", "([II)V"⟩
abbrev cJ7_copyOf_59c91 : ByteArray := prog_22_method_123_code
def yJ7_copyOf_59c91 : MethodName := ⟨RJ7, "copyOf", "([II)[I"⟩
def RJ3 : String := "jdk/internal/util/Preconditions"
abbrev cJ3_checkIndex_8e157 : ByteArray := prog_23_method_11_code
def yJ3_checkIndex_8e157 : MethodName := ⟨RJ3, "checkIndex", "(IILjava/util/function/BiFunction;)I"⟩
def RL : String := "FrontFourLaw"
abbrev cL_law : ByteArray := code
abbrev vwCl : List vw_C := [(RX0, TX0, 3), (RX1, TX1, 3), (RX2, TX2, 7), (RX3, TX3, 3), (RX4, TX4, 4), (RX5, TX5, 8), (RX6, TX6, 14), (RX7, TX7, 4), (RX8, TX8, 8), (RX9, TX9, 17), (RX10, TX10, 4), (RX11, TX11, 12), (RX12, TX12, 39)]
/-- the words of the tables that may be handed to a callee -/
def TG : List Cond := lw_tbl.filter goodWord
theorem tg_i {w : Cond} (i : Nat) (h : lw_tbl[i]? = some w) (hg : goodWord w = true) : w ∈ TG := List.mem_filter.mpr ⟨List.mem_of_getElem? h, hg⟩
theorem tg_good : ∀ w ∈ TG, w ∈ lw_tbl ∧ ((w.onTables && w.keeps) = true ∨ ∃ ty, w = .arrayClass ty) := fun w h => ⟨(List.mem_filter.mp h).1, good_of_word (List.mem_filter.mp h).2⟩
theorem tg_ps {ws : List Cond} (ps : List Nat) (hp : ws = ps.filterMap (fun i => lw_tbl[i]?)) (hg : ws.all goodWord = true) : ∀ w ∈ ws, w ∈ TG := by
  intro w hw
  have h1 := List.all_eq_true.mp hg w hw
  rw [hp] at hw
  obtain ⟨i, -, hi⟩ := List.mem_filterMap.mp hw
  exact tg_i i hi h1
theorem uw0 : ∀ w ∈ u_ws RX0 TX0 3, w ∈ TG := tg_ps [435, 437, 439] (by decide +kernel) (by decide +kernel)
theorem uw1 : ∀ w ∈ u_ws RX1 TX1 3, w ∈ TG := tg_ps [454, 456, 458] (by decide +kernel) (by decide +kernel)
theorem uw2 : ∀ w ∈ u_ws RX2 TX2 7, w ∈ TG := tg_ps [343, 345, 347, 349, 351, 353, 355] (by decide +kernel) (by decide +kernel)
theorem uw3 : ∀ w ∈ u_ws RX3 TX3 3, w ∈ TG := tg_ps [507, 509, 511] (by decide +kernel) (by decide +kernel)
theorem uw4 : ∀ w ∈ u_ws RX4 TX4 4, w ∈ TG := tg_ps [860, 862, 864, 866] (by decide +kernel) (by decide +kernel)
theorem uw5 : ∀ w ∈ u_ws RX5 TX5 8, w ∈ TG := tg_ps [481, 483, 485, 487, 489, 491, 493, 495] (by decide +kernel) (by decide +kernel)
theorem uw6 : ∀ w ∈ u_ws RX6 TX6 14, w ∈ TG := tg_ps [542, 544, 546, 548, 550, 552, 554, 556, 558, 560, 562, 564, 566, 568] (by decide +kernel) (by decide +kernel)
theorem uw7 : ∀ w ∈ u_ws RX7 TX7 4, w ∈ TG := tg_ps [373, 375, 377, 379] (by decide +kernel) (by decide +kernel)
theorem uw8 : ∀ w ∈ u_ws RX8 TX8 8, w ∈ TG := tg_ps [177, 179, 181, 183, 185, 187, 189, 191] (by decide +kernel) (by decide +kernel)
theorem uw9 : ∀ w ∈ u_ws RX9 TX9 17, w ∈ TG := tg_ps [277, 279, 281, 283, 285, 287, 289, 291, 293, 295, 297, 299, 301, 303, 305, 307, 309] (by decide +kernel) (by decide +kernel)
theorem uw10 : ∀ w ∈ u_ws RX10 TX10 4, w ∈ TG := tg_ps [412, 414, 416, 418] (by decide +kernel) (by decide +kernel)
theorem uw11 : ∀ w ∈ u_ws RX11 TX11 12, w ∈ TG := tg_ps [583, 585, 587, 589, 591, 593, 595, 597, 599, 601, 603, 605] (by decide +kernel) (by decide +kernel)
theorem uw12 : ∀ w ∈ u_ws RX12 TX12 39, w ∈ TG := tg_ps [1341, 1343, 1345, 1347, 1349, 1351, 1353, 1355, 1357, 1359, 1361, 1363, 1365, 1367, 1369, 1371, 1373, 1375, 1377, 1379, 1381, 1383, 1385, 1387, 1389, 1391, 1393, 1395, 1397, 1399, 1401, 1403, 1405, 1407, 1409, 1411, 1413, 1415, 1417] (by decide +kernel) (by decide +kernel)
