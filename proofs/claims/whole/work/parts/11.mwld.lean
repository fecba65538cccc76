def M_g0 (a : Nat → Nat) (M : Sg) : List Value := [.ref (a 1), .int (M.1 1), .int (M.1 2), .ref (a 4), .ref (a 5), .ref (a 6), .ref (a 7), .ref (a 8), .int (M.1 8), .int (M.1 9), .int (M.1 10), .int (M.1 11), .int (M.1 12), .int (M.1 13), .int (M.1 14), .ref (a 16), .int (M.1 16), .ref (a 18), .int (M.1 18), .ref (a 20), .ref (a 21), .int (M.1 21), .ref (a 23), .int (M.1 23), .ref (a 25), .ref (a 26), .ref (a 27), .ref (a 28), .ref (a 29), .int (M.1 29), .ref (a 31), .ref (a 32), .ref (a 33), .ref (a 34), .ref (a 35), .long (M.2.2 35 0), .ref (a 37), .ref (a 38), .ref (a 39)]
def mw (cy : Nat → ClassId) (a : Nat → Nat) (M : Sg) : va_W := [((a 0), .inr (12, M_g0 a M)), ((a 1), .inl (cy 0, 400, .inl (M.2.1 0))), ((a 4), .inl (cy 1, 2400, .inl (M.2.1 3))), ((a 5), .inl (cy 1, 7, .inl (M.2.1 4))), ((a 6), .inl (cy 1, 360, .inl (M.2.1 5))), ((a 7), .inl (cy 1, 6, .inl (M.2.1 6))), ((a 8), .inl (cy 1, 100, .inl (M.2.1 7))), ((a 16), .inl (cy 1, 400, .inl (M.2.1 15))), ((a 18), .inl (cy 2, 64, .inr (.inl (M.2.2 17)))), ((a 20), .inl (cy 2, 13, .inr (.inl (M.2.2 19)))), ((a 21), .inl (cy 1, 137, .inl (M.2.1 20))), ((a 23), .inl (cy 1, 2000, .inl (M.2.1 22))), ((a 25), .inl (cy 1, 8, .inl (M.2.1 24))), ((a 26), .inl (cy 3, 8, .inl (M.2.1 25))), ((a 27), .inl (cy 1, 1000, .inl (M.2.1 26))), ((a 28), .inl (cy 1, 1000, .inl (M.2.1 27))), ((a 29), .inl (cy 1, 1000, .inl (M.2.1 28))), ((a 31), .inl (cy 1, 4, .inl (M.2.1 30))), ((a 32), .inl (cy 1, 8, .inl (M.2.1 31))), ((a 33), .inl (cy 1, 8, .inl (M.2.1 32))), ((a 34), .inl (cy 1, 14, .inl (M.2.1 33))), ((a 35), .inl (cy 1, 14, .inl (M.2.1 34))), ((a 37), .inl (cy 1, 548, .inl (M.2.1 36))), ((a 38), .inl (cy 1, 4, .inl (M.2.1 37))), ((a 39), .inl (cy 3, 4, .inl (M.2.1 38)))]
theorem M_c0 {cy : Nat → ClassId} {a : Nat → Nat} {M : Sg} : (mw cy a M)[0]? = some ((a 0), .inr (12, M_g0 a M)) := rfl
theorem M_f0_0 {a : Nat → Nat} {M : Sg} : (M_g0 a M)[0]? = some (.ref (a 1)) := rfl
theorem M_f0_1 {a : Nat → Nat} {M : Sg} : (M_g0 a M)[1]? = some (.int (M.1 1)) := rfl
theorem M_p0_1 {cy : Nat → ClassId} {a : Nat → Nat} {M : Sg} {v : Int32} : (mw cy a M).set 0 ((a 0), .inr (12, (M_g0 a M).set 1 (.int v))) = (mw cy a (sI M 1 v)) := rfl
theorem M_f0_2 {a : Nat → Nat} {M : Sg} : (M_g0 a M)[2]? = some (.int (M.1 2)) := rfl
theorem M_p0_2 {cy : Nat → ClassId} {a : Nat → Nat} {M : Sg} {v : Int32} : (mw cy a M).set 0 ((a 0), .inr (12, (M_g0 a M).set 2 (.int v))) = (mw cy a (sI M 2 v)) := rfl
theorem M_f0_3 {a : Nat → Nat} {M : Sg} : (M_g0 a M)[3]? = some (.ref (a 4)) := rfl
theorem M_f0_4 {a : Nat → Nat} {M : Sg} : (M_g0 a M)[4]? = some (.ref (a 5)) := rfl
theorem M_f0_5 {a : Nat → Nat} {M : Sg} : (M_g0 a M)[5]? = some (.ref (a 6)) := rfl
theorem M_f0_6 {a : Nat → Nat} {M : Sg} : (M_g0 a M)[6]? = some (.ref (a 7)) := rfl
theorem M_f0_7 {a : Nat → Nat} {M : Sg} : (M_g0 a M)[7]? = some (.ref (a 8)) := rfl
theorem M_f0_8 {a : Nat → Nat} {M : Sg} : (M_g0 a M)[8]? = some (.int (M.1 8)) := rfl
theorem M_p0_8 {cy : Nat → ClassId} {a : Nat → Nat} {M : Sg} {v : Int32} : (mw cy a M).set 0 ((a 0), .inr (12, (M_g0 a M).set 8 (.int v))) = (mw cy a (sI M 8 v)) := rfl
theorem M_f0_9 {a : Nat → Nat} {M : Sg} : (M_g0 a M)[9]? = some (.int (M.1 9)) := rfl
theorem M_p0_9 {cy : Nat → ClassId} {a : Nat → Nat} {M : Sg} {v : Int32} : (mw cy a M).set 0 ((a 0), .inr (12, (M_g0 a M).set 9 (.int v))) = (mw cy a (sI M 9 v)) := rfl
theorem M_f0_10 {a : Nat → Nat} {M : Sg} : (M_g0 a M)[10]? = some (.int (M.1 10)) := rfl
theorem M_p0_10 {cy : Nat → ClassId} {a : Nat → Nat} {M : Sg} {v : Int32} : (mw cy a M).set 0 ((a 0), .inr (12, (M_g0 a M).set 10 (.int v))) = (mw cy a (sI M 10 v)) := rfl
theorem M_f0_11 {a : Nat → Nat} {M : Sg} : (M_g0 a M)[11]? = some (.int (M.1 11)) := rfl
theorem M_p0_11 {cy : Nat → ClassId} {a : Nat → Nat} {M : Sg} {v : Int32} : (mw cy a M).set 0 ((a 0), .inr (12, (M_g0 a M).set 11 (.int v))) = (mw cy a (sI M 11 v)) := rfl
theorem M_f0_12 {a : Nat → Nat} {M : Sg} : (M_g0 a M)[12]? = some (.int (M.1 12)) := rfl
theorem M_p0_12 {cy : Nat → ClassId} {a : Nat → Nat} {M : Sg} {v : Int32} : (mw cy a M).set 0 ((a 0), .inr (12, (M_g0 a M).set 12 (.int v))) = (mw cy a (sI M 12 v)) := rfl
theorem M_f0_13 {a : Nat → Nat} {M : Sg} : (M_g0 a M)[13]? = some (.int (M.1 13)) := rfl
theorem M_p0_13 {cy : Nat → ClassId} {a : Nat → Nat} {M : Sg} {v : Int32} : (mw cy a M).set 0 ((a 0), .inr (12, (M_g0 a M).set 13 (.int v))) = (mw cy a (sI M 13 v)) := rfl
theorem M_f0_14 {a : Nat → Nat} {M : Sg} : (M_g0 a M)[14]? = some (.int (M.1 14)) := rfl
theorem M_p0_14 {cy : Nat → ClassId} {a : Nat → Nat} {M : Sg} {v : Int32} : (mw cy a M).set 0 ((a 0), .inr (12, (M_g0 a M).set 14 (.int v))) = (mw cy a (sI M 14 v)) := rfl
theorem M_f0_15 {a : Nat → Nat} {M : Sg} : (M_g0 a M)[15]? = some (.ref (a 16)) := rfl
theorem M_f0_16 {a : Nat → Nat} {M : Sg} : (M_g0 a M)[16]? = some (.int (M.1 16)) := rfl
theorem M_p0_16 {cy : Nat → ClassId} {a : Nat → Nat} {M : Sg} {v : Int32} : (mw cy a M).set 0 ((a 0), .inr (12, (M_g0 a M).set 16 (.int v))) = (mw cy a (sI M 16 v)) := rfl
theorem M_f0_17 {a : Nat → Nat} {M : Sg} : (M_g0 a M)[17]? = some (.ref (a 18)) := rfl
theorem M_f0_18 {a : Nat → Nat} {M : Sg} : (M_g0 a M)[18]? = some (.int (M.1 18)) := rfl
theorem M_p0_18 {cy : Nat → ClassId} {a : Nat → Nat} {M : Sg} {v : Int32} : (mw cy a M).set 0 ((a 0), .inr (12, (M_g0 a M).set 18 (.int v))) = (mw cy a (sI M 18 v)) := rfl
theorem M_f0_19 {a : Nat → Nat} {M : Sg} : (M_g0 a M)[19]? = some (.ref (a 20)) := rfl
theorem M_f0_20 {a : Nat → Nat} {M : Sg} : (M_g0 a M)[20]? = some (.ref (a 21)) := rfl
theorem M_f0_21 {a : Nat → Nat} {M : Sg} : (M_g0 a M)[21]? = some (.int (M.1 21)) := rfl
theorem M_p0_21 {cy : Nat → ClassId} {a : Nat → Nat} {M : Sg} {v : Int32} : (mw cy a M).set 0 ((a 0), .inr (12, (M_g0 a M).set 21 (.int v))) = (mw cy a (sI M 21 v)) := rfl
theorem M_f0_22 {a : Nat → Nat} {M : Sg} : (M_g0 a M)[22]? = some (.ref (a 23)) := rfl
theorem M_f0_23 {a : Nat → Nat} {M : Sg} : (M_g0 a M)[23]? = some (.int (M.1 23)) := rfl
theorem M_p0_23 {cy : Nat → ClassId} {a : Nat → Nat} {M : Sg} {v : Int32} : (mw cy a M).set 0 ((a 0), .inr (12, (M_g0 a M).set 23 (.int v))) = (mw cy a (sI M 23 v)) := rfl
theorem M_f0_24 {a : Nat → Nat} {M : Sg} : (M_g0 a M)[24]? = some (.ref (a 25)) := rfl
theorem M_f0_25 {a : Nat → Nat} {M : Sg} : (M_g0 a M)[25]? = some (.ref (a 26)) := rfl
theorem M_f0_26 {a : Nat → Nat} {M : Sg} : (M_g0 a M)[26]? = some (.ref (a 27)) := rfl
theorem M_f0_27 {a : Nat → Nat} {M : Sg} : (M_g0 a M)[27]? = some (.ref (a 28)) := rfl
theorem M_f0_28 {a : Nat → Nat} {M : Sg} : (M_g0 a M)[28]? = some (.ref (a 29)) := rfl
theorem M_f0_29 {a : Nat → Nat} {M : Sg} : (M_g0 a M)[29]? = some (.int (M.1 29)) := rfl
theorem M_p0_29 {cy : Nat → ClassId} {a : Nat → Nat} {M : Sg} {v : Int32} : (mw cy a M).set 0 ((a 0), .inr (12, (M_g0 a M).set 29 (.int v))) = (mw cy a (sI M 29 v)) := rfl
theorem M_f0_30 {a : Nat → Nat} {M : Sg} : (M_g0 a M)[30]? = some (.ref (a 31)) := rfl
theorem M_f0_31 {a : Nat → Nat} {M : Sg} : (M_g0 a M)[31]? = some (.ref (a 32)) := rfl
theorem M_f0_32 {a : Nat → Nat} {M : Sg} : (M_g0 a M)[32]? = some (.ref (a 33)) := rfl
theorem M_f0_33 {a : Nat → Nat} {M : Sg} : (M_g0 a M)[33]? = some (.ref (a 34)) := rfl
theorem M_f0_34 {a : Nat → Nat} {M : Sg} : (M_g0 a M)[34]? = some (.ref (a 35)) := rfl
theorem M_f0_35 {a : Nat → Nat} {M : Sg} : (M_g0 a M)[35]? = some (.long (M.2.2 35 0)) := rfl
theorem M_p0_35 {cy : Nat → ClassId} {a : Nat → Nat} {M : Sg} {v : Int64} : (mw cy a M).set 0 ((a 0), .inr (12, (M_g0 a M).set 35 (.long v))) = (mw cy a (sJ M 35 0 v)) := rfl
theorem M_f0_36 {a : Nat → Nat} {M : Sg} : (M_g0 a M)[36]? = some (.ref (a 37)) := rfl
theorem M_f0_37 {a : Nat → Nat} {M : Sg} : (M_g0 a M)[37]? = some (.ref (a 38)) := rfl
theorem M_f0_38 {a : Nat → Nat} {M : Sg} : (M_g0 a M)[38]? = some (.ref (a 39)) := rfl
theorem M_n0 {a : Nat → Nat} {M : Sg} : (M_g0 a M).length = 39 := rfl
theorem M_c1 {cy : Nat → ClassId} {a : Nat → Nat} {M : Sg} : (mw cy a M)[1]? = some ((a 1), .inl (cy 0, 400, .inl (M.2.1 0))) := rfl
theorem M_s1 {cy : Nat → ClassId} {a : Nat → Nat} {M : Sg} {i : Nat} {x : Int32} : (mw cy a M).set 1 ((a 1), .inl (cy 0, 400, .inl (upd (M.2.1 0) i x))) = (mw cy a (sA M 0 i x)) := rfl
theorem M_c2 {cy : Nat → ClassId} {a : Nat → Nat} {M : Sg} : (mw cy a M)[2]? = some ((a 4), .inl (cy 1, 2400, .inl (M.2.1 3))) := rfl
theorem M_s2 {cy : Nat → ClassId} {a : Nat → Nat} {M : Sg} {i : Nat} {x : Int32} : (mw cy a M).set 2 ((a 4), .inl (cy 1, 2400, .inl (upd (M.2.1 3) i x))) = (mw cy a (sA M 3 i x)) := rfl
theorem M_r2 {cy : Nat → ClassId} {a : Nat → Nat} {M : Sg} {g : Nat → Int32} : (mw cy a M).set 2 ((a 4), .inl (cy 1, 2400, .inl g)) = (mw cy a (sF M 3 g)) := rfl
theorem M_c3 {cy : Nat → ClassId} {a : Nat → Nat} {M : Sg} : (mw cy a M)[3]? = some ((a 5), .inl (cy 1, 7, .inl (M.2.1 4))) := rfl
theorem M_s3 {cy : Nat → ClassId} {a : Nat → Nat} {M : Sg} {i : Nat} {x : Int32} : (mw cy a M).set 3 ((a 5), .inl (cy 1, 7, .inl (upd (M.2.1 4) i x))) = (mw cy a (sA M 4 i x)) := rfl
theorem M_r3 {cy : Nat → ClassId} {a : Nat → Nat} {M : Sg} {g : Nat → Int32} : (mw cy a M).set 3 ((a 5), .inl (cy 1, 7, .inl g)) = (mw cy a (sF M 4 g)) := rfl
theorem M_c4 {cy : Nat → ClassId} {a : Nat → Nat} {M : Sg} : (mw cy a M)[4]? = some ((a 6), .inl (cy 1, 360, .inl (M.2.1 5))) := rfl
theorem M_s4 {cy : Nat → ClassId} {a : Nat → Nat} {M : Sg} {i : Nat} {x : Int32} : (mw cy a M).set 4 ((a 6), .inl (cy 1, 360, .inl (upd (M.2.1 5) i x))) = (mw cy a (sA M 5 i x)) := rfl
theorem M_r4 {cy : Nat → ClassId} {a : Nat → Nat} {M : Sg} {g : Nat → Int32} : (mw cy a M).set 4 ((a 6), .inl (cy 1, 360, .inl g)) = (mw cy a (sF M 5 g)) := rfl
theorem M_c5 {cy : Nat → ClassId} {a : Nat → Nat} {M : Sg} : (mw cy a M)[5]? = some ((a 7), .inl (cy 1, 6, .inl (M.2.1 6))) := rfl
theorem M_s5 {cy : Nat → ClassId} {a : Nat → Nat} {M : Sg} {i : Nat} {x : Int32} : (mw cy a M).set 5 ((a 7), .inl (cy 1, 6, .inl (upd (M.2.1 6) i x))) = (mw cy a (sA M 6 i x)) := rfl
theorem M_r5 {cy : Nat → ClassId} {a : Nat → Nat} {M : Sg} {g : Nat → Int32} : (mw cy a M).set 5 ((a 7), .inl (cy 1, 6, .inl g)) = (mw cy a (sF M 6 g)) := rfl
theorem M_c6 {cy : Nat → ClassId} {a : Nat → Nat} {M : Sg} : (mw cy a M)[6]? = some ((a 8), .inl (cy 1, 100, .inl (M.2.1 7))) := rfl
theorem M_s6 {cy : Nat → ClassId} {a : Nat → Nat} {M : Sg} {i : Nat} {x : Int32} : (mw cy a M).set 6 ((a 8), .inl (cy 1, 100, .inl (upd (M.2.1 7) i x))) = (mw cy a (sA M 7 i x)) := rfl
theorem M_r6 {cy : Nat → ClassId} {a : Nat → Nat} {M : Sg} {g : Nat → Int32} : (mw cy a M).set 6 ((a 8), .inl (cy 1, 100, .inl g)) = (mw cy a (sF M 7 g)) := rfl
theorem M_c7 {cy : Nat → ClassId} {a : Nat → Nat} {M : Sg} : (mw cy a M)[7]? = some ((a 16), .inl (cy 1, 400, .inl (M.2.1 15))) := rfl
theorem M_s7 {cy : Nat → ClassId} {a : Nat → Nat} {M : Sg} {i : Nat} {x : Int32} : (mw cy a M).set 7 ((a 16), .inl (cy 1, 400, .inl (upd (M.2.1 15) i x))) = (mw cy a (sA M 15 i x)) := rfl
theorem M_r7 {cy : Nat → ClassId} {a : Nat → Nat} {M : Sg} {g : Nat → Int32} : (mw cy a M).set 7 ((a 16), .inl (cy 1, 400, .inl g)) = (mw cy a (sF M 15 g)) := rfl
theorem M_c8 {cy : Nat → ClassId} {a : Nat → Nat} {M : Sg} : (mw cy a M)[8]? = some ((a 18), .inl (cy 2, 64, .inr (.inl (M.2.2 17)))) := rfl
theorem M_s8 {cy : Nat → ClassId} {a : Nat → Nat} {M : Sg} {i : Nat} {x : Int64} : (mw cy a M).set 8 ((a 18), .inl (cy 2, 64, .inr (.inl (vp_updL (M.2.2 17) i x)))) = (mw cy a (sJ M 17 i x)) := rfl
theorem M_c9 {cy : Nat → ClassId} {a : Nat → Nat} {M : Sg} : (mw cy a M)[9]? = some ((a 20), .inl (cy 2, 13, .inr (.inl (M.2.2 19)))) := rfl
theorem M_s9 {cy : Nat → ClassId} {a : Nat → Nat} {M : Sg} {i : Nat} {x : Int64} : (mw cy a M).set 9 ((a 20), .inl (cy 2, 13, .inr (.inl (vp_updL (M.2.2 19) i x)))) = (mw cy a (sJ M 19 i x)) := rfl
theorem M_c10 {cy : Nat → ClassId} {a : Nat → Nat} {M : Sg} : (mw cy a M)[10]? = some ((a 21), .inl (cy 1, 137, .inl (M.2.1 20))) := rfl
theorem M_s10 {cy : Nat → ClassId} {a : Nat → Nat} {M : Sg} {i : Nat} {x : Int32} : (mw cy a M).set 10 ((a 21), .inl (cy 1, 137, .inl (upd (M.2.1 20) i x))) = (mw cy a (sA M 20 i x)) := rfl
theorem M_r10 {cy : Nat → ClassId} {a : Nat → Nat} {M : Sg} {g : Nat → Int32} : (mw cy a M).set 10 ((a 21), .inl (cy 1, 137, .inl g)) = (mw cy a (sF M 20 g)) := rfl
theorem M_c11 {cy : Nat → ClassId} {a : Nat → Nat} {M : Sg} : (mw cy a M)[11]? = some ((a 23), .inl (cy 1, 2000, .inl (M.2.1 22))) := rfl
theorem M_s11 {cy : Nat → ClassId} {a : Nat → Nat} {M : Sg} {i : Nat} {x : Int32} : (mw cy a M).set 11 ((a 23), .inl (cy 1, 2000, .inl (upd (M.2.1 22) i x))) = (mw cy a (sA M 22 i x)) := rfl
theorem M_r11 {cy : Nat → ClassId} {a : Nat → Nat} {M : Sg} {g : Nat → Int32} : (mw cy a M).set 11 ((a 23), .inl (cy 1, 2000, .inl g)) = (mw cy a (sF M 22 g)) := rfl
theorem M_c12 {cy : Nat → ClassId} {a : Nat → Nat} {M : Sg} : (mw cy a M)[12]? = some ((a 25), .inl (cy 1, 8, .inl (M.2.1 24))) := rfl
theorem M_s12 {cy : Nat → ClassId} {a : Nat → Nat} {M : Sg} {i : Nat} {x : Int32} : (mw cy a M).set 12 ((a 25), .inl (cy 1, 8, .inl (upd (M.2.1 24) i x))) = (mw cy a (sA M 24 i x)) := rfl
theorem M_r12 {cy : Nat → ClassId} {a : Nat → Nat} {M : Sg} {g : Nat → Int32} : (mw cy a M).set 12 ((a 25), .inl (cy 1, 8, .inl g)) = (mw cy a (sF M 24 g)) := rfl
theorem M_c13 {cy : Nat → ClassId} {a : Nat → Nat} {M : Sg} : (mw cy a M)[13]? = some ((a 26), .inl (cy 3, 8, .inl (M.2.1 25))) := rfl
theorem M_s13 {cy : Nat → ClassId} {a : Nat → Nat} {M : Sg} {i : Nat} {x : Int32} : (mw cy a M).set 13 ((a 26), .inl (cy 3, 8, .inl (upd (M.2.1 25) i x))) = (mw cy a (sA M 25 i x)) := rfl
theorem M_c14 {cy : Nat → ClassId} {a : Nat → Nat} {M : Sg} : (mw cy a M)[14]? = some ((a 27), .inl (cy 1, 1000, .inl (M.2.1 26))) := rfl
theorem M_s14 {cy : Nat → ClassId} {a : Nat → Nat} {M : Sg} {i : Nat} {x : Int32} : (mw cy a M).set 14 ((a 27), .inl (cy 1, 1000, .inl (upd (M.2.1 26) i x))) = (mw cy a (sA M 26 i x)) := rfl
theorem M_r14 {cy : Nat → ClassId} {a : Nat → Nat} {M : Sg} {g : Nat → Int32} : (mw cy a M).set 14 ((a 27), .inl (cy 1, 1000, .inl g)) = (mw cy a (sF M 26 g)) := rfl
theorem M_c15 {cy : Nat → ClassId} {a : Nat → Nat} {M : Sg} : (mw cy a M)[15]? = some ((a 28), .inl (cy 1, 1000, .inl (M.2.1 27))) := rfl
theorem M_s15 {cy : Nat → ClassId} {a : Nat → Nat} {M : Sg} {i : Nat} {x : Int32} : (mw cy a M).set 15 ((a 28), .inl (cy 1, 1000, .inl (upd (M.2.1 27) i x))) = (mw cy a (sA M 27 i x)) := rfl
theorem M_r15 {cy : Nat → ClassId} {a : Nat → Nat} {M : Sg} {g : Nat → Int32} : (mw cy a M).set 15 ((a 28), .inl (cy 1, 1000, .inl g)) = (mw cy a (sF M 27 g)) := rfl
theorem M_c16 {cy : Nat → ClassId} {a : Nat → Nat} {M : Sg} : (mw cy a M)[16]? = some ((a 29), .inl (cy 1, 1000, .inl (M.2.1 28))) := rfl
theorem M_s16 {cy : Nat → ClassId} {a : Nat → Nat} {M : Sg} {i : Nat} {x : Int32} : (mw cy a M).set 16 ((a 29), .inl (cy 1, 1000, .inl (upd (M.2.1 28) i x))) = (mw cy a (sA M 28 i x)) := rfl
theorem M_r16 {cy : Nat → ClassId} {a : Nat → Nat} {M : Sg} {g : Nat → Int32} : (mw cy a M).set 16 ((a 29), .inl (cy 1, 1000, .inl g)) = (mw cy a (sF M 28 g)) := rfl
theorem M_c17 {cy : Nat → ClassId} {a : Nat → Nat} {M : Sg} : (mw cy a M)[17]? = some ((a 31), .inl (cy 1, 4, .inl (M.2.1 30))) := rfl
theorem M_s17 {cy : Nat → ClassId} {a : Nat → Nat} {M : Sg} {i : Nat} {x : Int32} : (mw cy a M).set 17 ((a 31), .inl (cy 1, 4, .inl (upd (M.2.1 30) i x))) = (mw cy a (sA M 30 i x)) := rfl
theorem M_r17 {cy : Nat → ClassId} {a : Nat → Nat} {M : Sg} {g : Nat → Int32} : (mw cy a M).set 17 ((a 31), .inl (cy 1, 4, .inl g)) = (mw cy a (sF M 30 g)) := rfl
theorem M_c18 {cy : Nat → ClassId} {a : Nat → Nat} {M : Sg} : (mw cy a M)[18]? = some ((a 32), .inl (cy 1, 8, .inl (M.2.1 31))) := rfl
theorem M_s18 {cy : Nat → ClassId} {a : Nat → Nat} {M : Sg} {i : Nat} {x : Int32} : (mw cy a M).set 18 ((a 32), .inl (cy 1, 8, .inl (upd (M.2.1 31) i x))) = (mw cy a (sA M 31 i x)) := rfl
theorem M_r18 {cy : Nat → ClassId} {a : Nat → Nat} {M : Sg} {g : Nat → Int32} : (mw cy a M).set 18 ((a 32), .inl (cy 1, 8, .inl g)) = (mw cy a (sF M 31 g)) := rfl
theorem M_c19 {cy : Nat → ClassId} {a : Nat → Nat} {M : Sg} : (mw cy a M)[19]? = some ((a 33), .inl (cy 1, 8, .inl (M.2.1 32))) := rfl
theorem M_s19 {cy : Nat → ClassId} {a : Nat → Nat} {M : Sg} {i : Nat} {x : Int32} : (mw cy a M).set 19 ((a 33), .inl (cy 1, 8, .inl (upd (M.2.1 32) i x))) = (mw cy a (sA M 32 i x)) := rfl
theorem M_r19 {cy : Nat → ClassId} {a : Nat → Nat} {M : Sg} {g : Nat → Int32} : (mw cy a M).set 19 ((a 33), .inl (cy 1, 8, .inl g)) = (mw cy a (sF M 32 g)) := rfl
theorem M_c20 {cy : Nat → ClassId} {a : Nat → Nat} {M : Sg} : (mw cy a M)[20]? = some ((a 34), .inl (cy 1, 14, .inl (M.2.1 33))) := rfl
theorem M_s20 {cy : Nat → ClassId} {a : Nat → Nat} {M : Sg} {i : Nat} {x : Int32} : (mw cy a M).set 20 ((a 34), .inl (cy 1, 14, .inl (upd (M.2.1 33) i x))) = (mw cy a (sA M 33 i x)) := rfl
theorem M_r20 {cy : Nat → ClassId} {a : Nat → Nat} {M : Sg} {g : Nat → Int32} : (mw cy a M).set 20 ((a 34), .inl (cy 1, 14, .inl g)) = (mw cy a (sF M 33 g)) := rfl
theorem M_c21 {cy : Nat → ClassId} {a : Nat → Nat} {M : Sg} : (mw cy a M)[21]? = some ((a 35), .inl (cy 1, 14, .inl (M.2.1 34))) := rfl
theorem M_s21 {cy : Nat → ClassId} {a : Nat → Nat} {M : Sg} {i : Nat} {x : Int32} : (mw cy a M).set 21 ((a 35), .inl (cy 1, 14, .inl (upd (M.2.1 34) i x))) = (mw cy a (sA M 34 i x)) := rfl
theorem M_r21 {cy : Nat → ClassId} {a : Nat → Nat} {M : Sg} {g : Nat → Int32} : (mw cy a M).set 21 ((a 35), .inl (cy 1, 14, .inl g)) = (mw cy a (sF M 34 g)) := rfl
theorem M_c22 {cy : Nat → ClassId} {a : Nat → Nat} {M : Sg} : (mw cy a M)[22]? = some ((a 37), .inl (cy 1, 548, .inl (M.2.1 36))) := rfl
theorem M_s22 {cy : Nat → ClassId} {a : Nat → Nat} {M : Sg} {i : Nat} {x : Int32} : (mw cy a M).set 22 ((a 37), .inl (cy 1, 548, .inl (upd (M.2.1 36) i x))) = (mw cy a (sA M 36 i x)) := rfl
theorem M_r22 {cy : Nat → ClassId} {a : Nat → Nat} {M : Sg} {g : Nat → Int32} : (mw cy a M).set 22 ((a 37), .inl (cy 1, 548, .inl g)) = (mw cy a (sF M 36 g)) := rfl
theorem M_c23 {cy : Nat → ClassId} {a : Nat → Nat} {M : Sg} : (mw cy a M)[23]? = some ((a 38), .inl (cy 1, 4, .inl (M.2.1 37))) := rfl
theorem M_s23 {cy : Nat → ClassId} {a : Nat → Nat} {M : Sg} {i : Nat} {x : Int32} : (mw cy a M).set 23 ((a 38), .inl (cy 1, 4, .inl (upd (M.2.1 37) i x))) = (mw cy a (sA M 37 i x)) := rfl
theorem M_r23 {cy : Nat → ClassId} {a : Nat → Nat} {M : Sg} {g : Nat → Int32} : (mw cy a M).set 23 ((a 38), .inl (cy 1, 4, .inl g)) = (mw cy a (sF M 37 g)) := rfl
theorem M_c24 {cy : Nat → ClassId} {a : Nat → Nat} {M : Sg} : (mw cy a M)[24]? = some ((a 39), .inl (cy 3, 4, .inl (M.2.1 38))) := rfl
theorem M_s24 {cy : Nat → ClassId} {a : Nat → Nat} {M : Sg} {i : Nat} {x : Int32} : (mw cy a M).set 24 ((a 39), .inl (cy 3, 4, .inl (upd (M.2.1 38) i x))) = (mw cy a (sA M 38 i x)) := rfl
