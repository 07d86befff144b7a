section
-- ===== PART A: goes FIRST, ahead of the names: the tables' words, and 'selects' of the private methods out of them =====
/-- a private method of a class that the tables say can be made, by its rows of tables_1 -/
def lw_okq (q : MethodName × Nat) : Prop := (q.1.cls ≠ "java/lang/invoke/MethodHandle" ∧ q.1.cls ≠ "java/lang/invoke/VarHandle") ∧ Cond.instantiable q.1.cls q.2 ∈ tables_1 ∧ Cond.privateMethod q.1 ∈ tables_1 ∧ Cond.instanceMethod q.1 ∈ tables_1
theorem lw_p0 : lw_okq (⟨"ClockCourt", "addBit", "(III)I"⟩, 6) := ⟨⟨by decide +kernel, by decide +kernel⟩, List.mem_of_getElem? (i := 23) (by decide +kernel), List.mem_of_getElem? (i := 334) (by decide +kernel), List.mem_of_getElem? (i := 335) (by decide +kernel)⟩
theorem lw_p1 : lw_okq (⟨"ClockCourt$Net", "put", "(IIIII)V"⟩, 15) := ⟨⟨by decide +kernel, by decide +kernel⟩, List.mem_of_getElem? (i := 31) (by decide +kernel), List.mem_of_getElem? (i := 346) (by decide +kernel), List.mem_of_getElem? (i := 347) (by decide +kernel)⟩
theorem lw_p2 : lw_okq (⟨"ClockCourt", "beginAnew", "()V"⟩, 6) := ⟨⟨by decide +kernel, by decide +kernel⟩, List.mem_of_getElem? (i := 23) (by decide +kernel), List.mem_of_getElem? (i := 356) (by decide +kernel), List.mem_of_getElem? (i := 357) (by decide +kernel)⟩
theorem lw_p3 : lw_okq (⟨"ClockCourt$Net", "workOut", "(I)V"⟩, 15) := ⟨⟨by decide +kernel, by decide +kernel⟩, List.mem_of_getElem? (i := 31) (by decide +kernel), List.mem_of_getElem? (i := 384) (by decide +kernel), List.mem_of_getElem? (i := 385) (by decide +kernel)⟩
theorem lw_p4 : lw_okq (⟨"ClockCourt$Step", "isEither", "(II)Z"⟩, 7) := ⟨⟨by decide +kernel, by decide +kernel⟩, List.mem_of_getElem? (i := 148) (by decide +kernel), List.mem_of_getElem? (i := 473) (by decide +kernel), List.mem_of_getElem? (i := 474) (by decide +kernel)⟩
theorem lw_p5 : lw_okq (⟨"ClockCourt$Walk", "slotOf", "(IJ)I"⟩, 17) := ⟨⟨by decide +kernel, by decide +kernel⟩, List.mem_of_getElem? (i := 215) (by decide +kernel), List.mem_of_getElem? (i := 546) (by decide +kernel), List.mem_of_getElem? (i := 547) (by decide +kernel)⟩
theorem lw_p6 : lw_okq (⟨"ClockCourt$Walk", "addState", "(IIJI)V"⟩, 17) := ⟨⟨by decide +kernel, by decide +kernel⟩, List.mem_of_getElem? (i := 215) (by decide +kernel), List.mem_of_getElem? (i := 552) (by decide +kernel), List.mem_of_getElem? (i := 553) (by decide +kernel)⟩
theorem lw_p7 : lw_okq (⟨"ClockCourt$Walk", "judge", "(IIIII)V"⟩, 17) := ⟨⟨by decide +kernel, by decide +kernel⟩, List.mem_of_getElem? (i := 215) (by decide +kernel), List.mem_of_getElem? (i := 559) (by decide +kernel), List.mem_of_getElem? (i := 560) (by decide +kernel)⟩
theorem lw_p8 : lw_okq (⟨"ClockCourt$Walk", "lookAtSet", "(IIJ)V"⟩, 17) := ⟨⟨by decide +kernel, by decide +kernel⟩, List.mem_of_getElem? (i := 215) (by decide +kernel), List.mem_of_getElem? (i := 582) (by decide +kernel), List.mem_of_getElem? (i := 583) (by decide +kernel)⟩
theorem lw_p9 : lw_okq (⟨"ClockCourt$Walk", "arrive", "(IIIIJ)V"⟩, 17) := ⟨⟨by decide +kernel, by decide +kernel⟩, List.mem_of_getElem? (i := 215) (by decide +kernel), List.mem_of_getElem? (i := 589) (by decide +kernel), List.mem_of_getElem? (i := 590) (by decide +kernel)⟩
theorem lw_p10 : lw_okq (⟨"ClockCourt$Ways", "measure", "(II)V"⟩, 5) := ⟨⟨by decide +kernel, by decide +kernel⟩, List.mem_of_getElem? (i := 221) (by decide +kernel), List.mem_of_getElem? (i := 636) (by decide +kernel), List.mem_of_getElem? (i := 637) (by decide +kernel)⟩
theorem lw_p11 : lw_okq (⟨"ClockCourt$Ways", "nearest", "(I)I"⟩, 5) := ⟨⟨by decide +kernel, by decide +kernel⟩, List.mem_of_getElem? (i := 221) (by decide +kernel), List.mem_of_getElem? (i := 641) (by decide +kernel), List.mem_of_getElem? (i := 642) (by decide +kernel)⟩
theorem lw_p12 : lw_okq (⟨"ClockCourt$Ways", "goOnFrom", "(I)V"⟩, 5) := ⟨⟨by decide +kernel, by decide +kernel⟩, List.mem_of_getElem? (i := 221) (by decide +kernel), List.mem_of_getElem? (i := 645) (by decide +kernel), List.mem_of_getElem? (i := 646) (by decide +kernel)⟩
theorem lw_p13 : lw_okq (⟨"ClockCourt", "rowOfValues", "()LClockCourt$Row;"⟩, 6) := ⟨⟨by decide +kernel, by decide +kernel⟩, List.mem_of_getElem? (i := 23) (by decide +kernel), List.mem_of_getElem? (i := 743) (by decide +kernel), List.mem_of_getElem? (i := 744) (by decide +kernel)⟩
theorem lw_p14 : lw_okq (⟨"ClockCourt", "rowOfClocks", "()LClockCourt$Row;"⟩, 6) := ⟨⟨by decide +kernel, by decide +kernel⟩, List.mem_of_getElem? (i := 23) (by decide +kernel), List.mem_of_getElem? (i := 762) (by decide +kernel), List.mem_of_getElem? (i := 763) (by decide +kernel)⟩
theorem lw_p15 : lw_okq (⟨"ClockCourt$HeldCell", "fail", "()V"⟩, 4) := ⟨⟨by decide +kernel, by decide +kernel⟩, List.mem_of_getElem? (i := 721) (by decide +kernel), List.mem_of_getElem? (i := 805) (by decide +kernel), List.mem_of_getElem? (i := 806) (by decide +kernel)⟩
def lw_privs_1 : List (MethodName × Nat) := [(⟨"ClockCourt", "addBit", "(III)I"⟩, 6), (⟨"ClockCourt$Net", "put", "(IIIII)V"⟩, 15), (⟨"ClockCourt", "beginAnew", "()V"⟩, 6), (⟨"ClockCourt$Net", "workOut", "(I)V"⟩, 15), (⟨"ClockCourt$Step", "isEither", "(II)Z"⟩, 7), (⟨"ClockCourt$Walk", "slotOf", "(IJ)I"⟩, 17), (⟨"ClockCourt$Walk", "addState", "(IIJI)V"⟩, 17), (⟨"ClockCourt$Walk", "judge", "(IIIII)V"⟩, 17), (⟨"ClockCourt$Walk", "lookAtSet", "(IIJ)V"⟩, 17), (⟨"ClockCourt$Walk", "arrive", "(IIIIJ)V"⟩, 17), (⟨"ClockCourt$Ways", "measure", "(II)V"⟩, 5), (⟨"ClockCourt$Ways", "nearest", "(I)I"⟩, 5), (⟨"ClockCourt$Ways", "goOnFrom", "(I)V"⟩, 5), (⟨"ClockCourt", "rowOfValues", "()LClockCourt$Row;"⟩, 6), (⟨"ClockCourt", "rowOfClocks", "()LClockCourt$Row;"⟩, 6), (⟨"ClockCourt$HeldCell", "fail", "()V"⟩, 4)]
theorem lw_r1 : ∀ q ∈ lw_privs_1, lw_okq q := List.forall_mem_cons.mpr ⟨lw_p0, List.forall_mem_cons.mpr ⟨lw_p1, List.forall_mem_cons.mpr ⟨lw_p2, List.forall_mem_cons.mpr ⟨lw_p3, List.forall_mem_cons.mpr ⟨lw_p4, List.forall_mem_cons.mpr ⟨lw_p5, List.forall_mem_cons.mpr ⟨lw_p6, List.forall_mem_cons.mpr ⟨lw_p7, List.forall_mem_cons.mpr ⟨lw_p8, List.forall_mem_cons.mpr ⟨lw_p9, List.forall_mem_cons.mpr ⟨lw_p10, List.forall_mem_cons.mpr ⟨lw_p11, List.forall_mem_cons.mpr ⟨lw_p12, List.forall_mem_cons.mpr ⟨lw_p13, List.forall_mem_cons.mpr ⟨lw_p14, List.forall_mem_cons.mpr ⟨lw_p15, fun _ h => absurd h List.not_mem_nil⟩⟩⟩⟩⟩⟩⟩⟩⟩⟩⟩⟩⟩⟩⟩⟩
theorem lw_p16 : lw_okq (⟨"java/lang/Throwable", "fillInStackTrace", "(I)Ljava/lang/Throwable;"⟩, 6) := ⟨⟨by decide +kernel, by decide +kernel⟩, List.mem_of_getElem? (i := 845) (by decide +kernel), List.mem_of_getElem? (i := 843) (by decide +kernel), List.mem_of_getElem? (i := 844) (by decide +kernel)⟩
theorem lw_p17 : lw_okq (⟨"ClockCourtModel", "begin", "()V"⟩, 52) := ⟨⟨by decide +kernel, by decide +kernel⟩, List.mem_of_getElem? (i := 907) (by decide +kernel), List.mem_of_getElem? (i := 913) (by decide +kernel), List.mem_of_getElem? (i := 914) (by decide +kernel)⟩
theorem lw_p18 : lw_okq (⟨"ClockCourtModel", "beginning", "()I"⟩, 52) := ⟨⟨by decide +kernel, by decide +kernel⟩, List.mem_of_getElem? (i := 907) (by decide +kernel), List.mem_of_getElem? (i := 917) (by decide +kernel), List.mem_of_getElem? (i := 918) (by decide +kernel)⟩
theorem lw_p19 : lw_okq (⟨"ClockCourtModel", "settle", "(I)I"⟩, 52) := ⟨⟨by decide +kernel, by decide +kernel⟩, List.mem_of_getElem? (i := 907) (by decide +kernel), List.mem_of_getElem? (i := 921) (by decide +kernel), List.mem_of_getElem? (i := 922) (by decide +kernel)⟩
theorem lw_p20 : lw_okq (⟨"ClockCourtModel", "add", "(III)V"⟩, 52) := ⟨⟨by decide +kernel, by decide +kernel⟩, List.mem_of_getElem? (i := 907) (by decide +kernel), List.mem_of_getElem? (i := 1097) (by decide +kernel), List.mem_of_getElem? (i := 1098) (by decide +kernel)⟩
theorem lw_p21 : lw_okq (⟨"ClockCourtModel", "changed", "()V"⟩, 52) := ⟨⟨by decide +kernel, by decide +kernel⟩, List.mem_of_getElem? (i := 907) (by decide +kernel), List.mem_of_getElem? (i := 1101) (by decide +kernel), List.mem_of_getElem? (i := 1102) (by decide +kernel)⟩
theorem lw_p22 : lw_okq (⟨"ClockCourtModel", "unwalk", "()V"⟩, 52) := ⟨⟨by decide +kernel, by decide +kernel⟩, List.mem_of_getElem? (i := 907) (by decide +kernel), List.mem_of_getElem? (i := 1105) (by decide +kernel), List.mem_of_getElem? (i := 1106) (by decide +kernel)⟩
theorem lw_p23 : lw_okq (⟨"ClockCourtModel", "isCell", "(I)Z"⟩, 52) := ⟨⟨by decide +kernel, by decide +kernel⟩, List.mem_of_getElem? (i := 907) (by decide +kernel), List.mem_of_getElem? (i := 1118) (by decide +kernel), List.mem_of_getElem? (i := 1119) (by decide +kernel)⟩
theorem lw_p24 : lw_okq (⟨"ClockCourtModel", "isKeeper", "(I)Z"⟩, 52) := ⟨⟨by decide +kernel, by decide +kernel⟩, List.mem_of_getElem? (i := 907) (by decide +kernel), List.mem_of_getElem? (i := 1126) (by decide +kernel), List.mem_of_getElem? (i := 1127) (by decide +kernel)⟩
theorem lw_p25 : lw_okq (⟨"ClockCourtModel", "isBit", "(I)Z"⟩, 52) := ⟨⟨by decide +kernel, by decide +kernel⟩, List.mem_of_getElem? (i := 907) (by decide +kernel), List.mem_of_getElem? (i := 1139) (by decide +kernel), List.mem_of_getElem? (i := 1140) (by decide +kernel)⟩
theorem lw_p26 : lw_okq (⟨"ClockCourtModel", "canBe", "(I)Z"⟩, 52) := ⟨⟨by decide +kernel, by decide +kernel⟩, List.mem_of_getElem? (i := 907) (by decide +kernel), List.mem_of_getElem? (i := 1156) (by decide +kernel), List.mem_of_getElem? (i := 1157) (by decide +kernel)⟩
theorem lw_p27 : lw_okq (⟨"ClockCourtModel", "then", "(III)I"⟩, 52) := ⟨⟨by decide +kernel, by decide +kernel⟩, List.mem_of_getElem? (i := 907) (by decide +kernel), List.mem_of_getElem? (i := 1160) (by decide +kernel), List.mem_of_getElem? (i := 1161) (by decide +kernel)⟩
theorem lw_p28 : lw_okq (⟨"ClockCourtModel", "fits", "(II)Z"⟩, 52) := ⟨⟨by decide +kernel, by decide +kernel⟩, List.mem_of_getElem? (i := 907) (by decide +kernel), List.mem_of_getElem? (i := 1164) (by decide +kernel), List.mem_of_getElem? (i := 1165) (by decide +kernel)⟩
theorem lw_p29 : lw_okq (⟨"ClockCourtModel", "go", "(III)V"⟩, 52) := ⟨⟨by decide +kernel, by decide +kernel⟩, List.mem_of_getElem? (i := 907) (by decide +kernel), List.mem_of_getElem? (i := 1168) (by decide +kernel), List.mem_of_getElem? (i := 1169) (by decide +kernel)⟩
theorem lw_p30 : lw_okq (⟨"ClockCourtModel", "look", "(III)V"⟩, 52) := ⟨⟨by decide +kernel, by decide +kernel⟩, List.mem_of_getElem? (i := 907) (by decide +kernel), List.mem_of_getElem? (i := 1172) (by decide +kernel), List.mem_of_getElem? (i := 1173) (by decide +kernel)⟩
theorem lw_p31 : lw_okq (⟨"ClockCourtModel", "isTicking", "(II)Z"⟩, 52) := ⟨⟨by decide +kernel, by decide +kernel⟩, List.mem_of_getElem? (i := 907) (by decide +kernel), List.mem_of_getElem? (i := 1176) (by decide +kernel), List.mem_of_getElem? (i := 1177) (by decide +kernel)⟩
def lw_privs_2 : List (MethodName × Nat) := [(⟨"java/lang/Throwable", "fillInStackTrace", "(I)Ljava/lang/Throwable;"⟩, 6), (⟨"ClockCourtModel", "begin", "()V"⟩, 52), (⟨"ClockCourtModel", "beginning", "()I"⟩, 52), (⟨"ClockCourtModel", "settle", "(I)I"⟩, 52), (⟨"ClockCourtModel", "add", "(III)V"⟩, 52), (⟨"ClockCourtModel", "changed", "()V"⟩, 52), (⟨"ClockCourtModel", "unwalk", "()V"⟩, 52), (⟨"ClockCourtModel", "isCell", "(I)Z"⟩, 52), (⟨"ClockCourtModel", "isKeeper", "(I)Z"⟩, 52), (⟨"ClockCourtModel", "isBit", "(I)Z"⟩, 52), (⟨"ClockCourtModel", "canBe", "(I)Z"⟩, 52), (⟨"ClockCourtModel", "then", "(III)I"⟩, 52), (⟨"ClockCourtModel", "fits", "(II)Z"⟩, 52), (⟨"ClockCourtModel", "go", "(III)V"⟩, 52), (⟨"ClockCourtModel", "look", "(III)V"⟩, 52), (⟨"ClockCourtModel", "isTicking", "(II)Z"⟩, 52)]
theorem lw_r2 : ∀ q ∈ lw_privs_2, lw_okq q := List.forall_mem_cons.mpr ⟨lw_p16, List.forall_mem_cons.mpr ⟨lw_p17, List.forall_mem_cons.mpr ⟨lw_p18, List.forall_mem_cons.mpr ⟨lw_p19, List.forall_mem_cons.mpr ⟨lw_p20, List.forall_mem_cons.mpr ⟨lw_p21, List.forall_mem_cons.mpr ⟨lw_p22, List.forall_mem_cons.mpr ⟨lw_p23, List.forall_mem_cons.mpr ⟨lw_p24, List.forall_mem_cons.mpr ⟨lw_p25, List.forall_mem_cons.mpr ⟨lw_p26, List.forall_mem_cons.mpr ⟨lw_p27, List.forall_mem_cons.mpr ⟨lw_p28, List.forall_mem_cons.mpr ⟨lw_p29, List.forall_mem_cons.mpr ⟨lw_p30, List.forall_mem_cons.mpr ⟨lw_p31, fun _ h => absurd h List.not_mem_nil⟩⟩⟩⟩⟩⟩⟩⟩⟩⟩⟩⟩⟩⟩⟩⟩
theorem lw_p32 : lw_okq (⟨"ClockCourtModel", "isEither", "(I)Z"⟩, 52) := ⟨⟨by decide +kernel, by decide +kernel⟩, List.mem_of_getElem? (i := 907) (by decide +kernel), List.mem_of_getElem? (i := 1180) (by decide +kernel), List.mem_of_getElem? (i := 1181) (by decide +kernel)⟩
theorem lw_p33 : lw_okq (⟨"ClockCourtModel", "mixed", "(I)I"⟩, 52) := ⟨⟨by decide +kernel, by decide +kernel⟩, List.mem_of_getElem? (i := 907) (by decide +kernel), List.mem_of_getElem? (i := 1184) (by decide +kernel), List.mem_of_getElem? (i := 1185) (by decide +kernel)⟩
theorem lw_p34 : lw_okq (⟨"ClockCourtModel", "behind", "(I)I"⟩, 52) := ⟨⟨by decide +kernel, by decide +kernel⟩, List.mem_of_getElem? (i := 907) (by decide +kernel), List.mem_of_getElem? (i := 1188) (by decide +kernel), List.mem_of_getElem? (i := 1189) (by decide +kernel)⟩
theorem lw_p35 : lw_okq (⟨"ClockCourtModel", "isKept", "(IIIZ)Z"⟩, 52) := ⟨⟨by decide +kernel, by decide +kernel⟩, List.mem_of_getElem? (i := 907) (by decide +kernel), List.mem_of_getElem? (i := 1208) (by decide +kernel), List.mem_of_getElem? (i := 1209) (by decide +kernel)⟩
theorem lw_p36 : lw_okq (⟨"ClockCourtModel", "addState", "(IIIII)V"⟩, 52) := ⟨⟨by decide +kernel, by decide +kernel⟩, List.mem_of_getElem? (i := 907) (by decide +kernel), List.mem_of_getElem? (i := 1216) (by decide +kernel), List.mem_of_getElem? (i := 1217) (by decide +kernel)⟩
theorem lw_p37 : lw_okq (⟨"ClockCourtModel", "lookAtPromises", "(IIIIIII)V"⟩, 52) := ⟨⟨by decide +kernel, by decide +kernel⟩, List.mem_of_getElem? (i := 907) (by decide +kernel), List.mem_of_getElem? (i := 1220) (by decide +kernel), List.mem_of_getElem? (i := 1221) (by decide +kernel)⟩
theorem lw_p38 : lw_okq (⟨"ClockCourtModel", "clocksThere", "()I"⟩, 52) := ⟨⟨by decide +kernel, by decide +kernel⟩, List.mem_of_getElem? (i := 907) (by decide +kernel), List.mem_of_getElem? (i := 1224) (by decide +kernel), List.mem_of_getElem? (i := 1225) (by decide +kernel)⟩
theorem lw_p39 : lw_okq (⟨"ClockCourtModel", "trySet", "(II)V"⟩, 52) := ⟨⟨by decide +kernel, by decide +kernel⟩, List.mem_of_getElem? (i := 907) (by decide +kernel), List.mem_of_getElem? (i := 1228) (by decide +kernel), List.mem_of_getElem? (i := 1229) (by decide +kernel)⟩
theorem lw_p40 : lw_okq (⟨"ClockCourtModel", "inputsOf", "(I)I"⟩, 52) := ⟨⟨by decide +kernel, by decide +kernel⟩, List.mem_of_getElem? (i := 907) (by decide +kernel), List.mem_of_getElem? (i := 1232) (by decide +kernel), List.mem_of_getElem? (i := 1233) (by decide +kernel)⟩
theorem lw_p41 : lw_okq (⟨"ClockCourtModel", "countBits", "(I)I"⟩, 52) := ⟨⟨by decide +kernel, by decide +kernel⟩, List.mem_of_getElem? (i := 907) (by decide +kernel), List.mem_of_getElem? (i := 1236) (by decide +kernel), List.mem_of_getElem? (i := 1237) (by decide +kernel)⟩
theorem lw_p42 : lw_okq (⟨"ClockCourtModel", "tryMove", "(IIII)V"⟩, 52) := ⟨⟨by decide +kernel, by decide +kernel⟩, List.mem_of_getElem? (i := 907) (by decide +kernel), List.mem_of_getElem? (i := 1240) (by decide +kernel), List.mem_of_getElem? (i := 1241) (by decide +kernel)⟩
theorem lw_p43 : lw_okq (⟨"ClockCourtModel", "stateOf", "(I)I"⟩, 52) := ⟨⟨by decide +kernel, by decide +kernel⟩, List.mem_of_getElem? (i := 907) (by decide +kernel), List.mem_of_getElem? (i := 1244) (by decide +kernel), List.mem_of_getElem? (i := 1245) (by decide +kernel)⟩
theorem lw_p44 : lw_okq (⟨"ClockCourtModel", "turned", "(I)I"⟩, 52) := ⟨⟨by decide +kernel, by decide +kernel⟩, List.mem_of_getElem? (i := 907) (by decide +kernel), List.mem_of_getElem? (i := 1248) (by decide +kernel), List.mem_of_getElem? (i := 1249) (by decide +kernel)⟩
theorem lw_p45 : lw_okq (⟨"ClockCourtModel", "isState", "(I)Z"⟩, 52) := ⟨⟨by decide +kernel, by decide +kernel⟩, List.mem_of_getElem? (i := 907) (by decide +kernel), List.mem_of_getElem? (i := 1256) (by decide +kernel), List.mem_of_getElem? (i := 1257) (by decide +kernel)⟩
theorem lw_p46 : lw_okq (⟨"ClockCourtModel", "bitsOf", "(I)I"⟩, 52) := ⟨⟨by decide +kernel, by decide +kernel⟩, List.mem_of_getElem? (i := 907) (by decide +kernel), List.mem_of_getElem? (i := 1261) (by decide +kernel), List.mem_of_getElem? (i := 1262) (by decide +kernel)⟩
theorem lw_p47 : lw_okq (⟨"ClockCourtModel", "isCrossing", "(I)Z"⟩, 52) := ⟨⟨by decide +kernel, by decide +kernel⟩, List.mem_of_getElem? (i := 907) (by decide +kernel), List.mem_of_getElem? (i := 1286) (by decide +kernel), List.mem_of_getElem? (i := 1287) (by decide +kernel)⟩
def lw_privs_3 : List (MethodName × Nat) := [(⟨"ClockCourtModel", "isEither", "(I)Z"⟩, 52), (⟨"ClockCourtModel", "mixed", "(I)I"⟩, 52), (⟨"ClockCourtModel", "behind", "(I)I"⟩, 52), (⟨"ClockCourtModel", "isKept", "(IIIZ)Z"⟩, 52), (⟨"ClockCourtModel", "addState", "(IIIII)V"⟩, 52), (⟨"ClockCourtModel", "lookAtPromises", "(IIIIIII)V"⟩, 52), (⟨"ClockCourtModel", "clocksThere", "()I"⟩, 52), (⟨"ClockCourtModel", "trySet", "(II)V"⟩, 52), (⟨"ClockCourtModel", "inputsOf", "(I)I"⟩, 52), (⟨"ClockCourtModel", "countBits", "(I)I"⟩, 52), (⟨"ClockCourtModel", "tryMove", "(IIII)V"⟩, 52), (⟨"ClockCourtModel", "stateOf", "(I)I"⟩, 52), (⟨"ClockCourtModel", "turned", "(I)I"⟩, 52), (⟨"ClockCourtModel", "isState", "(I)Z"⟩, 52), (⟨"ClockCourtModel", "bitsOf", "(I)I"⟩, 52), (⟨"ClockCourtModel", "isCrossing", "(I)Z"⟩, 52)]
theorem lw_r3 : ∀ q ∈ lw_privs_3, lw_okq q := List.forall_mem_cons.mpr ⟨lw_p32, List.forall_mem_cons.mpr ⟨lw_p33, List.forall_mem_cons.mpr ⟨lw_p34, List.forall_mem_cons.mpr ⟨lw_p35, List.forall_mem_cons.mpr ⟨lw_p36, List.forall_mem_cons.mpr ⟨lw_p37, List.forall_mem_cons.mpr ⟨lw_p38, List.forall_mem_cons.mpr ⟨lw_p39, List.forall_mem_cons.mpr ⟨lw_p40, List.forall_mem_cons.mpr ⟨lw_p41, List.forall_mem_cons.mpr ⟨lw_p42, List.forall_mem_cons.mpr ⟨lw_p43, List.forall_mem_cons.mpr ⟨lw_p44, List.forall_mem_cons.mpr ⟨lw_p45, List.forall_mem_cons.mpr ⟨lw_p46, List.forall_mem_cons.mpr ⟨lw_p47, fun _ h => absurd h List.not_mem_nil⟩⟩⟩⟩⟩⟩⟩⟩⟩⟩⟩⟩⟩⟩⟩⟩
theorem lw_p48 : lw_okq (⟨"ClockCourtModel", "foreign", "(I)I"⟩, 52) := ⟨⟨by decide +kernel, by decide +kernel⟩, List.mem_of_getElem? (i := 907) (by decide +kernel), List.mem_of_getElem? (i := 1290) (by decide +kernel), List.mem_of_getElem? (i := 1291) (by decide +kernel)⟩
theorem lw_p49 : lw_okq (⟨"ClockCourtModel", "hangs", "(I)I"⟩, 52) := ⟨⟨by decide +kernel, by decide +kernel⟩, List.mem_of_getElem? (i := 907) (by decide +kernel), List.mem_of_getElem? (i := 1294) (by decide +kernel), List.mem_of_getElem? (i := 1295) (by decide +kernel)⟩
theorem lw_p50 : lw_okq (⟨"ClockCourtModel", "crossingAt", "(I)I"⟩, 52) := ⟨⟨by decide +kernel, by decide +kernel⟩, List.mem_of_getElem? (i := 907) (by decide +kernel), List.mem_of_getElem? (i := 1302) (by decide +kernel), List.mem_of_getElem? (i := 1303) (by decide +kernel)⟩
theorem lw_p51 : lw_okq (⟨"ClockCourtModel", "kindOf", "(I)I"⟩, 52) := ⟨⟨by decide +kernel, by decide +kernel⟩, List.mem_of_getElem? (i := 907) (by decide +kernel), List.mem_of_getElem? (i := 1306) (by decide +kernel), List.mem_of_getElem? (i := 1307) (by decide +kernel)⟩
theorem lw_p52 : lw_okq (⟨"ClockCourtModel", "allStill", "(I)Z"⟩, 52) := ⟨⟨by decide +kernel, by decide +kernel⟩, List.mem_of_getElem? (i := 907) (by decide +kernel), List.mem_of_getElem? (i := 1310) (by decide +kernel), List.mem_of_getElem? (i := 1311) (by decide +kernel)⟩
theorem lw_p53 : lw_okq (⟨"ClockCourtModel", "isTwice", "(I)Z"⟩, 52) := ⟨⟨by decide +kernel, by decide +kernel⟩, List.mem_of_getElem? (i := 907) (by decide +kernel), List.mem_of_getElem? (i := 1314) (by decide +kernel), List.mem_of_getElem? (i := 1315) (by decide +kernel)⟩
theorem lw_p54 : lw_okq (⟨"ClockCourtModel", "isForeignBit", "(II)Z"⟩, 52) := ⟨⟨by decide +kernel, by decide +kernel⟩, List.mem_of_getElem? (i := 907) (by decide +kernel), List.mem_of_getElem? (i := 1318) (by decide +kernel), List.mem_of_getElem? (i := 1319) (by decide +kernel)⟩
theorem lw_p55 : lw_okq (⟨"ClockCourtModel", "isUsedOnce", "(I)Z"⟩, 52) := ⟨⟨by decide +kernel, by decide +kernel⟩, List.mem_of_getElem? (i := 907) (by decide +kernel), List.mem_of_getElem? (i := 1322) (by decide +kernel), List.mem_of_getElem? (i := 1323) (by decide +kernel)⟩
theorem lw_p56 : lw_okq (⟨"ClockCourtModel", "isHeldOne", "(I)Z"⟩, 52) := ⟨⟨by decide +kernel, by decide +kernel⟩, List.mem_of_getElem? (i := 907) (by decide +kernel), List.mem_of_getElem? (i := 1326) (by decide +kernel), List.mem_of_getElem? (i := 1327) (by decide +kernel)⟩
theorem lw_p57 : lw_okq (⟨"ClockCourtModel", "meets", "(I)Z"⟩, 52) := ⟨⟨by decide +kernel, by decide +kernel⟩, List.mem_of_getElem? (i := 907) (by decide +kernel), List.mem_of_getElem? (i := 1330) (by decide +kernel), List.mem_of_getElem? (i := 1331) (by decide +kernel)⟩
theorem lw_p58 : lw_okq (⟨"ClockCourtModel", "hasPlaces", "(III)Z"⟩, 52) := ⟨⟨by decide +kernel, by decide +kernel⟩, List.mem_of_getElem? (i := 907) (by decide +kernel), List.mem_of_getElem? (i := 1365) (by decide +kernel), List.mem_of_getElem? (i := 1366) (by decide +kernel)⟩
theorem lw_p59 : lw_okq (⟨"ClockCourtModel", "denied", "(I)I"⟩, 52) := ⟨⟨by decide +kernel, by decide +kernel⟩, List.mem_of_getElem? (i := 907) (by decide +kernel), List.mem_of_getElem? (i := 1373) (by decide +kernel), List.mem_of_getElem? (i := 1374) (by decide +kernel)⟩
def lw_privs_4 : List (MethodName × Nat) := [(⟨"ClockCourtModel", "foreign", "(I)I"⟩, 52), (⟨"ClockCourtModel", "hangs", "(I)I"⟩, 52), (⟨"ClockCourtModel", "crossingAt", "(I)I"⟩, 52), (⟨"ClockCourtModel", "kindOf", "(I)I"⟩, 52), (⟨"ClockCourtModel", "allStill", "(I)Z"⟩, 52), (⟨"ClockCourtModel", "isTwice", "(I)Z"⟩, 52), (⟨"ClockCourtModel", "isForeignBit", "(II)Z"⟩, 52), (⟨"ClockCourtModel", "isUsedOnce", "(I)Z"⟩, 52), (⟨"ClockCourtModel", "isHeldOne", "(I)Z"⟩, 52), (⟨"ClockCourtModel", "meets", "(I)Z"⟩, 52), (⟨"ClockCourtModel", "hasPlaces", "(III)Z"⟩, 52), (⟨"ClockCourtModel", "denied", "(I)I"⟩, 52)]
theorem lw_r4 : ∀ q ∈ lw_privs_4, lw_okq q := List.forall_mem_cons.mpr ⟨lw_p48, List.forall_mem_cons.mpr ⟨lw_p49, List.forall_mem_cons.mpr ⟨lw_p50, List.forall_mem_cons.mpr ⟨lw_p51, List.forall_mem_cons.mpr ⟨lw_p52, List.forall_mem_cons.mpr ⟨lw_p53, List.forall_mem_cons.mpr ⟨lw_p54, List.forall_mem_cons.mpr ⟨lw_p55, List.forall_mem_cons.mpr ⟨lw_p56, List.forall_mem_cons.mpr ⟨lw_p57, List.forall_mem_cons.mpr ⟨lw_p58, List.forall_mem_cons.mpr ⟨lw_p59, fun _ h => absurd h List.not_mem_nil⟩⟩⟩⟩⟩⟩⟩⟩⟩⟩⟩⟩
def lw_privs : List (MethodName × Nat) := lw_privs_1 ++ (lw_privs_2 ++ (lw_privs_3 ++ (lw_privs_4)))
def lw_tbl : List Cond := k2_sels lw_privs ++ tables_1
theorem lw_privs_ok : ∀ q ∈ lw_privs, lw_okq q := by
  show ∀ q ∈ lw_privs_1 ++ (lw_privs_2 ++ (lw_privs_3 ++ (lw_privs_4))), lw_okq q
  exact List.forall_mem_append.mpr ⟨lw_r1, List.forall_mem_append.mpr ⟨lw_r2, List.forall_mem_append.mpr ⟨lw_r3, lw_r4⟩⟩⟩
end
section
def RX0 : String := "ClockCourt$Bounds"
def TX0 : u_T := fun k => match k with
  | _ => ("ClockCourt$Bounds", "limits", "[I", true)
def tyX0 : Nat → FieldType := fun k => match k with
  | _ => .array .int
abbrev wsX00 : List Cond := u_ws RX0 TX0 1
theorem nmX0 : ∀ a, a < 1 → ∀ b, b < 1 → a ≠ b → (TX0 a).2.1 ≠ (TX0 b).2.1 := by decide +kernel
theorem tyX0_ok : ∀ k, k < 1 → parseFieldDescriptor (TX0 k).2.2.1 = some (tyX0 k) := by decide +kernel
abbrev cX0_init : ByteArray := prog_2_method_1_code
def yX0_init : MethodName := ⟨RX0, "<init>", "()V"⟩
abbrev cX0_limitOf : ByteArray := prog_2_method_2_code
def yX0_limitOf : MethodName := ⟨RX0, "limitOf", "(II)I"⟩
abbrev cX0_limit : ByteArray := prog_2_method_3_code
def yX0_limit : MethodName := ⟨RX0, "limit", "(III)V"⟩
abbrev cX0_ticksOf : ByteArray := prog_2_method_4_code
def yX0_ticksOf : MethodName := ⟨RX0, "ticksOf", "(JII)I"⟩
abbrev cX0_behind : ByteArray := prog_2_method_5_code
def yX0_behind : MethodName := ⟨RX0, "behind", "(JI)J"⟩
def RX1 : String := "ClockCourt$Crossings"
def TX1 : u_T := fun k => match k with
  | _ => ("", "", "", false)
def tyX1 : Nat → FieldType := fun k => match k with
  | _ => .int
abbrev wsX10 : List Cond := u_ws RX1 TX1 0
theorem nmX1 : ∀ a, a < 0 → ∀ b, b < 0 → a ≠ b → (TX1 a).2.1 ≠ (TX1 b).2.1 := by decide +kernel
theorem tyX1_ok : ∀ k, k < 0 → parseFieldDescriptor (TX1 k).2.2.1 = some (tyX1 k) := by decide +kernel
abbrev cX1_size : ByteArray := prog_3_method_2_code
def yX1_size : MethodName := ⟨RX1, "size", "(LClockCourt$Net;)I"⟩
abbrev cX1_keeperOf : ByteArray := prog_3_method_3_code
def yX1_keeperOf : MethodName := ⟨RX1, "keeperOf", "(LClockCourt$Net;I)I"⟩
abbrev cX1_kindOf : ByteArray := prog_3_method_4_code
def yX1_kindOf : MethodName := ⟨RX1, "kindOf", "(LClockCourt$Net;I)I"⟩
abbrev cX1_meets : ByteArray := prog_3_method_5_code
def yX1_meets : MethodName := ⟨RX1, "meets", "(LClockCourt$Net;I)Z"⟩
abbrev cX1_isBad : ByteArray := prog_3_method_6_code
def yX1_isBad : MethodName := ⟨RX1, "isBad", "(LClockCourt$Net;I)Z"⟩
abbrev cX1_crosses : ByteArray := prog_3_method_7_code
def yX1_crosses : MethodName := ⟨RX1, "crosses", "(LClockCourt$Net;I)Z"⟩
abbrev cX1_isStill : ByteArray := prog_3_method_8_code
def yX1_isStill : MethodName := ⟨RX1, "isStill", "(LClockCourt$Net;I)Z"⟩
abbrev cX1_isTwice : ByteArray := prog_3_method_9_code
def yX1_isTwice : MethodName := ⟨RX1, "isTwice", "(LClockCourt$Net;I)Z"⟩
abbrev cX1_isPassedOn : ByteArray := prog_3_method_10_code
def yX1_isPassedOn : MethodName := ⟨RX1, "isPassedOn", "(LClockCourt$Net;I)Z"⟩
abbrev cX1_isHeld : ByteArray := prog_3_method_11_code
def yX1_isHeld : MethodName := ⟨RX1, "isHeld", "(LClockCourt$Net;II)Z"⟩
def RX2 : String := "ClockCourt$Held"
def TX2 : u_T := fun k => match k with
  | _ => ("", "", "", false)
def tyX2 : Nat → FieldType := fun k => match k with
  | _ => .int
abbrev wsX20 : List Cond := u_ws RX2 TX2 0
theorem nmX2 : ∀ a, a < 0 → ∀ b, b < 0 → a ≠ b → (TX2 a).2.1 ≠ (TX2 b).2.1 := by decide +kernel
theorem tyX2_ok : ∀ k, k < 0 → parseFieldDescriptor (TX2 k).2.2.1 = some (tyX2 k) := by decide +kernel
abbrev cX2_init : ByteArray := prog_4_method_1_code
def yX2_init : MethodName := ⟨RX2, "<init>", "()V"⟩
def RX3 : String := "ClockCourt$HeldCell"
def TX3 : u_T := fun k => match k with
  | 0 => ("ClockCourt$HeldCell", "number", "I", true)
  | 1 => ("ClockCourt$HeldCell", "kind", "I", true)
  | 2 => ("ClockCourt$HeldCell", "clock", "I", true)
  | _ => ("ClockCourt$HeldCell", "source", "I", true)
def tyX3 : Nat → FieldType := fun k => match k with
  | 0 => .int
  | 1 => .int
  | 2 => .int
  | _ => .int
abbrev wsX30 : List Cond := u_ws RX3 TX3 4
theorem nmX3 : ∀ a, a < 4 → ∀ b, b < 4 → a ≠ b → (TX3 a).2.1 ≠ (TX3 b).2.1 := by decide +kernel
theorem tyX3_ok : ∀ k, k < 4 → parseFieldDescriptor (TX3 k).2.2.1 = some (tyX3 k) := by decide +kernel
abbrev cX3_init : ByteArray := prog_5_method_1_code
def yX3_init : MethodName := ⟨RX3, "<init>", "(LClockCourt$Net;I)V"⟩
abbrev cX3_weigh : ByteArray := prog_5_method_2_code
def yX3_weigh : MethodName := ⟨RX3, "weigh", "()I"⟩
abbrev cX3_clockOfFailure : ByteArray := prog_5_method_3_code
def yX3_clockOfFailure : MethodName := ⟨RX3, "clockOfFailure", "()I"⟩
abbrev cX3_fail : ByteArray := prog_5_method_4_code
def yX3_fail : MethodName := ⟨RX3, "fail", "()V"⟩
def RX4 : String := "ClockCourt$Net"
def TX4 : u_T := fun k => match k with
  | 0 => ("ClockCourt$Net", "cells", "I", false)
  | 1 => ("ClockCourt$Net", "bits", "I", false)
  | 2 => ("ClockCourt$Net", "firstBits", "I", false)
  | 3 => ("ClockCourt$Net", "stillBits", "I", false)
  | 4 => ("ClockCourt$Net", "keeperBits", "I", false)
  | 5 => ("ClockCourt$Net", "kind", "[I", true)
  | 6 => ("ClockCourt$Net", "clock", "[I", true)
  | 7 => ("ClockCourt$Net", "x", "[I", true)
  | 8 => ("ClockCourt$Net", "y", "[I", true)
  | 9 => ("ClockCourt$Net", "z", "[I", true)
  | 10 => ("ClockCourt$Net", "bitOf", "[I", true)
  | 11 => ("ClockCourt$Net", "cellOf", "[I", true)
  | 12 => ("ClockCourt$Net", "bitsOfClock", "[I", true)
  | 13 => ("ClockCourt$Net", "hangsOn", "[I", true)
  | _ => ("ClockCourt$Net", "table", "[J", true)
def tyX4 : Nat → FieldType := fun k => match k with
  | 0 => .int
  | 1 => .int
  | 2 => .int
  | 3 => .int
  | 4 => .int
  | 5 => .array .int
  | 6 => .array .int
  | 7 => .array .int
  | 8 => .array .int
  | 9 => .array .int
  | 10 => .array .int
  | 11 => .array .int
  | 12 => .array .int
  | 13 => .array .int
  | _ => .array .long
abbrev wsX40 : List Cond := u_ws RX4 TX4 15
theorem nmX4 : ∀ a, a < 15 → ∀ b, b < 15 → a ≠ b → (TX4 a).2.1 ≠ (TX4 b).2.1 := by decide +kernel
theorem tyX4_ok : ∀ k, k < 15 → parseFieldDescriptor (TX4 k).2.2.1 = some (tyX4 k) := by decide +kernel
abbrev cX4_init : ByteArray := prog_6_method_1_code
def yX4_init : MethodName := ⟨RX4, "<init>", "()V"⟩
abbrev cX4_isCell : ByteArray := prog_6_method_2_code
def yX4_isCell : MethodName := ⟨RX4, "isCell", "(I)Z"⟩
abbrev cX4_isBit : ByteArray := prog_6_method_3_code
def yX4_isBit : MethodName := ⟨RX4, "isBit", "(I)Z"⟩
abbrev cX4_isKeeper : ByteArray := prog_6_method_4_code
def yX4_isKeeper : MethodName := ⟨RX4, "isKeeper", "(I)Z"⟩
abbrev cX4_takesNoBit : ByteArray := prog_6_method_5_code
def yX4_takesNoBit : MethodName := ⟨RX4, "takesNoBit", "()Z"⟩
abbrev cX4_addBit : ByteArray := prog_6_method_6_code
def yX4_addBit : MethodName := ⟨RX4, "addBit", "(III)I"⟩
abbrev cX4_addGate : ByteArray := prog_6_method_7_code
def yX4_addGate : MethodName := ⟨RX4, "addGate", "(IIII)I"⟩
abbrev cX4_addBehind : ByteArray := prog_6_method_8_code
def yX4_addBehind : MethodName := ⟨RX4, "addBehind", "(I)I"⟩
abbrev cX4_valueOf : ByteArray := prog_6_method_9_code
def yX4_valueOf : MethodName := ⟨RX4, "valueOf", "(II)I"⟩
abbrev cX4_hasBothValues : ByteArray := prog_6_method_10_code
def yX4_hasBothValues : MethodName := ⟨RX4, "hasBothValues", "(III)Z"⟩
abbrev cX4_bitsOfSet : ByteArray := prog_6_method_11_code
def yX4_bitsOfSet : MethodName := ⟨RX4, "bitsOfSet", "(I)I"⟩
abbrev cX4_clocksInUse : ByteArray := prog_6_method_12_code
def yX4_clocksInUse : MethodName := ⟨RX4, "clocksInUse", "()I"⟩
abbrev cX4_bitsBetween : ByteArray := prog_6_method_13_code
def yX4_bitsBetween : MethodName := ⟨RX4, "bitsBetween", "(II)I"⟩
abbrev cX4_foreignBits : ByteArray := prog_6_method_14_code
def yX4_foreignBits : MethodName := ⟨RX4, "foreignBits", "(I)I"⟩
abbrev cX4_asCells : ByteArray := prog_6_method_15_code
def yX4_asCells : MethodName := ⟨RX4, "asCells", "(I)I"⟩
abbrev cX4_put : ByteArray := prog_6_method_16_code
def yX4_put : MethodName := ⟨RX4, "put", "(IIIII)V"⟩
abbrev cX4_workOut : ByteArray := prog_6_method_17_code
def yX4_workOut : MethodName := ⟨RX4, "workOut", "(I)V"⟩
abbrev cX4_wordOfBit : ByteArray := prog_6_method_18_code
def yX4_wordOfBit : MethodName := ⟨RX4, "wordOfBit", "(II)J"⟩
abbrev cX4_wordOfGate : ByteArray := prog_6_method_19_code
def yX4_wordOfGate : MethodName := ⟨RX4, "wordOfGate", "(IJJJ)J"⟩
def RX5 : String := "ClockCourt$Promises"
def TX5 : u_T := fun k => match k with
  | 0 => ("ClockCourt$Promises", "net", "LClockCourt$Net;", true)
  | 1 => ("ClockCourt$Promises", "size", "I", false)
  | 2 => ("ClockCourt$Promises", "kind", "[I", true)
  | 3 => ("ClockCourt$Promises", "x", "[I", true)
  | 4 => ("ClockCourt$Promises", "y", "[I", true)
  | _ => ("ClockCourt$Promises", "span", "[I", true)
def tyX5 : Nat → FieldType := fun k => match k with
  | 0 => .object "ClockCourt$Net"
  | 1 => .int
  | 2 => .array .int
  | 3 => .array .int
  | 4 => .array .int
  | _ => .array .int
abbrev wsX50 : List Cond := u_ws RX5 TX5 6
theorem nmX5 : ∀ a, a < 6 → ∀ b, b < 6 → a ≠ b → (TX5 a).2.1 ≠ (TX5 b).2.1 := by decide +kernel
theorem tyX5_ok : ∀ k, k < 6 → parseFieldDescriptor (TX5 k).2.2.1 = some (tyX5 k) := by decide +kernel
abbrev cX5_init : ByteArray := prog_7_method_1_code
def yX5_init : MethodName := ⟨RX5, "<init>", "(LClockCourt$Net;)V"⟩
abbrev cX5_has : ByteArray := prog_7_method_2_code
def yX5_has : MethodName := ⟨RX5, "has", "(I)Z"⟩
abbrev cX5_add : ByteArray := prog_7_method_3_code
def yX5_add : MethodName := ⟨RX5, "add", "(III)I"⟩
abbrev cX5_holds : ByteArray := prog_7_method_4_code
def yX5_holds : MethodName := ⟨RX5, "holds", "(III)Z"⟩
def RX6 : String := "ClockCourt$Row"
def TX6 : u_T := fun k => match k with
  | 0 => ("ClockCourt$Row", "of", "I", true)
  | _ => ("ClockCourt$Row", "elements", "[I", true)
def tyX6 : Nat → FieldType := fun k => match k with
  | 0 => .int
  | _ => .array .int
abbrev wsX60 : List Cond := u_ws RX6 TX6 2
theorem nmX6 : ∀ a, a < 2 → ∀ b, b < 2 → a ≠ b → (TX6 a).2.1 ≠ (TX6 b).2.1 := by decide +kernel
theorem tyX6_ok : ∀ k, k < 2 → parseFieldDescriptor (TX6 k).2.2.1 = some (tyX6 k) := by decide +kernel
abbrev cX6_init : ByteArray := prog_8_method_1_code
def yX6_init : MethodName := ⟨RX6, "<init>", "(II)V"⟩
abbrev cX6_hasSpan : ByteArray := prog_8_method_2_code
def yX6_hasSpan : MethodName := ⟨RX6, "hasSpan", "(II)Z"⟩
abbrev cX6_weigh : ByteArray := prog_8_method_3_code
def yX6_weigh : MethodName := ⟨RX6, "weigh", "()I"⟩
abbrev cX6_clockOfFailure : ByteArray := prog_8_method_4_code
def yX6_clockOfFailure : MethodName := ⟨RX6, "clockOfFailure", "()I"⟩
def RX7 : String := "ClockCourt$Run"
def TX7 : u_T := fun k => match k with
  | 0 => ("ClockCourt$Run", "net", "LClockCourt$Net;", true)
  | 1 => ("ClockCourt$Run", "bounds", "LClockCourt$Bounds;", true)
  | 2 => ("ClockCourt$Run", "step", "LClockCourt$Step;", true)
  | 3 => ("ClockCourt$Run", "moments", "I", false)
  | 4 => ("ClockCourt$Run", "eithers", "I", false)
  | 5 => ("ClockCourt$Run", "ticks", "J", false)
  | 6 => ("ClockCourt$Run", "bits", "[I", true)
  | _ => ("ClockCourt$Run", "clocks", "[I", true)
def tyX7 : Nat → FieldType := fun k => match k with
  | 0 => .object "ClockCourt$Net"
  | 1 => .object "ClockCourt$Bounds"
  | 2 => .object "ClockCourt$Step"
  | 3 => .int
  | 4 => .int
  | 5 => .long
  | 6 => .array .int
  | _ => .array .int
abbrev wsX70 : List Cond := u_ws RX7 TX7 8
theorem nmX7 : ∀ a, a < 8 → ∀ b, b < 8 → a ≠ b → (TX7 a).2.1 ≠ (TX7 b).2.1 := by decide +kernel
theorem tyX7_ok : ∀ k, k < 8 → parseFieldDescriptor (TX7 k).2.2.1 = some (tyX7 k) := by decide +kernel
abbrev cX7_init : ByteArray := prog_9_method_1_code
def yX7_init : MethodName := ⟨RX7, "<init>", "(LClockCourt$Net;LClockCourt$Bounds;LClockCourt$Step;)V"⟩
abbrev cX7_begin : ByteArray := prog_9_method_2_code
def yX7_begin : MethodName := ⟨RX7, "begin", "()V"⟩
abbrev cX7_bitsNow : ByteArray := prog_9_method_3_code
def yX7_bitsNow : MethodName := ⟨RX7, "bitsNow", "()I"⟩
abbrev cX7_go : ByteArray := prog_9_method_4_code
def yX7_go : MethodName := ⟨RX7, "go", "(III)I"⟩
def RX8 : String := "ClockCourt$Step"
def TX8 : u_T := fun k => match k with
  | 0 => ("ClockCourt$Step", "net", "LClockCourt$Net;", true)
  | 1 => ("ClockCourt$Step", "old", "I", false)
  | 2 => ("ClockCourt$Step", "ticking", "I", false)
  | 3 => ("ClockCourt$Step", "sampled", "I", false)
  | 4 => ("ClockCourt$Step", "plain", "I", false)
  | 5 => ("ClockCourt$Step", "inputBits", "I", false)
  | _ => ("ClockCourt$Step", "eithers", "I", false)
def tyX8 : Nat → FieldType := fun k => match k with
  | 0 => .object "ClockCourt$Net"
  | 1 => .int
  | 2 => .int
  | 3 => .int
  | 4 => .int
  | 5 => .int
  | _ => .int
abbrev wsX80 : List Cond := u_ws RX8 TX8 7
theorem nmX8 : ∀ a, a < 7 → ∀ b, b < 7 → a ≠ b → (TX8 a).2.1 ≠ (TX8 b).2.1 := by decide +kernel
theorem tyX8_ok : ∀ k, k < 7 → parseFieldDescriptor (TX8 k).2.2.1 = some (tyX8 k) := by decide +kernel
abbrev cX8_init : ByteArray := prog_10_method_1_code
def yX8_init : MethodName := ⟨RX8, "<init>", "(LClockCourt$Net;)V"⟩
abbrev cX8_tick : ByteArray := prog_10_method_2_code
def yX8_tick : MethodName := ⟨RX8, "tick", "(II)V"⟩
abbrev cX8_choose : ByteArray := prog_10_method_3_code
def yX8_choose : MethodName := ⟨RX8, "choose", "(I)V"⟩
abbrev cX8_behind : ByteArray := prog_10_method_4_code
def yX8_behind : MethodName := ⟨RX8, "behind", "(I)I"⟩
abbrev cX8_isEither : ByteArray := prog_10_method_5_code
def yX8_isEither : MethodName := ⟨RX8, "isEither", "(II)Z"⟩
abbrev cX8_spread : ByteArray := prog_10_method_6_code
def yX8_spread : MethodName := ⟨RX8, "spread", "(II)I"⟩
def RX9 : String := "ClockCourt$Walk"
def TX9 : u_T := fun k => match k with
  | 0 => ("ClockCourt$Walk", "net", "LClockCourt$Net;", true)
  | 1 => ("ClockCourt$Walk", "bounds", "LClockCourt$Bounds;", true)
  | 2 => ("ClockCourt$Walk", "promises", "LClockCourt$Promises;", true)
  | 3 => ("ClockCourt$Walk", "step", "LClockCourt$Step;", true)
  | 4 => ("ClockCourt$Walk", "ways", "LClockCourt$Ways;", true)
  | 5 => ("ClockCourt$Walk", "states", "I", false)
  | 6 => ("ClockCourt$Walk", "looked", "I", false)
  | 7 => ("ClockCourt$Walk", "moments", "I", false)
  | 8 => ("ClockCourt$Walk", "spent", "Z", false)
  | 9 => ("ClockCourt$Walk", "bits", "[I", true)
  | 10 => ("ClockCourt$Walk", "ticks", "[J", true)
  | 11 => ("ClockCourt$Walk", "depth", "[I", true)
  | 12 => ("ClockCourt$Walk", "follows", "[I", true)
  | 13 => ("ClockCourt$Walk", "bringing", "[I", true)
  | 14 => ("ClockCourt$Walk", "breaking", "[I", true)
  | 15 => ("ClockCourt$Walk", "slots", "[I", true)
  | _ => ("ClockCourt$Walk", "way", "[I", true)
def tyX9 : Nat → FieldType := fun k => match k with
  | 0 => .object "ClockCourt$Net"
  | 1 => .object "ClockCourt$Bounds"
  | 2 => .object "ClockCourt$Promises"
  | 3 => .object "ClockCourt$Step"
  | 4 => .object "ClockCourt$Ways"
  | 5 => .int
  | 6 => .int
  | 7 => .int
  | 8 => .boolean
  | 9 => .array .int
  | 10 => .array .long
  | 11 => .array .int
  | 12 => .array .int
  | 13 => .array .int
  | 14 => .array .int
  | 15 => .array .int
  | _ => .array .int
abbrev wsX90 : List Cond := u_ws RX9 TX9 17
theorem nmX9 : ∀ a, a < 17 → ∀ b, b < 17 → a ≠ b → (TX9 a).2.1 ≠ (TX9 b).2.1 := by decide +kernel
theorem tyX9_ok : ∀ k, k < 17 → parseFieldDescriptor (TX9 k).2.2.1 = some (tyX9 k) := by decide +kernel
abbrev cX9_init : ByteArray := prog_11_method_1_code
def yX9_init : MethodName := ⟨RX9, "<init>", "(LClockCourt$Net;LClockCourt$Bounds;LClockCourt$Promises;LClockCourt$Step;)V"⟩
abbrev cX9_hasState : ByteArray := prog_11_method_2_code
def yX9_hasState : MethodName := ⟨RX9, "hasState", "(I)Z"⟩
abbrev cX9_breaks : ByteArray := prog_11_method_3_code
def yX9_breaks : MethodName := ⟨RX9, "breaks", "(I)Z"⟩
abbrev cX9_forget : ByteArray := prog_11_method_4_code
def yX9_forget : MethodName := ⟨RX9, "forget", "()V"⟩
abbrev cX9_begin : ByteArray := prog_11_method_5_code
def yX9_begin : MethodName := ⟨RX9, "begin", "()V"⟩
abbrev cX9_goesOn : ByteArray := prog_11_method_6_code
def yX9_goesOn : MethodName := ⟨RX9, "goesOn", "(I)Z"⟩
abbrev cX9_lead : ByteArray := prog_11_method_7_code
def yX9_lead : MethodName := ⟨RX9, "lead", "(ILClockCourt$Run;)V"⟩
abbrev cX9_lookAt : ByteArray := prog_11_method_8_code
def yX9_lookAt : MethodName := ⟨RX9, "lookAt", "(I)V"⟩
abbrev cX9_lookAtSet : ByteArray := prog_11_method_9_code
def yX9_lookAtSet : MethodName := ⟨RX9, "lookAtSet", "(IIJ)V"⟩
abbrev cX9_arrive : ByteArray := prog_11_method_10_code
def yX9_arrive : MethodName := ⟨RX9, "arrive", "(IIIIJ)V"⟩
abbrev cX9_addState : ByteArray := prog_11_method_11_code
def yX9_addState : MethodName := ⟨RX9, "addState", "(IIJI)V"⟩
abbrev cX9_judge : ByteArray := prog_11_method_12_code
def yX9_judge : MethodName := ⟨RX9, "judge", "(IIIII)V"⟩
abbrev cX9_tell : ByteArray := prog_11_method_13_code
def yX9_tell : MethodName := ⟨RX9, "tell", "([IIIIIII)V"⟩
abbrev cX9_slotOf : ByteArray := prog_11_method_14_code
def yX9_slotOf : MethodName := ⟨RX9, "slotOf", "(IJ)I"⟩
def RX10 : String := "ClockCourt$Ways"
def TX10 : u_T := fun k => match k with
  | 0 => ("ClockCourt$Ways", "ends", "[J", true)
  | 1 => ("ClockCourt$Ways", "closes", "[I", true)
  | 2 => ("ClockCourt$Ways", "least", "[I", true)
  | 3 => ("ClockCourt$Ways", "settled", "[Z", true)
  | _ => ("ClockCourt$Ways", "measured", "Z", false)
def tyX10 : Nat → FieldType := fun k => match k with
  | 0 => .array .long
  | 1 => .array .int
  | 2 => .array .int
  | 3 => .array .boolean
  | _ => .boolean
abbrev wsX100 : List Cond := u_ws RX10 TX10 5
theorem nmX10 : ∀ a, a < 5 → ∀ b, b < 5 → a ≠ b → (TX10 a).2.1 ≠ (TX10 b).2.1 := by decide +kernel
theorem tyX10_ok : ∀ k, k < 5 → parseFieldDescriptor (TX10 k).2.2.1 = some (tyX10 k) := by decide +kernel
abbrev cX10_init : ByteArray := prog_12_method_1_code
def yX10_init : MethodName := ⟨RX10, "<init>", "()V"⟩
abbrev cX10_clear : ByteArray := prog_12_method_2_code
def yX10_clear : MethodName := ⟨RX10, "clear", "()V"⟩
abbrev cX10_add : ByteArray := prog_12_method_3_code
def yX10_add : MethodName := ⟨RX10, "add", "(III)V"⟩
abbrev cX10_close : ByteArray := prog_12_method_4_code
def yX10_close : MethodName := ⟨RX10, "close", "(II)V"⟩
abbrev cX10_fewestTo : ByteArray := prog_12_method_5_code
def yX10_fewestTo : MethodName := ⟨RX10, "fewestTo", "(III)I"⟩
abbrev cX10_measure : ByteArray := prog_12_method_6_code
def yX10_measure : MethodName := ⟨RX10, "measure", "(II)V"⟩
abbrev cX10_nearest : ByteArray := prog_12_method_7_code
def yX10_nearest : MethodName := ⟨RX10, "nearest", "(I)I"⟩
abbrev cX10_goOnFrom : ByteArray := prog_12_method_8_code
def yX10_goOnFrom : MethodName := ⟨RX10, "goOnFrom", "(I)V"⟩
def RX11 : String := "ClockCourt"
def TX11 : u_T := fun k => match k with
  | 0 => ("ClockCourt", "net", "LClockCourt$Net;", true)
  | 1 => ("ClockCourt", "bounds", "LClockCourt$Bounds;", true)
  | 2 => ("ClockCourt", "promises", "LClockCourt$Promises;", true)
  | 3 => ("ClockCourt", "run", "LClockCourt$Run;", true)
  | 4 => ("ClockCourt", "walked", "LClockCourt$Walk;", true)
  | _ => ("ClockCourt", "shelves", "[LClockCourt$Held;", true)
def tyX11 : Nat → FieldType := fun k => match k with
  | 0 => .object "ClockCourt$Net"
  | 1 => .object "ClockCourt$Bounds"
  | 2 => .object "ClockCourt$Promises"
  | 3 => .object "ClockCourt$Run"
  | 4 => .object "ClockCourt$Walk"
  | _ => .array (.object "ClockCourt$Held")
abbrev wsX110 : List Cond := u_ws RX11 TX11 6
theorem nmX11 : ∀ a, a < 6 → ∀ b, b < 6 → a ≠ b → (TX11 a).2.1 ≠ (TX11 b).2.1 := by decide +kernel
theorem tyX11_ok : ∀ k, k < 6 → parseFieldDescriptor (TX11 k).2.2.1 = some (tyX11 k) := by decide +kernel
abbrev cX11_init : ByteArray := prog_1_method_1_code
def yX11_init : MethodName := ⟨RX11, "<init>", "()V"⟩
abbrev cX11_input : ByteArray := prog_1_method_2_code
def yX11_input : MethodName := ⟨RX11, "input", "(I)I"⟩
abbrev cX11_keeper : ByteArray := prog_1_method_3_code
def yX11_keeper : MethodName := ⟨RX11, "keeper", "(II)I"⟩
abbrev cX11_gate : ByteArray := prog_1_method_4_code
def yX11_gate : MethodName := ⟨RX11, "gate", "(IIII)I"⟩
abbrev cX11_connect : ByteArray := prog_1_method_5_code
def yX11_connect : MethodName := ⟨RX11, "connect", "(II)I"⟩
abbrev cX11_bound : ByteArray := prog_1_method_6_code
def yX11_bound : MethodName := ⟨RX11, "bound", "(III)I"⟩
abbrev cX11_still : ByteArray := prog_1_method_7_code
def yX11_still : MethodName := ⟨RX11, "still", "(IZ)I"⟩
abbrev cX11_promise : ByteArray := prog_1_method_8_code
def yX11_promise : MethodName := ⟨RX11, "promise", "(III)I"⟩
abbrev cX11_start : ByteArray := prog_1_method_9_code
def yX11_start : MethodName := ⟨RX11, "start", "()I"⟩
abbrev cX11_moment : ByteArray := prog_1_method_10_code
def yX11_moment : MethodName := ⟨RX11, "moment", "(III)I"⟩
abbrev cX11_value : ByteArray := prog_1_method_11_code
def yX11_value : MethodName := ⟨RX11, "value", "(I)I"⟩
abbrev cX11_either : ByteArray := prog_1_method_12_code
def yX11_either : MethodName := ⟨RX11, "either", "(I)I"⟩
abbrev cX11_ticks : ByteArray := prog_1_method_13_code
def yX11_ticks : MethodName := ⟨RX11, "ticks", "(II)I"⟩
abbrev cX11_broken : ByteArray := prog_1_method_14_code
def yX11_broken : MethodName := ⟨RX11, "broken", "(I)I"⟩
abbrev cX11_walk : ByteArray := prog_1_method_15_code
def yX11_walk : MethodName := ⟨RX11, "walk", "()I"⟩
abbrev cX11_state : ByteArray := prog_1_method_16_code
def yX11_state : MethodName := ⟨RX11, "state", "(II)I"⟩
abbrev cX11_shown : ByteArray := prog_1_method_17_code
def yX11_shown : MethodName := ⟨RX11, "shown", "(II)I"⟩
abbrev cX11_never : ByteArray := prog_1_method_18_code
def yX11_never : MethodName := ⟨RX11, "never", "(II)I"⟩
abbrev cX11_follow : ByteArray := prog_1_method_19_code
def yX11_follow : MethodName := ⟨RX11, "follow", "(I)I"⟩
abbrev cX11_fewest : ByteArray := prog_1_method_20_code
def yX11_fewest : MethodName := ⟨RX11, "fewest", "(I)I"⟩
abbrev cX11_crossings : ByteArray := prog_1_method_21_code
def yX11_crossings : MethodName := ⟨RX11, "crossings", "()I"⟩
abbrev cX11_crossing : ByteArray := prog_1_method_22_code
def yX11_crossing : MethodName := ⟨RX11, "crossing", "(II)I"⟩
abbrev cX11_mend : ByteArray := prog_1_method_23_code
def yX11_mend : MethodName := ⟨RX11, "mend", "(I)I"⟩
abbrev cX11_count : ByteArray := prog_1_method_24_code
def yX11_count : MethodName := ⟨RX11, "count", "(I)I"⟩
abbrev cX11_look : ByteArray := prog_1_method_25_code
def yX11_look : MethodName := ⟨RX11, "look", "(II)I"⟩
abbrev cX11_keep : ByteArray := prog_1_method_26_code
def yX11_keep : MethodName := ⟨RX11, "keep", "(III)I"⟩
abbrev cX11_make : ByteArray := prog_1_method_27_code
def yX11_make : MethodName := ⟨RX11, "make", "(III)I"⟩
abbrev cX11_element : ByteArray := prog_1_method_28_code
def yX11_element : MethodName := ⟨RX11, "element", "(II)J"⟩
abbrev cX11_copy : ByteArray := prog_1_method_29_code
def yX11_copy : MethodName := ⟨RX11, "copy", "(IIIII)I"⟩
abbrev cX11_weight : ByteArray := prog_1_method_30_code
def yX11_weight : MethodName := ⟨RX11, "weight", "(I)I"⟩
abbrev cX11_toss : ByteArray := prog_1_method_31_code
def yX11_toss : MethodName := ⟨RX11, "toss", "(I)I"⟩
abbrev cX11_isClock : ByteArray := prog_1_method_32_code
def yX11_isClock : MethodName := ⟨RX11, "isClock", "(I)Z"⟩
abbrev cX11_isShelf : ByteArray := prog_1_method_33_code
def yX11_isShelf : MethodName := ⟨RX11, "isShelf", "(I)Z"⟩
abbrev cX11_addBit : ByteArray := prog_1_method_34_code
def yX11_addBit : MethodName := ⟨RX11, "addBit", "(III)I"⟩
abbrev cX11_beginAnew : ByteArray := prog_1_method_35_code
def yX11_beginAnew : MethodName := ⟨RX11, "beginAnew", "()V"⟩
abbrev cX11_rowOfValues : ByteArray := prog_1_method_36_code
def yX11_rowOfValues : MethodName := ⟨RX11, "rowOfValues", "()LClockCourt$Row;"⟩
abbrev cX11_rowOfClocks : ByteArray := prog_1_method_37_code
def yX11_rowOfClocks : MethodName := ⟨RX11, "rowOfClocks", "()LClockCourt$Row;"⟩
def RX12 : String := "ClockCourtModel"
def TX12 : u_T := fun k => match k with
  | 0 => ("ClockCourtModel", "thrown", "I", false)
  | 1 => ("ClockCourtModel", "cells", "I", false)
  | 2 => ("ClockCourtModel", "bits", "I", false)
  | 3 => ("ClockCourtModel", "kind", "[I", true)
  | 4 => ("ClockCourtModel", "clock", "[I", true)
  | 5 => ("ClockCourtModel", "first", "[I", true)
  | 6 => ("ClockCourtModel", "x", "[I", true)
  | 7 => ("ClockCourtModel", "y", "[I", true)
  | 8 => ("ClockCourtModel", "z", "[I", true)
  | 9 => ("ClockCourtModel", "isStill", "[Z", true)
  | 10 => ("ClockCourtModel", "bound", "[I", true)
  | 11 => ("ClockCourtModel", "promises", "I", false)
  | 12 => ("ClockCourtModel", "pKind", "[I", true)
  | 13 => ("ClockCourtModel", "pX", "[I", true)
  | 14 => ("ClockCourtModel", "pY", "[I", true)
  | 15 => ("ClockCourtModel", "moments", "I", false)
  | 16 => ("ClockCourtModel", "shown", "[I", true)
  | 17 => ("ClockCourtModel", "runClocks", "[I", true)
  | 18 => ("ClockCourtModel", "since", "[I", true)
  | 19 => ("ClockCourtModel", "eitherCells", "[I", true)
  | 20 => ("ClockCourtModel", "eithers", "I", false)
  | 21 => ("ClockCourtModel", "ahead", "I", false)
  | 22 => ("ClockCourtModel", "plain", "I", false)
  | 23 => ("ClockCourtModel", "changing", "I", false)
  | 24 => ("ClockCourtModel", "either", "I", false)
  | 25 => ("ClockCourtModel", "walked", "Z", false)
  | 26 => ("ClockCourtModel", "spent", "Z", false)
  | 27 => ("ClockCourtModel", "states", "I", false)
  | 28 => ("ClockCourtModel", "looked", "I", false)
  | 29 => ("ClockCourtModel", "tried", "I", false)
  | 30 => ("ClockCourtModel", "stateValue", "[I", true)
  | 31 => ("ClockCourtModel", "stateSince", "[I", true)
  | 32 => ("ClockCourtModel", "cameFrom", "[I", true)
  | 33 => ("ClockCourtModel", "cameClocks", "[I", true)
  | 34 => ("ClockCourtModel", "cameInputs", "[I", true)
  | 35 => ("ClockCourtModel", "cameOthers", "[I", true)
  | 36 => ("ClockCourtModel", "deep", "[I", true)
  | 37 => ("ClockCourtModel", "follows", "[I", true)
  | 38 => ("ClockCourtModel", "moves", "I", false)
  | 39 => ("ClockCourtModel", "moveFrom", "[I", true)
  | 40 => ("ClockCourtModel", "moveTo", "[I", true)
  | 41 => ("ClockCourtModel", "moveTurned", "[I", true)
  | 42 => ("ClockCourtModel", "never", "[I", true)
  | 43 => ("ClockCourtModel", "isNever", "[Z", true)
  | 44 => ("ClockCourtModel", "next", "[I", true)
  | 45 => ("ClockCourtModel", "cost", "[I", true)
  | 46 => ("ClockCourtModel", "shelf", "[I", true)
  | 47 => ("ClockCourtModel", "shelfSize", "[I", true)
  | 48 => ("ClockCourtModel", "shelfWeight", "[I", true)
  | 49 => ("ClockCourtModel", "shelfClock", "[I", true)
  | 50 => ("ClockCourtModel", "shelfRow", "[I", true)
  | _ => ("ClockCourtModel", "between", "[I", true)
def tyX12 : Nat → FieldType := fun k => match k with
  | 0 => .int
  | 1 => .int
  | 2 => .int
  | 3 => .array .int
  | 4 => .array .int
  | 5 => .array .int
  | 6 => .array .int
  | 7 => .array .int
  | 8 => .array .int
  | 9 => .array .boolean
  | 10 => .array .int
  | 11 => .int
  | 12 => .array .int
  | 13 => .array .int
  | 14 => .array .int
  | 15 => .int
  | 16 => .array .int
  | 17 => .array .int
  | 18 => .array .int
  | 19 => .array .int
  | 20 => .int
  | 21 => .int
  | 22 => .int
  | 23 => .int
  | 24 => .int
  | 25 => .boolean
  | 26 => .boolean
  | 27 => .int
  | 28 => .int
  | 29 => .int
  | 30 => .array .int
  | 31 => .array .int
  | 32 => .array .int
  | 33 => .array .int
  | 34 => .array .int
  | 35 => .array .int
  | 36 => .array .int
  | 37 => .array .int
  | 38 => .int
  | 39 => .array .int
  | 40 => .array .int
  | 41 => .array .int
  | 42 => .array .int
  | 43 => .array .boolean
  | 44 => .array .int
  | 45 => .array .int
  | 46 => .array .int
  | 47 => .array .int
  | 48 => .array .int
  | 49 => .array .int
  | 50 => .array .int
  | _ => .array .int
abbrev wsX120 : List Cond := u_ws RX12 TX12 52
theorem nmX12 : ∀ a, a < 52 → ∀ b, b < 52 → a ≠ b → (TX12 a).2.1 ≠ (TX12 b).2.1 := by decide +kernel
theorem tyX12_ok : ∀ k, k < 52 → parseFieldDescriptor (TX12 k).2.2.1 = some (tyX12 k) := by decide +kernel
abbrev cX12_init : ByteArray := prog_14_method_1_code
def yX12_init : MethodName := ⟨RX12, "<init>", "()V"⟩
abbrev cX12_thrown : ByteArray := prog_14_method_2_code
def yX12_thrown : MethodName := ⟨RX12, "thrown", "()I"⟩
abbrev cX12_isIn : ByteArray := prog_14_method_3_code
def yX12_isIn : MethodName := ⟨RX12, "isIn", "(JJJ)Z"⟩
abbrev cX12_isCell : ByteArray := prog_14_method_4_code
def yX12_isCell : MethodName := ⟨RX12, "isCell", "(I)Z"⟩
abbrev cX12_isBit : ByteArray := prog_14_method_5_code
def yX12_isBit : MethodName := ⟨RX12, "isBit", "(I)Z"⟩
abbrev cX12_isKeeper : ByteArray := prog_14_method_6_code
def yX12_isKeeper : MethodName := ⟨RX12, "isKeeper", "(I)Z"⟩
abbrev cX12_bitOf : ByteArray := prog_14_method_7_code
def yX12_bitOf : MethodName := ⟨RX12, "bitOf", "(II)I"⟩
abbrev cX12_settle : ByteArray := prog_14_method_8_code
def yX12_settle : MethodName := ⟨RX12, "settle", "(I)I"⟩
abbrev cX12_beginning : ByteArray := prog_14_method_9_code
def yX12_beginning : MethodName := ⟨RX12, "beginning", "()I"⟩
abbrev cX12_begin : ByteArray := prog_14_method_10_code
def yX12_begin : MethodName := ⟨RX12, "begin", "()V"⟩
abbrev cX12_changed : ByteArray := prog_14_method_11_code
def yX12_changed : MethodName := ⟨RX12, "changed", "()V"⟩
abbrev cX12_input : ByteArray := prog_14_method_12_code
def yX12_input : MethodName := ⟨RX12, "input", "(I)I"⟩
abbrev cX12_add : ByteArray := prog_14_method_13_code
def yX12_add : MethodName := ⟨RX12, "add", "(III)V"⟩
abbrev cX12_keeper : ByteArray := prog_14_method_14_code
def yX12_keeper : MethodName := ⟨RX12, "keeper", "(II)I"⟩
abbrev cX12_gate : ByteArray := prog_14_method_15_code
def yX12_gate : MethodName := ⟨RX12, "gate", "(IIII)I"⟩
abbrev cX12_connect : ByteArray := prog_14_method_16_code
def yX12_connect : MethodName := ⟨RX12, "connect", "(II)I"⟩
abbrev cX12_bound : ByteArray := prog_14_method_17_code
def yX12_bound : MethodName := ⟨RX12, "bound", "(III)I"⟩
abbrev cX12_still : ByteArray := prog_14_method_18_code
def yX12_still : MethodName := ⟨RX12, "still", "(IZ)I"⟩
abbrev cX12_promise : ByteArray := prog_14_method_19_code
def yX12_promise : MethodName := ⟨RX12, "promise", "(III)I"⟩
abbrev cX12_isTicking : ByteArray := prog_14_method_20_code
def yX12_isTicking : MethodName := ⟨RX12, "isTicking", "(II)Z"⟩
abbrev cX12_then : ByteArray := prog_14_method_21_code
def yX12_then : MethodName := ⟨RX12, "then", "(III)I"⟩
abbrev cX12_fits : ByteArray := prog_14_method_22_code
def yX12_fits : MethodName := ⟨RX12, "fits", "(II)Z"⟩
abbrev cX12_mixed : ByteArray := prog_14_method_23_code
def yX12_mixed : MethodName := ⟨RX12, "mixed", "(I)I"⟩
abbrev cX12_isEither : ByteArray := prog_14_method_24_code
def yX12_isEither : MethodName := ⟨RX12, "isEither", "(I)Z"⟩
abbrev cX12_look : ByteArray := prog_14_method_25_code
def yX12_look : MethodName := ⟨RX12, "look", "(III)V"⟩
abbrev cX12_countBits : ByteArray := prog_14_method_26_code
def yX12_countBits : MethodName := ⟨RX12, "countBits", "(I)I"⟩
abbrev cX12_behind : ByteArray := prog_14_method_27_code
def yX12_behind : MethodName := ⟨RX12, "behind", "(I)I"⟩
abbrev cX12_turned : ByteArray := prog_14_method_28_code
def yX12_turned : MethodName := ⟨RX12, "turned", "(I)I"⟩
abbrev cX12_isKept : ByteArray := prog_14_method_29_code
def yX12_isKept : MethodName := ⟨RX12, "isKept", "(IIIZ)Z"⟩
abbrev cX12_start : ByteArray := prog_14_method_30_code
def yX12_start : MethodName := ⟨RX12, "start", "()I"⟩
abbrev cX12_canBe : ByteArray := prog_14_method_31_code
def yX12_canBe : MethodName := ⟨RX12, "canBe", "(I)Z"⟩
abbrev cX12_go : ByteArray := prog_14_method_32_code
def yX12_go : MethodName := ⟨RX12, "go", "(III)V"⟩
abbrev cX12_moment : ByteArray := prog_14_method_33_code
def yX12_moment : MethodName := ⟨RX12, "moment", "(III)I"⟩
abbrev cX12_value : ByteArray := prog_14_method_34_code
def yX12_value : MethodName := ⟨RX12, "value", "(I)I"⟩
abbrev cX12_either : ByteArray := prog_14_method_35_code
def yX12_either : MethodName := ⟨RX12, "either", "(I)I"⟩
abbrev cX12_ticks : ByteArray := prog_14_method_36_code
def yX12_ticks : MethodName := ⟨RX12, "ticks", "(II)I"⟩
abbrev cX12_broken : ByteArray := prog_14_method_37_code
def yX12_broken : MethodName := ⟨RX12, "broken", "(I)I"⟩
abbrev cX12_unwalk : ByteArray := prog_14_method_38_code
def yX12_unwalk : MethodName := ⟨RX12, "unwalk", "()V"⟩
abbrev cX12_stateOf : ByteArray := prog_14_method_39_code
def yX12_stateOf : MethodName := ⟨RX12, "stateOf", "(I)I"⟩
abbrev cX12_addState : ByteArray := prog_14_method_40_code
def yX12_addState : MethodName := ⟨RX12, "addState", "(IIIII)V"⟩
abbrev cX12_lookAtPromises : ByteArray := prog_14_method_41_code
def yX12_lookAtPromises : MethodName := ⟨RX12, "lookAtPromises", "(IIIIIII)V"⟩
abbrev cX12_tryMove : ByteArray := prog_14_method_42_code
def yX12_tryMove : MethodName := ⟨RX12, "tryMove", "(IIII)V"⟩
abbrev cX12_inputsOf : ByteArray := prog_14_method_43_code
def yX12_inputsOf : MethodName := ⟨RX12, "inputsOf", "(I)I"⟩
abbrev cX12_trySet : ByteArray := prog_14_method_44_code
def yX12_trySet : MethodName := ⟨RX12, "trySet", "(II)V"⟩
abbrev cX12_clocksThere : ByteArray := prog_14_method_45_code
def yX12_clocksThere : MethodName := ⟨RX12, "clocksThere", "()I"⟩
abbrev cX12_walk : ByteArray := prog_14_method_46_code
def yX12_walk : MethodName := ⟨RX12, "walk", "()I"⟩
abbrev cX12_isState : ByteArray := prog_14_method_47_code
def yX12_isState : MethodName := ⟨RX12, "isState", "(I)Z"⟩
abbrev cX12_bitsOf : ByteArray := prog_14_method_48_code
def yX12_bitsOf : MethodName := ⟨RX12, "bitsOf", "(I)I"⟩
abbrev cX12_state : ByteArray := prog_14_method_49_code
def yX12_state : MethodName := ⟨RX12, "state", "(II)I"⟩
abbrev cX12_shown : ByteArray := prog_14_method_50_code
def yX12_shown : MethodName := ⟨RX12, "shown", "(II)I"⟩
abbrev cX12_never : ByteArray := prog_14_method_51_code
def yX12_never : MethodName := ⟨RX12, "never", "(II)I"⟩
abbrev cX12_follow : ByteArray := prog_14_method_52_code
def yX12_follow : MethodName := ⟨RX12, "follow", "(I)I"⟩
abbrev cX12_fewest : ByteArray := prog_14_method_53_code
def yX12_fewest : MethodName := ⟨RX12, "fewest", "(I)I"⟩
abbrev cX12_hangs : ByteArray := prog_14_method_54_code
def yX12_hangs : MethodName := ⟨RX12, "hangs", "(I)I"⟩
abbrev cX12_foreign : ByteArray := prog_14_method_55_code
def yX12_foreign : MethodName := ⟨RX12, "foreign", "(I)I"⟩
abbrev cX12_isCrossing : ByteArray := prog_14_method_56_code
def yX12_isCrossing : MethodName := ⟨RX12, "isCrossing", "(I)Z"⟩
abbrev cX12_crossingAt : ByteArray := prog_14_method_57_code
def yX12_crossingAt : MethodName := ⟨RX12, "crossingAt", "(I)I"⟩
abbrev cX12_isForeignBit : ByteArray := prog_14_method_58_code
def yX12_isForeignBit : MethodName := ⟨RX12, "isForeignBit", "(II)Z"⟩
abbrev cX12_isUsedOnce : ByteArray := prog_14_method_59_code
def yX12_isUsedOnce : MethodName := ⟨RX12, "isUsedOnce", "(I)Z"⟩
abbrev cX12_allStill : ByteArray := prog_14_method_60_code
def yX12_allStill : MethodName := ⟨RX12, "allStill", "(I)Z"⟩
abbrev cX12_isTwice : ByteArray := prog_14_method_61_code
def yX12_isTwice : MethodName := ⟨RX12, "isTwice", "(I)Z"⟩
abbrev cX12_isHeldOne : ByteArray := prog_14_method_62_code
def yX12_isHeldOne : MethodName := ⟨RX12, "isHeldOne", "(I)Z"⟩
abbrev cX12_kindOf : ByteArray := prog_14_method_63_code
def yX12_kindOf : MethodName := ⟨RX12, "kindOf", "(I)I"⟩
abbrev cX12_meets : ByteArray := prog_14_method_64_code
def yX12_meets : MethodName := ⟨RX12, "meets", "(I)Z"⟩
abbrev cX12_crossings : ByteArray := prog_14_method_65_code
def yX12_crossings : MethodName := ⟨RX12, "crossings", "()I"⟩
abbrev cX12_crossing : ByteArray := prog_14_method_66_code
def yX12_crossing : MethodName := ⟨RX12, "crossing", "(II)I"⟩
abbrev cX12_mend : ByteArray := prog_14_method_67_code
def yX12_mend : MethodName := ⟨RX12, "mend", "(I)I"⟩
abbrev cX12_count : ByteArray := prog_14_method_68_code
def yX12_count : MethodName := ⟨RX12, "count", "(I)I"⟩
abbrev cX12_look_ : ByteArray := prog_14_method_69_code
def yX12_look_ : MethodName := ⟨RX12, "look", "(II)I"⟩
abbrev cX12_isShelf : ByteArray := prog_14_method_70_code
def yX12_isShelf : MethodName := ⟨RX12, "isShelf", "(I)Z"⟩
abbrev cX12_keep : ByteArray := prog_14_method_71_code
def yX12_keep : MethodName := ⟨RX12, "keep", "(III)I"⟩
abbrev cX12_make : ByteArray := prog_14_method_72_code
def yX12_make : MethodName := ⟨RX12, "make", "(III)I"⟩
abbrev cX12_element : ByteArray := prog_14_method_73_code
def yX12_element : MethodName := ⟨RX12, "element", "(II)J"⟩
abbrev cX12_hasPlaces : ByteArray := prog_14_method_74_code
def yX12_hasPlaces : MethodName := ⟨RX12, "hasPlaces", "(III)Z"⟩
abbrev cX12_copy : ByteArray := prog_14_method_75_code
def yX12_copy : MethodName := ⟨RX12, "copy", "(IIIII)I"⟩
abbrev cX12_denied : ByteArray := prog_14_method_76_code
def yX12_denied : MethodName := ⟨RX12, "denied", "(I)I"⟩
abbrev cX12_weight : ByteArray := prog_14_method_77_code
def yX12_weight : MethodName := ⟨RX12, "weight", "(I)I"⟩
abbrev cX12_toss : ByteArray := prog_14_method_78_code
def yX12_toss : MethodName := ⟨RX12, "toss", "(I)I"⟩
def RJ6 : String := "java/lang/Integer"
def TJ6 : u_T := fun k => match k with
  | _ => ("", "", "", false)
def tyJ6 : Nat → FieldType := fun k => match k with
  | _ => .int
abbrev wsJ60 : List Cond := u_ws RJ6 TJ6 0
theorem nmJ6 : ∀ a, a < 0 → ∀ b, b < 0 → a ≠ b → (TJ6 a).2.1 ≠ (TJ6 b).2.1 := by decide +kernel
theorem tyJ6_ok : ∀ k, k < 0 → parseFieldDescriptor (TJ6 k).2.2.1 = some (tyJ6 k) := by decide +kernel
abbrev cJ6_bitCount_0f7a4 : ByteArray := prog_18_method_49_code
def yJ6_bitCount_0f7a4 : MethodName := ⟨RJ6, "bitCount", "(I)I"⟩
def RJ0 : String := "java/lang/String"
def TJ0 : u_T := fun k => match k with
  | _ => ("", "", "", false)
def tyJ0 : Nat → FieldType := fun k => match k with
  | _ => .int
abbrev wsJ00 : List Cond := u_ws RJ0 TJ0 0
theorem nmJ0 : ∀ a, a < 0 → ∀ b, b < 0 → a ≠ b → (TJ0 a).2.1 ≠ (TJ0 b).2.1 := by decide +kernel
theorem tyJ0_ok : ∀ k, k < 0 → parseFieldDescriptor (TJ0 k).2.2.1 = some (tyJ0 k) := by decide +kernel
def RJ10 : String := "java/lang/System"
def TJ10 : u_T := fun k => match k with
  | _ => ("", "", "", false)
def tyJ10 : Nat → FieldType := fun k => match k with
  | _ => .int
abbrev wsJ100 : List Cond := u_ws RJ10 TJ10 0
theorem nmJ10 : ∀ a, a < 0 → ∀ b, b < 0 → a ≠ b → (TJ10 a).2.1 ≠ (TJ10 b).2.1 := by decide +kernel
theorem tyJ10_ok : ∀ k, k < 0 → parseFieldDescriptor (TJ10 k).2.2.1 = some (tyJ10 k) := by decide +kernel
def RJ7 : String := "java/util/Arrays"
def TJ7 : u_T := fun k => match k with
  | _ => ("", "", "", false)
def tyJ7 : Nat → FieldType := fun k => match k with
  | _ => .int
abbrev wsJ70 : List Cond := u_ws RJ7 TJ7 0
theorem nmJ7 : ∀ a, a < 0 → ∀ b, b < 0 → a ≠ b → (TJ7 a).2.1 ≠ (TJ7 b).2.1 := by decide +kernel
theorem tyJ7_ok : ∀ k, k < 0 → parseFieldDescriptor (TJ7 k).2.2.1 = some (tyJ7 k) := by decide +kernel
abbrev cJ7_fill_d0a16 : ByteArray := prog_23_method_101_code
def yJ7_fill_d0a16 : MethodName := ⟨RJ7, "fill", "([JJ)V"⟩
abbrev cJ7_fill_53178 : ByteArray := prog_23_method_103_code
def yJ7_fill_53178 : MethodName := ⟨RJ7, "fill", "([II)V"⟩
def RL : String := "ClockCourtLaw"
abbrev cL_element : ByteArray := method_3_code
def yL_element : MethodName := ⟨RL, "element", "(LClockCourt;II[J)I"⟩
abbrev cL_law : ByteArray := code
def yL_law : MethodName := ⟨RL, "law", "([I)Z"⟩
abbrev vwCl : List vw_C := [(RX0, TX0, 1), (RX3, TX3, 4), (RX4, TX4, 15), (RX5, TX5, 6), (RX6, TX6, 2), (RX7, TX7, 8), (RX8, TX8, 7), (RX9, TX9, 17), (RX10, TX10, 5), (RX11, TX11, 6), (RX12, TX12, 52)]
end
section
theorem dX0_init_0 : decode cX0_init 0 = .ok (.aload_n 0, 1) := by decide +kernel
theorem dX0_init_1 : decode cX0_init 1 = .ok (.invokespecial 3, 3) := by decide +kernel
theorem dX0_init_4 : decode cX0_init 4 = .ok (.aload_n 0, 1) := by decide +kernel
theorem dX0_init_5 : decode cX0_init 5 = .ok (.bipush 16, 2) := by decide +kernel
theorem dX0_init_7 : decode cX0_init 7 = .ok (.newarray .int, 2) := by decide +kernel
theorem dX0_init_9 : decode cX0_init 9 = .ok (.putfield 11, 3) := by decide +kernel
theorem dX0_init_12 : decode cX0_init 12 = .ok (.return_, 1) := by decide +kernel
theorem dX0_limitOf_0 : decode cX0_limitOf 0 = .ok (.aload_n 0, 1) := by decide +kernel
theorem dX0_limitOf_1 : decode cX0_limitOf 1 = .ok (.getfield 11, 3) := by decide +kernel
theorem dX0_limitOf_4 : decode cX0_limitOf 4 = .ok (.iload_n 1, 1) := by decide +kernel
theorem dX0_limitOf_5 : decode cX0_limitOf 5 = .ok (.iconst 4, 1) := by decide +kernel
theorem dX0_limitOf_6 : decode cX0_limitOf 6 = .ok (.imul, 1) := by decide +kernel
theorem dX0_limitOf_7 : decode cX0_limitOf 7 = .ok (.iload_n 2, 1) := by decide +kernel
theorem dX0_limitOf_8 : decode cX0_limitOf 8 = .ok (.iadd, 1) := by decide +kernel
theorem dX0_limitOf_9 : decode cX0_limitOf 9 = .ok (.iaload, 1) := by decide +kernel
theorem dX0_limitOf_10 : decode cX0_limitOf 10 = .ok (.ireturn, 1) := by decide +kernel
theorem dX0_limit_0 : decode cX0_limit 0 = .ok (.aload_n 0, 1) := by decide +kernel
theorem dX0_limit_1 : decode cX0_limit 1 = .ok (.getfield 11, 3) := by decide +kernel
theorem dX0_limit_4 : decode cX0_limit 4 = .ok (.iload_n 1, 1) := by decide +kernel
theorem dX0_limit_5 : decode cX0_limit 5 = .ok (.iconst 4, 1) := by decide +kernel
theorem dX0_limit_6 : decode cX0_limit 6 = .ok (.imul, 1) := by decide +kernel
theorem dX0_limit_7 : decode cX0_limit 7 = .ok (.iload_n 2, 1) := by decide +kernel
theorem dX0_limit_8 : decode cX0_limit 8 = .ok (.iadd, 1) := by decide +kernel
theorem dX0_limit_9 : decode cX0_limit 9 = .ok (.iload_n 3, 1) := by decide +kernel
theorem dX0_limit_10 : decode cX0_limit 10 = .ok (.iastore, 1) := by decide +kernel
theorem dX0_limit_11 : decode cX0_limit 11 = .ok (.return_, 1) := by decide +kernel
theorem dX0_ticksOf_0 : decode cX0_ticksOf 0 = .ok (.lload_n 0, 1) := by decide +kernel
theorem dX0_ticksOf_1 : decode cX0_ticksOf 1 = .ok (.iconst 4, 1) := by decide +kernel
theorem dX0_ticksOf_2 : decode cX0_ticksOf 2 = .ok (.iload_n 2, 1) := by decide +kernel
theorem dX0_ticksOf_3 : decode cX0_ticksOf 3 = .ok (.iconst 4, 1) := by decide +kernel
theorem dX0_ticksOf_4 : decode cX0_ticksOf 4 = .ok (.imul, 1) := by decide +kernel
theorem dX0_ticksOf_5 : decode cX0_ticksOf 5 = .ok (.iload_n 3, 1) := by decide +kernel
theorem dX0_ticksOf_6 : decode cX0_ticksOf 6 = .ok (.iadd, 1) := by decide +kernel
theorem dX0_ticksOf_7 : decode cX0_ticksOf 7 = .ok (.imul, 1) := by decide +kernel
theorem dX0_ticksOf_8 : decode cX0_ticksOf 8 = .ok (.lshr, 1) := by decide +kernel
theorem dX0_ticksOf_9 : decode cX0_ticksOf 9 = .ok (.l2i, 1) := by decide +kernel
theorem dX0_ticksOf_10 : decode cX0_ticksOf 10 = .ok (.bipush 15, 2) := by decide +kernel
theorem dX0_ticksOf_12 : decode cX0_ticksOf 12 = .ok (.iand, 1) := by decide +kernel
theorem dX0_ticksOf_13 : decode cX0_ticksOf 13 = .ok (.ireturn, 1) := by decide +kernel
theorem dX0_behind_0 : decode cX0_behind 0 = .ok (.lload_n 1, 1) := by decide +kernel
theorem dX0_behind_1 : decode cX0_behind 1 = .ok (.lstore 4, 2) := by decide +kernel
theorem dX0_behind_3 : decode cX0_behind 3 = .ok (.iconst 0, 1) := by decide +kernel
theorem dX0_behind_4 : decode cX0_behind 4 = .ok (.istore 6, 2) := by decide +kernel
theorem dX0_behind_6 : decode cX0_behind 6 = .ok (.iload 6, 2) := by decide +kernel
theorem dX0_behind_8 : decode cX0_behind 8 = .ok (.bipush 16, 2) := by decide +kernel
theorem dX0_behind_10 : decode cX0_behind 10 = .ok (.if_icmp .ge 107, 3) := by decide +kernel
theorem dX0_behind_13 : decode cX0_behind 13 = .ok (.aload_n 0, 1) := by decide +kernel
theorem dX0_behind_14 : decode cX0_behind 14 = .ok (.getfield 11, 3) := by decide +kernel
theorem dX0_behind_17 : decode cX0_behind 17 = .ok (.iload 6, 2) := by decide +kernel
theorem dX0_behind_19 : decode cX0_behind 19 = .ok (.iaload, 1) := by decide +kernel
theorem dX0_behind_20 : decode cX0_behind 20 = .ok (.ifCond .ne 6, 3) := by decide +kernel
theorem dX0_behind_23 : decode cX0_behind 23 = .ok (.goto 88, 3) := by decide +kernel
theorem dX0_behind_26 : decode cX0_behind 26 = .ok (.iload 6, 2) := by decide +kernel
theorem dX0_behind_28 : decode cX0_behind 28 = .ok (.iconst 4, 1) := by decide +kernel
theorem dX0_behind_29 : decode cX0_behind 29 = .ok (.idiv, 1) := by decide +kernel
theorem dX0_behind_30 : decode cX0_behind 30 = .ok (.istore 7, 2) := by decide +kernel
theorem dX0_behind_32 : decode cX0_behind 32 = .ok (.iload 6, 2) := by decide +kernel
theorem dX0_behind_34 : decode cX0_behind 34 = .ok (.iconst 4, 1) := by decide +kernel
theorem dX0_behind_35 : decode cX0_behind 35 = .ok (.irem, 1) := by decide +kernel
theorem dX0_behind_36 : decode cX0_behind 36 = .ok (.istore 8, 2) := by decide +kernel
theorem dX0_behind_38 : decode cX0_behind 38 = .ok (.iload_n 3, 1) := by decide +kernel
theorem dX0_behind_39 : decode cX0_behind 39 = .ok (.iload 8, 2) := by decide +kernel
theorem dX0_behind_41 : decode cX0_behind 41 = .ok (.ishr, 1) := by decide +kernel
theorem dX0_behind_42 : decode cX0_behind 42 = .ok (.iconst 1, 1) := by decide +kernel
theorem dX0_behind_43 : decode cX0_behind 43 = .ok (.iand, 1) := by decide +kernel
theorem dX0_behind_44 : decode cX0_behind 44 = .ok (.iconst 1, 1) := by decide +kernel
theorem dX0_behind_45 : decode cX0_behind 45 = .ok (.if_icmp .ne 23, 3) := by decide +kernel
theorem dX0_behind_48 : decode cX0_behind 48 = .ok (.lload 4, 2) := by decide +kernel
theorem dX0_behind_50 : decode cX0_behind 50 = .ok (.ldc2_w 15, 3) := by decide +kernel
theorem dX0_behind_53 : decode cX0_behind 53 = .ok (.iconst 4, 1) := by decide +kernel
theorem dX0_behind_54 : decode cX0_behind 54 = .ok (.iload 6, 2) := by decide +kernel
theorem dX0_behind_56 : decode cX0_behind 56 = .ok (.imul, 1) := by decide +kernel
theorem dX0_behind_57 : decode cX0_behind 57 = .ok (.lshl, 1) := by decide +kernel
theorem dX0_behind_58 : decode cX0_behind 58 = .ok (.ldc2_w 17, 3) := by decide +kernel
theorem dX0_behind_61 : decode cX0_behind 61 = .ok (.lxor, 1) := by decide +kernel
theorem dX0_behind_62 : decode cX0_behind 62 = .ok (.land, 1) := by decide +kernel
theorem dX0_behind_63 : decode cX0_behind 63 = .ok (.lstore 4, 2) := by decide +kernel
theorem dX0_behind_65 : decode cX0_behind 65 = .ok (.goto 46, 3) := by decide +kernel
theorem dX0_behind_68 : decode cX0_behind 68 = .ok (.iload_n 3, 1) := by decide +kernel
theorem dX0_behind_69 : decode cX0_behind 69 = .ok (.iload 7, 2) := by decide +kernel
theorem dX0_behind_71 : decode cX0_behind 71 = .ok (.ishr, 1) := by decide +kernel
theorem dX0_behind_72 : decode cX0_behind 72 = .ok (.iconst 1, 1) := by decide +kernel
theorem dX0_behind_73 : decode cX0_behind 73 = .ok (.iand, 1) := by decide +kernel
theorem dX0_behind_74 : decode cX0_behind 74 = .ok (.iconst 1, 1) := by decide +kernel
theorem dX0_behind_75 : decode cX0_behind 75 = .ok (.if_icmp .ne 36, 3) := by decide +kernel
theorem dX0_behind_78 : decode cX0_behind 78 = .ok (.lload_n 1, 1) := by decide +kernel
theorem dX0_behind_79 : decode cX0_behind 79 = .ok (.iload 7, 2) := by decide +kernel
theorem dX0_behind_81 : decode cX0_behind 81 = .ok (.iload 8, 2) := by decide +kernel
theorem dX0_behind_83 : decode cX0_behind 83 = .ok (.invokestatic 19, 3) := by decide +kernel
theorem dX0_behind_86 : decode cX0_behind 86 = .ok (.aload_n 0, 1) := by decide +kernel
theorem dX0_behind_87 : decode cX0_behind 87 = .ok (.getfield 11, 3) := by decide +kernel
theorem dX0_behind_90 : decode cX0_behind 90 = .ok (.iload 6, 2) := by decide +kernel
theorem dX0_behind_92 : decode cX0_behind 92 = .ok (.iaload, 1) := by decide +kernel
theorem dX0_behind_93 : decode cX0_behind 93 = .ok (.if_icmp .lt 7, 3) := by decide +kernel
theorem dX0_behind_96 : decode cX0_behind 96 = .ok (.ldc2_w 17, 3) := by decide +kernel
theorem dX0_behind_99 : decode cX0_behind 99 = .ok (.lreturn, 1) := by decide +kernel
theorem dX0_behind_100 : decode cX0_behind 100 = .ok (.lload 4, 2) := by decide +kernel
theorem dX0_behind_102 : decode cX0_behind 102 = .ok (.lconst 1, 1) := by decide +kernel
theorem dX0_behind_103 : decode cX0_behind 103 = .ok (.iconst 4, 1) := by decide +kernel
theorem dX0_behind_104 : decode cX0_behind 104 = .ok (.iload 6, 2) := by decide +kernel
theorem dX0_behind_106 : decode cX0_behind 106 = .ok (.imul, 1) := by decide +kernel
theorem dX0_behind_107 : decode cX0_behind 107 = .ok (.lshl, 1) := by decide +kernel
theorem dX0_behind_108 : decode cX0_behind 108 = .ok (.ladd, 1) := by decide +kernel
theorem dX0_behind_109 : decode cX0_behind 109 = .ok (.lstore 4, 2) := by decide +kernel
theorem dX0_behind_111 : decode cX0_behind 111 = .ok (.iinc 6 1, 3) := by decide +kernel
theorem dX0_behind_114 : decode cX0_behind 114 = .ok (.goto (-108), 3) := by decide +kernel
theorem dX0_behind_117 : decode cX0_behind 117 = .ok (.lload 4, 2) := by decide +kernel
theorem dX0_behind_119 : decode cX0_behind 119 = .ok (.lreturn, 1) := by decide +kernel
theorem dX1_size_0 : decode cX1_size 0 = .ok (.iconst 0, 1) := by decide +kernel
theorem dX1_size_1 : decode cX1_size 1 = .ok (.istore_n 1, 1) := by decide +kernel
theorem dX1_size_2 : decode cX1_size 2 = .ok (.iconst 0, 1) := by decide +kernel
theorem dX1_size_3 : decode cX1_size 3 = .ok (.istore_n 2, 1) := by decide +kernel
theorem dX1_size_4 : decode cX1_size 4 = .ok (.iload_n 2, 1) := by decide +kernel
theorem dX1_size_5 : decode cX1_size 5 = .ok (.aload_n 0, 1) := by decide +kernel
theorem dX1_size_6 : decode cX1_size 6 = .ok (.getfield 9, 3) := by decide +kernel
theorem dX1_size_9 : decode cX1_size 9 = .ok (.if_icmp .ge 20, 3) := by decide +kernel
theorem dX1_size_12 : decode cX1_size 12 = .ok (.aload_n 0, 1) := by decide +kernel
theorem dX1_size_13 : decode cX1_size 13 = .ok (.iload_n 2, 1) := by decide +kernel
theorem dX1_size_14 : decode cX1_size 14 = .ok (.invokestatic 15, 3) := by decide +kernel
theorem dX1_size_17 : decode cX1_size 17 = .ok (.ifCond .eq 6, 3) := by decide +kernel
theorem dX1_size_20 : decode cX1_size 20 = .ok (.iinc 1 1, 3) := by decide +kernel
theorem dX1_size_23 : decode cX1_size 23 = .ok (.iinc 2 1, 3) := by decide +kernel
theorem dX1_size_26 : decode cX1_size 26 = .ok (.goto (-22), 3) := by decide +kernel
theorem dX1_size_29 : decode cX1_size 29 = .ok (.iload_n 1, 1) := by decide +kernel
theorem dX1_size_30 : decode cX1_size 30 = .ok (.ireturn, 1) := by decide +kernel
theorem dX1_keeperOf_0 : decode cX1_keeperOf 0 = .ok (.iload_n 1, 1) := by decide +kernel
theorem dX1_keeperOf_1 : decode cX1_keeperOf 1 = .ok (.istore_n 2, 1) := by decide +kernel
theorem dX1_keeperOf_2 : decode cX1_keeperOf 2 = .ok (.iconst 0, 1) := by decide +kernel
theorem dX1_keeperOf_3 : decode cX1_keeperOf 3 = .ok (.istore_n 3, 1) := by decide +kernel
theorem dX1_keeperOf_4 : decode cX1_keeperOf 4 = .ok (.iload_n 3, 1) := by decide +kernel
theorem dX1_keeperOf_5 : decode cX1_keeperOf 5 = .ok (.aload_n 0, 1) := by decide +kernel
theorem dX1_keeperOf_6 : decode cX1_keeperOf 6 = .ok (.getfield 9, 3) := by decide +kernel
theorem dX1_keeperOf_9 : decode cX1_keeperOf 9 = .ok (.if_icmp .ge 26, 3) := by decide +kernel
theorem dX1_keeperOf_12 : decode cX1_keeperOf 12 = .ok (.aload_n 0, 1) := by decide +kernel
theorem dX1_keeperOf_13 : decode cX1_keeperOf 13 = .ok (.iload_n 3, 1) := by decide +kernel
theorem dX1_keeperOf_14 : decode cX1_keeperOf 14 = .ok (.invokestatic 15, 3) := by decide +kernel
theorem dX1_keeperOf_17 : decode cX1_keeperOf 17 = .ok (.ifCond .eq 12, 3) := by decide +kernel
theorem dX1_keeperOf_20 : decode cX1_keeperOf 20 = .ok (.iload_n 2, 1) := by decide +kernel
theorem dX1_keeperOf_21 : decode cX1_keeperOf 21 = .ok (.ifCond .ne 5, 3) := by decide +kernel
theorem dX1_keeperOf_24 : decode cX1_keeperOf 24 = .ok (.iload_n 3, 1) := by decide +kernel
theorem dX1_keeperOf_25 : decode cX1_keeperOf 25 = .ok (.ireturn, 1) := by decide +kernel
theorem dX1_keeperOf_26 : decode cX1_keeperOf 26 = .ok (.iinc 2 (-1), 3) := by decide +kernel
theorem dX1_keeperOf_29 : decode cX1_keeperOf 29 = .ok (.iinc 3 1, 3) := by decide +kernel
theorem dX1_keeperOf_32 : decode cX1_keeperOf 32 = .ok (.goto (-28), 3) := by decide +kernel
theorem dX1_keeperOf_35 : decode cX1_keeperOf 35 = .ok (.iconst (-1), 1) := by decide +kernel
theorem dX1_keeperOf_36 : decode cX1_keeperOf 36 = .ok (.ireturn, 1) := by decide +kernel
theorem dX1_kindOf_0 : decode cX1_kindOf 0 = .ok (.aload_n 0, 1) := by decide +kernel
theorem dX1_kindOf_1 : decode cX1_kindOf 1 = .ok (.getfield 21, 3) := by decide +kernel
theorem dX1_kindOf_4 : decode cX1_kindOf 4 = .ok (.iload_n 1, 1) := by decide +kernel
theorem dX1_kindOf_5 : decode cX1_kindOf 5 = .ok (.iaload, 1) := by decide +kernel
theorem dX1_kindOf_6 : decode cX1_kindOf 6 = .ok (.istore_n 2, 1) := by decide +kernel
theorem dX1_kindOf_7 : decode cX1_kindOf 7 = .ok (.aload_n 0, 1) := by decide +kernel
theorem dX1_kindOf_8 : decode cX1_kindOf 8 = .ok (.iload_n 1, 1) := by decide +kernel
theorem dX1_kindOf_9 : decode cX1_kindOf 9 = .ok (.invokestatic 25, 3) := by decide +kernel
theorem dX1_kindOf_12 : decode cX1_kindOf 12 = .ok (.ifCond .eq 5, 3) := by decide +kernel
theorem dX1_kindOf_15 : decode cX1_kindOf 15 = .ok (.iconst 0, 1) := by decide +kernel
theorem dX1_kindOf_16 : decode cX1_kindOf 16 = .ok (.ireturn, 1) := by decide +kernel
theorem dX1_kindOf_17 : decode cX1_kindOf 17 = .ok (.aload_n 0, 1) := by decide +kernel
theorem dX1_kindOf_18 : decode cX1_kindOf 18 = .ok (.iload_n 1, 1) := by decide +kernel
theorem dX1_kindOf_19 : decode cX1_kindOf 19 = .ok (.invokestatic 28, 3) := by decide +kernel
theorem dX1_kindOf_22 : decode cX1_kindOf 22 = .ok (.ifCond .eq 5, 3) := by decide +kernel
theorem dX1_kindOf_25 : decode cX1_kindOf 25 = .ok (.iconst 1, 1) := by decide +kernel
theorem dX1_kindOf_26 : decode cX1_kindOf 26 = .ok (.ireturn, 1) := by decide +kernel
theorem dX1_kindOf_27 : decode cX1_kindOf 27 = .ok (.aload_n 0, 1) := by decide +kernel
theorem dX1_kindOf_28 : decode cX1_kindOf 28 = .ok (.iload_n 1, 1) := by decide +kernel
theorem dX1_kindOf_29 : decode cX1_kindOf 29 = .ok (.iload_n 2, 1) := by decide +kernel
theorem dX1_kindOf_30 : decode cX1_kindOf 30 = .ok (.invokestatic 31, 3) := by decide +kernel
theorem dX1_kindOf_33 : decode cX1_kindOf 33 = .ok (.ifCond .eq 5, 3) := by decide +kernel
theorem dX1_kindOf_36 : decode cX1_kindOf 36 = .ok (.iconst 2, 1) := by decide +kernel
theorem dX1_kindOf_37 : decode cX1_kindOf 37 = .ok (.ireturn, 1) := by decide +kernel
theorem dX1_kindOf_38 : decode cX1_kindOf 38 = .ok (.aload_n 0, 1) := by decide +kernel
theorem dX1_kindOf_39 : decode cX1_kindOf 39 = .ok (.iload_n 2, 1) := by decide +kernel
theorem dX1_kindOf_40 : decode cX1_kindOf 40 = .ok (.invokevirtual 35, 3) := by decide +kernel
theorem dX1_kindOf_43 : decode cX1_kindOf 43 = .ok (.ifCond .eq 7, 3) := by decide +kernel
theorem dX1_kindOf_46 : decode cX1_kindOf 46 = .ok (.iconst 3, 1) := by decide +kernel
theorem dX1_kindOf_47 : decode cX1_kindOf 47 = .ok (.goto 4, 3) := by decide +kernel
theorem dX1_kindOf_50 : decode cX1_kindOf 50 = .ok (.iconst 4, 1) := by decide +kernel
theorem dX1_kindOf_51 : decode cX1_kindOf 51 = .ok (.ireturn, 1) := by decide +kernel
theorem dX1_meets_0 : decode cX1_meets 0 = .ok (.aload_n 0, 1) := by decide +kernel
theorem dX1_meets_1 : decode cX1_meets 1 = .ok (.iload_n 1, 1) := by decide +kernel
theorem dX1_meets_2 : decode cX1_meets 2 = .ok (.invokestatic 28, 3) := by decide +kernel
theorem dX1_meets_5 : decode cX1_meets 5 = .ok (.ifCond .ne 5, 3) := by decide +kernel
theorem dX1_meets_8 : decode cX1_meets 8 = .ok (.iconst 0, 1) := by decide +kernel
theorem dX1_meets_9 : decode cX1_meets 9 = .ok (.ireturn, 1) := by decide +kernel
theorem dX1_meets_10 : decode cX1_meets 10 = .ok (.iconst 0, 1) := by decide +kernel
theorem dX1_meets_11 : decode cX1_meets 11 = .ok (.istore_n 2, 1) := by decide +kernel
theorem dX1_meets_12 : decode cX1_meets 12 = .ok (.iload_n 2, 1) := by decide +kernel
theorem dX1_meets_13 : decode cX1_meets 13 = .ok (.aload_n 0, 1) := by decide +kernel
theorem dX1_meets_14 : decode cX1_meets 14 = .ok (.getfield 9, 3) := by decide +kernel
theorem dX1_meets_17 : decode cX1_meets 17 = .ok (.if_icmp .ge 54, 3) := by decide +kernel
theorem dX1_meets_20 : decode cX1_meets 20 = .ok (.iload_n 2, 1) := by decide +kernel
theorem dX1_meets_21 : decode cX1_meets 21 = .ok (.iload_n 1, 1) := by decide +kernel
theorem dX1_meets_22 : decode cX1_meets 22 = .ok (.if_icmp .eq 43, 3) := by decide +kernel
theorem dX1_meets_25 : decode cX1_meets 25 = .ok (.aload_n 0, 1) := by decide +kernel
theorem dX1_meets_26 : decode cX1_meets 26 = .ok (.iload_n 2, 1) := by decide +kernel
theorem dX1_meets_27 : decode cX1_meets 27 = .ok (.invokestatic 28, 3) := by decide +kernel
theorem dX1_meets_30 : decode cX1_meets 30 = .ok (.ifCond .eq 35, 3) := by decide +kernel
theorem dX1_meets_33 : decode cX1_meets 33 = .ok (.aload_n 0, 1) := by decide +kernel
theorem dX1_meets_34 : decode cX1_meets 34 = .ok (.getfield 39, 3) := by decide +kernel
theorem dX1_meets_37 : decode cX1_meets 37 = .ok (.iload_n 2, 1) := by decide +kernel
theorem dX1_meets_38 : decode cX1_meets 38 = .ok (.iaload, 1) := by decide +kernel
theorem dX1_meets_39 : decode cX1_meets 39 = .ok (.aload_n 0, 1) := by decide +kernel
theorem dX1_meets_40 : decode cX1_meets 40 = .ok (.getfield 39, 3) := by decide +kernel
theorem dX1_meets_43 : decode cX1_meets 43 = .ok (.iload_n 1, 1) := by decide +kernel
theorem dX1_meets_44 : decode cX1_meets 44 = .ok (.iaload, 1) := by decide +kernel
theorem dX1_meets_45 : decode cX1_meets 45 = .ok (.if_icmp .ne 20, 3) := by decide +kernel
theorem dX1_meets_48 : decode cX1_meets 48 = .ok (.aload_n 0, 1) := by decide +kernel
theorem dX1_meets_49 : decode cX1_meets 49 = .ok (.getfield 21, 3) := by decide +kernel
theorem dX1_meets_52 : decode cX1_meets 52 = .ok (.iload_n 2, 1) := by decide +kernel
theorem dX1_meets_53 : decode cX1_meets 53 = .ok (.iaload, 1) := by decide +kernel
theorem dX1_meets_54 : decode cX1_meets 54 = .ok (.aload_n 0, 1) := by decide +kernel
theorem dX1_meets_55 : decode cX1_meets 55 = .ok (.getfield 21, 3) := by decide +kernel
theorem dX1_meets_58 : decode cX1_meets 58 = .ok (.iload_n 1, 1) := by decide +kernel
theorem dX1_meets_59 : decode cX1_meets 59 = .ok (.iaload, 1) := by decide +kernel
theorem dX1_meets_60 : decode cX1_meets 60 = .ok (.if_icmp .ne 5, 3) := by decide +kernel
theorem dX1_meets_63 : decode cX1_meets 63 = .ok (.iconst 1, 1) := by decide +kernel
theorem dX1_meets_64 : decode cX1_meets 64 = .ok (.ireturn, 1) := by decide +kernel
theorem dX1_meets_65 : decode cX1_meets 65 = .ok (.iinc 2 1, 3) := by decide +kernel
theorem dX1_meets_68 : decode cX1_meets 68 = .ok (.goto (-56), 3) := by decide +kernel
theorem dX1_meets_71 : decode cX1_meets 71 = .ok (.iconst 0, 1) := by decide +kernel
theorem dX1_meets_72 : decode cX1_meets 72 = .ok (.ireturn, 1) := by decide +kernel
theorem dX1_isBad_0 : decode cX1_isBad 0 = .ok (.aload_n 0, 1) := by decide +kernel
theorem dX1_isBad_1 : decode cX1_isBad 1 = .ok (.iload_n 1, 1) := by decide +kernel
theorem dX1_isBad_2 : decode cX1_isBad 2 = .ok (.invokestatic 42, 3) := by decide +kernel
theorem dX1_isBad_5 : decode cX1_isBad 5 = .ok (.iconst 3, 1) := by decide +kernel
theorem dX1_isBad_6 : decode cX1_isBad 6 = .ok (.if_icmp .ge 11, 3) := by decide +kernel
theorem dX1_isBad_9 : decode cX1_isBad 9 = .ok (.aload_n 0, 1) := by decide +kernel
theorem dX1_isBad_10 : decode cX1_isBad 10 = .ok (.iload_n 1, 1) := by decide +kernel
theorem dX1_isBad_11 : decode cX1_isBad 11 = .ok (.invokestatic 46, 3) := by decide +kernel
theorem dX1_isBad_14 : decode cX1_isBad 14 = .ok (.ifCond .eq 7, 3) := by decide +kernel
theorem dX1_isBad_17 : decode cX1_isBad 17 = .ok (.iconst 1, 1) := by decide +kernel
theorem dX1_isBad_18 : decode cX1_isBad 18 = .ok (.goto 4, 3) := by decide +kernel
theorem dX1_isBad_21 : decode cX1_isBad 21 = .ok (.iconst 0, 1) := by decide +kernel
theorem dX1_isBad_22 : decode cX1_isBad 22 = .ok (.ireturn, 1) := by decide +kernel
theorem dX1_crosses_0 : decode cX1_crosses 0 = .ok (.aload_n 0, 1) := by decide +kernel
theorem dX1_crosses_1 : decode cX1_crosses 1 = .ok (.iload_n 1, 1) := by decide +kernel
theorem dX1_crosses_2 : decode cX1_crosses 2 = .ok (.invokevirtual 49, 3) := by decide +kernel
theorem dX1_crosses_5 : decode cX1_crosses 5 = .ok (.ifCond .eq 15, 3) := by decide +kernel
theorem dX1_crosses_8 : decode cX1_crosses 8 = .ok (.aload_n 0, 1) := by decide +kernel
theorem dX1_crosses_9 : decode cX1_crosses 9 = .ok (.iload_n 1, 1) := by decide +kernel
theorem dX1_crosses_10 : decode cX1_crosses 10 = .ok (.invokevirtual 52, 3) := by decide +kernel
theorem dX1_crosses_13 : decode cX1_crosses 13 = .ok (.ifCond .eq 7, 3) := by decide +kernel
theorem dX1_crosses_16 : decode cX1_crosses 16 = .ok (.iconst 1, 1) := by decide +kernel
theorem dX1_crosses_17 : decode cX1_crosses 17 = .ok (.goto 4, 3) := by decide +kernel
theorem dX1_crosses_20 : decode cX1_crosses 20 = .ok (.iconst 0, 1) := by decide +kernel
theorem dX1_crosses_21 : decode cX1_crosses 21 = .ok (.ireturn, 1) := by decide +kernel
theorem dX1_isStill_0 : decode cX1_isStill 0 = .ok (.aload_n 0, 1) := by decide +kernel
theorem dX1_isStill_1 : decode cX1_isStill 1 = .ok (.iload_n 1, 1) := by decide +kernel
theorem dX1_isStill_2 : decode cX1_isStill 2 = .ok (.invokevirtual 52, 3) := by decide +kernel
theorem dX1_isStill_5 : decode cX1_isStill 5 = .ok (.aload_n 0, 1) := by decide +kernel
theorem dX1_isStill_6 : decode cX1_isStill 6 = .ok (.getfield 56, 3) := by decide +kernel
theorem dX1_isStill_9 : decode cX1_isStill 9 = .ok (.iconst (-1), 1) := by decide +kernel
theorem dX1_isStill_10 : decode cX1_isStill 10 = .ok (.ixor, 1) := by decide +kernel
theorem dX1_isStill_11 : decode cX1_isStill 11 = .ok (.iand, 1) := by decide +kernel
theorem dX1_isStill_12 : decode cX1_isStill 12 = .ok (.ifCond .ne 7, 3) := by decide +kernel
theorem dX1_isStill_15 : decode cX1_isStill 15 = .ok (.iconst 1, 1) := by decide +kernel
theorem dX1_isStill_16 : decode cX1_isStill 16 = .ok (.goto 4, 3) := by decide +kernel
theorem dX1_isStill_19 : decode cX1_isStill 19 = .ok (.iconst 0, 1) := by decide +kernel
theorem dX1_isStill_20 : decode cX1_isStill 20 = .ok (.ireturn, 1) := by decide +kernel
theorem dX1_isTwice_0 : decode cX1_isTwice 0 = .ok (.aload_n 0, 1) := by decide +kernel
theorem dX1_isTwice_1 : decode cX1_isTwice 1 = .ok (.iload_n 1, 1) := by decide +kernel
theorem dX1_isTwice_2 : decode cX1_isTwice 2 = .ok (.invokestatic 15, 3) := by decide +kernel
theorem dX1_isTwice_5 : decode cX1_isTwice 5 = .ok (.ifCond .eq 36, 3) := by decide +kernel
theorem dX1_isTwice_8 : decode cX1_isTwice 8 = .ok (.aload_n 0, 1) := by decide +kernel
theorem dX1_isTwice_9 : decode cX1_isTwice 9 = .ok (.iload_n 1, 1) := by decide +kernel
theorem dX1_isTwice_10 : decode cX1_isTwice 10 = .ok (.invokestatic 25, 3) := by decide +kernel
theorem dX1_isTwice_13 : decode cX1_isTwice 13 = .ok (.ifCond .ne 28, 3) := by decide +kernel
theorem dX1_isTwice_16 : decode cX1_isTwice 16 = .ok (.aload_n 0, 1) := by decide +kernel
theorem dX1_isTwice_17 : decode cX1_isTwice 17 = .ok (.aload_n 0, 1) := by decide +kernel
theorem dX1_isTwice_18 : decode cX1_isTwice 18 = .ok (.getfield 21, 3) := by decide +kernel
theorem dX1_isTwice_21 : decode cX1_isTwice 21 = .ok (.iload_n 1, 1) := by decide +kernel
theorem dX1_isTwice_22 : decode cX1_isTwice 22 = .ok (.iaload, 1) := by decide +kernel
theorem dX1_isTwice_23 : decode cX1_isTwice 23 = .ok (.invokevirtual 35, 3) := by decide +kernel
theorem dX1_isTwice_26 : decode cX1_isTwice 26 = .ok (.ifCond .eq 15, 3) := by decide +kernel
theorem dX1_isTwice_29 : decode cX1_isTwice 29 = .ok (.aload_n 0, 1) := by decide +kernel
theorem dX1_isTwice_30 : decode cX1_isTwice 30 = .ok (.iload_n 1, 1) := by decide +kernel
theorem dX1_isTwice_31 : decode cX1_isTwice 31 = .ok (.invokestatic 59, 3) := by decide +kernel
theorem dX1_isTwice_34 : decode cX1_isTwice 34 = .ok (.ifCond .eq 7, 3) := by decide +kernel
theorem dX1_isTwice_37 : decode cX1_isTwice 37 = .ok (.iconst 1, 1) := by decide +kernel
theorem dX1_isTwice_38 : decode cX1_isTwice 38 = .ok (.goto 4, 3) := by decide +kernel
theorem dX1_isTwice_41 : decode cX1_isTwice 41 = .ok (.iconst 0, 1) := by decide +kernel
theorem dX1_isTwice_42 : decode cX1_isTwice 42 = .ok (.ireturn, 1) := by decide +kernel
theorem dX1_isPassedOn_0 : decode cX1_isPassedOn 0 = .ok (.iconst 0, 1) := by decide +kernel
theorem dX1_isPassedOn_1 : decode cX1_isPassedOn 1 = .ok (.istore_n 2, 1) := by decide +kernel
theorem dX1_isPassedOn_2 : decode cX1_isPassedOn 2 = .ok (.iconst 0, 1) := by decide +kernel
theorem dX1_isPassedOn_3 : decode cX1_isPassedOn 3 = .ok (.istore_n 3, 1) := by decide +kernel
theorem dX1_isPassedOn_4 : decode cX1_isPassedOn 4 = .ok (.iload_n 3, 1) := by decide +kernel
theorem dX1_isPassedOn_5 : decode cX1_isPassedOn 5 = .ok (.aload_n 0, 1) := by decide +kernel
theorem dX1_isPassedOn_6 : decode cX1_isPassedOn 6 = .ok (.getfield 9, 3) := by decide +kernel
theorem dX1_isPassedOn_9 : decode cX1_isPassedOn 9 = .ok (.if_icmp .ge 72, 3) := by decide +kernel
theorem dX1_isPassedOn_12 : decode cX1_isPassedOn 12 = .ok (.aload_n 0, 1) := by decide +kernel
theorem dX1_isPassedOn_13 : decode cX1_isPassedOn 13 = .ok (.getfield 21, 3) := by decide +kernel
theorem dX1_isPassedOn_16 : decode cX1_isPassedOn 16 = .ok (.iload_n 3, 1) := by decide +kernel
theorem dX1_isPassedOn_17 : decode cX1_isPassedOn 17 = .ok (.iaload, 1) := by decide +kernel
theorem dX1_isPassedOn_18 : decode cX1_isPassedOn 18 = .ok (.iload_n 1, 1) := by decide +kernel
theorem dX1_isPassedOn_19 : decode cX1_isPassedOn 19 = .ok (.if_icmp .eq 23, 3) := by decide +kernel
theorem dX1_isPassedOn_22 : decode cX1_isPassedOn 22 = .ok (.aload_n 0, 1) := by decide +kernel
theorem dX1_isPassedOn_23 : decode cX1_isPassedOn 23 = .ok (.getfield 62, 3) := by decide +kernel
theorem dX1_isPassedOn_26 : decode cX1_isPassedOn 26 = .ok (.iload_n 3, 1) := by decide +kernel
theorem dX1_isPassedOn_27 : decode cX1_isPassedOn 27 = .ok (.iaload, 1) := by decide +kernel
theorem dX1_isPassedOn_28 : decode cX1_isPassedOn 28 = .ok (.iload_n 1, 1) := by decide +kernel
theorem dX1_isPassedOn_29 : decode cX1_isPassedOn 29 = .ok (.if_icmp .eq 13, 3) := by decide +kernel
theorem dX1_isPassedOn_32 : decode cX1_isPassedOn 32 = .ok (.aload_n 0, 1) := by decide +kernel
theorem dX1_isPassedOn_33 : decode cX1_isPassedOn 33 = .ok (.getfield 65, 3) := by decide +kernel
theorem dX1_isPassedOn_36 : decode cX1_isPassedOn 36 = .ok (.iload_n 3, 1) := by decide +kernel
theorem dX1_isPassedOn_37 : decode cX1_isPassedOn 37 = .ok (.iaload, 1) := by decide +kernel
theorem dX1_isPassedOn_38 : decode cX1_isPassedOn 38 = .ok (.iload_n 1, 1) := by decide +kernel
theorem dX1_isPassedOn_39 : decode cX1_isPassedOn 39 = .ok (.if_icmp .ne 36, 3) := by decide +kernel
theorem dX1_isPassedOn_42 : decode cX1_isPassedOn 42 = .ok (.iload_n 3, 1) := by decide +kernel
theorem dX1_isPassedOn_43 : decode cX1_isPassedOn 43 = .ok (.iload_n 1, 1) := by decide +kernel
theorem dX1_isPassedOn_44 : decode cX1_isPassedOn 44 = .ok (.if_icmp .eq 26, 3) := by decide +kernel
theorem dX1_isPassedOn_47 : decode cX1_isPassedOn 47 = .ok (.aload_n 0, 1) := by decide +kernel
theorem dX1_isPassedOn_48 : decode cX1_isPassedOn 48 = .ok (.iload_n 3, 1) := by decide +kernel
theorem dX1_isPassedOn_49 : decode cX1_isPassedOn 49 = .ok (.invokevirtual 49, 3) := by decide +kernel
theorem dX1_isPassedOn_52 : decode cX1_isPassedOn 52 = .ok (.ifCond .eq 18, 3) := by decide +kernel
theorem dX1_isPassedOn_55 : decode cX1_isPassedOn 55 = .ok (.aload_n 0, 1) := by decide +kernel
theorem dX1_isPassedOn_56 : decode cX1_isPassedOn 56 = .ok (.getfield 39, 3) := by decide +kernel
theorem dX1_isPassedOn_59 : decode cX1_isPassedOn 59 = .ok (.iload_n 3, 1) := by decide +kernel
theorem dX1_isPassedOn_60 : decode cX1_isPassedOn 60 = .ok (.iaload, 1) := by decide +kernel
theorem dX1_isPassedOn_61 : decode cX1_isPassedOn 61 = .ok (.aload_n 0, 1) := by decide +kernel
theorem dX1_isPassedOn_62 : decode cX1_isPassedOn 62 = .ok (.getfield 39, 3) := by decide +kernel
theorem dX1_isPassedOn_65 : decode cX1_isPassedOn 65 = .ok (.iload_n 1, 1) := by decide +kernel
theorem dX1_isPassedOn_66 : decode cX1_isPassedOn 66 = .ok (.iaload, 1) := by decide +kernel
theorem dX1_isPassedOn_67 : decode cX1_isPassedOn 67 = .ok (.if_icmp .eq 5, 3) := by decide +kernel
theorem dX1_isPassedOn_70 : decode cX1_isPassedOn 70 = .ok (.iconst 0, 1) := by decide +kernel
theorem dX1_isPassedOn_71 : decode cX1_isPassedOn 71 = .ok (.ireturn, 1) := by decide +kernel
theorem dX1_isPassedOn_72 : decode cX1_isPassedOn 72 = .ok (.iinc 2 1, 3) := by decide +kernel
theorem dX1_isPassedOn_75 : decode cX1_isPassedOn 75 = .ok (.iinc 3 1, 3) := by decide +kernel
theorem dX1_isPassedOn_78 : decode cX1_isPassedOn 78 = .ok (.goto (-74), 3) := by decide +kernel
theorem dX1_isPassedOn_81 : decode cX1_isPassedOn 81 = .ok (.iload_n 2, 1) := by decide +kernel
theorem dX1_isPassedOn_82 : decode cX1_isPassedOn 82 = .ok (.iconst 1, 1) := by decide +kernel
theorem dX1_isPassedOn_83 : decode cX1_isPassedOn 83 = .ok (.if_icmp .ne 7, 3) := by decide +kernel
theorem dX1_isPassedOn_86 : decode cX1_isPassedOn 86 = .ok (.iconst 1, 1) := by decide +kernel
theorem dX1_isPassedOn_87 : decode cX1_isPassedOn 87 = .ok (.goto 4, 3) := by decide +kernel
theorem dX1_isPassedOn_90 : decode cX1_isPassedOn 90 = .ok (.iconst 0, 1) := by decide +kernel
theorem dX1_isPassedOn_91 : decode cX1_isPassedOn 91 = .ok (.ireturn, 1) := by decide +kernel
theorem dX1_isHeld_0 : decode cX1_isHeld 0 = .ok (.aload_n 0, 1) := by decide +kernel
theorem dX1_isHeld_1 : decode cX1_isHeld 1 = .ok (.getfield 68, 3) := by decide +kernel
theorem dX1_isHeld_4 : decode cX1_isHeld 4 = .ok (.iload_n 2, 1) := by decide +kernel
theorem dX1_isHeld_5 : decode cX1_isHeld 5 = .ok (.iaload, 1) := by decide +kernel
theorem dX1_isHeld_6 : decode cX1_isHeld 6 = .ok (.iconst 4, 1) := by decide +kernel
theorem dX1_isHeld_7 : decode cX1_isHeld 7 = .ok (.if_icmp .ne 13, 3) := by decide +kernel
theorem dX1_isHeld_10 : decode cX1_isHeld 10 = .ok (.aload_n 0, 1) := by decide +kernel
theorem dX1_isHeld_11 : decode cX1_isHeld 11 = .ok (.getfield 65, 3) := by decide +kernel
theorem dX1_isHeld_14 : decode cX1_isHeld 14 = .ok (.iload_n 2, 1) := by decide +kernel
theorem dX1_isHeld_15 : decode cX1_isHeld 15 = .ok (.iaload, 1) := by decide +kernel
theorem dX1_isHeld_16 : decode cX1_isHeld 16 = .ok (.iload_n 1, 1) := by decide +kernel
theorem dX1_isHeld_17 : decode cX1_isHeld 17 = .ok (.if_icmp .eq 5, 3) := by decide +kernel
theorem dX1_isHeld_20 : decode cX1_isHeld 20 = .ok (.iconst 0, 1) := by decide +kernel
theorem dX1_isHeld_21 : decode cX1_isHeld 21 = .ok (.ireturn, 1) := by decide +kernel
theorem dX1_isHeld_22 : decode cX1_isHeld 22 = .ok (.aload_n 0, 1) := by decide +kernel
theorem dX1_isHeld_23 : decode cX1_isHeld 23 = .ok (.getfield 21, 3) := by decide +kernel
theorem dX1_isHeld_26 : decode cX1_isHeld 26 = .ok (.iload_n 2, 1) := by decide +kernel
theorem dX1_isHeld_27 : decode cX1_isHeld 27 = .ok (.iaload, 1) := by decide +kernel
theorem dX1_isHeld_28 : decode cX1_isHeld 28 = .ok (.istore_n 3, 1) := by decide +kernel
theorem dX1_isHeld_29 : decode cX1_isHeld 29 = .ok (.aload_n 0, 1) := by decide +kernel
theorem dX1_isHeld_30 : decode cX1_isHeld 30 = .ok (.getfield 62, 3) := by decide +kernel
theorem dX1_isHeld_33 : decode cX1_isHeld 33 = .ok (.iload_n 2, 1) := by decide +kernel
theorem dX1_isHeld_34 : decode cX1_isHeld 34 = .ok (.iaload, 1) := by decide +kernel
theorem dX1_isHeld_35 : decode cX1_isHeld 35 = .ok (.istore 4, 2) := by decide +kernel
theorem dX1_isHeld_37 : decode cX1_isHeld 37 = .ok (.aload_n 0, 1) := by decide +kernel
theorem dX1_isHeld_38 : decode cX1_isHeld 38 = .ok (.iload 4, 2) := by decide +kernel
theorem dX1_isHeld_40 : decode cX1_isHeld 40 = .ok (.invokevirtual 35, 3) := by decide +kernel
theorem dX1_isHeld_43 : decode cX1_isHeld 43 = .ok (.ifCond .eq 59, 3) := by decide +kernel
theorem dX1_isHeld_46 : decode cX1_isHeld 46 = .ok (.aload_n 0, 1) := by decide +kernel
theorem dX1_isHeld_47 : decode cX1_isHeld 47 = .ok (.getfield 39, 3) := by decide +kernel
theorem dX1_isHeld_50 : decode cX1_isHeld 50 = .ok (.iload 4, 2) := by decide +kernel
theorem dX1_isHeld_52 : decode cX1_isHeld 52 = .ok (.iaload, 1) := by decide +kernel
theorem dX1_isHeld_53 : decode cX1_isHeld 53 = .ok (.aload_n 0, 1) := by decide +kernel
theorem dX1_isHeld_54 : decode cX1_isHeld 54 = .ok (.getfield 39, 3) := by decide +kernel
theorem dX1_isHeld_57 : decode cX1_isHeld 57 = .ok (.iload_n 1, 1) := by decide +kernel
theorem dX1_isHeld_58 : decode cX1_isHeld 58 = .ok (.iaload, 1) := by decide +kernel
theorem dX1_isHeld_59 : decode cX1_isHeld 59 = .ok (.if_icmp .eq 43, 3) := by decide +kernel
theorem dX1_isHeld_62 : decode cX1_isHeld 62 = .ok (.aload_n 0, 1) := by decide +kernel
theorem dX1_isHeld_63 : decode cX1_isHeld 63 = .ok (.iload_n 3, 1) := by decide +kernel
theorem dX1_isHeld_64 : decode cX1_isHeld 64 = .ok (.invokevirtual 49, 3) := by decide +kernel
theorem dX1_isHeld_67 : decode cX1_isHeld 67 = .ok (.ifCond .eq 35, 3) := by decide +kernel
theorem dX1_isHeld_70 : decode cX1_isHeld 70 = .ok (.aload_n 0, 1) := by decide +kernel
theorem dX1_isHeld_71 : decode cX1_isHeld 71 = .ok (.getfield 39, 3) := by decide +kernel
theorem dX1_isHeld_74 : decode cX1_isHeld 74 = .ok (.iload_n 3, 1) := by decide +kernel
theorem dX1_isHeld_75 : decode cX1_isHeld 75 = .ok (.iaload, 1) := by decide +kernel
theorem dX1_isHeld_76 : decode cX1_isHeld 76 = .ok (.aload_n 0, 1) := by decide +kernel
theorem dX1_isHeld_77 : decode cX1_isHeld 77 = .ok (.getfield 39, 3) := by decide +kernel
theorem dX1_isHeld_80 : decode cX1_isHeld 80 = .ok (.iload_n 1, 1) := by decide +kernel
theorem dX1_isHeld_81 : decode cX1_isHeld 81 = .ok (.iaload, 1) := by decide +kernel
theorem dX1_isHeld_82 : decode cX1_isHeld 82 = .ok (.if_icmp .ne 20, 3) := by decide +kernel
theorem dX1_isHeld_85 : decode cX1_isHeld 85 = .ok (.aload_n 0, 1) := by decide +kernel
theorem dX1_isHeld_86 : decode cX1_isHeld 86 = .ok (.aload_n 0, 1) := by decide +kernel
theorem dX1_isHeld_87 : decode cX1_isHeld 87 = .ok (.getfield 21, 3) := by decide +kernel
theorem dX1_isHeld_90 : decode cX1_isHeld 90 = .ok (.iload_n 3, 1) := by decide +kernel
theorem dX1_isHeld_91 : decode cX1_isHeld 91 = .ok (.iaload, 1) := by decide +kernel
theorem dX1_isHeld_92 : decode cX1_isHeld 92 = .ok (.invokestatic 28, 3) := by decide +kernel
theorem dX1_isHeld_95 : decode cX1_isHeld 95 = .ok (.ifCond .eq 7, 3) := by decide +kernel
theorem dX1_isHeld_98 : decode cX1_isHeld 98 = .ok (.iconst 1, 1) := by decide +kernel
theorem dX1_isHeld_99 : decode cX1_isHeld 99 = .ok (.goto 4, 3) := by decide +kernel
theorem dX1_isHeld_102 : decode cX1_isHeld 102 = .ok (.iconst 0, 1) := by decide +kernel
theorem dX1_isHeld_103 : decode cX1_isHeld 103 = .ok (.ireturn, 1) := by decide +kernel
theorem dX2_init_0 : decode cX2_init 0 = .ok (.aload_n 0, 1) := by decide +kernel
theorem dX2_init_1 : decode cX2_init 1 = .ok (.invokespecial 1, 3) := by decide +kernel
theorem dX2_init_4 : decode cX2_init 4 = .ok (.return_, 1) := by decide +kernel
theorem dX3_init_0 : decode cX3_init 0 = .ok (.aload_n 0, 1) := by decide +kernel
theorem dX3_init_1 : decode cX3_init 1 = .ok (.invokespecial 3, 3) := by decide +kernel
theorem dX3_init_4 : decode cX3_init 4 = .ok (.aload_n 0, 1) := by decide +kernel
theorem dX3_init_5 : decode cX3_init 5 = .ok (.iload_n 2, 1) := by decide +kernel
theorem dX3_init_6 : decode cX3_init 6 = .ok (.putfield 9, 3) := by decide +kernel
theorem dX3_init_9 : decode cX3_init 9 = .ok (.aload_n 0, 1) := by decide +kernel
theorem dX3_init_10 : decode cX3_init 10 = .ok (.aload_n 1, 1) := by decide +kernel
theorem dX3_init_11 : decode cX3_init 11 = .ok (.getfield 15, 3) := by decide +kernel
theorem dX3_init_14 : decode cX3_init 14 = .ok (.iload_n 2, 1) := by decide +kernel
theorem dX3_init_15 : decode cX3_init 15 = .ok (.iaload, 1) := by decide +kernel
theorem dX3_init_16 : decode cX3_init 16 = .ok (.putfield 21, 3) := by decide +kernel
theorem dX3_init_19 : decode cX3_init 19 = .ok (.aload_n 0, 1) := by decide +kernel
theorem dX3_init_20 : decode cX3_init 20 = .ok (.aload_n 1, 1) := by decide +kernel
theorem dX3_init_21 : decode cX3_init 21 = .ok (.getfield 23, 3) := by decide +kernel
theorem dX3_init_24 : decode cX3_init 24 = .ok (.iload_n 2, 1) := by decide +kernel
theorem dX3_init_25 : decode cX3_init 25 = .ok (.iaload, 1) := by decide +kernel
theorem dX3_init_26 : decode cX3_init 26 = .ok (.putfield 26, 3) := by decide +kernel
theorem dX3_init_29 : decode cX3_init 29 = .ok (.aload_n 0, 1) := by decide +kernel
theorem dX3_init_30 : decode cX3_init 30 = .ok (.aload_n 1, 1) := by decide +kernel
theorem dX3_init_31 : decode cX3_init 31 = .ok (.getfield 28, 3) := by decide +kernel
theorem dX3_init_34 : decode cX3_init 34 = .ok (.iload_n 2, 1) := by decide +kernel
theorem dX3_init_35 : decode cX3_init 35 = .ok (.iaload, 1) := by decide +kernel
theorem dX3_init_36 : decode cX3_init 36 = .ok (.putfield 31, 3) := by decide +kernel
theorem dX3_init_39 : decode cX3_init 39 = .ok (.return_, 1) := by decide +kernel
theorem dX3_weigh_0 : decode cX3_weigh 0 = .ok (.aload_n 0, 1) := by decide +kernel
theorem dX3_weigh_1 : decode cX3_weigh 1 = .ok (.getfield 21, 3) := by decide +kernel
theorem dX3_weigh_4 : decode cX3_weigh 4 = .ok (.tableswitch 67 4 6 #[55, 45, 28], 28) := by decide +kernel
theorem dX3_weigh_32 : decode cX3_weigh 32 = .ok (.aload_n 0, 1) := by decide +kernel
theorem dX3_weigh_33 : decode cX3_weigh 33 = .ok (.getfield 9, 3) := by decide +kernel
theorem dX3_weigh_36 : decode cX3_weigh 36 = .ok (.iconst 1, 1) := by decide +kernel
theorem dX3_weigh_37 : decode cX3_weigh 37 = .ok (.iadd, 1) := by decide +kernel
theorem dX3_weigh_38 : decode cX3_weigh 38 = .ok (.bipush 100, 2) := by decide +kernel
theorem dX3_weigh_40 : decode cX3_weigh 40 = .ok (.iadd, 1) := by decide +kernel
theorem dX3_weigh_41 : decode cX3_weigh 41 = .ok (.iconst 5, 1) := by decide +kernel
theorem dX3_weigh_42 : decode cX3_weigh 42 = .ok (.iadd, 1) := by decide +kernel
theorem dX3_weigh_43 : decode cX3_weigh 43 = .ok (.aload_n 0, 1) := by decide +kernel
theorem dX3_weigh_44 : decode cX3_weigh 44 = .ok (.getfield 31, 3) := by decide +kernel
theorem dX3_weigh_47 : decode cX3_weigh 47 = .ok (.iadd, 1) := by decide +kernel
theorem dX3_weigh_48 : decode cX3_weigh 48 = .ok (.ireturn, 1) := by decide +kernel
theorem dX3_weigh_49 : decode cX3_weigh 49 = .ok (.aload_n 0, 1) := by decide +kernel
theorem dX3_weigh_50 : decode cX3_weigh 50 = .ok (.getfield 9, 3) := by decide +kernel
theorem dX3_weigh_53 : decode cX3_weigh 53 = .ok (.iconst 1, 1) := by decide +kernel
theorem dX3_weigh_54 : decode cX3_weigh 54 = .ok (.iadd, 1) := by decide +kernel
theorem dX3_weigh_55 : decode cX3_weigh 55 = .ok (.bipush 100, 2) := by decide +kernel
theorem dX3_weigh_57 : decode cX3_weigh 57 = .ok (.iadd, 1) := by decide +kernel
theorem dX3_weigh_58 : decode cX3_weigh 58 = .ok (.ireturn, 1) := by decide +kernel
theorem dX3_weigh_59 : decode cX3_weigh 59 = .ok (.iconst 3, 1) := by decide +kernel
theorem dX3_weigh_60 : decode cX3_weigh 60 = .ok (.aload_n 0, 1) := by decide +kernel
theorem dX3_weigh_61 : decode cX3_weigh 61 = .ok (.getfield 9, 3) := by decide +kernel
theorem dX3_weigh_64 : decode cX3_weigh 64 = .ok (.iconst 1, 1) := by decide +kernel
theorem dX3_weigh_65 : decode cX3_weigh 65 = .ok (.iadd, 1) := by decide +kernel
theorem dX3_weigh_66 : decode cX3_weigh 66 = .ok (.bipush 10, 2) := by decide +kernel
theorem dX3_weigh_68 : decode cX3_weigh 68 = .ok (.iadd, 1) := by decide +kernel
theorem dX3_weigh_69 : decode cX3_weigh 69 = .ok (.imul, 1) := by decide +kernel
theorem dX3_weigh_70 : decode cX3_weigh 70 = .ok (.ireturn, 1) := by decide +kernel
theorem dX3_weigh_71 : decode cX3_weigh 71 = .ok (.aload_n 0, 1) := by decide +kernel
theorem dX3_weigh_72 : decode cX3_weigh 72 = .ok (.getfield 9, 3) := by decide +kernel
theorem dX3_weigh_75 : decode cX3_weigh 75 = .ok (.iconst 1, 1) := by decide +kernel
theorem dX3_weigh_76 : decode cX3_weigh 76 = .ok (.iadd, 1) := by decide +kernel
theorem dX3_weigh_77 : decode cX3_weigh 77 = .ok (.bipush 10, 2) := by decide +kernel
theorem dX3_weigh_79 : decode cX3_weigh 79 = .ok (.iadd, 1) := by decide +kernel
theorem dX3_weigh_80 : decode cX3_weigh 80 = .ok (.ireturn, 1) := by decide +kernel
theorem dX3_clockOfFailure_0 : decode cX3_clockOfFailure 0 = .ok (.aload_n 0, 1) := by decide +kernel
theorem dX3_clockOfFailure_1 : decode cX3_clockOfFailure 1 = .ok (.invokevirtual 34, 3) := by decide +kernel
theorem dX3_clockOfFailure_4 : decode cX3_clockOfFailure 4 = .ok (.goto 9, 3) := by decide +kernel
theorem dX3_clockOfFailure_7 : decode cX3_clockOfFailure 7 = .ok (.astore_n 1, 1) := by decide +kernel
theorem dX3_clockOfFailure_8 : decode cX3_clockOfFailure 8 = .ok (.aload_n 0, 1) := by decide +kernel
theorem dX3_clockOfFailure_9 : decode cX3_clockOfFailure 9 = .ok (.getfield 26, 3) := by decide +kernel
theorem dX3_clockOfFailure_12 : decode cX3_clockOfFailure 12 = .ok (.ireturn, 1) := by decide +kernel
theorem dX3_clockOfFailure_13 : decode cX3_clockOfFailure 13 = .ok (.bipush (-15), 2) := by decide +kernel
theorem dX3_clockOfFailure_15 : decode cX3_clockOfFailure 15 = .ok (.ireturn, 1) := by decide +kernel
theorem dX3_fail_0 : decode cX3_fail 0 = .ok (.aload_n 0, 1) := by decide +kernel
theorem dX3_fail_1 : decode cX3_fail 1 = .ok (.getfield 21, 3) := by decide +kernel
theorem dX3_fail_4 : decode cX3_fail 4 = .ok (.iconst 5, 1) := by decide +kernel
theorem dX3_fail_5 : decode cX3_fail 5 = .ok (.if_icmp .lt 13, 3) := by decide +kernel
theorem dX3_fail_8 : decode cX3_fail 8 = .ok (.new 37, 3) := by decide +kernel
theorem dX3_fail_11 : decode cX3_fail 11 = .ok (.dup, 1) := by decide +kernel
theorem dX3_fail_12 : decode cX3_fail 12 = .ok (.ldc 39, 2) := by decide +kernel
theorem dX3_fail_14 : decode cX3_fail 14 = .ok (.invokespecial 41, 3) := by decide +kernel
theorem dX3_fail_17 : decode cX3_fail 17 = .ok (.athrow, 1) := by decide +kernel
theorem dX3_fail_18 : decode cX3_fail 18 = .ok (.return_, 1) := by decide +kernel
theorem dX4_init_0 : decode cX4_init 0 = .ok (.aload_n 0, 1) := by decide +kernel
theorem dX4_init_1 : decode cX4_init 1 = .ok (.invokespecial 3, 3) := by decide +kernel
theorem dX4_init_4 : decode cX4_init 4 = .ok (.aload_n 0, 1) := by decide +kernel
theorem dX4_init_5 : decode cX4_init 5 = .ok (.iconst 0, 1) := by decide +kernel
theorem dX4_init_6 : decode cX4_init 6 = .ok (.putfield 9, 3) := by decide +kernel
theorem dX4_init_9 : decode cX4_init 9 = .ok (.aload_n 0, 1) := by decide +kernel
theorem dX4_init_10 : decode cX4_init 10 = .ok (.iconst 0, 1) := by decide +kernel
theorem dX4_init_11 : decode cX4_init 11 = .ok (.putfield 15, 3) := by decide +kernel
theorem dX4_init_14 : decode cX4_init 14 = .ok (.aload_n 0, 1) := by decide +kernel
theorem dX4_init_15 : decode cX4_init 15 = .ok (.iconst 0, 1) := by decide +kernel
theorem dX4_init_16 : decode cX4_init 16 = .ok (.putfield 18, 3) := by decide +kernel
theorem dX4_init_19 : decode cX4_init 19 = .ok (.aload_n 0, 1) := by decide +kernel
theorem dX4_init_20 : decode cX4_init 20 = .ok (.iconst 0, 1) := by decide +kernel
theorem dX4_init_21 : decode cX4_init 21 = .ok (.putfield 21, 3) := by decide +kernel
theorem dX4_init_24 : decode cX4_init 24 = .ok (.aload_n 0, 1) := by decide +kernel
theorem dX4_init_25 : decode cX4_init 25 = .ok (.iconst 0, 1) := by decide +kernel
theorem dX4_init_26 : decode cX4_init 26 = .ok (.putfield 24, 3) := by decide +kernel
theorem dX4_init_29 : decode cX4_init 29 = .ok (.aload_n 0, 1) := by decide +kernel
theorem dX4_init_30 : decode cX4_init 30 = .ok (.bipush 24, 2) := by decide +kernel
theorem dX4_init_32 : decode cX4_init 32 = .ok (.newarray .int, 2) := by decide +kernel
theorem dX4_init_34 : decode cX4_init 34 = .ok (.putfield 27, 3) := by decide +kernel
theorem dX4_init_37 : decode cX4_init 37 = .ok (.aload_n 0, 1) := by decide +kernel
theorem dX4_init_38 : decode cX4_init 38 = .ok (.bipush 24, 2) := by decide +kernel
theorem dX4_init_40 : decode cX4_init 40 = .ok (.newarray .int, 2) := by decide +kernel
theorem dX4_init_42 : decode cX4_init 42 = .ok (.putfield 31, 3) := by decide +kernel
theorem dX4_init_45 : decode cX4_init 45 = .ok (.aload_n 0, 1) := by decide +kernel
theorem dX4_init_46 : decode cX4_init 46 = .ok (.bipush 24, 2) := by decide +kernel
theorem dX4_init_48 : decode cX4_init 48 = .ok (.newarray .int, 2) := by decide +kernel
theorem dX4_init_50 : decode cX4_init 50 = .ok (.putfield 34, 3) := by decide +kernel
theorem dX4_init_53 : decode cX4_init 53 = .ok (.aload_n 0, 1) := by decide +kernel
theorem dX4_init_54 : decode cX4_init 54 = .ok (.bipush 24, 2) := by decide +kernel
theorem dX4_init_56 : decode cX4_init 56 = .ok (.newarray .int, 2) := by decide +kernel
theorem dX4_init_58 : decode cX4_init 58 = .ok (.putfield 37, 3) := by decide +kernel
theorem dX4_init_61 : decode cX4_init 61 = .ok (.aload_n 0, 1) := by decide +kernel
theorem dX4_init_62 : decode cX4_init 62 = .ok (.bipush 24, 2) := by decide +kernel
theorem dX4_init_64 : decode cX4_init 64 = .ok (.newarray .int, 2) := by decide +kernel
theorem dX4_init_66 : decode cX4_init 66 = .ok (.putfield 40, 3) := by decide +kernel
theorem dX4_init_69 : decode cX4_init 69 = .ok (.aload_n 0, 1) := by decide +kernel
theorem dX4_init_70 : decode cX4_init 70 = .ok (.bipush 24, 2) := by decide +kernel
theorem dX4_init_72 : decode cX4_init 72 = .ok (.newarray .int, 2) := by decide +kernel
theorem dX4_init_74 : decode cX4_init 74 = .ok (.putfield 43, 3) := by decide +kernel
theorem dX4_init_77 : decode cX4_init 77 = .ok (.aload_n 0, 1) := by decide +kernel
theorem dX4_init_78 : decode cX4_init 78 = .ok (.bipush 10, 2) := by decide +kernel
theorem dX4_init_80 : decode cX4_init 80 = .ok (.newarray .int, 2) := by decide +kernel
theorem dX4_init_82 : decode cX4_init 82 = .ok (.putfield 46, 3) := by decide +kernel
theorem dX4_init_85 : decode cX4_init 85 = .ok (.aload_n 0, 1) := by decide +kernel
theorem dX4_init_86 : decode cX4_init 86 = .ok (.iconst 4, 1) := by decide +kernel
theorem dX4_init_87 : decode cX4_init 87 = .ok (.newarray .int, 2) := by decide +kernel
theorem dX4_init_89 : decode cX4_init 89 = .ok (.putfield 49, 3) := by decide +kernel
theorem dX4_init_92 : decode cX4_init 92 = .ok (.aload_n 0, 1) := by decide +kernel
theorem dX4_init_93 : decode cX4_init 93 = .ok (.bipush 24, 2) := by decide +kernel
theorem dX4_init_95 : decode cX4_init 95 = .ok (.newarray .int, 2) := by decide +kernel
theorem dX4_init_97 : decode cX4_init 97 = .ok (.putfield 52, 3) := by decide +kernel
theorem dX4_init_100 : decode cX4_init 100 = .ok (.aload_n 0, 1) := by decide +kernel
theorem dX4_init_101 : decode cX4_init 101 = .ok (.sipush 384, 3) := by decide +kernel
theorem dX4_init_104 : decode cX4_init 104 = .ok (.newarray .long, 2) := by decide +kernel
theorem dX4_init_106 : decode cX4_init 106 = .ok (.putfield 55, 3) := by decide +kernel
theorem dX4_init_109 : decode cX4_init 109 = .ok (.return_, 1) := by decide +kernel
theorem dX4_isCell_0 : decode cX4_isCell 0 = .ok (.iload_n 1, 1) := by decide +kernel
theorem dX4_isCell_1 : decode cX4_isCell 1 = .ok (.ifCond .lt 15, 3) := by decide +kernel
theorem dX4_isCell_4 : decode cX4_isCell 4 = .ok (.iload_n 1, 1) := by decide +kernel
theorem dX4_isCell_5 : decode cX4_isCell 5 = .ok (.aload_n 0, 1) := by decide +kernel
theorem dX4_isCell_6 : decode cX4_isCell 6 = .ok (.getfield 9, 3) := by decide +kernel
theorem dX4_isCell_9 : decode cX4_isCell 9 = .ok (.if_icmp .ge 7, 3) := by decide +kernel
theorem dX4_isCell_12 : decode cX4_isCell 12 = .ok (.iconst 1, 1) := by decide +kernel
theorem dX4_isCell_13 : decode cX4_isCell 13 = .ok (.goto 4, 3) := by decide +kernel
theorem dX4_isCell_16 : decode cX4_isCell 16 = .ok (.iconst 0, 1) := by decide +kernel
theorem dX4_isCell_17 : decode cX4_isCell 17 = .ok (.ireturn, 1) := by decide +kernel
theorem dX4_isBit_0 : decode cX4_isBit 0 = .ok (.aload_n 0, 1) := by decide +kernel
theorem dX4_isBit_1 : decode cX4_isBit 1 = .ok (.iload_n 1, 1) := by decide +kernel
theorem dX4_isBit_2 : decode cX4_isBit 2 = .ok (.invokevirtual 59, 3) := by decide +kernel
theorem dX4_isBit_5 : decode cX4_isBit 5 = .ok (.ifCond .eq 17, 3) := by decide +kernel
theorem dX4_isBit_8 : decode cX4_isBit 8 = .ok (.aload_n 0, 1) := by decide +kernel
theorem dX4_isBit_9 : decode cX4_isBit 9 = .ok (.getfield 27, 3) := by decide +kernel
theorem dX4_isBit_12 : decode cX4_isBit 12 = .ok (.iload_n 1, 1) := by decide +kernel
theorem dX4_isBit_13 : decode cX4_isBit 13 = .ok (.iaload, 1) := by decide +kernel
theorem dX4_isBit_14 : decode cX4_isBit 14 = .ok (.iconst 5, 1) := by decide +kernel
theorem dX4_isBit_15 : decode cX4_isBit 15 = .ok (.if_icmp .lt 7, 3) := by decide +kernel
theorem dX4_isBit_18 : decode cX4_isBit 18 = .ok (.iconst 1, 1) := by decide +kernel
theorem dX4_isBit_19 : decode cX4_isBit 19 = .ok (.goto 4, 3) := by decide +kernel
theorem dX4_isBit_22 : decode cX4_isBit 22 = .ok (.iconst 0, 1) := by decide +kernel
theorem dX4_isBit_23 : decode cX4_isBit 23 = .ok (.ireturn, 1) := by decide +kernel
theorem dX4_isKeeper_0 : decode cX4_isKeeper 0 = .ok (.aload_n 0, 1) := by decide +kernel
theorem dX4_isKeeper_1 : decode cX4_isKeeper 1 = .ok (.iload_n 1, 1) := by decide +kernel
theorem dX4_isKeeper_2 : decode cX4_isKeeper 2 = .ok (.invokevirtual 59, 3) := by decide +kernel
theorem dX4_isKeeper_5 : decode cX4_isKeeper 5 = .ok (.ifCond .eq 18, 3) := by decide +kernel
theorem dX4_isKeeper_8 : decode cX4_isKeeper 8 = .ok (.aload_n 0, 1) := by decide +kernel
theorem dX4_isKeeper_9 : decode cX4_isKeeper 9 = .ok (.getfield 27, 3) := by decide +kernel
theorem dX4_isKeeper_12 : decode cX4_isKeeper 12 = .ok (.iload_n 1, 1) := by decide +kernel
theorem dX4_isKeeper_13 : decode cX4_isKeeper 13 = .ok (.iaload, 1) := by decide +kernel
theorem dX4_isKeeper_14 : decode cX4_isKeeper 14 = .ok (.bipush 6, 2) := by decide +kernel
theorem dX4_isKeeper_16 : decode cX4_isKeeper 16 = .ok (.if_icmp .ne 7, 3) := by decide +kernel
theorem dX4_isKeeper_19 : decode cX4_isKeeper 19 = .ok (.iconst 1, 1) := by decide +kernel
theorem dX4_isKeeper_20 : decode cX4_isKeeper 20 = .ok (.goto 4, 3) := by decide +kernel
theorem dX4_isKeeper_23 : decode cX4_isKeeper 23 = .ok (.iconst 0, 1) := by decide +kernel
theorem dX4_isKeeper_24 : decode cX4_isKeeper 24 = .ok (.ireturn, 1) := by decide +kernel
theorem dX4_takesNoBit_0 : decode cX4_takesNoBit 0 = .ok (.aload_n 0, 1) := by decide +kernel
theorem dX4_takesNoBit_1 : decode cX4_takesNoBit 1 = .ok (.getfield 9, 3) := by decide +kernel
theorem dX4_takesNoBit_4 : decode cX4_takesNoBit 4 = .ok (.bipush 24, 2) := by decide +kernel
theorem dX4_takesNoBit_6 : decode cX4_takesNoBit 6 = .ok (.if_icmp .ge 12, 3) := by decide +kernel
theorem dX4_takesNoBit_9 : decode cX4_takesNoBit 9 = .ok (.aload_n 0, 1) := by decide +kernel
theorem dX4_takesNoBit_10 : decode cX4_takesNoBit 10 = .ok (.getfield 15, 3) := by decide +kernel
theorem dX4_takesNoBit_13 : decode cX4_takesNoBit 13 = .ok (.bipush 10, 2) := by decide +kernel
theorem dX4_takesNoBit_15 : decode cX4_takesNoBit 15 = .ok (.if_icmp .lt 7, 3) := by decide +kernel
theorem dX4_takesNoBit_18 : decode cX4_takesNoBit 18 = .ok (.iconst 1, 1) := by decide +kernel
theorem dX4_takesNoBit_19 : decode cX4_takesNoBit 19 = .ok (.goto 4, 3) := by decide +kernel
theorem dX4_takesNoBit_22 : decode cX4_takesNoBit 22 = .ok (.iconst 0, 1) := by decide +kernel
theorem dX4_takesNoBit_23 : decode cX4_takesNoBit 23 = .ok (.ireturn, 1) := by decide +kernel
theorem dX4_addBit_0 : decode cX4_addBit 0 = .ok (.aload_n 0, 1) := by decide +kernel
theorem dX4_addBit_1 : decode cX4_addBit 1 = .ok (.getfield 9, 3) := by decide +kernel
theorem dX4_addBit_4 : decode cX4_addBit 4 = .ok (.istore 4, 2) := by decide +kernel
theorem dX4_addBit_6 : decode cX4_addBit 6 = .ok (.aload_n 0, 1) := by decide +kernel
theorem dX4_addBit_7 : decode cX4_addBit 7 = .ok (.getfield 15, 3) := by decide +kernel
theorem dX4_addBit_10 : decode cX4_addBit 10 = .ok (.istore 5, 2) := by decide +kernel
theorem dX4_addBit_12 : decode cX4_addBit 12 = .ok (.aload_n 0, 1) := by decide +kernel
theorem dX4_addBit_13 : decode cX4_addBit 13 = .ok (.iload 4, 2) := by decide +kernel
theorem dX4_addBit_15 : decode cX4_addBit 15 = .ok (.iload_n 1, 1) := by decide +kernel
theorem dX4_addBit_16 : decode cX4_addBit 16 = .ok (.iload_n 1, 1) := by decide +kernel
theorem dX4_addBit_17 : decode cX4_addBit 17 = .ok (.bipush 6, 2) := by decide +kernel
theorem dX4_addBit_19 : decode cX4_addBit 19 = .ok (.if_icmp .ne 8, 3) := by decide +kernel
theorem dX4_addBit_22 : decode cX4_addBit 22 = .ok (.iload 4, 2) := by decide +kernel
theorem dX4_addBit_24 : decode cX4_addBit 24 = .ok (.goto 5, 3) := by decide +kernel
theorem dX4_addBit_27 : decode cX4_addBit 27 = .ok (.bipush (-2), 2) := by decide +kernel
theorem dX4_addBit_29 : decode cX4_addBit 29 = .ok (.bipush (-2), 2) := by decide +kernel
theorem dX4_addBit_31 : decode cX4_addBit 31 = .ok (.bipush (-2), 2) := by decide +kernel
theorem dX4_addBit_33 : decode cX4_addBit 33 = .ok (.invokevirtual 63, 3) := by decide +kernel
theorem dX4_addBit_36 : decode cX4_addBit 36 = .ok (.aload_n 0, 1) := by decide +kernel
theorem dX4_addBit_37 : decode cX4_addBit 37 = .ok (.getfield 31, 3) := by decide +kernel
theorem dX4_addBit_40 : decode cX4_addBit 40 = .ok (.iload 4, 2) := by decide +kernel
theorem dX4_addBit_42 : decode cX4_addBit 42 = .ok (.iload_n 2, 1) := by decide +kernel
theorem dX4_addBit_43 : decode cX4_addBit 43 = .ok (.iastore, 1) := by decide +kernel
theorem dX4_addBit_44 : decode cX4_addBit 44 = .ok (.aload_n 0, 1) := by decide +kernel
theorem dX4_addBit_45 : decode cX4_addBit 45 = .ok (.getfield 43, 3) := by decide +kernel
theorem dX4_addBit_48 : decode cX4_addBit 48 = .ok (.iload 4, 2) := by decide +kernel
theorem dX4_addBit_50 : decode cX4_addBit 50 = .ok (.iload 5, 2) := by decide +kernel
theorem dX4_addBit_52 : decode cX4_addBit 52 = .ok (.iastore, 1) := by decide +kernel
theorem dX4_addBit_53 : decode cX4_addBit 53 = .ok (.aload_n 0, 1) := by decide +kernel
theorem dX4_addBit_54 : decode cX4_addBit 54 = .ok (.getfield 46, 3) := by decide +kernel
theorem dX4_addBit_57 : decode cX4_addBit 57 = .ok (.iload 5, 2) := by decide +kernel
theorem dX4_addBit_59 : decode cX4_addBit 59 = .ok (.iload 4, 2) := by decide +kernel
theorem dX4_addBit_61 : decode cX4_addBit 61 = .ok (.iastore, 1) := by decide +kernel
theorem dX4_addBit_62 : decode cX4_addBit 62 = .ok (.aload_n 0, 1) := by decide +kernel
theorem dX4_addBit_63 : decode cX4_addBit 63 = .ok (.getfield 49, 3) := by decide +kernel
theorem dX4_addBit_66 : decode cX4_addBit 66 = .ok (.iload_n 2, 1) := by decide +kernel
theorem dX4_addBit_67 : decode cX4_addBit 67 = .ok (.dup2, 1) := by decide +kernel
theorem dX4_addBit_68 : decode cX4_addBit 68 = .ok (.iaload, 1) := by decide +kernel
theorem dX4_addBit_69 : decode cX4_addBit 69 = .ok (.iconst 1, 1) := by decide +kernel
theorem dX4_addBit_70 : decode cX4_addBit 70 = .ok (.iload 5, 2) := by decide +kernel
theorem dX4_addBit_72 : decode cX4_addBit 72 = .ok (.ishl, 1) := by decide +kernel
theorem dX4_addBit_73 : decode cX4_addBit 73 = .ok (.ior, 1) := by decide +kernel
theorem dX4_addBit_74 : decode cX4_addBit 74 = .ok (.iastore, 1) := by decide +kernel
theorem dX4_addBit_75 : decode cX4_addBit 75 = .ok (.aload_n 0, 1) := by decide +kernel
theorem dX4_addBit_76 : decode cX4_addBit 76 = .ok (.dup, 1) := by decide +kernel
theorem dX4_addBit_77 : decode cX4_addBit 77 = .ok (.getfield 18, 3) := by decide +kernel
theorem dX4_addBit_80 : decode cX4_addBit 80 = .ok (.iload_n 3, 1) := by decide +kernel
theorem dX4_addBit_81 : decode cX4_addBit 81 = .ok (.iload 5, 2) := by decide +kernel
theorem dX4_addBit_83 : decode cX4_addBit 83 = .ok (.ishl, 1) := by decide +kernel
theorem dX4_addBit_84 : decode cX4_addBit 84 = .ok (.ior, 1) := by decide +kernel
theorem dX4_addBit_85 : decode cX4_addBit 85 = .ok (.putfield 18, 3) := by decide +kernel
theorem dX4_addBit_88 : decode cX4_addBit 88 = .ok (.aload_n 0, 1) := by decide +kernel
theorem dX4_addBit_89 : decode cX4_addBit 89 = .ok (.dup, 1) := by decide +kernel
theorem dX4_addBit_90 : decode cX4_addBit 90 = .ok (.getfield 24, 3) := by decide +kernel
theorem dX4_addBit_93 : decode cX4_addBit 93 = .ok (.iload_n 1, 1) := by decide +kernel
theorem dX4_addBit_94 : decode cX4_addBit 94 = .ok (.bipush 6, 2) := by decide +kernel
theorem dX4_addBit_96 : decode cX4_addBit 96 = .ok (.if_icmp .ne 10, 3) := by decide +kernel
theorem dX4_addBit_99 : decode cX4_addBit 99 = .ok (.iconst 1, 1) := by decide +kernel
theorem dX4_addBit_100 : decode cX4_addBit 100 = .ok (.iload 5, 2) := by decide +kernel
theorem dX4_addBit_102 : decode cX4_addBit 102 = .ok (.ishl, 1) := by decide +kernel
theorem dX4_addBit_103 : decode cX4_addBit 103 = .ok (.goto 4, 3) := by decide +kernel
theorem dX4_addBit_106 : decode cX4_addBit 106 = .ok (.iconst 0, 1) := by decide +kernel
theorem dX4_addBit_107 : decode cX4_addBit 107 = .ok (.ior, 1) := by decide +kernel
theorem dX4_addBit_108 : decode cX4_addBit 108 = .ok (.putfield 24, 3) := by decide +kernel
theorem dX4_addBit_111 : decode cX4_addBit 111 = .ok (.aload_n 0, 1) := by decide +kernel
theorem dX4_addBit_112 : decode cX4_addBit 112 = .ok (.getfield 52, 3) := by decide +kernel
theorem dX4_addBit_115 : decode cX4_addBit 115 = .ok (.iload 4, 2) := by decide +kernel
theorem dX4_addBit_117 : decode cX4_addBit 117 = .ok (.iconst 1, 1) := by decide +kernel
theorem dX4_addBit_118 : decode cX4_addBit 118 = .ok (.iload 5, 2) := by decide +kernel
theorem dX4_addBit_120 : decode cX4_addBit 120 = .ok (.ishl, 1) := by decide +kernel
theorem dX4_addBit_121 : decode cX4_addBit 121 = .ok (.iastore, 1) := by decide +kernel
theorem dX4_addBit_122 : decode cX4_addBit 122 = .ok (.iconst 0, 1) := by decide +kernel
theorem dX4_addBit_123 : decode cX4_addBit 123 = .ok (.istore 6, 2) := by decide +kernel
theorem dX4_addBit_125 : decode cX4_addBit 125 = .ok (.iload 6, 2) := by decide +kernel
theorem dX4_addBit_127 : decode cX4_addBit 127 = .ok (.bipush 16, 2) := by decide +kernel
theorem dX4_addBit_129 : decode cX4_addBit 129 = .ok (.if_icmp .ge 29, 3) := by decide +kernel
theorem dX4_addBit_132 : decode cX4_addBit 132 = .ok (.aload_n 0, 1) := by decide +kernel
theorem dX4_addBit_133 : decode cX4_addBit 133 = .ok (.getfield 55, 3) := by decide +kernel
theorem dX4_addBit_136 : decode cX4_addBit 136 = .ok (.iload 4, 2) := by decide +kernel
theorem dX4_addBit_138 : decode cX4_addBit 138 = .ok (.bipush 16, 2) := by decide +kernel
theorem dX4_addBit_140 : decode cX4_addBit 140 = .ok (.imul, 1) := by decide +kernel
theorem dX4_addBit_141 : decode cX4_addBit 141 = .ok (.iload 6, 2) := by decide +kernel
theorem dX4_addBit_143 : decode cX4_addBit 143 = .ok (.iadd, 1) := by decide +kernel
theorem dX4_addBit_144 : decode cX4_addBit 144 = .ok (.iload 5, 2) := by decide +kernel
theorem dX4_addBit_146 : decode cX4_addBit 146 = .ok (.iload 6, 2) := by decide +kernel
theorem dX4_addBit_148 : decode cX4_addBit 148 = .ok (.invokestatic 67, 3) := by decide +kernel
theorem dX4_addBit_151 : decode cX4_addBit 151 = .ok (.lastore, 1) := by decide +kernel
theorem dX4_addBit_152 : decode cX4_addBit 152 = .ok (.iinc 6 1, 3) := by decide +kernel
theorem dX4_addBit_155 : decode cX4_addBit 155 = .ok (.goto (-30), 3) := by decide +kernel
theorem dX4_addBit_158 : decode cX4_addBit 158 = .ok (.aload_n 0, 1) := by decide +kernel
theorem dX4_addBit_159 : decode cX4_addBit 159 = .ok (.dup, 1) := by decide +kernel
theorem dX4_addBit_160 : decode cX4_addBit 160 = .ok (.getfield 15, 3) := by decide +kernel
theorem dX4_addBit_163 : decode cX4_addBit 163 = .ok (.iconst 1, 1) := by decide +kernel
theorem dX4_addBit_164 : decode cX4_addBit 164 = .ok (.iadd, 1) := by decide +kernel
theorem dX4_addBit_165 : decode cX4_addBit 165 = .ok (.putfield 15, 3) := by decide +kernel
theorem dX4_addBit_168 : decode cX4_addBit 168 = .ok (.aload_n 0, 1) := by decide +kernel
theorem dX4_addBit_169 : decode cX4_addBit 169 = .ok (.dup, 1) := by decide +kernel
theorem dX4_addBit_170 : decode cX4_addBit 170 = .ok (.getfield 9, 3) := by decide +kernel
theorem dX4_addBit_173 : decode cX4_addBit 173 = .ok (.iconst 1, 1) := by decide +kernel
theorem dX4_addBit_174 : decode cX4_addBit 174 = .ok (.iadd, 1) := by decide +kernel
theorem dX4_addBit_175 : decode cX4_addBit 175 = .ok (.putfield 9, 3) := by decide +kernel
theorem dX4_addBit_178 : decode cX4_addBit 178 = .ok (.iload 4, 2) := by decide +kernel
theorem dX4_addBit_180 : decode cX4_addBit 180 = .ok (.ireturn, 1) := by decide +kernel
theorem dX4_addGate_0 : decode cX4_addGate 0 = .ok (.aload_n 0, 1) := by decide +kernel
theorem dX4_addGate_1 : decode cX4_addGate 1 = .ok (.getfield 9, 3) := by decide +kernel
theorem dX4_addGate_4 : decode cX4_addGate 4 = .ok (.istore 5, 2) := by decide +kernel
theorem dX4_addGate_6 : decode cX4_addGate 6 = .ok (.aload_n 0, 1) := by decide +kernel
theorem dX4_addGate_7 : decode cX4_addGate 7 = .ok (.iload 5, 2) := by decide +kernel
theorem dX4_addGate_9 : decode cX4_addGate 9 = .ok (.iload_n 1, 1) := by decide +kernel
theorem dX4_addGate_10 : decode cX4_addGate 10 = .ok (.iload_n 2, 1) := by decide +kernel
theorem dX4_addGate_11 : decode cX4_addGate 11 = .ok (.iload_n 3, 1) := by decide +kernel
theorem dX4_addGate_12 : decode cX4_addGate 12 = .ok (.iload 4, 2) := by decide +kernel
theorem dX4_addGate_14 : decode cX4_addGate 14 = .ok (.invokevirtual 63, 3) := by decide +kernel
theorem dX4_addGate_17 : decode cX4_addGate 17 = .ok (.aload_n 0, 1) := by decide +kernel
theorem dX4_addGate_18 : decode cX4_addGate 18 = .ok (.getfield 31, 3) := by decide +kernel
theorem dX4_addGate_21 : decode cX4_addGate 21 = .ok (.iload 5, 2) := by decide +kernel
theorem dX4_addGate_23 : decode cX4_addGate 23 = .ok (.bipush (-2), 2) := by decide +kernel
theorem dX4_addGate_25 : decode cX4_addGate 25 = .ok (.iastore, 1) := by decide +kernel
theorem dX4_addGate_26 : decode cX4_addGate 26 = .ok (.aload_n 0, 1) := by decide +kernel
theorem dX4_addGate_27 : decode cX4_addGate 27 = .ok (.getfield 43, 3) := by decide +kernel
theorem dX4_addGate_30 : decode cX4_addGate 30 = .ok (.iload 5, 2) := by decide +kernel
theorem dX4_addGate_32 : decode cX4_addGate 32 = .ok (.bipush (-2), 2) := by decide +kernel
theorem dX4_addGate_34 : decode cX4_addGate 34 = .ok (.iastore, 1) := by decide +kernel
theorem dX4_addGate_35 : decode cX4_addGate 35 = .ok (.aload_n 0, 1) := by decide +kernel
theorem dX4_addGate_36 : decode cX4_addGate 36 = .ok (.iload 5, 2) := by decide +kernel
theorem dX4_addGate_38 : decode cX4_addGate 38 = .ok (.invokevirtual 71, 3) := by decide +kernel
theorem dX4_addGate_41 : decode cX4_addGate 41 = .ok (.aload_n 0, 1) := by decide +kernel
theorem dX4_addGate_42 : decode cX4_addGate 42 = .ok (.dup, 1) := by decide +kernel
theorem dX4_addGate_43 : decode cX4_addGate 43 = .ok (.getfield 9, 3) := by decide +kernel
theorem dX4_addGate_46 : decode cX4_addGate 46 = .ok (.iconst 1, 1) := by decide +kernel
theorem dX4_addGate_47 : decode cX4_addGate 47 = .ok (.iadd, 1) := by decide +kernel
theorem dX4_addGate_48 : decode cX4_addGate 48 = .ok (.putfield 9, 3) := by decide +kernel
theorem dX4_addGate_51 : decode cX4_addGate 51 = .ok (.iload 5, 2) := by decide +kernel
theorem dX4_addGate_53 : decode cX4_addGate 53 = .ok (.ireturn, 1) := by decide +kernel
theorem dX4_addBehind_0 : decode cX4_addBehind 0 = .ok (.aload_n 0, 1) := by decide +kernel
theorem dX4_addBehind_1 : decode cX4_addBehind 1 = .ok (.bipush 6, 2) := by decide +kernel
theorem dX4_addBehind_3 : decode cX4_addBehind 3 = .ok (.aload_n 0, 1) := by decide +kernel
theorem dX4_addBehind_4 : decode cX4_addBehind 4 = .ok (.getfield 31, 3) := by decide +kernel
theorem dX4_addBehind_7 : decode cX4_addBehind 7 = .ok (.iload_n 1, 1) := by decide +kernel
theorem dX4_addBehind_8 : decode cX4_addBehind 8 = .ok (.iaload, 1) := by decide +kernel
theorem dX4_addBehind_9 : decode cX4_addBehind 9 = .ok (.aload_n 0, 1) := by decide +kernel
theorem dX4_addBehind_10 : decode cX4_addBehind 10 = .ok (.getfield 18, 3) := by decide +kernel
theorem dX4_addBehind_13 : decode cX4_addBehind 13 = .ok (.aload_n 0, 1) := by decide +kernel
theorem dX4_addBehind_14 : decode cX4_addBehind 14 = .ok (.getfield 43, 3) := by decide +kernel
theorem dX4_addBehind_17 : decode cX4_addBehind 17 = .ok (.iload_n 1, 1) := by decide +kernel
theorem dX4_addBehind_18 : decode cX4_addBehind 18 = .ok (.iaload, 1) := by decide +kernel
theorem dX4_addBehind_19 : decode cX4_addBehind 19 = .ok (.ishr, 1) := by decide +kernel
theorem dX4_addBehind_20 : decode cX4_addBehind 20 = .ok (.iconst 1, 1) := by decide +kernel
theorem dX4_addBehind_21 : decode cX4_addBehind 21 = .ok (.iand, 1) := by decide +kernel
theorem dX4_addBehind_22 : decode cX4_addBehind 22 = .ok (.invokevirtual 75, 3) := by decide +kernel
theorem dX4_addBehind_25 : decode cX4_addBehind 25 = .ok (.istore_n 2, 1) := by decide +kernel
theorem dX4_addBehind_26 : decode cX4_addBehind 26 = .ok (.iconst 0, 1) := by decide +kernel
theorem dX4_addBehind_27 : decode cX4_addBehind 27 = .ok (.istore_n 3, 1) := by decide +kernel
theorem dX4_addBehind_28 : decode cX4_addBehind 28 = .ok (.iload_n 3, 1) := by decide +kernel
theorem dX4_addBehind_29 : decode cX4_addBehind 29 = .ok (.aload_n 0, 1) := by decide +kernel
theorem dX4_addBehind_30 : decode cX4_addBehind 30 = .ok (.getfield 9, 3) := by decide +kernel
theorem dX4_addBehind_33 : decode cX4_addBehind 33 = .ok (.if_icmp .ge 102, 3) := by decide +kernel
theorem dX4_addBehind_36 : decode cX4_addBehind 36 = .ok (.aload_n 0, 1) := by decide +kernel
theorem dX4_addBehind_37 : decode cX4_addBehind 37 = .ok (.getfield 34, 3) := by decide +kernel
theorem dX4_addBehind_40 : decode cX4_addBehind 40 = .ok (.iload_n 3, 1) := by decide +kernel
theorem dX4_addBehind_41 : decode cX4_addBehind 41 = .ok (.aload_n 0, 1) := by decide +kernel
theorem dX4_addBehind_42 : decode cX4_addBehind 42 = .ok (.getfield 34, 3) := by decide +kernel
theorem dX4_addBehind_45 : decode cX4_addBehind 45 = .ok (.iload_n 3, 1) := by decide +kernel
theorem dX4_addBehind_46 : decode cX4_addBehind 46 = .ok (.iaload, 1) := by decide +kernel
theorem dX4_addBehind_47 : decode cX4_addBehind 47 = .ok (.iload_n 1, 1) := by decide +kernel
theorem dX4_addBehind_48 : decode cX4_addBehind 48 = .ok (.if_icmp .ne 7, 3) := by decide +kernel
theorem dX4_addBehind_51 : decode cX4_addBehind 51 = .ok (.iload_n 2, 1) := by decide +kernel
theorem dX4_addBehind_52 : decode cX4_addBehind 52 = .ok (.goto 9, 3) := by decide +kernel
theorem dX4_addBehind_55 : decode cX4_addBehind 55 = .ok (.aload_n 0, 1) := by decide +kernel
theorem dX4_addBehind_56 : decode cX4_addBehind 56 = .ok (.getfield 34, 3) := by decide +kernel
theorem dX4_addBehind_59 : decode cX4_addBehind 59 = .ok (.iload_n 3, 1) := by decide +kernel
theorem dX4_addBehind_60 : decode cX4_addBehind 60 = .ok (.iaload, 1) := by decide +kernel
theorem dX4_addBehind_61 : decode cX4_addBehind 61 = .ok (.iastore, 1) := by decide +kernel
theorem dX4_addBehind_62 : decode cX4_addBehind 62 = .ok (.aload_n 0, 1) := by decide +kernel
theorem dX4_addBehind_63 : decode cX4_addBehind 63 = .ok (.getfield 37, 3) := by decide +kernel
theorem dX4_addBehind_66 : decode cX4_addBehind 66 = .ok (.iload_n 3, 1) := by decide +kernel
theorem dX4_addBehind_67 : decode cX4_addBehind 67 = .ok (.aload_n 0, 1) := by decide +kernel
theorem dX4_addBehind_68 : decode cX4_addBehind 68 = .ok (.getfield 37, 3) := by decide +kernel
theorem dX4_addBehind_71 : decode cX4_addBehind 71 = .ok (.iload_n 3, 1) := by decide +kernel
theorem dX4_addBehind_72 : decode cX4_addBehind 72 = .ok (.iaload, 1) := by decide +kernel
theorem dX4_addBehind_73 : decode cX4_addBehind 73 = .ok (.iload_n 1, 1) := by decide +kernel
theorem dX4_addBehind_74 : decode cX4_addBehind 74 = .ok (.if_icmp .ne 7, 3) := by decide +kernel
theorem dX4_addBehind_77 : decode cX4_addBehind 77 = .ok (.iload_n 2, 1) := by decide +kernel
theorem dX4_addBehind_78 : decode cX4_addBehind 78 = .ok (.goto 9, 3) := by decide +kernel
theorem dX4_addBehind_81 : decode cX4_addBehind 81 = .ok (.aload_n 0, 1) := by decide +kernel
theorem dX4_addBehind_82 : decode cX4_addBehind 82 = .ok (.getfield 37, 3) := by decide +kernel
theorem dX4_addBehind_85 : decode cX4_addBehind 85 = .ok (.iload_n 3, 1) := by decide +kernel
theorem dX4_addBehind_86 : decode cX4_addBehind 86 = .ok (.iaload, 1) := by decide +kernel
theorem dX4_addBehind_87 : decode cX4_addBehind 87 = .ok (.iastore, 1) := by decide +kernel
theorem dX4_addBehind_88 : decode cX4_addBehind 88 = .ok (.aload_n 0, 1) := by decide +kernel
theorem dX4_addBehind_89 : decode cX4_addBehind 89 = .ok (.getfield 40, 3) := by decide +kernel
theorem dX4_addBehind_92 : decode cX4_addBehind 92 = .ok (.iload_n 3, 1) := by decide +kernel
theorem dX4_addBehind_93 : decode cX4_addBehind 93 = .ok (.aload_n 0, 1) := by decide +kernel
theorem dX4_addBehind_94 : decode cX4_addBehind 94 = .ok (.getfield 40, 3) := by decide +kernel
theorem dX4_addBehind_97 : decode cX4_addBehind 97 = .ok (.iload_n 3, 1) := by decide +kernel
theorem dX4_addBehind_98 : decode cX4_addBehind 98 = .ok (.iaload, 1) := by decide +kernel
theorem dX4_addBehind_99 : decode cX4_addBehind 99 = .ok (.iload_n 1, 1) := by decide +kernel
theorem dX4_addBehind_100 : decode cX4_addBehind 100 = .ok (.if_icmp .ne 7, 3) := by decide +kernel
theorem dX4_addBehind_103 : decode cX4_addBehind 103 = .ok (.iload_n 2, 1) := by decide +kernel
theorem dX4_addBehind_104 : decode cX4_addBehind 104 = .ok (.goto 9, 3) := by decide +kernel
theorem dX4_addBehind_107 : decode cX4_addBehind 107 = .ok (.aload_n 0, 1) := by decide +kernel
theorem dX4_addBehind_108 : decode cX4_addBehind 108 = .ok (.getfield 40, 3) := by decide +kernel
theorem dX4_addBehind_111 : decode cX4_addBehind 111 = .ok (.iload_n 3, 1) := by decide +kernel
theorem dX4_addBehind_112 : decode cX4_addBehind 112 = .ok (.iaload, 1) := by decide +kernel
theorem dX4_addBehind_113 : decode cX4_addBehind 113 = .ok (.iastore, 1) := by decide +kernel
theorem dX4_addBehind_114 : decode cX4_addBehind 114 = .ok (.aload_n 0, 1) := by decide +kernel
theorem dX4_addBehind_115 : decode cX4_addBehind 115 = .ok (.getfield 27, 3) := by decide +kernel
theorem dX4_addBehind_118 : decode cX4_addBehind 118 = .ok (.iload_n 3, 1) := by decide +kernel
theorem dX4_addBehind_119 : decode cX4_addBehind 119 = .ok (.iaload, 1) := by decide +kernel
theorem dX4_addBehind_120 : decode cX4_addBehind 120 = .ok (.iconst 4, 1) := by decide +kernel
theorem dX4_addBehind_121 : decode cX4_addBehind 121 = .ok (.if_icmp .gt 8, 3) := by decide +kernel
theorem dX4_addBehind_124 : decode cX4_addBehind 124 = .ok (.aload_n 0, 1) := by decide +kernel
theorem dX4_addBehind_125 : decode cX4_addBehind 125 = .ok (.iload_n 3, 1) := by decide +kernel
theorem dX4_addBehind_126 : decode cX4_addBehind 126 = .ok (.invokevirtual 71, 3) := by decide +kernel
theorem dX4_addBehind_129 : decode cX4_addBehind 129 = .ok (.iinc 3 1, 3) := by decide +kernel
theorem dX4_addBehind_132 : decode cX4_addBehind 132 = .ok (.goto (-104), 3) := by decide +kernel
theorem dX4_addBehind_135 : decode cX4_addBehind 135 = .ok (.aload_n 0, 1) := by decide +kernel
theorem dX4_addBehind_136 : decode cX4_addBehind 136 = .ok (.getfield 34, 3) := by decide +kernel
theorem dX4_addBehind_139 : decode cX4_addBehind 139 = .ok (.iload_n 2, 1) := by decide +kernel
theorem dX4_addBehind_140 : decode cX4_addBehind 140 = .ok (.iload_n 1, 1) := by decide +kernel
theorem dX4_addBehind_141 : decode cX4_addBehind 141 = .ok (.iastore, 1) := by decide +kernel
theorem dX4_addBehind_142 : decode cX4_addBehind 142 = .ok (.iload_n 2, 1) := by decide +kernel
theorem dX4_addBehind_143 : decode cX4_addBehind 143 = .ok (.ireturn, 1) := by decide +kernel
theorem dX4_valueOf_0 : decode cX4_valueOf 0 = .ok (.aload_n 0, 1) := by decide +kernel
theorem dX4_valueOf_1 : decode cX4_valueOf 1 = .ok (.getfield 55, 3) := by decide +kernel
theorem dX4_valueOf_4 : decode cX4_valueOf 4 = .ok (.iload_n 1, 1) := by decide +kernel
theorem dX4_valueOf_5 : decode cX4_valueOf 5 = .ok (.bipush 16, 2) := by decide +kernel
theorem dX4_valueOf_7 : decode cX4_valueOf 7 = .ok (.imul, 1) := by decide +kernel
theorem dX4_valueOf_8 : decode cX4_valueOf 8 = .ok (.iload_n 2, 1) := by decide +kernel
theorem dX4_valueOf_9 : decode cX4_valueOf 9 = .ok (.bipush 6, 2) := by decide +kernel
theorem dX4_valueOf_11 : decode cX4_valueOf 11 = .ok (.ishr, 1) := by decide +kernel
theorem dX4_valueOf_12 : decode cX4_valueOf 12 = .ok (.iadd, 1) := by decide +kernel
theorem dX4_valueOf_13 : decode cX4_valueOf 13 = .ok (.laload, 1) := by decide +kernel
theorem dX4_valueOf_14 : decode cX4_valueOf 14 = .ok (.iload_n 2, 1) := by decide +kernel
theorem dX4_valueOf_15 : decode cX4_valueOf 15 = .ok (.bipush 63, 2) := by decide +kernel
theorem dX4_valueOf_17 : decode cX4_valueOf 17 = .ok (.iand, 1) := by decide +kernel
theorem dX4_valueOf_18 : decode cX4_valueOf 18 = .ok (.lushr, 1) := by decide +kernel
theorem dX4_valueOf_19 : decode cX4_valueOf 19 = .ok (.l2i, 1) := by decide +kernel
theorem dX4_valueOf_20 : decode cX4_valueOf 20 = .ok (.iconst 1, 1) := by decide +kernel
theorem dX4_valueOf_21 : decode cX4_valueOf 21 = .ok (.iand, 1) := by decide +kernel
theorem dX4_valueOf_22 : decode cX4_valueOf 22 = .ok (.ireturn, 1) := by decide +kernel
theorem dX4_hasBothValues_0 : decode cX4_hasBothValues 0 = .ok (.iload_n 3, 1) := by decide +kernel
theorem dX4_hasBothValues_1 : decode cX4_hasBothValues 1 = .ok (.bipush 63, 2) := by decide +kernel
theorem dX4_hasBothValues_3 : decode cX4_hasBothValues 3 = .ok (.iand, 1) := by decide +kernel
theorem dX4_hasBothValues_4 : decode cX4_hasBothValues 4 = .ok (.istore 4, 2) := by decide +kernel
theorem dX4_hasBothValues_6 : decode cX4_hasBothValues 6 = .ok (.iload_n 3, 1) := by decide +kernel
theorem dX4_hasBothValues_7 : decode cX4_hasBothValues 7 = .ok (.bipush 6, 2) := by decide +kernel
theorem dX4_hasBothValues_9 : decode cX4_hasBothValues 9 = .ok (.ishr, 1) := by decide +kernel
theorem dX4_hasBothValues_10 : decode cX4_hasBothValues 10 = .ok (.istore 5, 2) := by decide +kernel
theorem dX4_hasBothValues_12 : decode cX4_hasBothValues 12 = .ok (.lconst 1, 1) := by decide +kernel
theorem dX4_hasBothValues_13 : decode cX4_hasBothValues 13 = .ok (.iload_n 2, 1) := by decide +kernel
theorem dX4_hasBothValues_14 : decode cX4_hasBothValues 14 = .ok (.bipush 63, 2) := by decide +kernel
theorem dX4_hasBothValues_16 : decode cX4_hasBothValues 16 = .ok (.iand, 1) := by decide +kernel
theorem dX4_hasBothValues_17 : decode cX4_hasBothValues 17 = .ok (.iload 4, 2) := by decide +kernel
theorem dX4_hasBothValues_19 : decode cX4_hasBothValues 19 = .ok (.iconst (-1), 1) := by decide +kernel
theorem dX4_hasBothValues_20 : decode cX4_hasBothValues 20 = .ok (.ixor, 1) := by decide +kernel
theorem dX4_hasBothValues_21 : decode cX4_hasBothValues 21 = .ok (.iand, 1) := by decide +kernel
theorem dX4_hasBothValues_22 : decode cX4_hasBothValues 22 = .ok (.lshl, 1) := by decide +kernel
theorem dX4_hasBothValues_23 : decode cX4_hasBothValues 23 = .ok (.lstore 6, 2) := by decide +kernel
theorem dX4_hasBothValues_25 : decode cX4_hasBothValues 25 = .ok (.iconst 0, 1) := by decide +kernel
theorem dX4_hasBothValues_26 : decode cX4_hasBothValues 26 = .ok (.istore 8, 2) := by decide +kernel
theorem dX4_hasBothValues_28 : decode cX4_hasBothValues 28 = .ok (.iload 8, 2) := by decide +kernel
theorem dX4_hasBothValues_30 : decode cX4_hasBothValues 30 = .ok (.getstatic 79, 3) := by decide +kernel
theorem dX4_hasBothValues_33 : decode cX4_hasBothValues 33 = .ok (.arraylength, 1) := by decide +kernel
theorem dX4_hasBothValues_34 : decode cX4_hasBothValues 34 = .ok (.if_icmp .ge 32, 3) := by decide +kernel
theorem dX4_hasBothValues_37 : decode cX4_hasBothValues 37 = .ok (.iload 4, 2) := by decide +kernel
theorem dX4_hasBothValues_39 : decode cX4_hasBothValues 39 = .ok (.iload 8, 2) := by decide +kernel
theorem dX4_hasBothValues_41 : decode cX4_hasBothValues 41 = .ok (.ishr, 1) := by decide +kernel
theorem dX4_hasBothValues_42 : decode cX4_hasBothValues 42 = .ok (.iconst 1, 1) := by decide +kernel
theorem dX4_hasBothValues_43 : decode cX4_hasBothValues 43 = .ok (.iand, 1) := by decide +kernel
theorem dX4_hasBothValues_44 : decode cX4_hasBothValues 44 = .ok (.iconst 1, 1) := by decide +kernel
theorem dX4_hasBothValues_45 : decode cX4_hasBothValues 45 = .ok (.if_icmp .ne 15, 3) := by decide +kernel
theorem dX4_hasBothValues_48 : decode cX4_hasBothValues 48 = .ok (.lload 6, 2) := by decide +kernel
theorem dX4_hasBothValues_50 : decode cX4_hasBothValues 50 = .ok (.lload 6, 2) := by decide +kernel
theorem dX4_hasBothValues_52 : decode cX4_hasBothValues 52 = .ok (.iconst 1, 1) := by decide +kernel
theorem dX4_hasBothValues_53 : decode cX4_hasBothValues 53 = .ok (.iload 8, 2) := by decide +kernel
theorem dX4_hasBothValues_55 : decode cX4_hasBothValues 55 = .ok (.ishl, 1) := by decide +kernel
theorem dX4_hasBothValues_56 : decode cX4_hasBothValues 56 = .ok (.lshl, 1) := by decide +kernel
theorem dX4_hasBothValues_57 : decode cX4_hasBothValues 57 = .ok (.lor, 1) := by decide +kernel
theorem dX4_hasBothValues_58 : decode cX4_hasBothValues 58 = .ok (.lstore 6, 2) := by decide +kernel
theorem dX4_hasBothValues_60 : decode cX4_hasBothValues 60 = .ok (.iinc 8 1, 3) := by decide +kernel
theorem dX4_hasBothValues_63 : decode cX4_hasBothValues 63 = .ok (.goto (-35), 3) := by decide +kernel
theorem dX4_hasBothValues_66 : decode cX4_hasBothValues 66 = .ok (.iload_n 1, 1) := by decide +kernel
theorem dX4_hasBothValues_67 : decode cX4_hasBothValues 67 = .ok (.bipush 16, 2) := by decide +kernel
theorem dX4_hasBothValues_69 : decode cX4_hasBothValues 69 = .ok (.imul, 1) := by decide +kernel
theorem dX4_hasBothValues_70 : decode cX4_hasBothValues 70 = .ok (.iload_n 2, 1) := by decide +kernel
theorem dX4_hasBothValues_71 : decode cX4_hasBothValues 71 = .ok (.bipush 6, 2) := by decide +kernel
theorem dX4_hasBothValues_73 : decode cX4_hasBothValues 73 = .ok (.ishr, 1) := by decide +kernel
theorem dX4_hasBothValues_74 : decode cX4_hasBothValues 74 = .ok (.iload 5, 2) := by decide +kernel
theorem dX4_hasBothValues_76 : decode cX4_hasBothValues 76 = .ok (.iconst (-1), 1) := by decide +kernel
theorem dX4_hasBothValues_77 : decode cX4_hasBothValues 77 = .ok (.ixor, 1) := by decide +kernel
theorem dX4_hasBothValues_78 : decode cX4_hasBothValues 78 = .ok (.iand, 1) := by decide +kernel
theorem dX4_hasBothValues_79 : decode cX4_hasBothValues 79 = .ok (.iadd, 1) := by decide +kernel
theorem dX4_hasBothValues_80 : decode cX4_hasBothValues 80 = .ok (.istore 8, 2) := by decide +kernel
theorem dX4_hasBothValues_82 : decode cX4_hasBothValues 82 = .ok (.lconst 0, 1) := by decide +kernel
theorem dX4_hasBothValues_83 : decode cX4_hasBothValues 83 = .ok (.lstore 9, 2) := by decide +kernel
theorem dX4_hasBothValues_85 : decode cX4_hasBothValues 85 = .ok (.lconst 0, 1) := by decide +kernel
theorem dX4_hasBothValues_86 : decode cX4_hasBothValues 86 = .ok (.lstore 11, 2) := by decide +kernel
theorem dX4_hasBothValues_88 : decode cX4_hasBothValues 88 = .ok (.iconst 0, 1) := by decide +kernel
theorem dX4_hasBothValues_89 : decode cX4_hasBothValues 89 = .ok (.istore 13, 2) := by decide +kernel
theorem dX4_hasBothValues_91 : decode cX4_hasBothValues 91 = .ok (.iload 13, 2) := by decide +kernel
theorem dX4_hasBothValues_93 : decode cX4_hasBothValues 93 = .ok (.iload 5, 2) := by decide +kernel
theorem dX4_hasBothValues_95 : decode cX4_hasBothValues 95 = .ok (.if_icmp .gt 55, 3) := by decide +kernel
theorem dX4_hasBothValues_98 : decode cX4_hasBothValues 98 = .ok (.iload 13, 2) := by decide +kernel
theorem dX4_hasBothValues_100 : decode cX4_hasBothValues 100 = .ok (.iload 5, 2) := by decide +kernel
theorem dX4_hasBothValues_102 : decode cX4_hasBothValues 102 = .ok (.iconst (-1), 1) := by decide +kernel
theorem dX4_hasBothValues_103 : decode cX4_hasBothValues 103 = .ok (.ixor, 1) := by decide +kernel
theorem dX4_hasBothValues_104 : decode cX4_hasBothValues 104 = .ok (.iand, 1) := by decide +kernel
theorem dX4_hasBothValues_105 : decode cX4_hasBothValues 105 = .ok (.ifCond .ne 39, 3) := by decide +kernel
theorem dX4_hasBothValues_108 : decode cX4_hasBothValues 108 = .ok (.aload_n 0, 1) := by decide +kernel
theorem dX4_hasBothValues_109 : decode cX4_hasBothValues 109 = .ok (.getfield 55, 3) := by decide +kernel
theorem dX4_hasBothValues_112 : decode cX4_hasBothValues 112 = .ok (.iload 8, 2) := by decide +kernel
theorem dX4_hasBothValues_114 : decode cX4_hasBothValues 114 = .ok (.iload 13, 2) := by decide +kernel
theorem dX4_hasBothValues_116 : decode cX4_hasBothValues 116 = .ok (.iadd, 1) := by decide +kernel
theorem dX4_hasBothValues_117 : decode cX4_hasBothValues 117 = .ok (.laload, 1) := by decide +kernel
theorem dX4_hasBothValues_118 : decode cX4_hasBothValues 118 = .ok (.lstore 14, 2) := by decide +kernel
theorem dX4_hasBothValues_120 : decode cX4_hasBothValues 120 = .ok (.lload 9, 2) := by decide +kernel
theorem dX4_hasBothValues_122 : decode cX4_hasBothValues 122 = .ok (.lload 14, 2) := by decide +kernel
theorem dX4_hasBothValues_124 : decode cX4_hasBothValues 124 = .ok (.lload 6, 2) := by decide +kernel
theorem dX4_hasBothValues_126 : decode cX4_hasBothValues 126 = .ok (.land, 1) := by decide +kernel
theorem dX4_hasBothValues_127 : decode cX4_hasBothValues 127 = .ok (.lor, 1) := by decide +kernel
theorem dX4_hasBothValues_128 : decode cX4_hasBothValues 128 = .ok (.lstore 9, 2) := by decide +kernel
theorem dX4_hasBothValues_130 : decode cX4_hasBothValues 130 = .ok (.lload 11, 2) := by decide +kernel
theorem dX4_hasBothValues_132 : decode cX4_hasBothValues 132 = .ok (.lload 14, 2) := by decide +kernel
theorem dX4_hasBothValues_134 : decode cX4_hasBothValues 134 = .ok (.ldc2_w 82, 3) := by decide +kernel
theorem dX4_hasBothValues_137 : decode cX4_hasBothValues 137 = .ok (.lxor, 1) := by decide +kernel
theorem dX4_hasBothValues_138 : decode cX4_hasBothValues 138 = .ok (.lload 6, 2) := by decide +kernel
theorem dX4_hasBothValues_140 : decode cX4_hasBothValues 140 = .ok (.land, 1) := by decide +kernel
theorem dX4_hasBothValues_141 : decode cX4_hasBothValues 141 = .ok (.lor, 1) := by decide +kernel
theorem dX4_hasBothValues_142 : decode cX4_hasBothValues 142 = .ok (.lstore 11, 2) := by decide +kernel
theorem dX4_hasBothValues_144 : decode cX4_hasBothValues 144 = .ok (.iinc 13 1, 3) := by decide +kernel
theorem dX4_hasBothValues_147 : decode cX4_hasBothValues 147 = .ok (.goto (-56), 3) := by decide +kernel
theorem dX4_hasBothValues_150 : decode cX4_hasBothValues 150 = .ok (.lload 9, 2) := by decide +kernel
theorem dX4_hasBothValues_152 : decode cX4_hasBothValues 152 = .ok (.lconst 0, 1) := by decide +kernel
theorem dX4_hasBothValues_153 : decode cX4_hasBothValues 153 = .ok (.lcmp, 1) := by decide +kernel
theorem dX4_hasBothValues_154 : decode cX4_hasBothValues 154 = .ok (.ifCond .eq 14, 3) := by decide +kernel
theorem dX4_hasBothValues_157 : decode cX4_hasBothValues 157 = .ok (.lload 11, 2) := by decide +kernel
theorem dX4_hasBothValues_159 : decode cX4_hasBothValues 159 = .ok (.lconst 0, 1) := by decide +kernel
theorem dX4_hasBothValues_160 : decode cX4_hasBothValues 160 = .ok (.lcmp, 1) := by decide +kernel
theorem dX4_hasBothValues_161 : decode cX4_hasBothValues 161 = .ok (.ifCond .eq 7, 3) := by decide +kernel
theorem dX4_hasBothValues_164 : decode cX4_hasBothValues 164 = .ok (.iconst 1, 1) := by decide +kernel
theorem dX4_hasBothValues_165 : decode cX4_hasBothValues 165 = .ok (.goto 4, 3) := by decide +kernel
theorem dX4_hasBothValues_168 : decode cX4_hasBothValues 168 = .ok (.iconst 0, 1) := by decide +kernel
theorem dX4_hasBothValues_169 : decode cX4_hasBothValues 169 = .ok (.ireturn, 1) := by decide +kernel
theorem dX4_bitsOfSet_0 : decode cX4_bitsOfSet 0 = .ok (.iconst 0, 1) := by decide +kernel
theorem dX4_bitsOfSet_1 : decode cX4_bitsOfSet 1 = .ok (.istore_n 2, 1) := by decide +kernel
theorem dX4_bitsOfSet_2 : decode cX4_bitsOfSet 2 = .ok (.iconst 0, 1) := by decide +kernel
theorem dX4_bitsOfSet_3 : decode cX4_bitsOfSet 3 = .ok (.istore_n 3, 1) := by decide +kernel
theorem dX4_bitsOfSet_4 : decode cX4_bitsOfSet 4 = .ok (.iload_n 3, 1) := by decide +kernel
theorem dX4_bitsOfSet_5 : decode cX4_bitsOfSet 5 = .ok (.iconst 4, 1) := by decide +kernel
theorem dX4_bitsOfSet_6 : decode cX4_bitsOfSet 6 = .ok (.if_icmp .ge 27, 3) := by decide +kernel
theorem dX4_bitsOfSet_9 : decode cX4_bitsOfSet 9 = .ok (.iload_n 1, 1) := by decide +kernel
theorem dX4_bitsOfSet_10 : decode cX4_bitsOfSet 10 = .ok (.iload_n 3, 1) := by decide +kernel
theorem dX4_bitsOfSet_11 : decode cX4_bitsOfSet 11 = .ok (.ishr, 1) := by decide +kernel
theorem dX4_bitsOfSet_12 : decode cX4_bitsOfSet 12 = .ok (.iconst 1, 1) := by decide +kernel
theorem dX4_bitsOfSet_13 : decode cX4_bitsOfSet 13 = .ok (.iand, 1) := by decide +kernel
theorem dX4_bitsOfSet_14 : decode cX4_bitsOfSet 14 = .ok (.iconst 1, 1) := by decide +kernel
theorem dX4_bitsOfSet_15 : decode cX4_bitsOfSet 15 = .ok (.if_icmp .ne 12, 3) := by decide +kernel
theorem dX4_bitsOfSet_18 : decode cX4_bitsOfSet 18 = .ok (.iload_n 2, 1) := by decide +kernel
theorem dX4_bitsOfSet_19 : decode cX4_bitsOfSet 19 = .ok (.aload_n 0, 1) := by decide +kernel
theorem dX4_bitsOfSet_20 : decode cX4_bitsOfSet 20 = .ok (.getfield 49, 3) := by decide +kernel
theorem dX4_bitsOfSet_23 : decode cX4_bitsOfSet 23 = .ok (.iload_n 3, 1) := by decide +kernel
theorem dX4_bitsOfSet_24 : decode cX4_bitsOfSet 24 = .ok (.iaload, 1) := by decide +kernel
theorem dX4_bitsOfSet_25 : decode cX4_bitsOfSet 25 = .ok (.ior, 1) := by decide +kernel
theorem dX4_bitsOfSet_26 : decode cX4_bitsOfSet 26 = .ok (.istore_n 2, 1) := by decide +kernel
theorem dX4_bitsOfSet_27 : decode cX4_bitsOfSet 27 = .ok (.iinc 3 1, 3) := by decide +kernel
theorem dX4_bitsOfSet_30 : decode cX4_bitsOfSet 30 = .ok (.goto (-26), 3) := by decide +kernel
theorem dX4_bitsOfSet_33 : decode cX4_bitsOfSet 33 = .ok (.iload_n 2, 1) := by decide +kernel
theorem dX4_bitsOfSet_34 : decode cX4_bitsOfSet 34 = .ok (.ireturn, 1) := by decide +kernel
theorem dX4_clocksInUse_0 : decode cX4_clocksInUse 0 = .ok (.iconst 0, 1) := by decide +kernel
theorem dX4_clocksInUse_1 : decode cX4_clocksInUse 1 = .ok (.istore_n 1, 1) := by decide +kernel
theorem dX4_clocksInUse_2 : decode cX4_clocksInUse 2 = .ok (.iconst 0, 1) := by decide +kernel
theorem dX4_clocksInUse_3 : decode cX4_clocksInUse 3 = .ok (.istore_n 2, 1) := by decide +kernel
theorem dX4_clocksInUse_4 : decode cX4_clocksInUse 4 = .ok (.iload_n 2, 1) := by decide +kernel
theorem dX4_clocksInUse_5 : decode cX4_clocksInUse 5 = .ok (.iconst 4, 1) := by decide +kernel
theorem dX4_clocksInUse_6 : decode cX4_clocksInUse 6 = .ok (.if_icmp .ge 28, 3) := by decide +kernel
theorem dX4_clocksInUse_9 : decode cX4_clocksInUse 9 = .ok (.iload_n 1, 1) := by decide +kernel
theorem dX4_clocksInUse_10 : decode cX4_clocksInUse 10 = .ok (.aload_n 0, 1) := by decide +kernel
theorem dX4_clocksInUse_11 : decode cX4_clocksInUse 11 = .ok (.getfield 49, 3) := by decide +kernel
theorem dX4_clocksInUse_14 : decode cX4_clocksInUse 14 = .ok (.iload_n 2, 1) := by decide +kernel
theorem dX4_clocksInUse_15 : decode cX4_clocksInUse 15 = .ok (.iaload, 1) := by decide +kernel
theorem dX4_clocksInUse_16 : decode cX4_clocksInUse 16 = .ok (.ifCond .eq 9, 3) := by decide +kernel
theorem dX4_clocksInUse_19 : decode cX4_clocksInUse 19 = .ok (.iconst 1, 1) := by decide +kernel
theorem dX4_clocksInUse_20 : decode cX4_clocksInUse 20 = .ok (.iload_n 2, 1) := by decide +kernel
theorem dX4_clocksInUse_21 : decode cX4_clocksInUse 21 = .ok (.ishl, 1) := by decide +kernel
theorem dX4_clocksInUse_22 : decode cX4_clocksInUse 22 = .ok (.goto 4, 3) := by decide +kernel
theorem dX4_clocksInUse_25 : decode cX4_clocksInUse 25 = .ok (.iconst 0, 1) := by decide +kernel
theorem dX4_clocksInUse_26 : decode cX4_clocksInUse 26 = .ok (.ior, 1) := by decide +kernel
theorem dX4_clocksInUse_27 : decode cX4_clocksInUse 27 = .ok (.istore_n 1, 1) := by decide +kernel
theorem dX4_clocksInUse_28 : decode cX4_clocksInUse 28 = .ok (.iinc 2 1, 3) := by decide +kernel
theorem dX4_clocksInUse_31 : decode cX4_clocksInUse 31 = .ok (.goto (-27), 3) := by decide +kernel
theorem dX4_clocksInUse_34 : decode cX4_clocksInUse 34 = .ok (.iload_n 1, 1) := by decide +kernel
theorem dX4_clocksInUse_35 : decode cX4_clocksInUse 35 = .ok (.ireturn, 1) := by decide +kernel
theorem dX4_bitsBetween_0 : decode cX4_bitsBetween 0 = .ok (.iconst 0, 1) := by decide +kernel
theorem dX4_bitsBetween_1 : decode cX4_bitsBetween 1 = .ok (.istore_n 3, 1) := by decide +kernel
theorem dX4_bitsBetween_2 : decode cX4_bitsBetween 2 = .ok (.iconst 0, 1) := by decide +kernel
theorem dX4_bitsBetween_3 : decode cX4_bitsBetween 3 = .ok (.istore 4, 2) := by decide +kernel
theorem dX4_bitsBetween_5 : decode cX4_bitsBetween 5 = .ok (.iload 4, 2) := by decide +kernel
theorem dX4_bitsBetween_7 : decode cX4_bitsBetween 7 = .ok (.aload_n 0, 1) := by decide +kernel
theorem dX4_bitsBetween_8 : decode cX4_bitsBetween 8 = .ok (.getfield 15, 3) := by decide +kernel
theorem dX4_bitsBetween_11 : decode cX4_bitsBetween 11 = .ok (.if_icmp .ge 38, 3) := by decide +kernel
theorem dX4_bitsBetween_14 : decode cX4_bitsBetween 14 = .ok (.aload_n 0, 1) := by decide +kernel
theorem dX4_bitsBetween_15 : decode cX4_bitsBetween 15 = .ok (.getfield 46, 3) := by decide +kernel
theorem dX4_bitsBetween_18 : decode cX4_bitsBetween 18 = .ok (.iload 4, 2) := by decide +kernel
theorem dX4_bitsBetween_20 : decode cX4_bitsBetween 20 = .ok (.iaload, 1) := by decide +kernel
theorem dX4_bitsBetween_21 : decode cX4_bitsBetween 21 = .ok (.iload_n 1, 1) := by decide +kernel
theorem dX4_bitsBetween_22 : decode cX4_bitsBetween 22 = .ok (.if_icmp .lt 21, 3) := by decide +kernel
theorem dX4_bitsBetween_25 : decode cX4_bitsBetween 25 = .ok (.aload_n 0, 1) := by decide +kernel
theorem dX4_bitsBetween_26 : decode cX4_bitsBetween 26 = .ok (.getfield 46, 3) := by decide +kernel
theorem dX4_bitsBetween_29 : decode cX4_bitsBetween 29 = .ok (.iload 4, 2) := by decide +kernel
theorem dX4_bitsBetween_31 : decode cX4_bitsBetween 31 = .ok (.iaload, 1) := by decide +kernel
theorem dX4_bitsBetween_32 : decode cX4_bitsBetween 32 = .ok (.iload_n 2, 1) := by decide +kernel
theorem dX4_bitsBetween_33 : decode cX4_bitsBetween 33 = .ok (.if_icmp .gt 10, 3) := by decide +kernel
theorem dX4_bitsBetween_36 : decode cX4_bitsBetween 36 = .ok (.iload_n 3, 1) := by decide +kernel
theorem dX4_bitsBetween_37 : decode cX4_bitsBetween 37 = .ok (.iconst 1, 1) := by decide +kernel
theorem dX4_bitsBetween_38 : decode cX4_bitsBetween 38 = .ok (.iload 4, 2) := by decide +kernel
theorem dX4_bitsBetween_40 : decode cX4_bitsBetween 40 = .ok (.ishl, 1) := by decide +kernel
theorem dX4_bitsBetween_41 : decode cX4_bitsBetween 41 = .ok (.ior, 1) := by decide +kernel
theorem dX4_bitsBetween_42 : decode cX4_bitsBetween 42 = .ok (.istore_n 3, 1) := by decide +kernel
theorem dX4_bitsBetween_43 : decode cX4_bitsBetween 43 = .ok (.iinc 4 1, 3) := by decide +kernel
theorem dX4_bitsBetween_46 : decode cX4_bitsBetween 46 = .ok (.goto (-41), 3) := by decide +kernel
theorem dX4_bitsBetween_49 : decode cX4_bitsBetween 49 = .ok (.iload_n 3, 1) := by decide +kernel
theorem dX4_bitsBetween_50 : decode cX4_bitsBetween 50 = .ok (.ireturn, 1) := by decide +kernel
theorem dX4_foreignBits_0 : decode cX4_foreignBits 0 = .ok (.aload_n 0, 1) := by decide +kernel
theorem dX4_foreignBits_1 : decode cX4_foreignBits 1 = .ok (.getfield 52, 3) := by decide +kernel
theorem dX4_foreignBits_4 : decode cX4_foreignBits 4 = .ok (.aload_n 0, 1) := by decide +kernel
theorem dX4_foreignBits_5 : decode cX4_foreignBits 5 = .ok (.getfield 34, 3) := by decide +kernel
theorem dX4_foreignBits_8 : decode cX4_foreignBits 8 = .ok (.iload_n 1, 1) := by decide +kernel
theorem dX4_foreignBits_9 : decode cX4_foreignBits 9 = .ok (.iaload, 1) := by decide +kernel
theorem dX4_foreignBits_10 : decode cX4_foreignBits 10 = .ok (.iaload, 1) := by decide +kernel
theorem dX4_foreignBits_11 : decode cX4_foreignBits 11 = .ok (.aload_n 0, 1) := by decide +kernel
theorem dX4_foreignBits_12 : decode cX4_foreignBits 12 = .ok (.getfield 49, 3) := by decide +kernel
theorem dX4_foreignBits_15 : decode cX4_foreignBits 15 = .ok (.aload_n 0, 1) := by decide +kernel
theorem dX4_foreignBits_16 : decode cX4_foreignBits 16 = .ok (.getfield 31, 3) := by decide +kernel
theorem dX4_foreignBits_19 : decode cX4_foreignBits 19 = .ok (.iload_n 1, 1) := by decide +kernel
theorem dX4_foreignBits_20 : decode cX4_foreignBits 20 = .ok (.iaload, 1) := by decide +kernel
theorem dX4_foreignBits_21 : decode cX4_foreignBits 21 = .ok (.iaload, 1) := by decide +kernel
theorem dX4_foreignBits_22 : decode cX4_foreignBits 22 = .ok (.iconst (-1), 1) := by decide +kernel
theorem dX4_foreignBits_23 : decode cX4_foreignBits 23 = .ok (.ixor, 1) := by decide +kernel
theorem dX4_foreignBits_24 : decode cX4_foreignBits 24 = .ok (.iand, 1) := by decide +kernel
theorem dX4_foreignBits_25 : decode cX4_foreignBits 25 = .ok (.ireturn, 1) := by decide +kernel
theorem dX4_asCells_0 : decode cX4_asCells 0 = .ok (.iconst 0, 1) := by decide +kernel
theorem dX4_asCells_1 : decode cX4_asCells 1 = .ok (.istore_n 2, 1) := by decide +kernel
theorem dX4_asCells_2 : decode cX4_asCells 2 = .ok (.iconst 0, 1) := by decide +kernel
theorem dX4_asCells_3 : decode cX4_asCells 3 = .ok (.istore_n 3, 1) := by decide +kernel
theorem dX4_asCells_4 : decode cX4_asCells 4 = .ok (.iload_n 3, 1) := by decide +kernel
theorem dX4_asCells_5 : decode cX4_asCells 5 = .ok (.aload_n 0, 1) := by decide +kernel
theorem dX4_asCells_6 : decode cX4_asCells 6 = .ok (.getfield 15, 3) := by decide +kernel
theorem dX4_asCells_9 : decode cX4_asCells 9 = .ok (.if_icmp .ge 24, 3) := by decide +kernel
theorem dX4_asCells_12 : decode cX4_asCells 12 = .ok (.iload_n 2, 1) := by decide +kernel
theorem dX4_asCells_13 : decode cX4_asCells 13 = .ok (.iload_n 1, 1) := by decide +kernel
theorem dX4_asCells_14 : decode cX4_asCells 14 = .ok (.iload_n 3, 1) := by decide +kernel
theorem dX4_asCells_15 : decode cX4_asCells 15 = .ok (.ishr, 1) := by decide +kernel
theorem dX4_asCells_16 : decode cX4_asCells 16 = .ok (.iconst 1, 1) := by decide +kernel
theorem dX4_asCells_17 : decode cX4_asCells 17 = .ok (.iand, 1) := by decide +kernel
theorem dX4_asCells_18 : decode cX4_asCells 18 = .ok (.aload_n 0, 1) := by decide +kernel
theorem dX4_asCells_19 : decode cX4_asCells 19 = .ok (.getfield 46, 3) := by decide +kernel
theorem dX4_asCells_22 : decode cX4_asCells 22 = .ok (.iload_n 3, 1) := by decide +kernel
theorem dX4_asCells_23 : decode cX4_asCells 23 = .ok (.iaload, 1) := by decide +kernel
theorem dX4_asCells_24 : decode cX4_asCells 24 = .ok (.ishl, 1) := by decide +kernel
theorem dX4_asCells_25 : decode cX4_asCells 25 = .ok (.ior, 1) := by decide +kernel
theorem dX4_asCells_26 : decode cX4_asCells 26 = .ok (.istore_n 2, 1) := by decide +kernel
theorem dX4_asCells_27 : decode cX4_asCells 27 = .ok (.iinc 3 1, 3) := by decide +kernel
theorem dX4_asCells_30 : decode cX4_asCells 30 = .ok (.goto (-26), 3) := by decide +kernel
theorem dX4_asCells_33 : decode cX4_asCells 33 = .ok (.iload_n 2, 1) := by decide +kernel
theorem dX4_asCells_34 : decode cX4_asCells 34 = .ok (.ireturn, 1) := by decide +kernel
theorem dX4_put_0 : decode cX4_put 0 = .ok (.aload_n 0, 1) := by decide +kernel
theorem dX4_put_1 : decode cX4_put 1 = .ok (.getfield 27, 3) := by decide +kernel
theorem dX4_put_4 : decode cX4_put 4 = .ok (.iload_n 1, 1) := by decide +kernel
theorem dX4_put_5 : decode cX4_put 5 = .ok (.iload_n 2, 1) := by decide +kernel
theorem dX4_put_6 : decode cX4_put 6 = .ok (.iastore, 1) := by decide +kernel
theorem dX4_put_7 : decode cX4_put 7 = .ok (.aload_n 0, 1) := by decide +kernel
theorem dX4_put_8 : decode cX4_put 8 = .ok (.getfield 34, 3) := by decide +kernel
theorem dX4_put_11 : decode cX4_put 11 = .ok (.iload_n 1, 1) := by decide +kernel
theorem dX4_put_12 : decode cX4_put 12 = .ok (.iload_n 3, 1) := by decide +kernel
theorem dX4_put_13 : decode cX4_put 13 = .ok (.iastore, 1) := by decide +kernel
theorem dX4_put_14 : decode cX4_put 14 = .ok (.aload_n 0, 1) := by decide +kernel
theorem dX4_put_15 : decode cX4_put 15 = .ok (.getfield 37, 3) := by decide +kernel
theorem dX4_put_18 : decode cX4_put 18 = .ok (.iload_n 1, 1) := by decide +kernel
theorem dX4_put_19 : decode cX4_put 19 = .ok (.iload 4, 2) := by decide +kernel
theorem dX4_put_21 : decode cX4_put 21 = .ok (.iastore, 1) := by decide +kernel
theorem dX4_put_22 : decode cX4_put 22 = .ok (.aload_n 0, 1) := by decide +kernel
theorem dX4_put_23 : decode cX4_put 23 = .ok (.getfield 40, 3) := by decide +kernel
theorem dX4_put_26 : decode cX4_put 26 = .ok (.iload_n 1, 1) := by decide +kernel
theorem dX4_put_27 : decode cX4_put 27 = .ok (.iload 5, 2) := by decide +kernel
theorem dX4_put_29 : decode cX4_put 29 = .ok (.iastore, 1) := by decide +kernel
theorem dX4_put_30 : decode cX4_put 30 = .ok (.return_, 1) := by decide +kernel
theorem dX4_workOut_0 : decode cX4_workOut 0 = .ok (.aload_n 0, 1) := by decide +kernel
theorem dX4_workOut_1 : decode cX4_workOut 1 = .ok (.getfield 34, 3) := by decide +kernel
theorem dX4_workOut_4 : decode cX4_workOut 4 = .ok (.iload_n 1, 1) := by decide +kernel
theorem dX4_workOut_5 : decode cX4_workOut 5 = .ok (.iaload, 1) := by decide +kernel
theorem dX4_workOut_6 : decode cX4_workOut 6 = .ok (.istore_n 2, 1) := by decide +kernel
theorem dX4_workOut_7 : decode cX4_workOut 7 = .ok (.aload_n 0, 1) := by decide +kernel
theorem dX4_workOut_8 : decode cX4_workOut 8 = .ok (.getfield 37, 3) := by decide +kernel
theorem dX4_workOut_11 : decode cX4_workOut 11 = .ok (.iload_n 1, 1) := by decide +kernel
theorem dX4_workOut_12 : decode cX4_workOut 12 = .ok (.iaload, 1) := by decide +kernel
theorem dX4_workOut_13 : decode cX4_workOut 13 = .ok (.ifCond .ge 7, 3) := by decide +kernel
theorem dX4_workOut_16 : decode cX4_workOut 16 = .ok (.iload_n 2, 1) := by decide +kernel
theorem dX4_workOut_17 : decode cX4_workOut 17 = .ok (.goto 9, 3) := by decide +kernel
theorem dX4_workOut_20 : decode cX4_workOut 20 = .ok (.aload_n 0, 1) := by decide +kernel
theorem dX4_workOut_21 : decode cX4_workOut 21 = .ok (.getfield 37, 3) := by decide +kernel
theorem dX4_workOut_24 : decode cX4_workOut 24 = .ok (.iload_n 1, 1) := by decide +kernel
theorem dX4_workOut_25 : decode cX4_workOut 25 = .ok (.iaload, 1) := by decide +kernel
theorem dX4_workOut_26 : decode cX4_workOut 26 = .ok (.istore_n 3, 1) := by decide +kernel
theorem dX4_workOut_27 : decode cX4_workOut 27 = .ok (.aload_n 0, 1) := by decide +kernel
theorem dX4_workOut_28 : decode cX4_workOut 28 = .ok (.getfield 40, 3) := by decide +kernel
theorem dX4_workOut_31 : decode cX4_workOut 31 = .ok (.iload_n 1, 1) := by decide +kernel
theorem dX4_workOut_32 : decode cX4_workOut 32 = .ok (.iaload, 1) := by decide +kernel
theorem dX4_workOut_33 : decode cX4_workOut 33 = .ok (.ifCond .ge 7, 3) := by decide +kernel
theorem dX4_workOut_36 : decode cX4_workOut 36 = .ok (.iload_n 2, 1) := by decide +kernel
theorem dX4_workOut_37 : decode cX4_workOut 37 = .ok (.goto 9, 3) := by decide +kernel
end
section
theorem dX4_workOut_40 : decode cX4_workOut 40 = .ok (.aload_n 0, 1) := by decide +kernel
theorem dX4_workOut_41 : decode cX4_workOut 41 = .ok (.getfield 40, 3) := by decide +kernel
theorem dX4_workOut_44 : decode cX4_workOut 44 = .ok (.iload_n 1, 1) := by decide +kernel
theorem dX4_workOut_45 : decode cX4_workOut 45 = .ok (.iaload, 1) := by decide +kernel
theorem dX4_workOut_46 : decode cX4_workOut 46 = .ok (.istore 4, 2) := by decide +kernel
theorem dX4_workOut_48 : decode cX4_workOut 48 = .ok (.aload_n 0, 1) := by decide +kernel
theorem dX4_workOut_49 : decode cX4_workOut 49 = .ok (.getfield 52, 3) := by decide +kernel
theorem dX4_workOut_52 : decode cX4_workOut 52 = .ok (.iload_n 1, 1) := by decide +kernel
theorem dX4_workOut_53 : decode cX4_workOut 53 = .ok (.aload_n 0, 1) := by decide +kernel
theorem dX4_workOut_54 : decode cX4_workOut 54 = .ok (.getfield 52, 3) := by decide +kernel
theorem dX4_workOut_57 : decode cX4_workOut 57 = .ok (.iload_n 2, 1) := by decide +kernel
theorem dX4_workOut_58 : decode cX4_workOut 58 = .ok (.iaload, 1) := by decide +kernel
theorem dX4_workOut_59 : decode cX4_workOut 59 = .ok (.aload_n 0, 1) := by decide +kernel
theorem dX4_workOut_60 : decode cX4_workOut 60 = .ok (.getfield 52, 3) := by decide +kernel
theorem dX4_workOut_63 : decode cX4_workOut 63 = .ok (.iload_n 3, 1) := by decide +kernel
theorem dX4_workOut_64 : decode cX4_workOut 64 = .ok (.iaload, 1) := by decide +kernel
theorem dX4_workOut_65 : decode cX4_workOut 65 = .ok (.ior, 1) := by decide +kernel
theorem dX4_workOut_66 : decode cX4_workOut 66 = .ok (.aload_n 0, 1) := by decide +kernel
theorem dX4_workOut_67 : decode cX4_workOut 67 = .ok (.getfield 52, 3) := by decide +kernel
theorem dX4_workOut_70 : decode cX4_workOut 70 = .ok (.iload 4, 2) := by decide +kernel
theorem dX4_workOut_72 : decode cX4_workOut 72 = .ok (.iaload, 1) := by decide +kernel
theorem dX4_workOut_73 : decode cX4_workOut 73 = .ok (.ior, 1) := by decide +kernel
theorem dX4_workOut_74 : decode cX4_workOut 74 = .ok (.iastore, 1) := by decide +kernel
theorem dX4_workOut_75 : decode cX4_workOut 75 = .ok (.iconst 0, 1) := by decide +kernel
theorem dX4_workOut_76 : decode cX4_workOut 76 = .ok (.istore 5, 2) := by decide +kernel
theorem dX4_workOut_78 : decode cX4_workOut 78 = .ok (.iload 5, 2) := by decide +kernel
theorem dX4_workOut_80 : decode cX4_workOut 80 = .ok (.bipush 16, 2) := by decide +kernel
theorem dX4_workOut_82 : decode cX4_workOut 82 = .ok (.if_icmp .ge 67, 3) := by decide +kernel
theorem dX4_workOut_85 : decode cX4_workOut 85 = .ok (.aload_n 0, 1) := by decide +kernel
theorem dX4_workOut_86 : decode cX4_workOut 86 = .ok (.getfield 55, 3) := by decide +kernel
theorem dX4_workOut_89 : decode cX4_workOut 89 = .ok (.iload_n 1, 1) := by decide +kernel
theorem dX4_workOut_90 : decode cX4_workOut 90 = .ok (.bipush 16, 2) := by decide +kernel
theorem dX4_workOut_92 : decode cX4_workOut 92 = .ok (.imul, 1) := by decide +kernel
theorem dX4_workOut_93 : decode cX4_workOut 93 = .ok (.iload 5, 2) := by decide +kernel
theorem dX4_workOut_95 : decode cX4_workOut 95 = .ok (.iadd, 1) := by decide +kernel
theorem dX4_workOut_96 : decode cX4_workOut 96 = .ok (.aload_n 0, 1) := by decide +kernel
theorem dX4_workOut_97 : decode cX4_workOut 97 = .ok (.getfield 27, 3) := by decide +kernel
theorem dX4_workOut_100 : decode cX4_workOut 100 = .ok (.iload_n 1, 1) := by decide +kernel
theorem dX4_workOut_101 : decode cX4_workOut 101 = .ok (.iaload, 1) := by decide +kernel
theorem dX4_workOut_102 : decode cX4_workOut 102 = .ok (.aload_n 0, 1) := by decide +kernel
theorem dX4_workOut_103 : decode cX4_workOut 103 = .ok (.getfield 55, 3) := by decide +kernel
theorem dX4_workOut_106 : decode cX4_workOut 106 = .ok (.iload_n 2, 1) := by decide +kernel
theorem dX4_workOut_107 : decode cX4_workOut 107 = .ok (.bipush 16, 2) := by decide +kernel
theorem dX4_workOut_109 : decode cX4_workOut 109 = .ok (.imul, 1) := by decide +kernel
theorem dX4_workOut_110 : decode cX4_workOut 110 = .ok (.iload 5, 2) := by decide +kernel
theorem dX4_workOut_112 : decode cX4_workOut 112 = .ok (.iadd, 1) := by decide +kernel
theorem dX4_workOut_113 : decode cX4_workOut 113 = .ok (.laload, 1) := by decide +kernel
theorem dX4_workOut_114 : decode cX4_workOut 114 = .ok (.aload_n 0, 1) := by decide +kernel
theorem dX4_workOut_115 : decode cX4_workOut 115 = .ok (.getfield 55, 3) := by decide +kernel
theorem dX4_workOut_118 : decode cX4_workOut 118 = .ok (.iload_n 3, 1) := by decide +kernel
theorem dX4_workOut_119 : decode cX4_workOut 119 = .ok (.bipush 16, 2) := by decide +kernel
theorem dX4_workOut_121 : decode cX4_workOut 121 = .ok (.imul, 1) := by decide +kernel
theorem dX4_workOut_122 : decode cX4_workOut 122 = .ok (.iload 5, 2) := by decide +kernel
theorem dX4_workOut_124 : decode cX4_workOut 124 = .ok (.iadd, 1) := by decide +kernel
theorem dX4_workOut_125 : decode cX4_workOut 125 = .ok (.laload, 1) := by decide +kernel
theorem dX4_workOut_126 : decode cX4_workOut 126 = .ok (.aload_n 0, 1) := by decide +kernel
theorem dX4_workOut_127 : decode cX4_workOut 127 = .ok (.getfield 55, 3) := by decide +kernel
theorem dX4_workOut_130 : decode cX4_workOut 130 = .ok (.iload 4, 2) := by decide +kernel
theorem dX4_workOut_132 : decode cX4_workOut 132 = .ok (.bipush 16, 2) := by decide +kernel
theorem dX4_workOut_134 : decode cX4_workOut 134 = .ok (.imul, 1) := by decide +kernel
theorem dX4_workOut_135 : decode cX4_workOut 135 = .ok (.iload 5, 2) := by decide +kernel
theorem dX4_workOut_137 : decode cX4_workOut 137 = .ok (.iadd, 1) := by decide +kernel
theorem dX4_workOut_138 : decode cX4_workOut 138 = .ok (.laload, 1) := by decide +kernel
theorem dX4_workOut_139 : decode cX4_workOut 139 = .ok (.invokestatic 84, 3) := by decide +kernel
theorem dX4_workOut_142 : decode cX4_workOut 142 = .ok (.lastore, 1) := by decide +kernel
theorem dX4_workOut_143 : decode cX4_workOut 143 = .ok (.iinc 5 1, 3) := by decide +kernel
theorem dX4_workOut_146 : decode cX4_workOut 146 = .ok (.goto (-68), 3) := by decide +kernel
theorem dX4_workOut_149 : decode cX4_workOut 149 = .ok (.return_, 1) := by decide +kernel
theorem dX4_wordOfBit_0 : decode cX4_wordOfBit 0 = .ok (.iload_n 0, 1) := by decide +kernel
theorem dX4_wordOfBit_1 : decode cX4_wordOfBit 1 = .ok (.getstatic 79, 3) := by decide +kernel
theorem dX4_wordOfBit_4 : decode cX4_wordOfBit 4 = .ok (.arraylength, 1) := by decide +kernel
theorem dX4_wordOfBit_5 : decode cX4_wordOfBit 5 = .ok (.if_icmp .ge 9, 3) := by decide +kernel
theorem dX4_wordOfBit_8 : decode cX4_wordOfBit 8 = .ok (.getstatic 79, 3) := by decide +kernel
theorem dX4_wordOfBit_11 : decode cX4_wordOfBit 11 = .ok (.iload_n 0, 1) := by decide +kernel
theorem dX4_wordOfBit_12 : decode cX4_wordOfBit 12 = .ok (.laload, 1) := by decide +kernel
theorem dX4_wordOfBit_13 : decode cX4_wordOfBit 13 = .ok (.lreturn, 1) := by decide +kernel
theorem dX4_wordOfBit_14 : decode cX4_wordOfBit 14 = .ok (.iload_n 1, 1) := by decide +kernel
theorem dX4_wordOfBit_15 : decode cX4_wordOfBit 15 = .ok (.iload_n 0, 1) := by decide +kernel
theorem dX4_wordOfBit_16 : decode cX4_wordOfBit 16 = .ok (.getstatic 79, 3) := by decide +kernel
theorem dX4_wordOfBit_19 : decode cX4_wordOfBit 19 = .ok (.arraylength, 1) := by decide +kernel
theorem dX4_wordOfBit_20 : decode cX4_wordOfBit 20 = .ok (.isub, 1) := by decide +kernel
theorem dX4_wordOfBit_21 : decode cX4_wordOfBit 21 = .ok (.ishr, 1) := by decide +kernel
theorem dX4_wordOfBit_22 : decode cX4_wordOfBit 22 = .ok (.iconst 1, 1) := by decide +kernel
theorem dX4_wordOfBit_23 : decode cX4_wordOfBit 23 = .ok (.iand, 1) := by decide +kernel
theorem dX4_wordOfBit_24 : decode cX4_wordOfBit 24 = .ok (.iconst 1, 1) := by decide +kernel
theorem dX4_wordOfBit_25 : decode cX4_wordOfBit 25 = .ok (.if_icmp .ne 9, 3) := by decide +kernel
theorem dX4_wordOfBit_28 : decode cX4_wordOfBit 28 = .ok (.ldc2_w 82, 3) := by decide +kernel
theorem dX4_wordOfBit_31 : decode cX4_wordOfBit 31 = .ok (.goto 4, 3) := by decide +kernel
theorem dX4_wordOfBit_34 : decode cX4_wordOfBit 34 = .ok (.lconst 0, 1) := by decide +kernel
theorem dX4_wordOfBit_35 : decode cX4_wordOfBit 35 = .ok (.lreturn, 1) := by decide +kernel
theorem dX4_wordOfGate_0 : decode cX4_wordOfGate 0 = .ok (.iload_n 0, 1) := by decide +kernel
theorem dX4_wordOfGate_1 : decode cX4_wordOfGate 1 = .ok (.tableswitch 49 0 3 #[31, 35, 39, 43], 31) := by decide +kernel
theorem dX4_wordOfGate_32 : decode cX4_wordOfGate 32 = .ok (.lload_n 1, 1) := by decide +kernel
theorem dX4_wordOfGate_33 : decode cX4_wordOfGate 33 = .ok (.lload_n 3, 1) := by decide +kernel
theorem dX4_wordOfGate_34 : decode cX4_wordOfGate 34 = .ok (.land, 1) := by decide +kernel
theorem dX4_wordOfGate_35 : decode cX4_wordOfGate 35 = .ok (.lreturn, 1) := by decide +kernel
theorem dX4_wordOfGate_36 : decode cX4_wordOfGate 36 = .ok (.lload_n 1, 1) := by decide +kernel
theorem dX4_wordOfGate_37 : decode cX4_wordOfGate 37 = .ok (.lload_n 3, 1) := by decide +kernel
theorem dX4_wordOfGate_38 : decode cX4_wordOfGate 38 = .ok (.lor, 1) := by decide +kernel
theorem dX4_wordOfGate_39 : decode cX4_wordOfGate 39 = .ok (.lreturn, 1) := by decide +kernel
theorem dX4_wordOfGate_40 : decode cX4_wordOfGate 40 = .ok (.lload_n 1, 1) := by decide +kernel
theorem dX4_wordOfGate_41 : decode cX4_wordOfGate 41 = .ok (.lload_n 3, 1) := by decide +kernel
theorem dX4_wordOfGate_42 : decode cX4_wordOfGate 42 = .ok (.lxor, 1) := by decide +kernel
theorem dX4_wordOfGate_43 : decode cX4_wordOfGate 43 = .ok (.lreturn, 1) := by decide +kernel
theorem dX4_wordOfGate_44 : decode cX4_wordOfGate 44 = .ok (.lload_n 1, 1) := by decide +kernel
theorem dX4_wordOfGate_45 : decode cX4_wordOfGate 45 = .ok (.ldc2_w 82, 3) := by decide +kernel
theorem dX4_wordOfGate_48 : decode cX4_wordOfGate 48 = .ok (.lxor, 1) := by decide +kernel
theorem dX4_wordOfGate_49 : decode cX4_wordOfGate 49 = .ok (.lreturn, 1) := by decide +kernel
theorem dX4_wordOfGate_50 : decode cX4_wordOfGate 50 = .ok (.lload_n 1, 1) := by decide +kernel
theorem dX4_wordOfGate_51 : decode cX4_wordOfGate 51 = .ok (.lload_n 3, 1) := by decide +kernel
theorem dX4_wordOfGate_52 : decode cX4_wordOfGate 52 = .ok (.land, 1) := by decide +kernel
theorem dX4_wordOfGate_53 : decode cX4_wordOfGate 53 = .ok (.lload_n 1, 1) := by decide +kernel
theorem dX4_wordOfGate_54 : decode cX4_wordOfGate 54 = .ok (.ldc2_w 82, 3) := by decide +kernel
theorem dX4_wordOfGate_57 : decode cX4_wordOfGate 57 = .ok (.lxor, 1) := by decide +kernel
theorem dX4_wordOfGate_58 : decode cX4_wordOfGate 58 = .ok (.lload 5, 2) := by decide +kernel
theorem dX4_wordOfGate_60 : decode cX4_wordOfGate 60 = .ok (.land, 1) := by decide +kernel
theorem dX4_wordOfGate_61 : decode cX4_wordOfGate 61 = .ok (.lor, 1) := by decide +kernel
theorem dX4_wordOfGate_62 : decode cX4_wordOfGate 62 = .ok (.lreturn, 1) := by decide +kernel
theorem dX5_init_0 : decode cX5_init 0 = .ok (.aload_n 0, 1) := by decide +kernel
theorem dX5_init_1 : decode cX5_init 1 = .ok (.invokespecial 3, 3) := by decide +kernel
theorem dX5_init_4 : decode cX5_init 4 = .ok (.aload_n 0, 1) := by decide +kernel
theorem dX5_init_5 : decode cX5_init 5 = .ok (.iconst 0, 1) := by decide +kernel
theorem dX5_init_6 : decode cX5_init 6 = .ok (.putfield 9, 3) := by decide +kernel
theorem dX5_init_9 : decode cX5_init 9 = .ok (.aload_n 0, 1) := by decide +kernel
theorem dX5_init_10 : decode cX5_init 10 = .ok (.bipush 8, 2) := by decide +kernel
theorem dX5_init_12 : decode cX5_init 12 = .ok (.newarray .int, 2) := by decide +kernel
theorem dX5_init_14 : decode cX5_init 14 = .ok (.putfield 15, 3) := by decide +kernel
theorem dX5_init_17 : decode cX5_init 17 = .ok (.aload_n 0, 1) := by decide +kernel
theorem dX5_init_18 : decode cX5_init 18 = .ok (.bipush 8, 2) := by decide +kernel
theorem dX5_init_20 : decode cX5_init 20 = .ok (.newarray .int, 2) := by decide +kernel
theorem dX5_init_22 : decode cX5_init 22 = .ok (.putfield 19, 3) := by decide +kernel
theorem dX5_init_25 : decode cX5_init 25 = .ok (.aload_n 0, 1) := by decide +kernel
theorem dX5_init_26 : decode cX5_init 26 = .ok (.bipush 8, 2) := by decide +kernel
theorem dX5_init_28 : decode cX5_init 28 = .ok (.newarray .int, 2) := by decide +kernel
theorem dX5_init_30 : decode cX5_init 30 = .ok (.putfield 22, 3) := by decide +kernel
theorem dX5_init_33 : decode cX5_init 33 = .ok (.aload_n 0, 1) := by decide +kernel
theorem dX5_init_34 : decode cX5_init 34 = .ok (.bipush 8, 2) := by decide +kernel
theorem dX5_init_36 : decode cX5_init 36 = .ok (.newarray .int, 2) := by decide +kernel
theorem dX5_init_38 : decode cX5_init 38 = .ok (.putfield 25, 3) := by decide +kernel
theorem dX5_init_41 : decode cX5_init 41 = .ok (.aload_n 0, 1) := by decide +kernel
theorem dX5_init_42 : decode cX5_init 42 = .ok (.aload_n 1, 1) := by decide +kernel
theorem dX5_init_43 : decode cX5_init 43 = .ok (.putfield 28, 3) := by decide +kernel
theorem dX5_init_46 : decode cX5_init 46 = .ok (.return_, 1) := by decide +kernel
theorem dX5_has_0 : decode cX5_has 0 = .ok (.iload_n 1, 1) := by decide +kernel
theorem dX5_has_1 : decode cX5_has 1 = .ok (.ifCond .lt 15, 3) := by decide +kernel
theorem dX5_has_4 : decode cX5_has 4 = .ok (.iload_n 1, 1) := by decide +kernel
theorem dX5_has_5 : decode cX5_has 5 = .ok (.aload_n 0, 1) := by decide +kernel
theorem dX5_has_6 : decode cX5_has 6 = .ok (.getfield 9, 3) := by decide +kernel
theorem dX5_has_9 : decode cX5_has 9 = .ok (.if_icmp .ge 7, 3) := by decide +kernel
theorem dX5_has_12 : decode cX5_has 12 = .ok (.iconst 1, 1) := by decide +kernel
theorem dX5_has_13 : decode cX5_has 13 = .ok (.goto 4, 3) := by decide +kernel
theorem dX5_has_16 : decode cX5_has 16 = .ok (.iconst 0, 1) := by decide +kernel
theorem dX5_has_17 : decode cX5_has 17 = .ok (.ireturn, 1) := by decide +kernel
theorem dX5_add_0 : decode cX5_add 0 = .ok (.aload_n 0, 1) := by decide +kernel
theorem dX5_add_1 : decode cX5_add 1 = .ok (.getfield 9, 3) := by decide +kernel
theorem dX5_add_4 : decode cX5_add 4 = .ok (.istore 4, 2) := by decide +kernel
theorem dX5_add_6 : decode cX5_add 6 = .ok (.aload_n 0, 1) := by decide +kernel
theorem dX5_add_7 : decode cX5_add 7 = .ok (.getfield 15, 3) := by decide +kernel
theorem dX5_add_10 : decode cX5_add 10 = .ok (.iload 4, 2) := by decide +kernel
theorem dX5_add_12 : decode cX5_add 12 = .ok (.iload_n 1, 1) := by decide +kernel
theorem dX5_add_13 : decode cX5_add 13 = .ok (.iastore, 1) := by decide +kernel
theorem dX5_add_14 : decode cX5_add 14 = .ok (.aload_n 0, 1) := by decide +kernel
theorem dX5_add_15 : decode cX5_add 15 = .ok (.getfield 19, 3) := by decide +kernel
theorem dX5_add_18 : decode cX5_add 18 = .ok (.iload 4, 2) := by decide +kernel
theorem dX5_add_20 : decode cX5_add 20 = .ok (.iload_n 2, 1) := by decide +kernel
theorem dX5_add_21 : decode cX5_add 21 = .ok (.iastore, 1) := by decide +kernel
theorem dX5_add_22 : decode cX5_add 22 = .ok (.aload_n 0, 1) := by decide +kernel
theorem dX5_add_23 : decode cX5_add 23 = .ok (.getfield 22, 3) := by decide +kernel
theorem dX5_add_26 : decode cX5_add 26 = .ok (.iload 4, 2) := by decide +kernel
theorem dX5_add_28 : decode cX5_add 28 = .ok (.iload_n 3, 1) := by decide +kernel
theorem dX5_add_29 : decode cX5_add 29 = .ok (.iastore, 1) := by decide +kernel
theorem dX5_add_30 : decode cX5_add 30 = .ok (.aload_n 0, 1) := by decide +kernel
theorem dX5_add_31 : decode cX5_add 31 = .ok (.getfield 25, 3) := by decide +kernel
theorem dX5_add_34 : decode cX5_add 34 = .ok (.iload 4, 2) := by decide +kernel
theorem dX5_add_36 : decode cX5_add 36 = .ok (.aload_n 0, 1) := by decide +kernel
theorem dX5_add_37 : decode cX5_add 37 = .ok (.getfield 28, 3) := by decide +kernel
theorem dX5_add_40 : decode cX5_add 40 = .ok (.iload_n 2, 1) := by decide +kernel
theorem dX5_add_41 : decode cX5_add 41 = .ok (.iload_n 3, 1) := by decide +kernel
theorem dX5_add_42 : decode cX5_add 42 = .ok (.invokevirtual 32, 3) := by decide +kernel
theorem dX5_add_45 : decode cX5_add 45 = .ok (.iastore, 1) := by decide +kernel
theorem dX5_add_46 : decode cX5_add 46 = .ok (.aload_n 0, 1) := by decide +kernel
theorem dX5_add_47 : decode cX5_add 47 = .ok (.dup, 1) := by decide +kernel
theorem dX5_add_48 : decode cX5_add 48 = .ok (.getfield 9, 3) := by decide +kernel
theorem dX5_add_51 : decode cX5_add 51 = .ok (.iconst 1, 1) := by decide +kernel
theorem dX5_add_52 : decode cX5_add 52 = .ok (.iadd, 1) := by decide +kernel
theorem dX5_add_53 : decode cX5_add 53 = .ok (.putfield 9, 3) := by decide +kernel
theorem dX5_add_56 : decode cX5_add 56 = .ok (.iload 4, 2) := by decide +kernel
theorem dX5_add_58 : decode cX5_add 58 = .ok (.ireturn, 1) := by decide +kernel
theorem dX5_holds_0 : decode cX5_holds 0 = .ok (.aload_n 0, 1) := by decide +kernel
theorem dX5_holds_1 : decode cX5_holds 1 = .ok (.getfield 15, 3) := by decide +kernel
theorem dX5_holds_4 : decode cX5_holds 4 = .ok (.iload_n 1, 1) := by decide +kernel
theorem dX5_holds_5 : decode cX5_holds 5 = .ok (.iaload, 1) := by decide +kernel
theorem dX5_holds_6 : decode cX5_holds 6 = .ok (.tableswitch 125 0 2 #[26, 50, 88], 26) := by decide +kernel
theorem dX5_holds_32 : decode cX5_holds 32 = .ok (.aload_n 0, 1) := by decide +kernel
theorem dX5_holds_33 : decode cX5_holds 33 = .ok (.getfield 28, 3) := by decide +kernel
theorem dX5_holds_36 : decode cX5_holds 36 = .ok (.aload_n 0, 1) := by decide +kernel
theorem dX5_holds_37 : decode cX5_holds 37 = .ok (.getfield 19, 3) := by decide +kernel
theorem dX5_holds_40 : decode cX5_holds 40 = .ok (.iload_n 1, 1) := by decide +kernel
theorem dX5_holds_41 : decode cX5_holds 41 = .ok (.iaload, 1) := by decide +kernel
theorem dX5_holds_42 : decode cX5_holds 42 = .ok (.iload_n 3, 1) := by decide +kernel
theorem dX5_holds_43 : decode cX5_holds 43 = .ok (.invokevirtual 38, 3) := by decide +kernel
theorem dX5_holds_46 : decode cX5_holds 46 = .ok (.iconst 1, 1) := by decide +kernel
theorem dX5_holds_47 : decode cX5_holds 47 = .ok (.if_icmp .ne 7, 3) := by decide +kernel
theorem dX5_holds_50 : decode cX5_holds 50 = .ok (.iconst 1, 1) := by decide +kernel
theorem dX5_holds_51 : decode cX5_holds 51 = .ok (.goto 4, 3) := by decide +kernel
theorem dX5_holds_54 : decode cX5_holds 54 = .ok (.iconst 0, 1) := by decide +kernel
theorem dX5_holds_55 : decode cX5_holds 55 = .ok (.ireturn, 1) := by decide +kernel
theorem dX5_holds_56 : decode cX5_holds 56 = .ok (.aload_n 0, 1) := by decide +kernel
theorem dX5_holds_57 : decode cX5_holds 57 = .ok (.getfield 28, 3) := by decide +kernel
theorem dX5_holds_60 : decode cX5_holds 60 = .ok (.aload_n 0, 1) := by decide +kernel
theorem dX5_holds_61 : decode cX5_holds 61 = .ok (.getfield 19, 3) := by decide +kernel
theorem dX5_holds_64 : decode cX5_holds 64 = .ok (.iload_n 1, 1) := by decide +kernel
theorem dX5_holds_65 : decode cX5_holds 65 = .ok (.iaload, 1) := by decide +kernel
theorem dX5_holds_66 : decode cX5_holds 66 = .ok (.iload_n 3, 1) := by decide +kernel
theorem dX5_holds_67 : decode cX5_holds 67 = .ok (.invokevirtual 38, 3) := by decide +kernel
theorem dX5_holds_70 : decode cX5_holds 70 = .ok (.aload_n 0, 1) := by decide +kernel
theorem dX5_holds_71 : decode cX5_holds 71 = .ok (.getfield 28, 3) := by decide +kernel
theorem dX5_holds_74 : decode cX5_holds 74 = .ok (.aload_n 0, 1) := by decide +kernel
theorem dX5_holds_75 : decode cX5_holds 75 = .ok (.getfield 22, 3) := by decide +kernel
theorem dX5_holds_78 : decode cX5_holds 78 = .ok (.iload_n 1, 1) := by decide +kernel
theorem dX5_holds_79 : decode cX5_holds 79 = .ok (.iaload, 1) := by decide +kernel
theorem dX5_holds_80 : decode cX5_holds 80 = .ok (.iload_n 3, 1) := by decide +kernel
theorem dX5_holds_81 : decode cX5_holds 81 = .ok (.invokevirtual 38, 3) := by decide +kernel
theorem dX5_holds_84 : decode cX5_holds 84 = .ok (.iand, 1) := by decide +kernel
theorem dX5_holds_85 : decode cX5_holds 85 = .ok (.ifCond .ne 7, 3) := by decide +kernel
theorem dX5_holds_88 : decode cX5_holds 88 = .ok (.iconst 1, 1) := by decide +kernel
theorem dX5_holds_89 : decode cX5_holds 89 = .ok (.goto 4, 3) := by decide +kernel
theorem dX5_holds_92 : decode cX5_holds 92 = .ok (.iconst 0, 1) := by decide +kernel
theorem dX5_holds_93 : decode cX5_holds 93 = .ok (.ireturn, 1) := by decide +kernel
theorem dX5_holds_94 : decode cX5_holds 94 = .ok (.aload_n 0, 1) := by decide +kernel
theorem dX5_holds_95 : decode cX5_holds 95 = .ok (.getfield 28, 3) := by decide +kernel
theorem dX5_holds_98 : decode cX5_holds 98 = .ok (.aload_n 0, 1) := by decide +kernel
theorem dX5_holds_99 : decode cX5_holds 99 = .ok (.getfield 19, 3) := by decide +kernel
theorem dX5_holds_102 : decode cX5_holds 102 = .ok (.iload_n 1, 1) := by decide +kernel
theorem dX5_holds_103 : decode cX5_holds 103 = .ok (.iaload, 1) := by decide +kernel
theorem dX5_holds_104 : decode cX5_holds 104 = .ok (.iload_n 3, 1) := by decide +kernel
theorem dX5_holds_105 : decode cX5_holds 105 = .ok (.invokevirtual 38, 3) := by decide +kernel
theorem dX5_holds_108 : decode cX5_holds 108 = .ok (.aload_n 0, 1) := by decide +kernel
theorem dX5_holds_109 : decode cX5_holds 109 = .ok (.getfield 28, 3) := by decide +kernel
theorem dX5_holds_112 : decode cX5_holds 112 = .ok (.aload_n 0, 1) := by decide +kernel
theorem dX5_holds_113 : decode cX5_holds 113 = .ok (.getfield 22, 3) := by decide +kernel
theorem dX5_holds_116 : decode cX5_holds 116 = .ok (.iload_n 1, 1) := by decide +kernel
theorem dX5_holds_117 : decode cX5_holds 117 = .ok (.iaload, 1) := by decide +kernel
theorem dX5_holds_118 : decode cX5_holds 118 = .ok (.iload_n 3, 1) := by decide +kernel
theorem dX5_holds_119 : decode cX5_holds 119 = .ok (.invokevirtual 38, 3) := by decide +kernel
theorem dX5_holds_122 : decode cX5_holds 122 = .ok (.if_icmp .ne 7, 3) := by decide +kernel
theorem dX5_holds_125 : decode cX5_holds 125 = .ok (.iconst 1, 1) := by decide +kernel
theorem dX5_holds_126 : decode cX5_holds 126 = .ok (.goto 4, 3) := by decide +kernel
theorem dX5_holds_129 : decode cX5_holds 129 = .ok (.iconst 0, 1) := by decide +kernel
theorem dX5_holds_130 : decode cX5_holds 130 = .ok (.ireturn, 1) := by decide +kernel
theorem dX5_holds_131 : decode cX5_holds 131 = .ok (.iload_n 2, 1) := by decide +kernel
theorem dX5_holds_132 : decode cX5_holds 132 = .ok (.iload_n 3, 1) := by decide +kernel
theorem dX5_holds_133 : decode cX5_holds 133 = .ok (.ixor, 1) := by decide +kernel
theorem dX5_holds_134 : decode cX5_holds 134 = .ok (.aload_n 0, 1) := by decide +kernel
theorem dX5_holds_135 : decode cX5_holds 135 = .ok (.getfield 25, 3) := by decide +kernel
theorem dX5_holds_138 : decode cX5_holds 138 = .ok (.iload_n 1, 1) := by decide +kernel
theorem dX5_holds_139 : decode cX5_holds 139 = .ok (.iaload, 1) := by decide +kernel
theorem dX5_holds_140 : decode cX5_holds 140 = .ok (.iand, 1) := by decide +kernel
theorem dX5_holds_141 : decode cX5_holds 141 = .ok (.invokestatic 41, 3) := by decide +kernel
theorem dX5_holds_144 : decode cX5_holds 144 = .ok (.iconst 1, 1) := by decide +kernel
theorem dX5_holds_145 : decode cX5_holds 145 = .ok (.if_icmp .gt 7, 3) := by decide +kernel
theorem dX5_holds_148 : decode cX5_holds 148 = .ok (.iconst 1, 1) := by decide +kernel
theorem dX5_holds_149 : decode cX5_holds 149 = .ok (.goto 4, 3) := by decide +kernel
theorem dX5_holds_152 : decode cX5_holds 152 = .ok (.iconst 0, 1) := by decide +kernel
theorem dX5_holds_153 : decode cX5_holds 153 = .ok (.ireturn, 1) := by decide +kernel
theorem dX6_init_0 : decode cX6_init 0 = .ok (.aload_n 0, 1) := by decide +kernel
theorem dX6_init_1 : decode cX6_init 1 = .ok (.invokespecial 3, 3) := by decide +kernel
theorem dX6_init_4 : decode cX6_init 4 = .ok (.aload_n 0, 1) := by decide +kernel
theorem dX6_init_5 : decode cX6_init 5 = .ok (.iload_n 1, 1) := by decide +kernel
theorem dX6_init_6 : decode cX6_init 6 = .ok (.putfield 9, 3) := by decide +kernel
theorem dX6_init_9 : decode cX6_init 9 = .ok (.aload_n 0, 1) := by decide +kernel
theorem dX6_init_10 : decode cX6_init 10 = .ok (.iload_n 2, 1) := by decide +kernel
theorem dX6_init_11 : decode cX6_init 11 = .ok (.ifCond .ge 7, 3) := by decide +kernel
theorem dX6_init_14 : decode cX6_init 14 = .ok (.iconst 0, 1) := by decide +kernel
theorem dX6_init_15 : decode cX6_init 15 = .ok (.goto 4, 3) := by decide +kernel
theorem dX6_init_18 : decode cX6_init 18 = .ok (.iload_n 2, 1) := by decide +kernel
theorem dX6_init_19 : decode cX6_init 19 = .ok (.newarray .int, 2) := by decide +kernel
theorem dX6_init_21 : decode cX6_init 21 = .ok (.putfield 15, 3) := by decide +kernel
theorem dX6_init_24 : decode cX6_init 24 = .ok (.return_, 1) := by decide +kernel
theorem dX6_hasSpan_0 : decode cX6_hasSpan 0 = .ok (.iload_n 1, 1) := by decide +kernel
theorem dX6_hasSpan_1 : decode cX6_hasSpan 1 = .ok (.ifCond .lt 31, 3) := by decide +kernel
theorem dX6_hasSpan_4 : decode cX6_hasSpan 4 = .ok (.iload_n 2, 1) := by decide +kernel
theorem dX6_hasSpan_5 : decode cX6_hasSpan 5 = .ok (.ifCond .lt 27, 3) := by decide +kernel
theorem dX6_hasSpan_8 : decode cX6_hasSpan 8 = .ok (.iload_n 1, 1) := by decide +kernel
theorem dX6_hasSpan_9 : decode cX6_hasSpan 9 = .ok (.aload_n 0, 1) := by decide +kernel
theorem dX6_hasSpan_10 : decode cX6_hasSpan 10 = .ok (.getfield 15, 3) := by decide +kernel
theorem dX6_hasSpan_13 : decode cX6_hasSpan 13 = .ok (.arraylength, 1) := by decide +kernel
theorem dX6_hasSpan_14 : decode cX6_hasSpan 14 = .ok (.if_icmp .gt 18, 3) := by decide +kernel
theorem dX6_hasSpan_17 : decode cX6_hasSpan 17 = .ok (.iload_n 2, 1) := by decide +kernel
theorem dX6_hasSpan_18 : decode cX6_hasSpan 18 = .ok (.aload_n 0, 1) := by decide +kernel
theorem dX6_hasSpan_19 : decode cX6_hasSpan 19 = .ok (.getfield 15, 3) := by decide +kernel
theorem dX6_hasSpan_22 : decode cX6_hasSpan 22 = .ok (.arraylength, 1) := by decide +kernel
theorem dX6_hasSpan_23 : decode cX6_hasSpan 23 = .ok (.iload_n 1, 1) := by decide +kernel
theorem dX6_hasSpan_24 : decode cX6_hasSpan 24 = .ok (.isub, 1) := by decide +kernel
theorem dX6_hasSpan_25 : decode cX6_hasSpan 25 = .ok (.if_icmp .gt 7, 3) := by decide +kernel
theorem dX6_hasSpan_28 : decode cX6_hasSpan 28 = .ok (.iconst 1, 1) := by decide +kernel
theorem dX6_hasSpan_29 : decode cX6_hasSpan 29 = .ok (.goto 4, 3) := by decide +kernel
theorem dX6_hasSpan_32 : decode cX6_hasSpan 32 = .ok (.iconst 0, 1) := by decide +kernel
theorem dX6_hasSpan_33 : decode cX6_hasSpan 33 = .ok (.ireturn, 1) := by decide +kernel
theorem dX6_weigh_0 : decode cX6_weigh 0 = .ok (.bipush (-12), 2) := by decide +kernel
theorem dX6_weigh_2 : decode cX6_weigh 2 = .ok (.ireturn, 1) := by decide +kernel
theorem dX6_clockOfFailure_0 : decode cX6_clockOfFailure 0 = .ok (.bipush (-12), 2) := by decide +kernel
theorem dX6_clockOfFailure_2 : decode cX6_clockOfFailure 2 = .ok (.ireturn, 1) := by decide +kernel
theorem dX7_init_0 : decode cX7_init 0 = .ok (.aload_n 0, 1) := by decide +kernel
theorem dX7_init_1 : decode cX7_init 1 = .ok (.invokespecial 3, 3) := by decide +kernel
theorem dX7_init_4 : decode cX7_init 4 = .ok (.aload_n 0, 1) := by decide +kernel
theorem dX7_init_5 : decode cX7_init 5 = .ok (.iconst 0, 1) := by decide +kernel
theorem dX7_init_6 : decode cX7_init 6 = .ok (.putfield 9, 3) := by decide +kernel
theorem dX7_init_9 : decode cX7_init 9 = .ok (.aload_n 0, 1) := by decide +kernel
theorem dX7_init_10 : decode cX7_init 10 = .ok (.iconst 0, 1) := by decide +kernel
theorem dX7_init_11 : decode cX7_init 11 = .ok (.putfield 15, 3) := by decide +kernel
theorem dX7_init_14 : decode cX7_init 14 = .ok (.aload_n 0, 1) := by decide +kernel
theorem dX7_init_15 : decode cX7_init 15 = .ok (.lconst 0, 1) := by decide +kernel
theorem dX7_init_16 : decode cX7_init 16 = .ok (.putfield 18, 3) := by decide +kernel
theorem dX7_init_19 : decode cX7_init 19 = .ok (.aload_n 0, 1) := by decide +kernel
theorem dX7_init_20 : decode cX7_init 20 = .ok (.bipush 61, 2) := by decide +kernel
theorem dX7_init_22 : decode cX7_init 22 = .ok (.newarray .int, 2) := by decide +kernel
theorem dX7_init_24 : decode cX7_init 24 = .ok (.putfield 22, 3) := by decide +kernel
theorem dX7_init_27 : decode cX7_init 27 = .ok (.aload_n 0, 1) := by decide +kernel
theorem dX7_init_28 : decode cX7_init 28 = .ok (.bipush 60, 2) := by decide +kernel
theorem dX7_init_30 : decode cX7_init 30 = .ok (.newarray .int, 2) := by decide +kernel
theorem dX7_init_32 : decode cX7_init 32 = .ok (.putfield 26, 3) := by decide +kernel
theorem dX7_init_35 : decode cX7_init 35 = .ok (.aload_n 0, 1) := by decide +kernel
theorem dX7_init_36 : decode cX7_init 36 = .ok (.aload_n 1, 1) := by decide +kernel
theorem dX7_init_37 : decode cX7_init 37 = .ok (.putfield 29, 3) := by decide +kernel
theorem dX7_init_40 : decode cX7_init 40 = .ok (.aload_n 0, 1) := by decide +kernel
theorem dX7_init_41 : decode cX7_init 41 = .ok (.aload_n 2, 1) := by decide +kernel
theorem dX7_init_42 : decode cX7_init 42 = .ok (.putfield 33, 3) := by decide +kernel
theorem dX7_init_45 : decode cX7_init 45 = .ok (.aload_n 0, 1) := by decide +kernel
theorem dX7_init_46 : decode cX7_init 46 = .ok (.aload_n 3, 1) := by decide +kernel
theorem dX7_init_47 : decode cX7_init 47 = .ok (.putfield 37, 3) := by decide +kernel
theorem dX7_init_50 : decode cX7_init 50 = .ok (.return_, 1) := by decide +kernel
theorem dX7_begin_0 : decode cX7_begin 0 = .ok (.aload_n 0, 1) := by decide +kernel
theorem dX7_begin_1 : decode cX7_begin 1 = .ok (.iconst 0, 1) := by decide +kernel
theorem dX7_begin_2 : decode cX7_begin 2 = .ok (.putfield 9, 3) := by decide +kernel
theorem dX7_begin_5 : decode cX7_begin 5 = .ok (.aload_n 0, 1) := by decide +kernel
theorem dX7_begin_6 : decode cX7_begin 6 = .ok (.iconst 0, 1) := by decide +kernel
theorem dX7_begin_7 : decode cX7_begin 7 = .ok (.putfield 15, 3) := by decide +kernel
theorem dX7_begin_10 : decode cX7_begin 10 = .ok (.aload_n 0, 1) := by decide +kernel
theorem dX7_begin_11 : decode cX7_begin 11 = .ok (.lconst 0, 1) := by decide +kernel
theorem dX7_begin_12 : decode cX7_begin 12 = .ok (.putfield 18, 3) := by decide +kernel
theorem dX7_begin_15 : decode cX7_begin 15 = .ok (.aload_n 0, 1) := by decide +kernel
theorem dX7_begin_16 : decode cX7_begin 16 = .ok (.getfield 22, 3) := by decide +kernel
theorem dX7_begin_19 : decode cX7_begin 19 = .ok (.iconst 0, 1) := by decide +kernel
theorem dX7_begin_20 : decode cX7_begin 20 = .ok (.aload_n 0, 1) := by decide +kernel
theorem dX7_begin_21 : decode cX7_begin 21 = .ok (.getfield 29, 3) := by decide +kernel
theorem dX7_begin_24 : decode cX7_begin 24 = .ok (.getfield 41, 3) := by decide +kernel
theorem dX7_begin_27 : decode cX7_begin 27 = .ok (.iastore, 1) := by decide +kernel
theorem dX7_begin_28 : decode cX7_begin 28 = .ok (.return_, 1) := by decide +kernel
theorem dX7_bitsNow_0 : decode cX7_bitsNow 0 = .ok (.aload_n 0, 1) := by decide +kernel
theorem dX7_bitsNow_1 : decode cX7_bitsNow 1 = .ok (.getfield 22, 3) := by decide +kernel
theorem dX7_bitsNow_4 : decode cX7_bitsNow 4 = .ok (.aload_n 0, 1) := by decide +kernel
theorem dX7_bitsNow_5 : decode cX7_bitsNow 5 = .ok (.getfield 9, 3) := by decide +kernel
theorem dX7_bitsNow_8 : decode cX7_bitsNow 8 = .ok (.iaload, 1) := by decide +kernel
theorem dX7_bitsNow_9 : decode cX7_bitsNow 9 = .ok (.ireturn, 1) := by decide +kernel
theorem dX7_go_0 : decode cX7_go 0 = .ok (.aload_n 0, 1) := by decide +kernel
theorem dX7_go_1 : decode cX7_go 1 = .ok (.getfield 33, 3) := by decide +kernel
theorem dX7_go_4 : decode cX7_go 4 = .ok (.aload_n 0, 1) := by decide +kernel
theorem dX7_go_5 : decode cX7_go 5 = .ok (.getfield 18, 3) := by decide +kernel
theorem dX7_go_8 : decode cX7_go 8 = .ok (.iload_n 1, 1) := by decide +kernel
theorem dX7_go_9 : decode cX7_go 9 = .ok (.invokevirtual 46, 3) := by decide +kernel
theorem dX7_go_12 : decode cX7_go 12 = .ok (.lstore 4, 2) := by decide +kernel
theorem dX7_go_14 : decode cX7_go 14 = .ok (.lload 4, 2) := by decide +kernel
theorem dX7_go_16 : decode cX7_go 16 = .ok (.ldc2_w 52, 3) := by decide +kernel
theorem dX7_go_19 : decode cX7_go 19 = .ok (.lcmp, 1) := by decide +kernel
theorem dX7_go_20 : decode cX7_go 20 = .ok (.ifCond .ne 6, 3) := by decide +kernel
theorem dX7_go_23 : decode cX7_go 23 = .ok (.bipush (-2), 2) := by decide +kernel
theorem dX7_go_25 : decode cX7_go 25 = .ok (.ireturn, 1) := by decide +kernel
theorem dX7_go_26 : decode cX7_go 26 = .ok (.aload_n 0, 1) := by decide +kernel
theorem dX7_go_27 : decode cX7_go 27 = .ok (.getfield 9, 3) := by decide +kernel
theorem dX7_go_30 : decode cX7_go 30 = .ok (.bipush 60, 2) := by decide +kernel
theorem dX7_go_32 : decode cX7_go 32 = .ok (.if_icmp .lt 6, 3) := by decide +kernel
theorem dX7_go_35 : decode cX7_go 35 = .ok (.bipush (-3), 2) := by decide +kernel
theorem dX7_go_37 : decode cX7_go 37 = .ok (.ireturn, 1) := by decide +kernel
theorem dX7_go_38 : decode cX7_go 38 = .ok (.aload_n 0, 1) := by decide +kernel
theorem dX7_go_39 : decode cX7_go 39 = .ok (.getfield 37, 3) := by decide +kernel
theorem dX7_go_42 : decode cX7_go 42 = .ok (.aload_n 0, 1) := by decide +kernel
theorem dX7_go_43 : decode cX7_go 43 = .ok (.getfield 22, 3) := by decide +kernel
theorem dX7_go_46 : decode cX7_go 46 = .ok (.aload_n 0, 1) := by decide +kernel
theorem dX7_go_47 : decode cX7_go 47 = .ok (.getfield 9, 3) := by decide +kernel
theorem dX7_go_50 : decode cX7_go 50 = .ok (.iaload, 1) := by decide +kernel
theorem dX7_go_51 : decode cX7_go 51 = .ok (.iload_n 1, 1) := by decide +kernel
theorem dX7_go_52 : decode cX7_go 52 = .ok (.invokevirtual 54, 3) := by decide +kernel
theorem dX7_go_55 : decode cX7_go 55 = .ok (.aload_n 0, 1) := by decide +kernel
theorem dX7_go_56 : decode cX7_go 56 = .ok (.getfield 37, 3) := by decide +kernel
theorem dX7_go_59 : decode cX7_go 59 = .ok (.iload_n 2, 1) := by decide +kernel
theorem dX7_go_60 : decode cX7_go 60 = .ok (.invokevirtual 60, 3) := by decide +kernel
theorem dX7_go_63 : decode cX7_go 63 = .ok (.aload_n 0, 1) := by decide +kernel
theorem dX7_go_64 : decode cX7_go 64 = .ok (.getfield 26, 3) := by decide +kernel
theorem dX7_go_67 : decode cX7_go 67 = .ok (.aload_n 0, 1) := by decide +kernel
theorem dX7_go_68 : decode cX7_go 68 = .ok (.getfield 9, 3) := by decide +kernel
theorem dX7_go_71 : decode cX7_go 71 = .ok (.iload_n 1, 1) := by decide +kernel
theorem dX7_go_72 : decode cX7_go 72 = .ok (.iastore, 1) := by decide +kernel
theorem dX7_go_73 : decode cX7_go 73 = .ok (.aload_n 0, 1) := by decide +kernel
theorem dX7_go_74 : decode cX7_go 74 = .ok (.dup, 1) := by decide +kernel
theorem dX7_go_75 : decode cX7_go 75 = .ok (.getfield 9, 3) := by decide +kernel
theorem dX7_go_78 : decode cX7_go 78 = .ok (.iconst 1, 1) := by decide +kernel
theorem dX7_go_79 : decode cX7_go 79 = .ok (.iadd, 1) := by decide +kernel
theorem dX7_go_80 : decode cX7_go 80 = .ok (.putfield 9, 3) := by decide +kernel
theorem dX7_go_83 : decode cX7_go 83 = .ok (.aload_n 0, 1) := by decide +kernel
theorem dX7_go_84 : decode cX7_go 84 = .ok (.getfield 22, 3) := by decide +kernel
theorem dX7_go_87 : decode cX7_go 87 = .ok (.aload_n 0, 1) := by decide +kernel
theorem dX7_go_88 : decode cX7_go 88 = .ok (.getfield 9, 3) := by decide +kernel
theorem dX7_go_91 : decode cX7_go 91 = .ok (.aload_n 0, 1) := by decide +kernel
theorem dX7_go_92 : decode cX7_go 92 = .ok (.getfield 37, 3) := by decide +kernel
theorem dX7_go_95 : decode cX7_go 95 = .ok (.iload_n 3, 1) := by decide +kernel
theorem dX7_go_96 : decode cX7_go 96 = .ok (.invokevirtual 64, 3) := by decide +kernel
theorem dX7_go_99 : decode cX7_go 99 = .ok (.iastore, 1) := by decide +kernel
theorem dX7_go_100 : decode cX7_go 100 = .ok (.aload_n 0, 1) := by decide +kernel
theorem dX7_go_101 : decode cX7_go 101 = .ok (.lload 4, 2) := by decide +kernel
theorem dX7_go_103 : decode cX7_go 103 = .ok (.putfield 18, 3) := by decide +kernel
theorem dX7_go_106 : decode cX7_go 106 = .ok (.aload_n 0, 1) := by decide +kernel
theorem dX7_go_107 : decode cX7_go 107 = .ok (.aload_n 0, 1) := by decide +kernel
theorem dX7_go_108 : decode cX7_go 108 = .ok (.getfield 37, 3) := by decide +kernel
theorem dX7_go_111 : decode cX7_go 111 = .ok (.getfield 67, 3) := by decide +kernel
theorem dX7_go_114 : decode cX7_go 114 = .ok (.putfield 15, 3) := by decide +kernel
theorem dX7_go_117 : decode cX7_go 117 = .ok (.aload_n 0, 1) := by decide +kernel
theorem dX7_go_118 : decode cX7_go 118 = .ok (.getfield 15, 3) := by decide +kernel
theorem dX7_go_121 : decode cX7_go 121 = .ok (.invokestatic 68, 3) := by decide +kernel
theorem dX7_go_124 : decode cX7_go 124 = .ok (.ireturn, 1) := by decide +kernel
theorem dX8_init_0 : decode cX8_init 0 = .ok (.aload_n 0, 1) := by decide +kernel
theorem dX8_init_1 : decode cX8_init 1 = .ok (.invokespecial 3, 3) := by decide +kernel
theorem dX8_init_4 : decode cX8_init 4 = .ok (.aload_n 0, 1) := by decide +kernel
theorem dX8_init_5 : decode cX8_init 5 = .ok (.iconst 0, 1) := by decide +kernel
theorem dX8_init_6 : decode cX8_init 6 = .ok (.putfield 9, 3) := by decide +kernel
theorem dX8_init_9 : decode cX8_init 9 = .ok (.aload_n 0, 1) := by decide +kernel
theorem dX8_init_10 : decode cX8_init 10 = .ok (.iconst 0, 1) := by decide +kernel
theorem dX8_init_11 : decode cX8_init 11 = .ok (.putfield 15, 3) := by decide +kernel
theorem dX8_init_14 : decode cX8_init 14 = .ok (.aload_n 0, 1) := by decide +kernel
theorem dX8_init_15 : decode cX8_init 15 = .ok (.iconst 0, 1) := by decide +kernel
theorem dX8_init_16 : decode cX8_init 16 = .ok (.putfield 18, 3) := by decide +kernel
theorem dX8_init_19 : decode cX8_init 19 = .ok (.aload_n 0, 1) := by decide +kernel
theorem dX8_init_20 : decode cX8_init 20 = .ok (.iconst 0, 1) := by decide +kernel
theorem dX8_init_21 : decode cX8_init 21 = .ok (.putfield 21, 3) := by decide +kernel
theorem dX8_init_24 : decode cX8_init 24 = .ok (.aload_n 0, 1) := by decide +kernel
theorem dX8_init_25 : decode cX8_init 25 = .ok (.iconst 0, 1) := by decide +kernel
theorem dX8_init_26 : decode cX8_init 26 = .ok (.putfield 24, 3) := by decide +kernel
theorem dX8_init_29 : decode cX8_init 29 = .ok (.aload_n 0, 1) := by decide +kernel
theorem dX8_init_30 : decode cX8_init 30 = .ok (.iconst 0, 1) := by decide +kernel
theorem dX8_init_31 : decode cX8_init 31 = .ok (.putfield 27, 3) := by decide +kernel
theorem dX8_init_34 : decode cX8_init 34 = .ok (.aload_n 0, 1) := by decide +kernel
theorem dX8_init_35 : decode cX8_init 35 = .ok (.aload_n 1, 1) := by decide +kernel
theorem dX8_init_36 : decode cX8_init 36 = .ok (.putfield 30, 3) := by decide +kernel
theorem dX8_init_39 : decode cX8_init 39 = .ok (.return_, 1) := by decide +kernel
theorem dX8_tick_0 : decode cX8_tick 0 = .ok (.aload_n 0, 1) := by decide +kernel
theorem dX8_tick_1 : decode cX8_tick 1 = .ok (.iload_n 1, 1) := by decide +kernel
theorem dX8_tick_2 : decode cX8_tick 2 = .ok (.putfield 9, 3) := by decide +kernel
theorem dX8_tick_5 : decode cX8_tick 5 = .ok (.aload_n 0, 1) := by decide +kernel
theorem dX8_tick_6 : decode cX8_tick 6 = .ok (.getfield 30, 3) := by decide +kernel
theorem dX8_tick_9 : decode cX8_tick 9 = .ok (.iload_n 2, 1) := by decide +kernel
theorem dX8_tick_10 : decode cX8_tick 10 = .ok (.invokevirtual 34, 3) := by decide +kernel
theorem dX8_tick_13 : decode cX8_tick 13 = .ok (.istore_n 3, 1) := by decide +kernel
theorem dX8_tick_14 : decode cX8_tick 14 = .ok (.aload_n 0, 1) := by decide +kernel
theorem dX8_tick_15 : decode cX8_tick 15 = .ok (.iload_n 3, 1) := by decide +kernel
theorem dX8_tick_16 : decode cX8_tick 16 = .ok (.aload_n 0, 1) := by decide +kernel
theorem dX8_tick_17 : decode cX8_tick 17 = .ok (.getfield 30, 3) := by decide +kernel
theorem dX8_tick_20 : decode cX8_tick 20 = .ok (.getfield 40, 3) := by decide +kernel
theorem dX8_tick_23 : decode cX8_tick 23 = .ok (.iand, 1) := by decide +kernel
theorem dX8_tick_24 : decode cX8_tick 24 = .ok (.putfield 15, 3) := by decide +kernel
theorem dX8_tick_27 : decode cX8_tick 27 = .ok (.aload_n 0, 1) := by decide +kernel
theorem dX8_tick_28 : decode cX8_tick 28 = .ok (.iload_n 3, 1) := by decide +kernel
theorem dX8_tick_29 : decode cX8_tick 29 = .ok (.aload_n 0, 1) := by decide +kernel
theorem dX8_tick_30 : decode cX8_tick 30 = .ok (.getfield 30, 3) := by decide +kernel
theorem dX8_tick_33 : decode cX8_tick 33 = .ok (.getfield 40, 3) := by decide +kernel
theorem dX8_tick_36 : decode cX8_tick 36 = .ok (.iconst (-1), 1) := by decide +kernel
theorem dX8_tick_37 : decode cX8_tick 37 = .ok (.ixor, 1) := by decide +kernel
theorem dX8_tick_38 : decode cX8_tick 38 = .ok (.iand, 1) := by decide +kernel
theorem dX8_tick_39 : decode cX8_tick 39 = .ok (.putfield 24, 3) := by decide +kernel
theorem dX8_tick_42 : decode cX8_tick 42 = .ok (.aload_n 0, 1) := by decide +kernel
theorem dX8_tick_43 : decode cX8_tick 43 = .ok (.aload_n 0, 1) := by decide +kernel
theorem dX8_tick_44 : decode cX8_tick 44 = .ok (.getfield 9, 3) := by decide +kernel
theorem dX8_tick_47 : decode cX8_tick 47 = .ok (.iload_n 3, 1) := by decide +kernel
theorem dX8_tick_48 : decode cX8_tick 48 = .ok (.iconst (-1), 1) := by decide +kernel
theorem dX8_tick_49 : decode cX8_tick 49 = .ok (.ixor, 1) := by decide +kernel
theorem dX8_tick_50 : decode cX8_tick 50 = .ok (.iand, 1) := by decide +kernel
theorem dX8_tick_51 : decode cX8_tick 51 = .ok (.putfield 18, 3) := by decide +kernel
theorem dX8_tick_54 : decode cX8_tick 54 = .ok (.iconst 0, 1) := by decide +kernel
theorem dX8_tick_55 : decode cX8_tick 55 = .ok (.istore 4, 2) := by decide +kernel
theorem dX8_tick_57 : decode cX8_tick 57 = .ok (.iload 4, 2) := by decide +kernel
theorem dX8_tick_59 : decode cX8_tick 59 = .ok (.aload_n 0, 1) := by decide +kernel
theorem dX8_tick_60 : decode cX8_tick 60 = .ok (.getfield 30, 3) := by decide +kernel
theorem dX8_tick_63 : decode cX8_tick 63 = .ok (.getfield 43, 3) := by decide +kernel
theorem dX8_tick_66 : decode cX8_tick 66 = .ok (.if_icmp .ge 63, 3) := by decide +kernel
theorem dX8_tick_69 : decode cX8_tick 69 = .ok (.aload_n 0, 1) := by decide +kernel
theorem dX8_tick_70 : decode cX8_tick 70 = .ok (.getfield 15, 3) := by decide +kernel
theorem dX8_tick_73 : decode cX8_tick 73 = .ok (.iload 4, 2) := by decide +kernel
theorem dX8_tick_75 : decode cX8_tick 75 = .ok (.ishr, 1) := by decide +kernel
theorem dX8_tick_76 : decode cX8_tick 76 = .ok (.iconst 1, 1) := by decide +kernel
theorem dX8_tick_77 : decode cX8_tick 77 = .ok (.iand, 1) := by decide +kernel
theorem dX8_tick_78 : decode cX8_tick 78 = .ok (.iconst 1, 1) := by decide +kernel
theorem dX8_tick_79 : decode cX8_tick 79 = .ok (.if_icmp .ne 44, 3) := by decide +kernel
theorem dX8_tick_82 : decode cX8_tick 82 = .ok (.aload_n 0, 1) := by decide +kernel
theorem dX8_tick_83 : decode cX8_tick 83 = .ok (.dup, 1) := by decide +kernel
theorem dX8_tick_84 : decode cX8_tick 84 = .ok (.getfield 18, 3) := by decide +kernel
theorem dX8_tick_87 : decode cX8_tick 87 = .ok (.aload_n 0, 1) := by decide +kernel
theorem dX8_tick_88 : decode cX8_tick 88 = .ok (.getfield 30, 3) := by decide +kernel
theorem dX8_tick_91 : decode cX8_tick 91 = .ok (.aload_n 0, 1) := by decide +kernel
theorem dX8_tick_92 : decode cX8_tick 92 = .ok (.getfield 30, 3) := by decide +kernel
theorem dX8_tick_95 : decode cX8_tick 95 = .ok (.getfield 46, 3) := by decide +kernel
theorem dX8_tick_98 : decode cX8_tick 98 = .ok (.aload_n 0, 1) := by decide +kernel
theorem dX8_tick_99 : decode cX8_tick 99 = .ok (.getfield 30, 3) := by decide +kernel
theorem dX8_tick_102 : decode cX8_tick 102 = .ok (.getfield 50, 3) := by decide +kernel
theorem dX8_tick_105 : decode cX8_tick 105 = .ok (.iload 4, 2) := by decide +kernel
theorem dX8_tick_107 : decode cX8_tick 107 = .ok (.iaload, 1) := by decide +kernel
theorem dX8_tick_108 : decode cX8_tick 108 = .ok (.iaload, 1) := by decide +kernel
theorem dX8_tick_109 : decode cX8_tick 109 = .ok (.aload_n 0, 1) := by decide +kernel
theorem dX8_tick_110 : decode cX8_tick 110 = .ok (.getfield 9, 3) := by decide +kernel
theorem dX8_tick_113 : decode cX8_tick 113 = .ok (.invokevirtual 53, 3) := by decide +kernel
theorem dX8_tick_116 : decode cX8_tick 116 = .ok (.iload 4, 2) := by decide +kernel
theorem dX8_tick_118 : decode cX8_tick 118 = .ok (.ishl, 1) := by decide +kernel
theorem dX8_tick_119 : decode cX8_tick 119 = .ok (.ior, 1) := by decide +kernel
theorem dX8_tick_120 : decode cX8_tick 120 = .ok (.putfield 18, 3) := by decide +kernel
theorem dX8_tick_123 : decode cX8_tick 123 = .ok (.iinc 4 1, 3) := by decide +kernel
theorem dX8_tick_126 : decode cX8_tick 126 = .ok (.goto (-69), 3) := by decide +kernel
theorem dX8_tick_129 : decode cX8_tick 129 = .ok (.return_, 1) := by decide +kernel
theorem dX8_choose_0 : decode cX8_choose 0 = .ok (.aload_n 0, 1) := by decide +kernel
theorem dX8_choose_1 : decode cX8_choose 1 = .ok (.aload_n 0, 1) := by decide +kernel
theorem dX8_choose_2 : decode cX8_choose 2 = .ok (.getfield 18, 3) := by decide +kernel
theorem dX8_choose_5 : decode cX8_choose 5 = .ok (.iload_n 1, 1) := by decide +kernel
theorem dX8_choose_6 : decode cX8_choose 6 = .ok (.aload_n 0, 1) := by decide +kernel
theorem dX8_choose_7 : decode cX8_choose 7 = .ok (.getfield 24, 3) := by decide +kernel
theorem dX8_choose_10 : decode cX8_choose 10 = .ok (.invokestatic 57, 3) := by decide +kernel
theorem dX8_choose_13 : decode cX8_choose 13 = .ok (.ior, 1) := by decide +kernel
theorem dX8_choose_14 : decode cX8_choose 14 = .ok (.putfield 21, 3) := by decide +kernel
theorem dX8_choose_17 : decode cX8_choose 17 = .ok (.aload_n 0, 1) := by decide +kernel
theorem dX8_choose_18 : decode cX8_choose 18 = .ok (.iconst 0, 1) := by decide +kernel
theorem dX8_choose_19 : decode cX8_choose 19 = .ok (.putfield 27, 3) := by decide +kernel
theorem dX8_choose_22 : decode cX8_choose 22 = .ok (.aload_n 0, 1) := by decide +kernel
theorem dX8_choose_23 : decode cX8_choose 23 = .ok (.getfield 21, 3) := by decide +kernel
theorem dX8_choose_26 : decode cX8_choose 26 = .ok (.aload_n 0, 1) := by decide +kernel
theorem dX8_choose_27 : decode cX8_choose 27 = .ok (.getfield 9, 3) := by decide +kernel
theorem dX8_choose_30 : decode cX8_choose 30 = .ok (.ixor, 1) := by decide +kernel
theorem dX8_choose_31 : decode cX8_choose 31 = .ok (.istore_n 2, 1) := by decide +kernel
theorem dX8_choose_32 : decode cX8_choose 32 = .ok (.iload_n 2, 1) := by decide +kernel
theorem dX8_choose_33 : decode cX8_choose 33 = .ok (.ifCond .ne 4, 3) := by decide +kernel
theorem dX8_choose_36 : decode cX8_choose 36 = .ok (.return_, 1) := by decide +kernel
theorem dX8_choose_37 : decode cX8_choose 37 = .ok (.iconst 0, 1) := by decide +kernel
theorem dX8_choose_38 : decode cX8_choose 38 = .ok (.istore_n 3, 1) := by decide +kernel
theorem dX8_choose_39 : decode cX8_choose 39 = .ok (.iload_n 3, 1) := by decide +kernel
theorem dX8_choose_40 : decode cX8_choose 40 = .ok (.aload_n 0, 1) := by decide +kernel
theorem dX8_choose_41 : decode cX8_choose 41 = .ok (.getfield 30, 3) := by decide +kernel
theorem dX8_choose_44 : decode cX8_choose 44 = .ok (.getfield 43, 3) := by decide +kernel
theorem dX8_choose_47 : decode cX8_choose 47 = .ok (.if_icmp .ge 50, 3) := by decide +kernel
theorem dX8_choose_50 : decode cX8_choose 50 = .ok (.aload_n 0, 1) := by decide +kernel
theorem dX8_choose_51 : decode cX8_choose 51 = .ok (.getfield 15, 3) := by decide +kernel
theorem dX8_choose_54 : decode cX8_choose 54 = .ok (.iload_n 3, 1) := by decide +kernel
theorem dX8_choose_55 : decode cX8_choose 55 = .ok (.ishr, 1) := by decide +kernel
theorem dX8_choose_56 : decode cX8_choose 56 = .ok (.iconst 1, 1) := by decide +kernel
theorem dX8_choose_57 : decode cX8_choose 57 = .ok (.iand, 1) := by decide +kernel
theorem dX8_choose_58 : decode cX8_choose 58 = .ok (.iconst 1, 1) := by decide +kernel
theorem dX8_choose_59 : decode cX8_choose 59 = .ok (.if_icmp .ne 32, 3) := by decide +kernel
theorem dX8_choose_62 : decode cX8_choose 62 = .ok (.aload_n 0, 1) := by decide +kernel
theorem dX8_choose_63 : decode cX8_choose 63 = .ok (.aload_n 0, 1) := by decide +kernel
theorem dX8_choose_64 : decode cX8_choose 64 = .ok (.getfield 30, 3) := by decide +kernel
theorem dX8_choose_67 : decode cX8_choose 67 = .ok (.getfield 50, 3) := by decide +kernel
theorem dX8_choose_70 : decode cX8_choose 70 = .ok (.iload_n 3, 1) := by decide +kernel
theorem dX8_choose_71 : decode cX8_choose 71 = .ok (.iaload, 1) := by decide +kernel
theorem dX8_choose_72 : decode cX8_choose 72 = .ok (.iload_n 2, 1) := by decide +kernel
theorem dX8_choose_73 : decode cX8_choose 73 = .ok (.invokevirtual 60, 3) := by decide +kernel
theorem dX8_choose_76 : decode cX8_choose 76 = .ok (.ifCond .eq 15, 3) := by decide +kernel
theorem dX8_choose_79 : decode cX8_choose 79 = .ok (.aload_n 0, 1) := by decide +kernel
theorem dX8_choose_80 : decode cX8_choose 80 = .ok (.dup, 1) := by decide +kernel
theorem dX8_choose_81 : decode cX8_choose 81 = .ok (.getfield 27, 3) := by decide +kernel
theorem dX8_choose_84 : decode cX8_choose 84 = .ok (.iconst 1, 1) := by decide +kernel
theorem dX8_choose_85 : decode cX8_choose 85 = .ok (.iload_n 3, 1) := by decide +kernel
theorem dX8_choose_86 : decode cX8_choose 86 = .ok (.ishl, 1) := by decide +kernel
theorem dX8_choose_87 : decode cX8_choose 87 = .ok (.ior, 1) := by decide +kernel
theorem dX8_choose_88 : decode cX8_choose 88 = .ok (.putfield 27, 3) := by decide +kernel
theorem dX8_choose_91 : decode cX8_choose 91 = .ok (.iinc 3 1, 3) := by decide +kernel
theorem dX8_choose_94 : decode cX8_choose 94 = .ok (.goto (-55), 3) := by decide +kernel
theorem dX8_choose_97 : decode cX8_choose 97 = .ok (.return_, 1) := by decide +kernel
theorem dX8_behind_0 : decode cX8_behind 0 = .ok (.aload_n 0, 1) := by decide +kernel
theorem dX8_behind_1 : decode cX8_behind 1 = .ok (.getfield 21, 3) := by decide +kernel
theorem dX8_behind_4 : decode cX8_behind 4 = .ok (.iload_n 1, 1) := by decide +kernel
theorem dX8_behind_5 : decode cX8_behind 5 = .ok (.aload_n 0, 1) := by decide +kernel
theorem dX8_behind_6 : decode cX8_behind 6 = .ok (.getfield 27, 3) := by decide +kernel
theorem dX8_behind_9 : decode cX8_behind 9 = .ok (.invokestatic 57, 3) := by decide +kernel
theorem dX8_behind_12 : decode cX8_behind 12 = .ok (.ixor, 1) := by decide +kernel
theorem dX8_behind_13 : decode cX8_behind 13 = .ok (.ireturn, 1) := by decide +kernel
theorem dX8_isEither_0 : decode cX8_isEither 0 = .ok (.iload_n 2, 1) := by decide +kernel
theorem dX8_isEither_1 : decode cX8_isEither 1 = .ok (.aload_n 0, 1) := by decide +kernel
theorem dX8_isEither_2 : decode cX8_isEither 2 = .ok (.getfield 30, 3) := by decide +kernel
theorem dX8_isEither_5 : decode cX8_isEither 5 = .ok (.iload_n 1, 1) := by decide +kernel
theorem dX8_isEither_6 : decode cX8_isEither 6 = .ok (.invokevirtual 64, 3) := by decide +kernel
theorem dX8_isEither_9 : decode cX8_isEither 9 = .ok (.iand, 1) := by decide +kernel
theorem dX8_isEither_10 : decode cX8_isEither 10 = .ok (.istore_n 3, 1) := by decide +kernel
theorem dX8_isEither_11 : decode cX8_isEither 11 = .ok (.iload_n 3, 1) := by decide +kernel
theorem dX8_isEither_12 : decode cX8_isEither 12 = .ok (.ifCond .eq 31, 3) := by decide +kernel
theorem dX8_isEither_15 : decode cX8_isEither 15 = .ok (.aload_n 0, 1) := by decide +kernel
theorem dX8_isEither_16 : decode cX8_isEither 16 = .ok (.getfield 30, 3) := by decide +kernel
theorem dX8_isEither_19 : decode cX8_isEither 19 = .ok (.aload_n 0, 1) := by decide +kernel
theorem dX8_isEither_20 : decode cX8_isEither 20 = .ok (.getfield 30, 3) := by decide +kernel
theorem dX8_isEither_23 : decode cX8_isEither 23 = .ok (.getfield 46, 3) := by decide +kernel
theorem dX8_isEither_26 : decode cX8_isEither 26 = .ok (.iload_n 1, 1) := by decide +kernel
theorem dX8_isEither_27 : decode cX8_isEither 27 = .ok (.iaload, 1) := by decide +kernel
theorem dX8_isEither_28 : decode cX8_isEither 28 = .ok (.aload_n 0, 1) := by decide +kernel
theorem dX8_isEither_29 : decode cX8_isEither 29 = .ok (.getfield 9, 3) := by decide +kernel
theorem dX8_isEither_32 : decode cX8_isEither 32 = .ok (.iload_n 3, 1) := by decide +kernel
theorem dX8_isEither_33 : decode cX8_isEither 33 = .ok (.invokevirtual 67, 3) := by decide +kernel
theorem dX8_isEither_36 : decode cX8_isEither 36 = .ok (.ifCond .eq 7, 3) := by decide +kernel
theorem dX8_isEither_39 : decode cX8_isEither 39 = .ok (.iconst 1, 1) := by decide +kernel
theorem dX8_isEither_40 : decode cX8_isEither 40 = .ok (.goto 4, 3) := by decide +kernel
theorem dX8_isEither_43 : decode cX8_isEither 43 = .ok (.iconst 0, 1) := by decide +kernel
theorem dX8_isEither_44 : decode cX8_isEither 44 = .ok (.ireturn, 1) := by decide +kernel
theorem dX8_spread_0 : decode cX8_spread 0 = .ok (.iload_n 0, 1) := by decide +kernel
theorem dX8_spread_1 : decode cX8_spread 1 = .ok (.istore_n 2, 1) := by decide +kernel
theorem dX8_spread_2 : decode cX8_spread 2 = .ok (.iconst 0, 1) := by decide +kernel
theorem dX8_spread_3 : decode cX8_spread 3 = .ok (.istore_n 3, 1) := by decide +kernel
theorem dX8_spread_4 : decode cX8_spread 4 = .ok (.iconst 0, 1) := by decide +kernel
theorem dX8_spread_5 : decode cX8_spread 5 = .ok (.istore 4, 2) := by decide +kernel
theorem dX8_spread_7 : decode cX8_spread 7 = .ok (.iload 4, 2) := by decide +kernel
theorem dX8_spread_9 : decode cX8_spread 9 = .ok (.bipush 10, 2) := by decide +kernel
theorem dX8_spread_11 : decode cX8_spread 11 = .ok (.if_icmp .ge 36, 3) := by decide +kernel
theorem dX8_spread_14 : decode cX8_spread 14 = .ok (.iload_n 2, 1) := by decide +kernel
theorem dX8_spread_15 : decode cX8_spread 15 = .ok (.ifCond .eq 32, 3) := by decide +kernel
theorem dX8_spread_18 : decode cX8_spread 18 = .ok (.iload_n 1, 1) := by decide +kernel
theorem dX8_spread_19 : decode cX8_spread 19 = .ok (.iload 4, 2) := by decide +kernel
theorem dX8_spread_21 : decode cX8_spread 21 = .ok (.ishr, 1) := by decide +kernel
theorem dX8_spread_22 : decode cX8_spread 22 = .ok (.iconst 1, 1) := by decide +kernel
theorem dX8_spread_23 : decode cX8_spread 23 = .ok (.iand, 1) := by decide +kernel
theorem dX8_spread_24 : decode cX8_spread 24 = .ok (.iconst 1, 1) := by decide +kernel
theorem dX8_spread_25 : decode cX8_spread 25 = .ok (.if_icmp .ne 16, 3) := by decide +kernel
theorem dX8_spread_28 : decode cX8_spread 28 = .ok (.iload_n 3, 1) := by decide +kernel
theorem dX8_spread_29 : decode cX8_spread 29 = .ok (.iload_n 2, 1) := by decide +kernel
theorem dX8_spread_30 : decode cX8_spread 30 = .ok (.iconst 1, 1) := by decide +kernel
theorem dX8_spread_31 : decode cX8_spread 31 = .ok (.iand, 1) := by decide +kernel
theorem dX8_spread_32 : decode cX8_spread 32 = .ok (.iload 4, 2) := by decide +kernel
theorem dX8_spread_34 : decode cX8_spread 34 = .ok (.ishl, 1) := by decide +kernel
theorem dX8_spread_35 : decode cX8_spread 35 = .ok (.ior, 1) := by decide +kernel
theorem dX8_spread_36 : decode cX8_spread 36 = .ok (.istore_n 3, 1) := by decide +kernel
theorem dX8_spread_37 : decode cX8_spread 37 = .ok (.iload_n 2, 1) := by decide +kernel
theorem dX8_spread_38 : decode cX8_spread 38 = .ok (.iconst 1, 1) := by decide +kernel
theorem dX8_spread_39 : decode cX8_spread 39 = .ok (.ishr, 1) := by decide +kernel
theorem dX8_spread_40 : decode cX8_spread 40 = .ok (.istore_n 2, 1) := by decide +kernel
theorem dX8_spread_41 : decode cX8_spread 41 = .ok (.iinc 4 1, 3) := by decide +kernel
theorem dX8_spread_44 : decode cX8_spread 44 = .ok (.goto (-37), 3) := by decide +kernel
theorem dX8_spread_47 : decode cX8_spread 47 = .ok (.iload_n 3, 1) := by decide +kernel
theorem dX8_spread_48 : decode cX8_spread 48 = .ok (.ireturn, 1) := by decide +kernel
theorem dX9_init_0 : decode cX9_init 0 = .ok (.aload_n 0, 1) := by decide +kernel
theorem dX9_init_1 : decode cX9_init 1 = .ok (.invokespecial 3, 3) := by decide +kernel
theorem dX9_init_4 : decode cX9_init 4 = .ok (.aload_n 0, 1) := by decide +kernel
theorem dX9_init_5 : decode cX9_init 5 = .ok (.new 9, 3) := by decide +kernel
theorem dX9_init_8 : decode cX9_init 8 = .ok (.dup, 1) := by decide +kernel
theorem dX9_init_9 : decode cX9_init 9 = .ok (.invokespecial 11, 3) := by decide +kernel
theorem dX9_init_12 : decode cX9_init 12 = .ok (.putfield 12, 3) := by decide +kernel
theorem dX9_init_15 : decode cX9_init 15 = .ok (.aload_n 0, 1) := by decide +kernel
theorem dX9_init_16 : decode cX9_init 16 = .ok (.iconst 0, 1) := by decide +kernel
theorem dX9_init_17 : decode cX9_init 17 = .ok (.putfield 18, 3) := by decide +kernel
theorem dX9_init_20 : decode cX9_init 20 = .ok (.aload_n 0, 1) := by decide +kernel
theorem dX9_init_21 : decode cX9_init 21 = .ok (.iconst 0, 1) := by decide +kernel
theorem dX9_init_22 : decode cX9_init 22 = .ok (.putfield 22, 3) := by decide +kernel
theorem dX9_init_25 : decode cX9_init 25 = .ok (.aload_n 0, 1) := by decide +kernel
theorem dX9_init_26 : decode cX9_init 26 = .ok (.iconst 0, 1) := by decide +kernel
theorem dX9_init_27 : decode cX9_init 27 = .ok (.putfield 25, 3) := by decide +kernel
theorem dX9_init_30 : decode cX9_init 30 = .ok (.aload_n 0, 1) := by decide +kernel
theorem dX9_init_31 : decode cX9_init 31 = .ok (.iconst 0, 1) := by decide +kernel
theorem dX9_init_32 : decode cX9_init 32 = .ok (.putfield 28, 3) := by decide +kernel
theorem dX9_init_35 : decode cX9_init 35 = .ok (.aload_n 0, 1) := by decide +kernel
theorem dX9_init_36 : decode cX9_init 36 = .ok (.sipush 250, 3) := by decide +kernel
theorem dX9_init_39 : decode cX9_init 39 = .ok (.newarray .int, 2) := by decide +kernel
theorem dX9_init_41 : decode cX9_init 41 = .ok (.putfield 32, 3) := by decide +kernel
theorem dX9_init_44 : decode cX9_init 44 = .ok (.aload_n 0, 1) := by decide +kernel
theorem dX9_init_45 : decode cX9_init 45 = .ok (.sipush 250, 3) := by decide +kernel
theorem dX9_init_48 : decode cX9_init 48 = .ok (.newarray .long, 2) := by decide +kernel
theorem dX9_init_50 : decode cX9_init 50 = .ok (.putfield 36, 3) := by decide +kernel
theorem dX9_init_53 : decode cX9_init 53 = .ok (.aload_n 0, 1) := by decide +kernel
theorem dX9_init_54 : decode cX9_init 54 = .ok (.sipush 250, 3) := by decide +kernel
theorem dX9_init_57 : decode cX9_init 57 = .ok (.newarray .int, 2) := by decide +kernel
theorem dX9_init_59 : decode cX9_init 59 = .ok (.putfield 40, 3) := by decide +kernel
theorem dX9_init_62 : decode cX9_init 62 = .ok (.aload_n 0, 1) := by decide +kernel
theorem dX9_init_63 : decode cX9_init 63 = .ok (.sipush 250, 3) := by decide +kernel
theorem dX9_init_66 : decode cX9_init 66 = .ok (.newarray .int, 2) := by decide +kernel
theorem dX9_init_68 : decode cX9_init 68 = .ok (.putfield 43, 3) := by decide +kernel
theorem dX9_init_71 : decode cX9_init 71 = .ok (.aload_n 0, 1) := by decide +kernel
theorem dX9_init_72 : decode cX9_init 72 = .ok (.sipush 1250, 3) := by decide +kernel
theorem dX9_init_75 : decode cX9_init 75 = .ok (.newarray .int, 2) := by decide +kernel
theorem dX9_init_77 : decode cX9_init 77 = .ok (.putfield 46, 3) := by decide +kernel
theorem dX9_init_80 : decode cX9_init 80 = .ok (.aload_n 0, 1) := by decide +kernel
theorem dX9_init_81 : decode cX9_init 81 = .ok (.bipush 40, 2) := by decide +kernel
theorem dX9_init_83 : decode cX9_init 83 = .ok (.newarray .int, 2) := by decide +kernel
theorem dX9_init_85 : decode cX9_init 85 = .ok (.putfield 49, 3) := by decide +kernel
theorem dX9_init_88 : decode cX9_init 88 = .ok (.aload_n 0, 1) := by decide +kernel
theorem dX9_init_89 : decode cX9_init 89 = .ok (.sipush 512, 3) := by decide +kernel
theorem dX9_init_92 : decode cX9_init 92 = .ok (.newarray .int, 2) := by decide +kernel
theorem dX9_init_94 : decode cX9_init 94 = .ok (.putfield 52, 3) := by decide +kernel
theorem dX9_init_97 : decode cX9_init 97 = .ok (.aload_n 0, 1) := by decide +kernel
theorem dX9_init_98 : decode cX9_init 98 = .ok (.bipush 60, 2) := by decide +kernel
theorem dX9_init_100 : decode cX9_init 100 = .ok (.newarray .int, 2) := by decide +kernel
theorem dX9_init_102 : decode cX9_init 102 = .ok (.putfield 55, 3) := by decide +kernel
theorem dX9_init_105 : decode cX9_init 105 = .ok (.aload_n 0, 1) := by decide +kernel
theorem dX9_init_106 : decode cX9_init 106 = .ok (.aload_n 1, 1) := by decide +kernel
theorem dX9_init_107 : decode cX9_init 107 = .ok (.putfield 58, 3) := by decide +kernel
theorem dX9_init_110 : decode cX9_init 110 = .ok (.aload_n 0, 1) := by decide +kernel
theorem dX9_init_111 : decode cX9_init 111 = .ok (.aload_n 2, 1) := by decide +kernel
theorem dX9_init_112 : decode cX9_init 112 = .ok (.putfield 62, 3) := by decide +kernel
theorem dX9_init_115 : decode cX9_init 115 = .ok (.aload_n 0, 1) := by decide +kernel
theorem dX9_init_116 : decode cX9_init 116 = .ok (.aload_n 3, 1) := by decide +kernel
theorem dX9_init_117 : decode cX9_init 117 = .ok (.putfield 66, 3) := by decide +kernel
theorem dX9_init_120 : decode cX9_init 120 = .ok (.aload_n 0, 1) := by decide +kernel
theorem dX9_init_121 : decode cX9_init 121 = .ok (.aload 4, 2) := by decide +kernel
theorem dX9_init_123 : decode cX9_init 123 = .ok (.putfield 70, 3) := by decide +kernel
theorem dX9_init_126 : decode cX9_init 126 = .ok (.return_, 1) := by decide +kernel
theorem dX9_hasState_0 : decode cX9_hasState 0 = .ok (.iload_n 1, 1) := by decide +kernel
theorem dX9_hasState_1 : decode cX9_hasState 1 = .ok (.ifCond .lt 15, 3) := by decide +kernel
theorem dX9_hasState_4 : decode cX9_hasState 4 = .ok (.iload_n 1, 1) := by decide +kernel
theorem dX9_hasState_5 : decode cX9_hasState 5 = .ok (.aload_n 0, 1) := by decide +kernel
theorem dX9_hasState_6 : decode cX9_hasState 6 = .ok (.getfield 18, 3) := by decide +kernel
theorem dX9_hasState_9 : decode cX9_hasState 9 = .ok (.if_icmp .ge 7, 3) := by decide +kernel
theorem dX9_hasState_12 : decode cX9_hasState 12 = .ok (.iconst 1, 1) := by decide +kernel
theorem dX9_hasState_13 : decode cX9_hasState 13 = .ok (.goto 4, 3) := by decide +kernel
theorem dX9_hasState_16 : decode cX9_hasState 16 = .ok (.iconst 0, 1) := by decide +kernel
theorem dX9_hasState_17 : decode cX9_hasState 17 = .ok (.ireturn, 1) := by decide +kernel
theorem dX9_breaks_0 : decode cX9_breaks 0 = .ok (.aload_n 0, 1) := by decide +kernel
theorem dX9_breaks_1 : decode cX9_breaks 1 = .ok (.getfield 49, 3) := by decide +kernel
theorem dX9_breaks_4 : decode cX9_breaks 4 = .ok (.iload_n 1, 1) := by decide +kernel
theorem dX9_breaks_5 : decode cX9_breaks 5 = .ok (.iconst 5, 1) := by decide +kernel
theorem dX9_breaks_6 : decode cX9_breaks 6 = .ok (.imul, 1) := by decide +kernel
theorem dX9_breaks_7 : decode cX9_breaks 7 = .ok (.iconst 5, 1) := by decide +kernel
theorem dX9_breaks_8 : decode cX9_breaks 8 = .ok (.iadd, 1) := by decide +kernel
theorem dX9_breaks_9 : decode cX9_breaks 9 = .ok (.iconst 1, 1) := by decide +kernel
theorem dX9_breaks_10 : decode cX9_breaks 10 = .ok (.isub, 1) := by decide +kernel
theorem dX9_breaks_11 : decode cX9_breaks 11 = .ok (.iaload, 1) := by decide +kernel
theorem dX9_breaks_12 : decode cX9_breaks 12 = .ok (.bipush (-2), 2) := by decide +kernel
theorem dX9_breaks_14 : decode cX9_breaks 14 = .ok (.if_icmp .eq 7, 3) := by decide +kernel
theorem dX9_breaks_17 : decode cX9_breaks 17 = .ok (.iconst 1, 1) := by decide +kernel
theorem dX9_breaks_18 : decode cX9_breaks 18 = .ok (.goto 4, 3) := by decide +kernel
theorem dX9_breaks_21 : decode cX9_breaks 21 = .ok (.iconst 0, 1) := by decide +kernel
theorem dX9_breaks_22 : decode cX9_breaks 22 = .ok (.ireturn, 1) := by decide +kernel
theorem dX9_forget_0 : decode cX9_forget 0 = .ok (.aload_n 0, 1) := by decide +kernel
theorem dX9_forget_1 : decode cX9_forget 1 = .ok (.iconst 0, 1) := by decide +kernel
theorem dX9_forget_2 : decode cX9_forget 2 = .ok (.putfield 18, 3) := by decide +kernel
theorem dX9_forget_5 : decode cX9_forget 5 = .ok (.aload_n 0, 1) := by decide +kernel
theorem dX9_forget_6 : decode cX9_forget 6 = .ok (.iconst 0, 1) := by decide +kernel
theorem dX9_forget_7 : decode cX9_forget 7 = .ok (.putfield 22, 3) := by decide +kernel
theorem dX9_forget_10 : decode cX9_forget 10 = .ok (.aload_n 0, 1) := by decide +kernel
theorem dX9_forget_11 : decode cX9_forget 11 = .ok (.iconst 0, 1) := by decide +kernel
theorem dX9_forget_12 : decode cX9_forget 12 = .ok (.putfield 25, 3) := by decide +kernel
theorem dX9_forget_15 : decode cX9_forget 15 = .ok (.aload_n 0, 1) := by decide +kernel
theorem dX9_forget_16 : decode cX9_forget 16 = .ok (.iconst 0, 1) := by decide +kernel
theorem dX9_forget_17 : decode cX9_forget 17 = .ok (.putfield 28, 3) := by decide +kernel
theorem dX9_forget_20 : decode cX9_forget 20 = .ok (.return_, 1) := by decide +kernel
theorem dX9_begin_0 : decode cX9_begin 0 = .ok (.aload_n 0, 1) := by decide +kernel
theorem dX9_begin_1 : decode cX9_begin 1 = .ok (.invokevirtual 74, 3) := by decide +kernel
theorem dX9_begin_4 : decode cX9_begin 4 = .ok (.aload_n 0, 1) := by decide +kernel
theorem dX9_begin_5 : decode cX9_begin 5 = .ok (.getfield 12, 3) := by decide +kernel
theorem dX9_begin_8 : decode cX9_begin 8 = .ok (.invokevirtual 77, 3) := by decide +kernel
theorem dX9_begin_11 : decode cX9_begin 11 = .ok (.aload_n 0, 1) := by decide +kernel
theorem dX9_begin_12 : decode cX9_begin 12 = .ok (.getfield 52, 3) := by decide +kernel
theorem dX9_begin_15 : decode cX9_begin 15 = .ok (.iconst 0, 1) := by decide +kernel
theorem dX9_begin_16 : decode cX9_begin 16 = .ok (.invokestatic 80, 3) := by decide +kernel
theorem dX9_begin_19 : decode cX9_begin 19 = .ok (.aload_n 0, 1) := by decide +kernel
theorem dX9_begin_20 : decode cX9_begin 20 = .ok (.getfield 49, 3) := by decide +kernel
theorem dX9_begin_23 : decode cX9_begin 23 = .ok (.bipush (-2), 2) := by decide +kernel
theorem dX9_begin_25 : decode cX9_begin 25 = .ok (.invokestatic 80, 3) := by decide +kernel
theorem dX9_begin_28 : decode cX9_begin 28 = .ok (.aload_n 0, 1) := by decide +kernel
theorem dX9_begin_29 : decode cX9_begin 29 = .ok (.getfield 58, 3) := by decide +kernel
theorem dX9_begin_32 : decode cX9_begin 32 = .ok (.getfield 86, 3) := by decide +kernel
theorem dX9_begin_35 : decode cX9_begin 35 = .ok (.istore_n 1, 1) := by decide +kernel
theorem dX9_begin_36 : decode cX9_begin 36 = .ok (.aload_n 0, 1) := by decide +kernel
theorem dX9_begin_37 : decode cX9_begin 37 = .ok (.aload_n 0, 1) := by decide +kernel
theorem dX9_begin_38 : decode cX9_begin 38 = .ok (.iload_n 1, 1) := by decide +kernel
theorem dX9_begin_39 : decode cX9_begin 39 = .ok (.lconst 0, 1) := by decide +kernel
theorem dX9_begin_40 : decode cX9_begin 40 = .ok (.invokevirtual 91, 3) := by decide +kernel
theorem dX9_begin_43 : decode cX9_begin 43 = .ok (.iload_n 1, 1) := by decide +kernel
theorem dX9_begin_44 : decode cX9_begin 44 = .ok (.lconst 0, 1) := by decide +kernel
theorem dX9_begin_45 : decode cX9_begin 45 = .ok (.iconst 0, 1) := by decide +kernel
theorem dX9_begin_46 : decode cX9_begin 46 = .ok (.invokevirtual 95, 3) := by decide +kernel
theorem dX9_begin_49 : decode cX9_begin 49 = .ok (.aload_n 0, 1) := by decide +kernel
theorem dX9_begin_50 : decode cX9_begin 50 = .ok (.getfield 46, 3) := by decide +kernel
theorem dX9_begin_53 : decode cX9_begin 53 = .ok (.iconst 0, 1) := by decide +kernel
theorem dX9_begin_54 : decode cX9_begin 54 = .ok (.bipush (-2), 2) := by decide +kernel
theorem dX9_begin_56 : decode cX9_begin 56 = .ok (.iconst 0, 1) := by decide +kernel
theorem dX9_begin_57 : decode cX9_begin 57 = .ok (.iconst 0, 1) := by decide +kernel
theorem dX9_begin_58 : decode cX9_begin 58 = .ok (.iconst 0, 1) := by decide +kernel
theorem dX9_begin_59 : decode cX9_begin 59 = .ok (.iconst 0, 1) := by decide +kernel
theorem dX9_begin_60 : decode cX9_begin 60 = .ok (.invokestatic 99, 3) := by decide +kernel
theorem dX9_begin_63 : decode cX9_begin 63 = .ok (.aload_n 0, 1) := by decide +kernel
theorem dX9_begin_64 : decode cX9_begin 64 = .ok (.bipush (-2), 2) := by decide +kernel
theorem dX9_begin_66 : decode cX9_begin 66 = .ok (.iconst 0, 1) := by decide +kernel
theorem dX9_begin_67 : decode cX9_begin 67 = .ok (.iconst 0, 1) := by decide +kernel
theorem dX9_begin_68 : decode cX9_begin 68 = .ok (.iconst 0, 1) := by decide +kernel
theorem dX9_begin_69 : decode cX9_begin 69 = .ok (.iconst 0, 1) := by decide +kernel
theorem dX9_begin_70 : decode cX9_begin 70 = .ok (.invokevirtual 103, 3) := by decide +kernel
theorem dX9_begin_73 : decode cX9_begin 73 = .ok (.return_, 1) := by decide +kernel
theorem dX9_goesOn_0 : decode cX9_goesOn 0 = .ok (.iload_n 1, 1) := by decide +kernel
theorem dX9_goesOn_1 : decode cX9_goesOn 1 = .ok (.aload_n 0, 1) := by decide +kernel
theorem dX9_goesOn_2 : decode cX9_goesOn 2 = .ok (.getfield 18, 3) := by decide +kernel
theorem dX9_goesOn_5 : decode cX9_goesOn 5 = .ok (.if_icmp .ge 14, 3) := by decide +kernel
theorem dX9_goesOn_8 : decode cX9_goesOn 8 = .ok (.aload_n 0, 1) := by decide +kernel
theorem dX9_goesOn_9 : decode cX9_goesOn 9 = .ok (.getfield 28, 3) := by decide +kernel
theorem dX9_goesOn_12 : decode cX9_goesOn 12 = .ok (.ifCond .ne 7, 3) := by decide +kernel
theorem dX9_goesOn_15 : decode cX9_goesOn 15 = .ok (.iconst 1, 1) := by decide +kernel
theorem dX9_goesOn_16 : decode cX9_goesOn 16 = .ok (.goto 4, 3) := by decide +kernel
theorem dX9_goesOn_19 : decode cX9_goesOn 19 = .ok (.iconst 0, 1) := by decide +kernel
theorem dX9_goesOn_20 : decode cX9_goesOn 20 = .ok (.ireturn, 1) := by decide +kernel
theorem dX9_lead_0 : decode cX9_lead 0 = .ok (.aload_n 0, 1) := by decide +kernel
theorem dX9_lead_1 : decode cX9_lead 1 = .ok (.getfield 40, 3) := by decide +kernel
theorem dX9_lead_4 : decode cX9_lead 4 = .ok (.iload_n 1, 1) := by decide +kernel
theorem dX9_lead_5 : decode cX9_lead 5 = .ok (.iaload, 1) := by decide +kernel
theorem dX9_lead_6 : decode cX9_lead 6 = .ok (.istore_n 3, 1) := by decide +kernel
theorem dX9_lead_7 : decode cX9_lead 7 = .ok (.iload_n 1, 1) := by decide +kernel
theorem dX9_lead_8 : decode cX9_lead 8 = .ok (.istore 4, 2) := by decide +kernel
theorem dX9_lead_10 : decode cX9_lead 10 = .ok (.iload_n 3, 1) := by decide +kernel
theorem dX9_lead_11 : decode cX9_lead 11 = .ok (.iconst 1, 1) := by decide +kernel
theorem dX9_lead_12 : decode cX9_lead 12 = .ok (.isub, 1) := by decide +kernel
theorem dX9_lead_13 : decode cX9_lead 13 = .ok (.istore 5, 2) := by decide +kernel
theorem dX9_lead_15 : decode cX9_lead 15 = .ok (.iload 5, 2) := by decide +kernel
theorem dX9_lead_17 : decode cX9_lead 17 = .ok (.ifCond .lt 29, 3) := by decide +kernel
theorem dX9_lead_20 : decode cX9_lead 20 = .ok (.aload_n 0, 1) := by decide +kernel
theorem dX9_lead_21 : decode cX9_lead 21 = .ok (.getfield 55, 3) := by decide +kernel
theorem dX9_lead_24 : decode cX9_lead 24 = .ok (.iload 5, 2) := by decide +kernel
theorem dX9_lead_26 : decode cX9_lead 26 = .ok (.iload 4, 2) := by decide +kernel
theorem dX9_lead_28 : decode cX9_lead 28 = .ok (.iastore, 1) := by decide +kernel
theorem dX9_lead_29 : decode cX9_lead 29 = .ok (.aload_n 0, 1) := by decide +kernel
theorem dX9_lead_30 : decode cX9_lead 30 = .ok (.getfield 46, 3) := by decide +kernel
theorem dX9_lead_33 : decode cX9_lead 33 = .ok (.iload 4, 2) := by decide +kernel
theorem dX9_lead_35 : decode cX9_lead 35 = .ok (.iconst 5, 1) := by decide +kernel
theorem dX9_lead_36 : decode cX9_lead 36 = .ok (.imul, 1) := by decide +kernel
theorem dX9_lead_37 : decode cX9_lead 37 = .ok (.iaload, 1) := by decide +kernel
theorem dX9_lead_38 : decode cX9_lead 38 = .ok (.istore 4, 2) := by decide +kernel
theorem dX9_lead_40 : decode cX9_lead 40 = .ok (.iinc 5 (-1), 3) := by decide +kernel
theorem dX9_lead_43 : decode cX9_lead 43 = .ok (.goto (-28), 3) := by decide +kernel
theorem dX9_lead_46 : decode cX9_lead 46 = .ok (.iconst 0, 1) := by decide +kernel
theorem dX9_lead_47 : decode cX9_lead 47 = .ok (.istore 5, 2) := by decide +kernel
theorem dX9_lead_49 : decode cX9_lead 49 = .ok (.iload 5, 2) := by decide +kernel
theorem dX9_lead_51 : decode cX9_lead 51 = .ok (.iload_n 3, 1) := by decide +kernel
theorem dX9_lead_52 : decode cX9_lead 52 = .ok (.if_icmp .ge 52, 3) := by decide +kernel
theorem dX9_lead_55 : decode cX9_lead 55 = .ok (.aload_n 0, 1) := by decide +kernel
theorem dX9_lead_56 : decode cX9_lead 56 = .ok (.getfield 55, 3) := by decide +kernel
theorem dX9_lead_59 : decode cX9_lead 59 = .ok (.iload 5, 2) := by decide +kernel
theorem dX9_lead_61 : decode cX9_lead 61 = .ok (.iaload, 1) := by decide +kernel
theorem dX9_lead_62 : decode cX9_lead 62 = .ok (.iconst 5, 1) := by decide +kernel
theorem dX9_lead_63 : decode cX9_lead 63 = .ok (.imul, 1) := by decide +kernel
theorem dX9_lead_64 : decode cX9_lead 64 = .ok (.istore 6, 2) := by decide +kernel
theorem dX9_lead_66 : decode cX9_lead 66 = .ok (.aload_n 2, 1) := by decide +kernel
theorem dX9_lead_67 : decode cX9_lead 67 = .ok (.aload_n 0, 1) := by decide +kernel
theorem dX9_lead_68 : decode cX9_lead 68 = .ok (.getfield 46, 3) := by decide +kernel
theorem dX9_lead_71 : decode cX9_lead 71 = .ok (.iload 6, 2) := by decide +kernel
theorem dX9_lead_73 : decode cX9_lead 73 = .ok (.iconst 1, 1) := by decide +kernel
theorem dX9_lead_74 : decode cX9_lead 74 = .ok (.iadd, 1) := by decide +kernel
theorem dX9_lead_75 : decode cX9_lead 75 = .ok (.iaload, 1) := by decide +kernel
theorem dX9_lead_76 : decode cX9_lead 76 = .ok (.aload_n 0, 1) := by decide +kernel
theorem dX9_lead_77 : decode cX9_lead 77 = .ok (.getfield 46, 3) := by decide +kernel
theorem dX9_lead_80 : decode cX9_lead 80 = .ok (.iload 6, 2) := by decide +kernel
theorem dX9_lead_82 : decode cX9_lead 82 = .ok (.iconst 2, 1) := by decide +kernel
theorem dX9_lead_83 : decode cX9_lead 83 = .ok (.iadd, 1) := by decide +kernel
theorem dX9_lead_84 : decode cX9_lead 84 = .ok (.iaload, 1) := by decide +kernel
theorem dX9_lead_85 : decode cX9_lead 85 = .ok (.aload_n 0, 1) := by decide +kernel
theorem dX9_lead_86 : decode cX9_lead 86 = .ok (.getfield 46, 3) := by decide +kernel
theorem dX9_lead_89 : decode cX9_lead 89 = .ok (.iload 6, 2) := by decide +kernel
theorem dX9_lead_91 : decode cX9_lead 91 = .ok (.iconst 3, 1) := by decide +kernel
theorem dX9_lead_92 : decode cX9_lead 92 = .ok (.iadd, 1) := by decide +kernel
theorem dX9_lead_93 : decode cX9_lead 93 = .ok (.iaload, 1) := by decide +kernel
theorem dX9_lead_94 : decode cX9_lead 94 = .ok (.invokevirtual 107, 3) := by decide +kernel
theorem dX9_lead_97 : decode cX9_lead 97 = .ok (.pop, 1) := by decide +kernel
theorem dX9_lead_98 : decode cX9_lead 98 = .ok (.iinc 5 1, 3) := by decide +kernel
theorem dX9_lead_101 : decode cX9_lead 101 = .ok (.goto (-52), 3) := by decide +kernel
theorem dX9_lead_104 : decode cX9_lead 104 = .ok (.return_, 1) := by decide +kernel
theorem dX9_lookAt_0 : decode cX9_lookAt 0 = .ok (.aload_n 0, 1) := by decide +kernel
theorem dX9_lookAt_1 : decode cX9_lookAt 1 = .ok (.getfield 25, 3) := by decide +kernel
theorem dX9_lookAt_4 : decode cX9_lookAt 4 = .ok (.istore_n 2, 1) := by decide +kernel
theorem dX9_lookAt_5 : decode cX9_lookAt 5 = .ok (.aload_n 0, 1) := by decide +kernel
theorem dX9_lookAt_6 : decode cX9_lookAt 6 = .ok (.getfield 58, 3) := by decide +kernel
theorem dX9_lookAt_9 : decode cX9_lookAt 9 = .ok (.invokevirtual 113, 3) := by decide +kernel
theorem dX9_lookAt_12 : decode cX9_lookAt 12 = .ok (.iconst (-1), 1) := by decide +kernel
theorem dX9_lookAt_13 : decode cX9_lookAt 13 = .ok (.ixor, 1) := by decide +kernel
theorem dX9_lookAt_14 : decode cX9_lookAt 14 = .ok (.istore_n 3, 1) := by decide +kernel
theorem dX9_lookAt_15 : decode cX9_lookAt 15 = .ok (.iconst 1, 1) := by decide +kernel
theorem dX9_lookAt_16 : decode cX9_lookAt 16 = .ok (.istore 4, 2) := by decide +kernel
theorem dX9_lookAt_18 : decode cX9_lookAt 18 = .ok (.iload 4, 2) := by decide +kernel
theorem dX9_lookAt_20 : decode cX9_lookAt 20 = .ok (.bipush 16, 2) := by decide +kernel
theorem dX9_lookAt_22 : decode cX9_lookAt 22 = .ok (.if_icmp .ge 65, 3) := by decide +kernel
theorem dX9_lookAt_25 : decode cX9_lookAt 25 = .ok (.iload 4, 2) := by decide +kernel
theorem dX9_lookAt_27 : decode cX9_lookAt 27 = .ok (.iload_n 3, 1) := by decide +kernel
theorem dX9_lookAt_28 : decode cX9_lookAt 28 = .ok (.iand, 1) := by decide +kernel
theorem dX9_lookAt_29 : decode cX9_lookAt 29 = .ok (.ifCond .eq 9, 3) := by decide +kernel
theorem dX9_lookAt_32 : decode cX9_lookAt 32 = .ok (.ldc2_w 119, 3) := by decide +kernel
theorem dX9_lookAt_35 : decode cX9_lookAt 35 = .ok (.goto 18, 3) := by decide +kernel
theorem dX9_lookAt_38 : decode cX9_lookAt 38 = .ok (.aload_n 0, 1) := by decide +kernel
theorem dX9_lookAt_39 : decode cX9_lookAt 39 = .ok (.getfield 62, 3) := by decide +kernel
theorem dX9_lookAt_42 : decode cX9_lookAt 42 = .ok (.aload_n 0, 1) := by decide +kernel
theorem dX9_lookAt_43 : decode cX9_lookAt 43 = .ok (.getfield 36, 3) := by decide +kernel
theorem dX9_lookAt_46 : decode cX9_lookAt 46 = .ok (.iload_n 1, 1) := by decide +kernel
theorem dX9_lookAt_47 : decode cX9_lookAt 47 = .ok (.laload, 1) := by decide +kernel
theorem dX9_lookAt_48 : decode cX9_lookAt 48 = .ok (.iload 4, 2) := by decide +kernel
theorem dX9_lookAt_50 : decode cX9_lookAt 50 = .ok (.invokevirtual 121, 3) := by decide +kernel
theorem dX9_lookAt_53 : decode cX9_lookAt 53 = .ok (.lstore 5, 2) := by decide +kernel
theorem dX9_lookAt_55 : decode cX9_lookAt 55 = .ok (.lload 5, 2) := by decide +kernel
theorem dX9_lookAt_57 : decode cX9_lookAt 57 = .ok (.ldc2_w 119, 3) := by decide +kernel
theorem dX9_lookAt_60 : decode cX9_lookAt 60 = .ok (.lcmp, 1) := by decide +kernel
theorem dX9_lookAt_61 : decode cX9_lookAt 61 = .ok (.ifCond .eq 12, 3) := by decide +kernel
theorem dX9_lookAt_64 : decode cX9_lookAt 64 = .ok (.aload_n 0, 1) := by decide +kernel
theorem dX9_lookAt_65 : decode cX9_lookAt 65 = .ok (.iload_n 1, 1) := by decide +kernel
theorem dX9_lookAt_66 : decode cX9_lookAt 66 = .ok (.iload 4, 2) := by decide +kernel
theorem dX9_lookAt_68 : decode cX9_lookAt 68 = .ok (.lload 5, 2) := by decide +kernel
theorem dX9_lookAt_70 : decode cX9_lookAt 70 = .ok (.invokevirtual 125, 3) := by decide +kernel
theorem dX9_lookAt_73 : decode cX9_lookAt 73 = .ok (.aload_n 0, 1) := by decide +kernel
theorem dX9_lookAt_74 : decode cX9_lookAt 74 = .ok (.getfield 28, 3) := by decide +kernel
theorem dX9_lookAt_77 : decode cX9_lookAt 77 = .ok (.ifCond .eq 4, 3) := by decide +kernel
theorem dX9_lookAt_80 : decode cX9_lookAt 80 = .ok (.return_, 1) := by decide +kernel
theorem dX9_lookAt_81 : decode cX9_lookAt 81 = .ok (.iinc 4 1, 3) := by decide +kernel
theorem dX9_lookAt_84 : decode cX9_lookAt 84 = .ok (.goto (-66), 3) := by decide +kernel
theorem dX9_lookAt_87 : decode cX9_lookAt 87 = .ok (.aload_n 0, 1) := by decide +kernel
theorem dX9_lookAt_88 : decode cX9_lookAt 88 = .ok (.getfield 43, 3) := by decide +kernel
theorem dX9_lookAt_91 : decode cX9_lookAt 91 = .ok (.iload_n 1, 1) := by decide +kernel
theorem dX9_lookAt_92 : decode cX9_lookAt 92 = .ok (.aload_n 0, 1) := by decide +kernel
theorem dX9_lookAt_93 : decode cX9_lookAt 93 = .ok (.getfield 25, 3) := by decide +kernel
theorem dX9_lookAt_96 : decode cX9_lookAt 96 = .ok (.iload_n 2, 1) := by decide +kernel
theorem dX9_lookAt_97 : decode cX9_lookAt 97 = .ok (.isub, 1) := by decide +kernel
theorem dX9_lookAt_98 : decode cX9_lookAt 98 = .ok (.iastore, 1) := by decide +kernel
theorem dX9_lookAt_99 : decode cX9_lookAt 99 = .ok (.aload_n 0, 1) := by decide +kernel
theorem dX9_lookAt_100 : decode cX9_lookAt 100 = .ok (.dup, 1) := by decide +kernel
theorem dX9_lookAt_101 : decode cX9_lookAt 101 = .ok (.getfield 22, 3) := by decide +kernel
theorem dX9_lookAt_104 : decode cX9_lookAt 104 = .ok (.iconst 1, 1) := by decide +kernel
theorem dX9_lookAt_105 : decode cX9_lookAt 105 = .ok (.iadd, 1) := by decide +kernel
theorem dX9_lookAt_106 : decode cX9_lookAt 106 = .ok (.putfield 22, 3) := by decide +kernel
theorem dX9_lookAt_109 : decode cX9_lookAt 109 = .ok (.aload_n 0, 1) := by decide +kernel
theorem dX9_lookAt_110 : decode cX9_lookAt 110 = .ok (.getfield 12, 3) := by decide +kernel
theorem dX9_lookAt_113 : decode cX9_lookAt 113 = .ok (.iload_n 1, 1) := by decide +kernel
theorem dX9_lookAt_114 : decode cX9_lookAt 114 = .ok (.aload_n 0, 1) := by decide +kernel
theorem dX9_lookAt_115 : decode cX9_lookAt 115 = .ok (.getfield 25, 3) := by decide +kernel
theorem dX9_lookAt_118 : decode cX9_lookAt 118 = .ok (.invokevirtual 129, 3) := by decide +kernel
theorem dX9_lookAt_121 : decode cX9_lookAt 121 = .ok (.return_, 1) := by decide +kernel
theorem dX9_lookAtSet_0 : decode cX9_lookAtSet 0 = .ok (.aload_n 0, 1) := by decide +kernel
theorem dX9_lookAtSet_1 : decode cX9_lookAtSet 1 = .ok (.getfield 70, 3) := by decide +kernel
theorem dX9_lookAtSet_4 : decode cX9_lookAtSet 4 = .ok (.aload_n 0, 1) := by decide +kernel
theorem dX9_lookAtSet_5 : decode cX9_lookAtSet 5 = .ok (.getfield 32, 3) := by decide +kernel
theorem dX9_lookAtSet_8 : decode cX9_lookAtSet 8 = .ok (.iload_n 1, 1) := by decide +kernel
theorem dX9_lookAtSet_9 : decode cX9_lookAtSet 9 = .ok (.iaload, 1) := by decide +kernel
theorem dX9_lookAtSet_10 : decode cX9_lookAtSet 10 = .ok (.iload_n 2, 1) := by decide +kernel
theorem dX9_lookAtSet_11 : decode cX9_lookAtSet 11 = .ok (.invokevirtual 133, 3) := by decide +kernel
theorem dX9_lookAtSet_14 : decode cX9_lookAtSet 14 = .ok (.iconst 1, 1) := by decide +kernel
theorem dX9_lookAtSet_15 : decode cX9_lookAtSet 15 = .ok (.aload_n 0, 1) := by decide +kernel
theorem dX9_lookAtSet_16 : decode cX9_lookAtSet 16 = .ok (.getfield 70, 3) := by decide +kernel
theorem dX9_lookAtSet_19 : decode cX9_lookAtSet 19 = .ok (.getfield 138, 3) := by decide +kernel
theorem dX9_lookAtSet_22 : decode cX9_lookAtSet 22 = .ok (.invokestatic 141, 3) := by decide +kernel
theorem dX9_lookAtSet_25 : decode cX9_lookAtSet 25 = .ok (.ishl, 1) := by decide +kernel
theorem dX9_lookAtSet_26 : decode cX9_lookAtSet 26 = .ok (.istore 5, 2) := by decide +kernel
theorem dX9_lookAtSet_28 : decode cX9_lookAtSet 28 = .ok (.iconst 0, 1) := by decide +kernel
theorem dX9_lookAtSet_29 : decode cX9_lookAtSet 29 = .ok (.istore 6, 2) := by decide +kernel
theorem dX9_lookAtSet_31 : decode cX9_lookAtSet 31 = .ok (.iload 6, 2) := by decide +kernel
theorem dX9_lookAtSet_33 : decode cX9_lookAtSet 33 = .ok (.iload 5, 2) := by decide +kernel
theorem dX9_lookAtSet_35 : decode cX9_lookAtSet 35 = .ok (.if_icmp .ge 67, 3) := by decide +kernel
theorem dX9_lookAtSet_38 : decode cX9_lookAtSet 38 = .ok (.aload_n 0, 1) := by decide +kernel
theorem dX9_lookAtSet_39 : decode cX9_lookAtSet 39 = .ok (.getfield 70, 3) := by decide +kernel
theorem dX9_lookAtSet_42 : decode cX9_lookAtSet 42 = .ok (.iload 6, 2) := by decide +kernel
theorem dX9_lookAtSet_44 : decode cX9_lookAtSet 44 = .ok (.invokevirtual 147, 3) := by decide +kernel
theorem dX9_lookAtSet_47 : decode cX9_lookAtSet 47 = .ok (.iconst 1, 1) := by decide +kernel
theorem dX9_lookAtSet_48 : decode cX9_lookAtSet 48 = .ok (.aload_n 0, 1) := by decide +kernel
theorem dX9_lookAtSet_49 : decode cX9_lookAtSet 49 = .ok (.getfield 70, 3) := by decide +kernel
theorem dX9_lookAtSet_52 : decode cX9_lookAtSet 52 = .ok (.getfield 151, 3) := by decide +kernel
theorem dX9_lookAtSet_55 : decode cX9_lookAtSet 55 = .ok (.invokestatic 141, 3) := by decide +kernel
theorem dX9_lookAtSet_58 : decode cX9_lookAtSet 58 = .ok (.ishl, 1) := by decide +kernel
theorem dX9_lookAtSet_59 : decode cX9_lookAtSet 59 = .ok (.istore 7, 2) := by decide +kernel
theorem dX9_lookAtSet_61 : decode cX9_lookAtSet 61 = .ok (.iconst 0, 1) := by decide +kernel
theorem dX9_lookAtSet_62 : decode cX9_lookAtSet 62 = .ok (.istore 8, 2) := by decide +kernel
theorem dX9_lookAtSet_64 : decode cX9_lookAtSet 64 = .ok (.iload 8, 2) := by decide +kernel
theorem dX9_lookAtSet_66 : decode cX9_lookAtSet 66 = .ok (.iload 7, 2) := by decide +kernel
theorem dX9_lookAtSet_68 : decode cX9_lookAtSet 68 = .ok (.if_icmp .ge 28, 3) := by decide +kernel
theorem dX9_lookAtSet_71 : decode cX9_lookAtSet 71 = .ok (.aload_n 0, 1) := by decide +kernel
theorem dX9_lookAtSet_72 : decode cX9_lookAtSet 72 = .ok (.iload_n 1, 1) := by decide +kernel
theorem dX9_lookAtSet_73 : decode cX9_lookAtSet 73 = .ok (.iload_n 2, 1) := by decide +kernel
theorem dX9_lookAtSet_74 : decode cX9_lookAtSet 74 = .ok (.iload 6, 2) := by decide +kernel
theorem dX9_lookAtSet_76 : decode cX9_lookAtSet 76 = .ok (.iload 8, 2) := by decide +kernel
theorem dX9_lookAtSet_78 : decode cX9_lookAtSet 78 = .ok (.lload_n 3, 1) := by decide +kernel
theorem dX9_lookAtSet_79 : decode cX9_lookAtSet 79 = .ok (.invokevirtual 154, 3) := by decide +kernel
theorem dX9_lookAtSet_82 : decode cX9_lookAtSet 82 = .ok (.aload_n 0, 1) := by decide +kernel
theorem dX9_lookAtSet_83 : decode cX9_lookAtSet 83 = .ok (.getfield 28, 3) := by decide +kernel
theorem dX9_lookAtSet_86 : decode cX9_lookAtSet 86 = .ok (.ifCond .eq 4, 3) := by decide +kernel
theorem dX9_lookAtSet_89 : decode cX9_lookAtSet 89 = .ok (.return_, 1) := by decide +kernel
theorem dX9_lookAtSet_90 : decode cX9_lookAtSet 90 = .ok (.iinc 8 1, 3) := by decide +kernel
theorem dX9_lookAtSet_93 : decode cX9_lookAtSet 93 = .ok (.goto (-29), 3) := by decide +kernel
theorem dX9_lookAtSet_96 : decode cX9_lookAtSet 96 = .ok (.iinc 6 1, 3) := by decide +kernel
theorem dX9_lookAtSet_99 : decode cX9_lookAtSet 99 = .ok (.goto (-68), 3) := by decide +kernel
theorem dX9_lookAtSet_102 : decode cX9_lookAtSet 102 = .ok (.return_, 1) := by decide +kernel
theorem dX9_arrive_0 : decode cX9_arrive 0 = .ok (.aload_n 0, 1) := by decide +kernel
theorem dX9_arrive_1 : decode cX9_arrive 1 = .ok (.getfield 70, 3) := by decide +kernel
theorem dX9_arrive_4 : decode cX9_arrive 4 = .ok (.iload 4, 2) := by decide +kernel
theorem dX9_arrive_6 : decode cX9_arrive 6 = .ok (.invokevirtual 158, 3) := by decide +kernel
theorem dX9_arrive_9 : decode cX9_arrive 9 = .ok (.istore 7, 2) := by decide +kernel
theorem dX9_arrive_11 : decode cX9_arrive 11 = .ok (.aload_n 0, 1) := by decide +kernel
theorem dX9_arrive_12 : decode cX9_arrive 12 = .ok (.iload 7, 2) := by decide +kernel
theorem dX9_arrive_14 : decode cX9_arrive 14 = .ok (.lload 5, 2) := by decide +kernel
theorem dX9_arrive_16 : decode cX9_arrive 16 = .ok (.invokevirtual 91, 3) := by decide +kernel
theorem dX9_arrive_19 : decode cX9_arrive 19 = .ok (.istore 8, 2) := by decide +kernel
theorem dX9_arrive_21 : decode cX9_arrive 21 = .ok (.aload_n 0, 1) := by decide +kernel
theorem dX9_arrive_22 : decode cX9_arrive 22 = .ok (.getfield 52, 3) := by decide +kernel
theorem dX9_arrive_25 : decode cX9_arrive 25 = .ok (.iload 8, 2) := by decide +kernel
theorem dX9_arrive_27 : decode cX9_arrive 27 = .ok (.iaload, 1) := by decide +kernel
theorem dX9_arrive_28 : decode cX9_arrive 28 = .ok (.ifCond .ne 7, 3) := by decide +kernel
theorem dX9_arrive_31 : decode cX9_arrive 31 = .ok (.iconst 1, 1) := by decide +kernel
theorem dX9_arrive_32 : decode cX9_arrive 32 = .ok (.goto 4, 3) := by decide +kernel
theorem dX9_arrive_35 : decode cX9_arrive 35 = .ok (.iconst 0, 1) := by decide +kernel
theorem dX9_arrive_36 : decode cX9_arrive 36 = .ok (.istore 9, 2) := by decide +kernel
theorem dX9_arrive_38 : decode cX9_arrive 38 = .ok (.aload_n 0, 1) := by decide +kernel
theorem dX9_arrive_39 : decode cX9_arrive 39 = .ok (.getfield 25, 3) := by decide +kernel
theorem dX9_arrive_42 : decode cX9_arrive 42 = .ok (.sipush 20000, 3) := by decide +kernel
theorem dX9_arrive_45 : decode cX9_arrive 45 = .ok (.if_icmp .ge 18, 3) := by decide +kernel
theorem dX9_arrive_48 : decode cX9_arrive 48 = .ok (.iload 9, 2) := by decide +kernel
theorem dX9_arrive_50 : decode cX9_arrive 50 = .ok (.ifCond .eq 19, 3) := by decide +kernel
theorem dX9_arrive_53 : decode cX9_arrive 53 = .ok (.aload_n 0, 1) := by decide +kernel
theorem dX9_arrive_54 : decode cX9_arrive 54 = .ok (.getfield 18, 3) := by decide +kernel
theorem dX9_arrive_57 : decode cX9_arrive 57 = .ok (.sipush 250, 3) := by decide +kernel
theorem dX9_arrive_60 : decode cX9_arrive 60 = .ok (.if_icmp .lt 9, 3) := by decide +kernel
theorem dX9_arrive_63 : decode cX9_arrive 63 = .ok (.aload_n 0, 1) := by decide +kernel
theorem dX9_arrive_64 : decode cX9_arrive 64 = .ok (.iconst 1, 1) := by decide +kernel
theorem dX9_arrive_65 : decode cX9_arrive 65 = .ok (.putfield 28, 3) := by decide +kernel
theorem dX9_arrive_68 : decode cX9_arrive 68 = .ok (.return_, 1) := by decide +kernel
theorem dX9_arrive_69 : decode cX9_arrive 69 = .ok (.iload 9, 2) := by decide +kernel
theorem dX9_arrive_71 : decode cX9_arrive 71 = .ok (.ifCond .eq 41, 3) := by decide +kernel
theorem dX9_arrive_74 : decode cX9_arrive 74 = .ok (.aload_n 0, 1) := by decide +kernel
theorem dX9_arrive_75 : decode cX9_arrive 75 = .ok (.getfield 46, 3) := by decide +kernel
theorem dX9_arrive_78 : decode cX9_arrive 78 = .ok (.aload_n 0, 1) := by decide +kernel
theorem dX9_arrive_79 : decode cX9_arrive 79 = .ok (.getfield 18, 3) := by decide +kernel
theorem dX9_arrive_82 : decode cX9_arrive 82 = .ok (.iload_n 1, 1) := by decide +kernel
theorem dX9_arrive_83 : decode cX9_arrive 83 = .ok (.iload_n 2, 1) := by decide +kernel
theorem dX9_arrive_84 : decode cX9_arrive 84 = .ok (.iload_n 3, 1) := by decide +kernel
theorem dX9_arrive_85 : decode cX9_arrive 85 = .ok (.iload 4, 2) := by decide +kernel
theorem dX9_arrive_87 : decode cX9_arrive 87 = .ok (.aload_n 0, 1) := by decide +kernel
theorem dX9_arrive_88 : decode cX9_arrive 88 = .ok (.getfield 18, 3) := by decide +kernel
theorem dX9_arrive_91 : decode cX9_arrive 91 = .ok (.invokestatic 99, 3) := by decide +kernel
theorem dX9_arrive_94 : decode cX9_arrive 94 = .ok (.aload_n 0, 1) := by decide +kernel
theorem dX9_arrive_95 : decode cX9_arrive 95 = .ok (.iload 8, 2) := by decide +kernel
theorem dX9_arrive_97 : decode cX9_arrive 97 = .ok (.iload 7, 2) := by decide +kernel
theorem dX9_arrive_99 : decode cX9_arrive 99 = .ok (.lload 5, 2) := by decide +kernel
theorem dX9_arrive_101 : decode cX9_arrive 101 = .ok (.aload_n 0, 1) := by decide +kernel
theorem dX9_arrive_102 : decode cX9_arrive 102 = .ok (.getfield 40, 3) := by decide +kernel
theorem dX9_arrive_105 : decode cX9_arrive 105 = .ok (.iload_n 1, 1) := by decide +kernel
theorem dX9_arrive_106 : decode cX9_arrive 106 = .ok (.iaload, 1) := by decide +kernel
theorem dX9_arrive_107 : decode cX9_arrive 107 = .ok (.iconst 1, 1) := by decide +kernel
theorem dX9_arrive_108 : decode cX9_arrive 108 = .ok (.iadd, 1) := by decide +kernel
theorem dX9_arrive_109 : decode cX9_arrive 109 = .ok (.invokevirtual 95, 3) := by decide +kernel
theorem dX9_arrive_112 : decode cX9_arrive 112 = .ok (.aload_n 0, 1) := by decide +kernel
theorem dX9_arrive_113 : decode cX9_arrive 113 = .ok (.getfield 52, 3) := by decide +kernel
theorem dX9_arrive_116 : decode cX9_arrive 116 = .ok (.iload 8, 2) := by decide +kernel
theorem dX9_arrive_118 : decode cX9_arrive 118 = .ok (.iaload, 1) := by decide +kernel
theorem dX9_arrive_119 : decode cX9_arrive 119 = .ok (.iconst 1, 1) := by decide +kernel
theorem dX9_arrive_120 : decode cX9_arrive 120 = .ok (.isub, 1) := by decide +kernel
theorem dX9_arrive_121 : decode cX9_arrive 121 = .ok (.istore 10, 2) := by decide +kernel
theorem dX9_arrive_123 : decode cX9_arrive 123 = .ok (.aload_n 0, 1) := by decide +kernel
theorem dX9_arrive_124 : decode cX9_arrive 124 = .ok (.getfield 12, 3) := by decide +kernel
theorem dX9_arrive_127 : decode cX9_arrive 127 = .ok (.aload_n 0, 1) := by decide +kernel
theorem dX9_arrive_128 : decode cX9_arrive 128 = .ok (.getfield 25, 3) := by decide +kernel
theorem dX9_arrive_131 : decode cX9_arrive 131 = .ok (.iload 10, 2) := by decide +kernel
theorem dX9_arrive_133 : decode cX9_arrive 133 = .ok (.iload 4, 2) := by decide +kernel
theorem dX9_arrive_135 : decode cX9_arrive 135 = .ok (.invokestatic 141, 3) := by decide +kernel
theorem dX9_arrive_138 : decode cX9_arrive 138 = .ok (.invokevirtual 160, 3) := by decide +kernel
theorem dX9_arrive_141 : decode cX9_arrive 141 = .ok (.aload_n 0, 1) := by decide +kernel
theorem dX9_arrive_142 : decode cX9_arrive 142 = .ok (.dup, 1) := by decide +kernel
theorem dX9_arrive_143 : decode cX9_arrive 143 = .ok (.getfield 25, 3) := by decide +kernel
theorem dX9_arrive_146 : decode cX9_arrive 146 = .ok (.iconst 1, 1) := by decide +kernel
theorem dX9_arrive_147 : decode cX9_arrive 147 = .ok (.iadd, 1) := by decide +kernel
theorem dX9_arrive_148 : decode cX9_arrive 148 = .ok (.putfield 25, 3) := by decide +kernel
theorem dX9_arrive_151 : decode cX9_arrive 151 = .ok (.aload_n 0, 1) := by decide +kernel
theorem dX9_arrive_152 : decode cX9_arrive 152 = .ok (.iload_n 1, 1) := by decide +kernel
theorem dX9_arrive_153 : decode cX9_arrive 153 = .ok (.iload_n 2, 1) := by decide +kernel
theorem dX9_arrive_154 : decode cX9_arrive 154 = .ok (.iload_n 3, 1) := by decide +kernel
theorem dX9_arrive_155 : decode cX9_arrive 155 = .ok (.iload 4, 2) := by decide +kernel
theorem dX9_arrive_157 : decode cX9_arrive 157 = .ok (.iload 10, 2) := by decide +kernel
theorem dX9_arrive_159 : decode cX9_arrive 159 = .ok (.invokevirtual 103, 3) := by decide +kernel
theorem dX9_arrive_162 : decode cX9_arrive 162 = .ok (.return_, 1) := by decide +kernel
theorem dX9_addState_0 : decode cX9_addState 0 = .ok (.aload_n 0, 1) := by decide +kernel
theorem dX9_addState_1 : decode cX9_addState 1 = .ok (.getfield 32, 3) := by decide +kernel
theorem dX9_addState_4 : decode cX9_addState 4 = .ok (.aload_n 0, 1) := by decide +kernel
theorem dX9_addState_5 : decode cX9_addState 5 = .ok (.getfield 18, 3) := by decide +kernel
theorem dX9_addState_8 : decode cX9_addState 8 = .ok (.iload_n 2, 1) := by decide +kernel
theorem dX9_addState_9 : decode cX9_addState 9 = .ok (.iastore, 1) := by decide +kernel
theorem dX9_addState_10 : decode cX9_addState 10 = .ok (.aload_n 0, 1) := by decide +kernel
theorem dX9_addState_11 : decode cX9_addState 11 = .ok (.getfield 36, 3) := by decide +kernel
theorem dX9_addState_14 : decode cX9_addState 14 = .ok (.aload_n 0, 1) := by decide +kernel
theorem dX9_addState_15 : decode cX9_addState 15 = .ok (.getfield 18, 3) := by decide +kernel
theorem dX9_addState_18 : decode cX9_addState 18 = .ok (.lload_n 3, 1) := by decide +kernel
theorem dX9_addState_19 : decode cX9_addState 19 = .ok (.lastore, 1) := by decide +kernel
theorem dX9_addState_20 : decode cX9_addState 20 = .ok (.aload_n 0, 1) := by decide +kernel
theorem dX9_addState_21 : decode cX9_addState 21 = .ok (.getfield 40, 3) := by decide +kernel
theorem dX9_addState_24 : decode cX9_addState 24 = .ok (.aload_n 0, 1) := by decide +kernel
theorem dX9_addState_25 : decode cX9_addState 25 = .ok (.getfield 18, 3) := by decide +kernel
theorem dX9_addState_28 : decode cX9_addState 28 = .ok (.iload 5, 2) := by decide +kernel
theorem dX9_addState_30 : decode cX9_addState 30 = .ok (.iastore, 1) := by decide +kernel
theorem dX9_addState_31 : decode cX9_addState 31 = .ok (.aload_n 0, 1) := by decide +kernel
theorem dX9_addState_32 : decode cX9_addState 32 = .ok (.getfield 43, 3) := by decide +kernel
theorem dX9_addState_35 : decode cX9_addState 35 = .ok (.aload_n 0, 1) := by decide +kernel
theorem dX9_addState_36 : decode cX9_addState 36 = .ok (.getfield 18, 3) := by decide +kernel
theorem dX9_addState_39 : decode cX9_addState 39 = .ok (.bipush (-2), 2) := by decide +kernel
theorem dX9_addState_41 : decode cX9_addState 41 = .ok (.iastore, 1) := by decide +kernel
theorem dX9_addState_42 : decode cX9_addState 42 = .ok (.aload_n 0, 1) := by decide +kernel
theorem dX9_addState_43 : decode cX9_addState 43 = .ok (.dup, 1) := by decide +kernel
theorem dX9_addState_44 : decode cX9_addState 44 = .ok (.getfield 18, 3) := by decide +kernel
theorem dX9_addState_47 : decode cX9_addState 47 = .ok (.iconst 1, 1) := by decide +kernel
theorem dX9_addState_48 : decode cX9_addState 48 = .ok (.iadd, 1) := by decide +kernel
theorem dX9_addState_49 : decode cX9_addState 49 = .ok (.putfield 18, 3) := by decide +kernel
theorem dX9_addState_52 : decode cX9_addState 52 = .ok (.aload_n 0, 1) := by decide +kernel
theorem dX9_addState_53 : decode cX9_addState 53 = .ok (.getfield 52, 3) := by decide +kernel
theorem dX9_addState_56 : decode cX9_addState 56 = .ok (.iload_n 1, 1) := by decide +kernel
theorem dX9_addState_57 : decode cX9_addState 57 = .ok (.aload_n 0, 1) := by decide +kernel
theorem dX9_addState_58 : decode cX9_addState 58 = .ok (.getfield 18, 3) := by decide +kernel
theorem dX9_addState_61 : decode cX9_addState 61 = .ok (.iastore, 1) := by decide +kernel
theorem dX9_addState_62 : decode cX9_addState 62 = .ok (.return_, 1) := by decide +kernel
theorem dX9_judge_0 : decode cX9_judge 0 = .ok (.iload_n 1, 1) := by decide +kernel
theorem dX9_judge_1 : decode cX9_judge 1 = .ok (.ifCond .ge 13, 3) := by decide +kernel
end
section
theorem dX9_judge_4 : decode cX9_judge 4 = .ok (.aload_n 0, 1) := by decide +kernel
theorem dX9_judge_5 : decode cX9_judge 5 = .ok (.getfield 32, 3) := by decide +kernel
theorem dX9_judge_8 : decode cX9_judge 8 = .ok (.iload 5, 2) := by decide +kernel
theorem dX9_judge_10 : decode cX9_judge 10 = .ok (.iaload, 1) := by decide +kernel
theorem dX9_judge_11 : decode cX9_judge 11 = .ok (.goto 9, 3) := by decide +kernel
theorem dX9_judge_14 : decode cX9_judge 14 = .ok (.aload_n 0, 1) := by decide +kernel
theorem dX9_judge_15 : decode cX9_judge 15 = .ok (.getfield 32, 3) := by decide +kernel
theorem dX9_judge_18 : decode cX9_judge 18 = .ok (.iload_n 1, 1) := by decide +kernel
theorem dX9_judge_19 : decode cX9_judge 19 = .ok (.iaload, 1) := by decide +kernel
theorem dX9_judge_20 : decode cX9_judge 20 = .ok (.istore 6, 2) := by decide +kernel
theorem dX9_judge_22 : decode cX9_judge 22 = .ok (.iconst 0, 1) := by decide +kernel
theorem dX9_judge_23 : decode cX9_judge 23 = .ok (.istore 7, 2) := by decide +kernel
theorem dX9_judge_25 : decode cX9_judge 25 = .ok (.iload 7, 2) := by decide +kernel
theorem dX9_judge_27 : decode cX9_judge 27 = .ok (.aload_n 0, 1) := by decide +kernel
theorem dX9_judge_28 : decode cX9_judge 28 = .ok (.getfield 66, 3) := by decide +kernel
theorem dX9_judge_31 : decode cX9_judge 31 = .ok (.getfield 164, 3) := by decide +kernel
theorem dX9_judge_34 : decode cX9_judge 34 = .ok (.if_icmp .ge 55, 3) := by decide +kernel
theorem dX9_judge_37 : decode cX9_judge 37 = .ok (.aload_n 0, 1) := by decide +kernel
theorem dX9_judge_38 : decode cX9_judge 38 = .ok (.iload 7, 2) := by decide +kernel
theorem dX9_judge_40 : decode cX9_judge 40 = .ok (.invokevirtual 169, 3) := by decide +kernel
theorem dX9_judge_43 : decode cX9_judge 43 = .ok (.ifCond .ne 40, 3) := by decide +kernel
theorem dX9_judge_46 : decode cX9_judge 46 = .ok (.aload_n 0, 1) := by decide +kernel
theorem dX9_judge_47 : decode cX9_judge 47 = .ok (.getfield 66, 3) := by decide +kernel
theorem dX9_judge_50 : decode cX9_judge 50 = .ok (.iload 7, 2) := by decide +kernel
theorem dX9_judge_52 : decode cX9_judge 52 = .ok (.iload 6, 2) := by decide +kernel
theorem dX9_judge_54 : decode cX9_judge 54 = .ok (.aload_n 0, 1) := by decide +kernel
theorem dX9_judge_55 : decode cX9_judge 55 = .ok (.getfield 32, 3) := by decide +kernel
theorem dX9_judge_58 : decode cX9_judge 58 = .ok (.iload 5, 2) := by decide +kernel
theorem dX9_judge_60 : decode cX9_judge 60 = .ok (.iaload, 1) := by decide +kernel
theorem dX9_judge_61 : decode cX9_judge 61 = .ok (.invokevirtual 173, 3) := by decide +kernel
theorem dX9_judge_64 : decode cX9_judge 64 = .ok (.ifCond .ne 19, 3) := by decide +kernel
theorem dX9_judge_67 : decode cX9_judge 67 = .ok (.aload_n 0, 1) := by decide +kernel
theorem dX9_judge_68 : decode cX9_judge 68 = .ok (.getfield 49, 3) := by decide +kernel
theorem dX9_judge_71 : decode cX9_judge 71 = .ok (.iload 7, 2) := by decide +kernel
theorem dX9_judge_73 : decode cX9_judge 73 = .ok (.iload_n 1, 1) := by decide +kernel
theorem dX9_judge_74 : decode cX9_judge 74 = .ok (.iload_n 2, 1) := by decide +kernel
theorem dX9_judge_75 : decode cX9_judge 75 = .ok (.iload_n 3, 1) := by decide +kernel
theorem dX9_judge_76 : decode cX9_judge 76 = .ok (.iload 4, 2) := by decide +kernel
theorem dX9_judge_78 : decode cX9_judge 78 = .ok (.iload 5, 2) := by decide +kernel
theorem dX9_judge_80 : decode cX9_judge 80 = .ok (.invokestatic 99, 3) := by decide +kernel
theorem dX9_judge_83 : decode cX9_judge 83 = .ok (.iinc 7 1, 3) := by decide +kernel
theorem dX9_judge_86 : decode cX9_judge 86 = .ok (.goto (-61), 3) := by decide +kernel
theorem dX9_judge_89 : decode cX9_judge 89 = .ok (.return_, 1) := by decide +kernel
theorem dX9_tell_0 : decode cX9_tell 0 = .ok (.iload_n 1, 1) := by decide +kernel
theorem dX9_tell_1 : decode cX9_tell 1 = .ok (.iconst 5, 1) := by decide +kernel
theorem dX9_tell_2 : decode cX9_tell 2 = .ok (.imul, 1) := by decide +kernel
theorem dX9_tell_3 : decode cX9_tell 3 = .ok (.istore 7, 2) := by decide +kernel
theorem dX9_tell_5 : decode cX9_tell 5 = .ok (.aload_n 0, 1) := by decide +kernel
theorem dX9_tell_6 : decode cX9_tell 6 = .ok (.iload 7, 2) := by decide +kernel
theorem dX9_tell_8 : decode cX9_tell 8 = .ok (.iload_n 2, 1) := by decide +kernel
theorem dX9_tell_9 : decode cX9_tell 9 = .ok (.iastore, 1) := by decide +kernel
theorem dX9_tell_10 : decode cX9_tell 10 = .ok (.aload_n 0, 1) := by decide +kernel
theorem dX9_tell_11 : decode cX9_tell 11 = .ok (.iload 7, 2) := by decide +kernel
theorem dX9_tell_13 : decode cX9_tell 13 = .ok (.iconst 1, 1) := by decide +kernel
theorem dX9_tell_14 : decode cX9_tell 14 = .ok (.iadd, 1) := by decide +kernel
theorem dX9_tell_15 : decode cX9_tell 15 = .ok (.iload_n 3, 1) := by decide +kernel
theorem dX9_tell_16 : decode cX9_tell 16 = .ok (.iastore, 1) := by decide +kernel
theorem dX9_tell_17 : decode cX9_tell 17 = .ok (.aload_n 0, 1) := by decide +kernel
theorem dX9_tell_18 : decode cX9_tell 18 = .ok (.iload 7, 2) := by decide +kernel
theorem dX9_tell_20 : decode cX9_tell 20 = .ok (.iconst 2, 1) := by decide +kernel
theorem dX9_tell_21 : decode cX9_tell 21 = .ok (.iadd, 1) := by decide +kernel
theorem dX9_tell_22 : decode cX9_tell 22 = .ok (.iload 4, 2) := by decide +kernel
theorem dX9_tell_24 : decode cX9_tell 24 = .ok (.iastore, 1) := by decide +kernel
theorem dX9_tell_25 : decode cX9_tell 25 = .ok (.aload_n 0, 1) := by decide +kernel
theorem dX9_tell_26 : decode cX9_tell 26 = .ok (.iload 7, 2) := by decide +kernel
theorem dX9_tell_28 : decode cX9_tell 28 = .ok (.iconst 3, 1) := by decide +kernel
theorem dX9_tell_29 : decode cX9_tell 29 = .ok (.iadd, 1) := by decide +kernel
theorem dX9_tell_30 : decode cX9_tell 30 = .ok (.iload 5, 2) := by decide +kernel
theorem dX9_tell_32 : decode cX9_tell 32 = .ok (.iastore, 1) := by decide +kernel
theorem dX9_tell_33 : decode cX9_tell 33 = .ok (.aload_n 0, 1) := by decide +kernel
theorem dX9_tell_34 : decode cX9_tell 34 = .ok (.iload 7, 2) := by decide +kernel
theorem dX9_tell_36 : decode cX9_tell 36 = .ok (.iconst 4, 1) := by decide +kernel
theorem dX9_tell_37 : decode cX9_tell 37 = .ok (.iadd, 1) := by decide +kernel
theorem dX9_tell_38 : decode cX9_tell 38 = .ok (.iload 6, 2) := by decide +kernel
theorem dX9_tell_40 : decode cX9_tell 40 = .ok (.iastore, 1) := by decide +kernel
theorem dX9_tell_41 : decode cX9_tell 41 = .ok (.return_, 1) := by decide +kernel
theorem dX9_slotOf_0 : decode cX9_slotOf 0 = .ok (.lload_n 2, 1) := by decide +kernel
theorem dX9_slotOf_1 : decode cX9_slotOf 1 = .ok (.ldc2_w 177, 3) := by decide +kernel
theorem dX9_slotOf_4 : decode cX9_slotOf 4 = .ok (.lmul, 1) := by decide +kernel
theorem dX9_slotOf_5 : decode cX9_slotOf 5 = .ok (.iload_n 1, 1) := by decide +kernel
theorem dX9_slotOf_6 : decode cX9_slotOf 6 = .ok (.i2l, 1) := by decide +kernel
theorem dX9_slotOf_7 : decode cX9_slotOf 7 = .ok (.ladd, 1) := by decide +kernel
theorem dX9_slotOf_8 : decode cX9_slotOf 8 = .ok (.ldc2_w 179, 3) := by decide +kernel
theorem dX9_slotOf_11 : decode cX9_slotOf 11 = .ok (.lmul, 1) := by decide +kernel
theorem dX9_slotOf_12 : decode cX9_slotOf 12 = .ok (.lstore 4, 2) := by decide +kernel
theorem dX9_slotOf_14 : decode cX9_slotOf 14 = .ok (.lload 4, 2) := by decide +kernel
theorem dX9_slotOf_16 : decode cX9_slotOf 16 = .ok (.bipush 55, 2) := by decide +kernel
theorem dX9_slotOf_18 : decode cX9_slotOf 18 = .ok (.lushr, 1) := by decide +kernel
theorem dX9_slotOf_19 : decode cX9_slotOf 19 = .ok (.l2i, 1) := by decide +kernel
theorem dX9_slotOf_20 : decode cX9_slotOf 20 = .ok (.istore 6, 2) := by decide +kernel
theorem dX9_slotOf_22 : decode cX9_slotOf 22 = .ok (.iconst 0, 1) := by decide +kernel
theorem dX9_slotOf_23 : decode cX9_slotOf 23 = .ok (.istore 7, 2) := by decide +kernel
theorem dX9_slotOf_25 : decode cX9_slotOf 25 = .ok (.iload 7, 2) := by decide +kernel
theorem dX9_slotOf_27 : decode cX9_slotOf 27 = .ok (.sipush 512, 3) := by decide +kernel
theorem dX9_slotOf_30 : decode cX9_slotOf 30 = .ok (.if_icmp .ge 61, 3) := by decide +kernel
theorem dX9_slotOf_33 : decode cX9_slotOf 33 = .ok (.aload_n 0, 1) := by decide +kernel
theorem dX9_slotOf_34 : decode cX9_slotOf 34 = .ok (.getfield 52, 3) := by decide +kernel
theorem dX9_slotOf_37 : decode cX9_slotOf 37 = .ok (.iload 6, 2) := by decide +kernel
theorem dX9_slotOf_39 : decode cX9_slotOf 39 = .ok (.iaload, 1) := by decide +kernel
theorem dX9_slotOf_40 : decode cX9_slotOf 40 = .ok (.iconst 1, 1) := by decide +kernel
theorem dX9_slotOf_41 : decode cX9_slotOf 41 = .ok (.isub, 1) := by decide +kernel
theorem dX9_slotOf_42 : decode cX9_slotOf 42 = .ok (.istore 8, 2) := by decide +kernel
theorem dX9_slotOf_44 : decode cX9_slotOf 44 = .ok (.iload 8, 2) := by decide +kernel
theorem dX9_slotOf_46 : decode cX9_slotOf 46 = .ok (.ifCond .lt 26, 3) := by decide +kernel
theorem dX9_slotOf_49 : decode cX9_slotOf 49 = .ok (.aload_n 0, 1) := by decide +kernel
theorem dX9_slotOf_50 : decode cX9_slotOf 50 = .ok (.getfield 32, 3) := by decide +kernel
theorem dX9_slotOf_53 : decode cX9_slotOf 53 = .ok (.iload 8, 2) := by decide +kernel
theorem dX9_slotOf_55 : decode cX9_slotOf 55 = .ok (.iaload, 1) := by decide +kernel
theorem dX9_slotOf_56 : decode cX9_slotOf 56 = .ok (.iload_n 1, 1) := by decide +kernel
theorem dX9_slotOf_57 : decode cX9_slotOf 57 = .ok (.if_icmp .ne 18, 3) := by decide +kernel
theorem dX9_slotOf_60 : decode cX9_slotOf 60 = .ok (.aload_n 0, 1) := by decide +kernel
theorem dX9_slotOf_61 : decode cX9_slotOf 61 = .ok (.getfield 36, 3) := by decide +kernel
theorem dX9_slotOf_64 : decode cX9_slotOf 64 = .ok (.iload 8, 2) := by decide +kernel
theorem dX9_slotOf_66 : decode cX9_slotOf 66 = .ok (.laload, 1) := by decide +kernel
theorem dX9_slotOf_67 : decode cX9_slotOf 67 = .ok (.lload_n 2, 1) := by decide +kernel
theorem dX9_slotOf_68 : decode cX9_slotOf 68 = .ok (.lcmp, 1) := by decide +kernel
theorem dX9_slotOf_69 : decode cX9_slotOf 69 = .ok (.ifCond .ne 6, 3) := by decide +kernel
theorem dX9_slotOf_72 : decode cX9_slotOf 72 = .ok (.iload 6, 2) := by decide +kernel
theorem dX9_slotOf_74 : decode cX9_slotOf 74 = .ok (.ireturn, 1) := by decide +kernel
theorem dX9_slotOf_75 : decode cX9_slotOf 75 = .ok (.iload 6, 2) := by decide +kernel
theorem dX9_slotOf_77 : decode cX9_slotOf 77 = .ok (.iconst 1, 1) := by decide +kernel
theorem dX9_slotOf_78 : decode cX9_slotOf 78 = .ok (.iadd, 1) := by decide +kernel
theorem dX9_slotOf_79 : decode cX9_slotOf 79 = .ok (.sipush 511, 3) := by decide +kernel
theorem dX9_slotOf_82 : decode cX9_slotOf 82 = .ok (.iand, 1) := by decide +kernel
theorem dX9_slotOf_83 : decode cX9_slotOf 83 = .ok (.istore 6, 2) := by decide +kernel
theorem dX9_slotOf_85 : decode cX9_slotOf 85 = .ok (.iinc 7 1, 3) := by decide +kernel
theorem dX9_slotOf_88 : decode cX9_slotOf 88 = .ok (.goto (-63), 3) := by decide +kernel
theorem dX9_slotOf_91 : decode cX9_slotOf 91 = .ok (.iload 6, 2) := by decide +kernel
theorem dX9_slotOf_93 : decode cX9_slotOf 93 = .ok (.ireturn, 1) := by decide +kernel
theorem dX10_init_0 : decode cX10_init 0 = .ok (.aload_n 0, 1) := by decide +kernel
theorem dX10_init_1 : decode cX10_init 1 = .ok (.invokespecial 3, 3) := by decide +kernel
theorem dX10_init_4 : decode cX10_init 4 = .ok (.aload_n 0, 1) := by decide +kernel
theorem dX10_init_5 : decode cX10_init 5 = .ok (.sipush 4000, 3) := by decide +kernel
theorem dX10_init_8 : decode cX10_init 8 = .ok (.newarray .long, 2) := by decide +kernel
theorem dX10_init_10 : decode cX10_init 10 = .ok (.putfield 11, 3) := by decide +kernel
theorem dX10_init_13 : decode cX10_init 13 = .ok (.aload_n 0, 1) := by decide +kernel
theorem dX10_init_14 : decode cX10_init 14 = .ok (.sipush 250, 3) := by decide +kernel
theorem dX10_init_17 : decode cX10_init 17 = .ok (.newarray .int, 2) := by decide +kernel
theorem dX10_init_19 : decode cX10_init 19 = .ok (.putfield 15, 3) := by decide +kernel
theorem dX10_init_22 : decode cX10_init 22 = .ok (.aload_n 0, 1) := by decide +kernel
theorem dX10_init_23 : decode cX10_init 23 = .ok (.sipush 250, 3) := by decide +kernel
theorem dX10_init_26 : decode cX10_init 26 = .ok (.newarray .int, 2) := by decide +kernel
theorem dX10_init_28 : decode cX10_init 28 = .ok (.putfield 19, 3) := by decide +kernel
theorem dX10_init_31 : decode cX10_init 31 = .ok (.aload_n 0, 1) := by decide +kernel
theorem dX10_init_32 : decode cX10_init 32 = .ok (.sipush 250, 3) := by decide +kernel
theorem dX10_init_35 : decode cX10_init 35 = .ok (.newarray .boolean, 2) := by decide +kernel
theorem dX10_init_37 : decode cX10_init 37 = .ok (.putfield 22, 3) := by decide +kernel
theorem dX10_init_40 : decode cX10_init 40 = .ok (.aload_n 0, 1) := by decide +kernel
theorem dX10_init_41 : decode cX10_init 41 = .ok (.iconst 0, 1) := by decide +kernel
theorem dX10_init_42 : decode cX10_init 42 = .ok (.putfield 26, 3) := by decide +kernel
theorem dX10_init_45 : decode cX10_init 45 = .ok (.return_, 1) := by decide +kernel
theorem dX10_clear_0 : decode cX10_clear 0 = .ok (.aload_n 0, 1) := by decide +kernel
theorem dX10_clear_1 : decode cX10_clear 1 = .ok (.iconst 0, 1) := by decide +kernel
theorem dX10_clear_2 : decode cX10_clear 2 = .ok (.putfield 26, 3) := by decide +kernel
theorem dX10_clear_5 : decode cX10_clear 5 = .ok (.aload_n 0, 1) := by decide +kernel
theorem dX10_clear_6 : decode cX10_clear 6 = .ok (.getfield 11, 3) := by decide +kernel
theorem dX10_clear_9 : decode cX10_clear 9 = .ok (.lconst 0, 1) := by decide +kernel
theorem dX10_clear_10 : decode cX10_clear 10 = .ok (.invokestatic 30, 3) := by decide +kernel
theorem dX10_clear_13 : decode cX10_clear 13 = .ok (.return_, 1) := by decide +kernel
theorem dX10_add_0 : decode cX10_add 0 = .ok (.aload_n 0, 1) := by decide +kernel
theorem dX10_add_1 : decode cX10_add 1 = .ok (.getfield 11, 3) := by decide +kernel
theorem dX10_add_4 : decode cX10_add 4 = .ok (.iload_n 1, 1) := by decide +kernel
theorem dX10_add_5 : decode cX10_add 5 = .ok (.iconst 5, 1) := by decide +kernel
theorem dX10_add_6 : decode cX10_add 6 = .ok (.idiv, 1) := by decide +kernel
theorem dX10_add_7 : decode cX10_add 7 = .ok (.dup2, 1) := by decide +kernel
theorem dX10_add_8 : decode cX10_add 8 = .ok (.laload, 1) := by decide +kernel
theorem dX10_add_9 : decode cX10_add 9 = .ok (.iload_n 2, 1) := by decide +kernel
theorem dX10_add_10 : decode cX10_add 10 = .ok (.iconst 4, 1) := by decide +kernel
theorem dX10_add_11 : decode cX10_add 11 = .ok (.ishl, 1) := by decide +kernel
theorem dX10_add_12 : decode cX10_add 12 = .ok (.iload_n 3, 1) := by decide +kernel
theorem dX10_add_13 : decode cX10_add 13 = .ok (.ior, 1) := by decide +kernel
theorem dX10_add_14 : decode cX10_add 14 = .ok (.i2l, 1) := by decide +kernel
theorem dX10_add_15 : decode cX10_add 15 = .ok (.iload_n 1, 1) := by decide +kernel
theorem dX10_add_16 : decode cX10_add 16 = .ok (.iconst 5, 1) := by decide +kernel
theorem dX10_add_17 : decode cX10_add 17 = .ok (.irem, 1) := by decide +kernel
theorem dX10_add_18 : decode cX10_add 18 = .ok (.bipush 12, 2) := by decide +kernel
theorem dX10_add_20 : decode cX10_add 20 = .ok (.imul, 1) := by decide +kernel
theorem dX10_add_21 : decode cX10_add 21 = .ok (.lshl, 1) := by decide +kernel
theorem dX10_add_22 : decode cX10_add 22 = .ok (.lor, 1) := by decide +kernel
theorem dX10_add_23 : decode cX10_add 23 = .ok (.lastore, 1) := by decide +kernel
theorem dX10_add_24 : decode cX10_add 24 = .ok (.return_, 1) := by decide +kernel
theorem dX10_close_0 : decode cX10_close 0 = .ok (.aload_n 0, 1) := by decide +kernel
theorem dX10_close_1 : decode cX10_close 1 = .ok (.getfield 15, 3) := by decide +kernel
theorem dX10_close_4 : decode cX10_close 4 = .ok (.iload_n 1, 1) := by decide +kernel
theorem dX10_close_5 : decode cX10_close 5 = .ok (.iload_n 2, 1) := by decide +kernel
theorem dX10_close_6 : decode cX10_close 6 = .ok (.iastore, 1) := by decide +kernel
theorem dX10_close_7 : decode cX10_close 7 = .ok (.return_, 1) := by decide +kernel
theorem dX10_fewestTo_0 : decode cX10_fewestTo 0 = .ok (.aload_n 0, 1) := by decide +kernel
theorem dX10_fewestTo_1 : decode cX10_fewestTo 1 = .ok (.getfield 26, 3) := by decide +kernel
theorem dX10_fewestTo_4 : decode cX10_fewestTo 4 = .ok (.ifCond .ne 14, 3) := by decide +kernel
theorem dX10_fewestTo_7 : decode cX10_fewestTo 7 = .ok (.aload_n 0, 1) := by decide +kernel
theorem dX10_fewestTo_8 : decode cX10_fewestTo 8 = .ok (.iload_n 2, 1) := by decide +kernel
theorem dX10_fewestTo_9 : decode cX10_fewestTo 9 = .ok (.iload_n 3, 1) := by decide +kernel
theorem dX10_fewestTo_10 : decode cX10_fewestTo 10 = .ok (.invokevirtual 36, 3) := by decide +kernel
theorem dX10_fewestTo_13 : decode cX10_fewestTo 13 = .ok (.aload_n 0, 1) := by decide +kernel
theorem dX10_fewestTo_14 : decode cX10_fewestTo 14 = .ok (.iconst 1, 1) := by decide +kernel
theorem dX10_fewestTo_15 : decode cX10_fewestTo 15 = .ok (.putfield 26, 3) := by decide +kernel
theorem dX10_fewestTo_18 : decode cX10_fewestTo 18 = .ok (.aload_n 0, 1) := by decide +kernel
theorem dX10_fewestTo_19 : decode cX10_fewestTo 19 = .ok (.getfield 19, 3) := by decide +kernel
theorem dX10_fewestTo_22 : decode cX10_fewestTo 22 = .ok (.iload_n 1, 1) := by decide +kernel
theorem dX10_fewestTo_23 : decode cX10_fewestTo 23 = .ok (.iaload, 1) := by decide +kernel
theorem dX10_fewestTo_24 : decode cX10_fewestTo 24 = .ok (.ldc 40, 2) := by decide +kernel
theorem dX10_fewestTo_26 : decode cX10_fewestTo 26 = .ok (.if_icmp .ge 12, 3) := by decide +kernel
theorem dX10_fewestTo_29 : decode cX10_fewestTo 29 = .ok (.aload_n 0, 1) := by decide +kernel
theorem dX10_fewestTo_30 : decode cX10_fewestTo 30 = .ok (.getfield 19, 3) := by decide +kernel
theorem dX10_fewestTo_33 : decode cX10_fewestTo 33 = .ok (.iload_n 1, 1) := by decide +kernel
theorem dX10_fewestTo_34 : decode cX10_fewestTo 34 = .ok (.iaload, 1) := by decide +kernel
theorem dX10_fewestTo_35 : decode cX10_fewestTo 35 = .ok (.goto 5, 3) := by decide +kernel
theorem dX10_fewestTo_38 : decode cX10_fewestTo 38 = .ok (.bipush (-2), 2) := by decide +kernel
theorem dX10_fewestTo_40 : decode cX10_fewestTo 40 = .ok (.ireturn, 1) := by decide +kernel
theorem dX10_measure_0 : decode cX10_measure 0 = .ok (.iconst 0, 1) := by decide +kernel
theorem dX10_measure_1 : decode cX10_measure 1 = .ok (.istore_n 3, 1) := by decide +kernel
theorem dX10_measure_2 : decode cX10_measure 2 = .ok (.iload_n 3, 1) := by decide +kernel
theorem dX10_measure_3 : decode cX10_measure 3 = .ok (.iload_n 1, 1) := by decide +kernel
theorem dX10_measure_4 : decode cX10_measure 4 = .ok (.if_icmp .ge 32, 3) := by decide +kernel
theorem dX10_measure_7 : decode cX10_measure 7 = .ok (.aload_n 0, 1) := by decide +kernel
theorem dX10_measure_8 : decode cX10_measure 8 = .ok (.getfield 19, 3) := by decide +kernel
theorem dX10_measure_11 : decode cX10_measure 11 = .ok (.iload_n 3, 1) := by decide +kernel
theorem dX10_measure_12 : decode cX10_measure 12 = .ok (.iload_n 3, 1) := by decide +kernel
theorem dX10_measure_13 : decode cX10_measure 13 = .ok (.ifCond .ne 7, 3) := by decide +kernel
theorem dX10_measure_16 : decode cX10_measure 16 = .ok (.iconst 0, 1) := by decide +kernel
theorem dX10_measure_17 : decode cX10_measure 17 = .ok (.goto 5, 3) := by decide +kernel
theorem dX10_measure_20 : decode cX10_measure 20 = .ok (.ldc 40, 2) := by decide +kernel
theorem dX10_measure_22 : decode cX10_measure 22 = .ok (.iastore, 1) := by decide +kernel
theorem dX10_measure_23 : decode cX10_measure 23 = .ok (.aload_n 0, 1) := by decide +kernel
theorem dX10_measure_24 : decode cX10_measure 24 = .ok (.getfield 22, 3) := by decide +kernel
theorem dX10_measure_27 : decode cX10_measure 27 = .ok (.iload_n 3, 1) := by decide +kernel
theorem dX10_measure_28 : decode cX10_measure 28 = .ok (.iconst 0, 1) := by decide +kernel
theorem dX10_measure_29 : decode cX10_measure 29 = .ok (.bastore, 1) := by decide +kernel
theorem dX10_measure_30 : decode cX10_measure 30 = .ok (.iinc 3 1, 3) := by decide +kernel
theorem dX10_measure_33 : decode cX10_measure 33 = .ok (.goto (-31), 3) := by decide +kernel
theorem dX10_measure_36 : decode cX10_measure 36 = .ok (.iconst 0, 1) := by decide +kernel
theorem dX10_measure_37 : decode cX10_measure 37 = .ok (.istore_n 3, 1) := by decide +kernel
theorem dX10_measure_38 : decode cX10_measure 38 = .ok (.iload_n 3, 1) := by decide +kernel
theorem dX10_measure_39 : decode cX10_measure 39 = .ok (.iload_n 2, 1) := by decide +kernel
theorem dX10_measure_40 : decode cX10_measure 40 = .ok (.if_icmp .ge 36, 3) := by decide +kernel
theorem dX10_measure_43 : decode cX10_measure 43 = .ok (.aload_n 0, 1) := by decide +kernel
theorem dX10_measure_44 : decode cX10_measure 44 = .ok (.iload_n 2, 1) := by decide +kernel
theorem dX10_measure_45 : decode cX10_measure 45 = .ok (.invokevirtual 41, 3) := by decide +kernel
theorem dX10_measure_48 : decode cX10_measure 48 = .ok (.istore 4, 2) := by decide +kernel
theorem dX10_measure_50 : decode cX10_measure 50 = .ok (.iload 4, 2) := by decide +kernel
theorem dX10_measure_52 : decode cX10_measure 52 = .ok (.ifCond .ge 4, 3) := by decide +kernel
theorem dX10_measure_55 : decode cX10_measure 55 = .ok (.return_, 1) := by decide +kernel
theorem dX10_measure_56 : decode cX10_measure 56 = .ok (.aload_n 0, 1) := by decide +kernel
theorem dX10_measure_57 : decode cX10_measure 57 = .ok (.getfield 22, 3) := by decide +kernel
theorem dX10_measure_60 : decode cX10_measure 60 = .ok (.iload 4, 2) := by decide +kernel
theorem dX10_measure_62 : decode cX10_measure 62 = .ok (.iconst 1, 1) := by decide +kernel
theorem dX10_measure_63 : decode cX10_measure 63 = .ok (.bastore, 1) := by decide +kernel
theorem dX10_measure_64 : decode cX10_measure 64 = .ok (.aload_n 0, 1) := by decide +kernel
theorem dX10_measure_65 : decode cX10_measure 65 = .ok (.iload 4, 2) := by decide +kernel
theorem dX10_measure_67 : decode cX10_measure 67 = .ok (.invokevirtual 45, 3) := by decide +kernel
theorem dX10_measure_70 : decode cX10_measure 70 = .ok (.iinc 3 1, 3) := by decide +kernel
theorem dX10_measure_73 : decode cX10_measure 73 = .ok (.goto (-35), 3) := by decide +kernel
theorem dX10_measure_76 : decode cX10_measure 76 = .ok (.return_, 1) := by decide +kernel
theorem dX10_nearest_0 : decode cX10_nearest 0 = .ok (.iconst (-1), 1) := by decide +kernel
theorem dX10_nearest_1 : decode cX10_nearest 1 = .ok (.istore_n 2, 1) := by decide +kernel
theorem dX10_nearest_2 : decode cX10_nearest 2 = .ok (.ldc 40, 2) := by decide +kernel
theorem dX10_nearest_4 : decode cX10_nearest 4 = .ok (.istore_n 3, 1) := by decide +kernel
theorem dX10_nearest_5 : decode cX10_nearest 5 = .ok (.iconst 0, 1) := by decide +kernel
theorem dX10_nearest_6 : decode cX10_nearest 6 = .ok (.istore 4, 2) := by decide +kernel
theorem dX10_nearest_8 : decode cX10_nearest 8 = .ok (.iload 4, 2) := by decide +kernel
theorem dX10_nearest_10 : decode cX10_nearest 10 = .ok (.iload_n 1, 1) := by decide +kernel
theorem dX10_nearest_11 : decode cX10_nearest 11 = .ok (.if_icmp .ge 41, 3) := by decide +kernel
theorem dX10_nearest_14 : decode cX10_nearest 14 = .ok (.aload_n 0, 1) := by decide +kernel
theorem dX10_nearest_15 : decode cX10_nearest 15 = .ok (.getfield 22, 3) := by decide +kernel
theorem dX10_nearest_18 : decode cX10_nearest 18 = .ok (.iload 4, 2) := by decide +kernel
theorem dX10_nearest_20 : decode cX10_nearest 20 = .ok (.baload, 1) := by decide +kernel
theorem dX10_nearest_21 : decode cX10_nearest 21 = .ok (.ifCond .ne 25, 3) := by decide +kernel
theorem dX10_nearest_24 : decode cX10_nearest 24 = .ok (.aload_n 0, 1) := by decide +kernel
theorem dX10_nearest_25 : decode cX10_nearest 25 = .ok (.getfield 19, 3) := by decide +kernel
theorem dX10_nearest_28 : decode cX10_nearest 28 = .ok (.iload 4, 2) := by decide +kernel
theorem dX10_nearest_30 : decode cX10_nearest 30 = .ok (.iaload, 1) := by decide +kernel
theorem dX10_nearest_31 : decode cX10_nearest 31 = .ok (.iload_n 3, 1) := by decide +kernel
theorem dX10_nearest_32 : decode cX10_nearest 32 = .ok (.if_icmp .ge 14, 3) := by decide +kernel
theorem dX10_nearest_35 : decode cX10_nearest 35 = .ok (.iload 4, 2) := by decide +kernel
theorem dX10_nearest_37 : decode cX10_nearest 37 = .ok (.istore_n 2, 1) := by decide +kernel
theorem dX10_nearest_38 : decode cX10_nearest 38 = .ok (.aload_n 0, 1) := by decide +kernel
theorem dX10_nearest_39 : decode cX10_nearest 39 = .ok (.getfield 19, 3) := by decide +kernel
theorem dX10_nearest_42 : decode cX10_nearest 42 = .ok (.iload 4, 2) := by decide +kernel
theorem dX10_nearest_44 : decode cX10_nearest 44 = .ok (.iaload, 1) := by decide +kernel
theorem dX10_nearest_45 : decode cX10_nearest 45 = .ok (.istore_n 3, 1) := by decide +kernel
theorem dX10_nearest_46 : decode cX10_nearest 46 = .ok (.iinc 4 1, 3) := by decide +kernel
theorem dX10_nearest_49 : decode cX10_nearest 49 = .ok (.goto (-41), 3) := by decide +kernel
theorem dX10_nearest_52 : decode cX10_nearest 52 = .ok (.iload_n 2, 1) := by decide +kernel
theorem dX10_nearest_53 : decode cX10_nearest 53 = .ok (.ireturn, 1) := by decide +kernel
theorem dX10_goOnFrom_0 : decode cX10_goOnFrom 0 = .ok (.iload_n 1, 1) := by decide +kernel
theorem dX10_goOnFrom_1 : decode cX10_goOnFrom 1 = .ok (.ifCond .ne 7, 3) := by decide +kernel
theorem dX10_goOnFrom_4 : decode cX10_goOnFrom 4 = .ok (.iconst 0, 1) := by decide +kernel
theorem dX10_goOnFrom_5 : decode cX10_goOnFrom 5 = .ok (.goto 11, 3) := by decide +kernel
theorem dX10_goOnFrom_8 : decode cX10_goOnFrom 8 = .ok (.aload_n 0, 1) := by decide +kernel
theorem dX10_goOnFrom_9 : decode cX10_goOnFrom 9 = .ok (.getfield 15, 3) := by decide +kernel
theorem dX10_goOnFrom_12 : decode cX10_goOnFrom 12 = .ok (.iload_n 1, 1) := by decide +kernel
theorem dX10_goOnFrom_13 : decode cX10_goOnFrom 13 = .ok (.iconst 1, 1) := by decide +kernel
theorem dX10_goOnFrom_14 : decode cX10_goOnFrom 14 = .ok (.isub, 1) := by decide +kernel
theorem dX10_goOnFrom_15 : decode cX10_goOnFrom 15 = .ok (.iaload, 1) := by decide +kernel
theorem dX10_goOnFrom_16 : decode cX10_goOnFrom 16 = .ok (.istore_n 2, 1) := by decide +kernel
theorem dX10_goOnFrom_17 : decode cX10_goOnFrom 17 = .ok (.iload_n 2, 1) := by decide +kernel
theorem dX10_goOnFrom_18 : decode cX10_goOnFrom 18 = .ok (.istore_n 3, 1) := by decide +kernel
theorem dX10_goOnFrom_19 : decode cX10_goOnFrom 19 = .ok (.iload_n 3, 1) := by decide +kernel
theorem dX10_goOnFrom_20 : decode cX10_goOnFrom 20 = .ok (.aload_n 0, 1) := by decide +kernel
theorem dX10_goOnFrom_21 : decode cX10_goOnFrom 21 = .ok (.getfield 15, 3) := by decide +kernel
theorem dX10_goOnFrom_24 : decode cX10_goOnFrom 24 = .ok (.iload_n 1, 1) := by decide +kernel
theorem dX10_goOnFrom_25 : decode cX10_goOnFrom 25 = .ok (.iaload, 1) := by decide +kernel
theorem dX10_goOnFrom_26 : decode cX10_goOnFrom 26 = .ok (.if_icmp .ge 72, 3) := by decide +kernel
theorem dX10_goOnFrom_29 : decode cX10_goOnFrom 29 = .ok (.aload_n 0, 1) := by decide +kernel
theorem dX10_goOnFrom_30 : decode cX10_goOnFrom 30 = .ok (.getfield 11, 3) := by decide +kernel
theorem dX10_goOnFrom_33 : decode cX10_goOnFrom 33 = .ok (.iload_n 3, 1) := by decide +kernel
theorem dX10_goOnFrom_34 : decode cX10_goOnFrom 34 = .ok (.iconst 5, 1) := by decide +kernel
theorem dX10_goOnFrom_35 : decode cX10_goOnFrom 35 = .ok (.idiv, 1) := by decide +kernel
theorem dX10_goOnFrom_36 : decode cX10_goOnFrom 36 = .ok (.laload, 1) := by decide +kernel
theorem dX10_goOnFrom_37 : decode cX10_goOnFrom 37 = .ok (.iload_n 3, 1) := by decide +kernel
theorem dX10_goOnFrom_38 : decode cX10_goOnFrom 38 = .ok (.iconst 5, 1) := by decide +kernel
theorem dX10_goOnFrom_39 : decode cX10_goOnFrom 39 = .ok (.irem, 1) := by decide +kernel
theorem dX10_goOnFrom_40 : decode cX10_goOnFrom 40 = .ok (.bipush 12, 2) := by decide +kernel
theorem dX10_goOnFrom_42 : decode cX10_goOnFrom 42 = .ok (.imul, 1) := by decide +kernel
theorem dX10_goOnFrom_43 : decode cX10_goOnFrom 43 = .ok (.lushr, 1) := by decide +kernel
theorem dX10_goOnFrom_44 : decode cX10_goOnFrom 44 = .ok (.l2i, 1) := by decide +kernel
theorem dX10_goOnFrom_45 : decode cX10_goOnFrom 45 = .ok (.istore 4, 2) := by decide +kernel
theorem dX10_goOnFrom_47 : decode cX10_goOnFrom 47 = .ok (.iload 4, 2) := by decide +kernel
theorem dX10_goOnFrom_49 : decode cX10_goOnFrom 49 = .ok (.iconst 4, 1) := by decide +kernel
theorem dX10_goOnFrom_50 : decode cX10_goOnFrom 50 = .ok (.ishr, 1) := by decide +kernel
theorem dX10_goOnFrom_51 : decode cX10_goOnFrom 51 = .ok (.sipush 255, 3) := by decide +kernel
theorem dX10_goOnFrom_54 : decode cX10_goOnFrom 54 = .ok (.iand, 1) := by decide +kernel
theorem dX10_goOnFrom_55 : decode cX10_goOnFrom 55 = .ok (.istore 5, 2) := by decide +kernel
theorem dX10_goOnFrom_57 : decode cX10_goOnFrom 57 = .ok (.aload_n 0, 1) := by decide +kernel
theorem dX10_goOnFrom_58 : decode cX10_goOnFrom 58 = .ok (.getfield 19, 3) := by decide +kernel
theorem dX10_goOnFrom_61 : decode cX10_goOnFrom 61 = .ok (.iload_n 1, 1) := by decide +kernel
theorem dX10_goOnFrom_62 : decode cX10_goOnFrom 62 = .ok (.iaload, 1) := by decide +kernel
theorem dX10_goOnFrom_63 : decode cX10_goOnFrom 63 = .ok (.iload 4, 2) := by decide +kernel
theorem dX10_goOnFrom_65 : decode cX10_goOnFrom 65 = .ok (.bipush 15, 2) := by decide +kernel
theorem dX10_goOnFrom_67 : decode cX10_goOnFrom 67 = .ok (.iand, 1) := by decide +kernel
theorem dX10_goOnFrom_68 : decode cX10_goOnFrom 68 = .ok (.iadd, 1) := by decide +kernel
theorem dX10_goOnFrom_69 : decode cX10_goOnFrom 69 = .ok (.istore 6, 2) := by decide +kernel
theorem dX10_goOnFrom_71 : decode cX10_goOnFrom 71 = .ok (.iload 6, 2) := by decide +kernel
theorem dX10_goOnFrom_73 : decode cX10_goOnFrom 73 = .ok (.aload_n 0, 1) := by decide +kernel
theorem dX10_goOnFrom_74 : decode cX10_goOnFrom 74 = .ok (.getfield 19, 3) := by decide +kernel
theorem dX10_goOnFrom_77 : decode cX10_goOnFrom 77 = .ok (.iload 5, 2) := by decide +kernel
theorem dX10_goOnFrom_79 : decode cX10_goOnFrom 79 = .ok (.iaload, 1) := by decide +kernel
theorem dX10_goOnFrom_80 : decode cX10_goOnFrom 80 = .ok (.if_icmp .ge 12, 3) := by decide +kernel
theorem dX10_goOnFrom_83 : decode cX10_goOnFrom 83 = .ok (.aload_n 0, 1) := by decide +kernel
theorem dX10_goOnFrom_84 : decode cX10_goOnFrom 84 = .ok (.getfield 19, 3) := by decide +kernel
theorem dX10_goOnFrom_87 : decode cX10_goOnFrom 87 = .ok (.iload 5, 2) := by decide +kernel
theorem dX10_goOnFrom_89 : decode cX10_goOnFrom 89 = .ok (.iload 6, 2) := by decide +kernel
theorem dX10_goOnFrom_91 : decode cX10_goOnFrom 91 = .ok (.iastore, 1) := by decide +kernel
theorem dX10_goOnFrom_92 : decode cX10_goOnFrom 92 = .ok (.iinc 3 1, 3) := by decide +kernel
theorem dX10_goOnFrom_95 : decode cX10_goOnFrom 95 = .ok (.goto (-76), 3) := by decide +kernel
theorem dX10_goOnFrom_98 : decode cX10_goOnFrom 98 = .ok (.return_, 1) := by decide +kernel
theorem dX11_init_0 : decode cX11_init 0 = .ok (.aload_n 0, 1) := by decide +kernel
theorem dX11_init_1 : decode cX11_init 1 = .ok (.invokespecial 3, 3) := by decide +kernel
theorem dX11_init_4 : decode cX11_init 4 = .ok (.aload_n 0, 1) := by decide +kernel
theorem dX11_init_5 : decode cX11_init 5 = .ok (.new 9, 3) := by decide +kernel
theorem dX11_init_8 : decode cX11_init 8 = .ok (.dup, 1) := by decide +kernel
theorem dX11_init_9 : decode cX11_init 9 = .ok (.invokespecial 11, 3) := by decide +kernel
theorem dX11_init_12 : decode cX11_init 12 = .ok (.putfield 12, 3) := by decide +kernel
theorem dX11_init_15 : decode cX11_init 15 = .ok (.aload_n 0, 1) := by decide +kernel
theorem dX11_init_16 : decode cX11_init 16 = .ok (.new 16, 3) := by decide +kernel
theorem dX11_init_19 : decode cX11_init 19 = .ok (.dup, 1) := by decide +kernel
theorem dX11_init_20 : decode cX11_init 20 = .ok (.invokespecial 18, 3) := by decide +kernel
theorem dX11_init_23 : decode cX11_init 23 = .ok (.putfield 19, 3) := by decide +kernel
theorem dX11_init_26 : decode cX11_init 26 = .ok (.aload_n 0, 1) := by decide +kernel
theorem dX11_init_27 : decode cX11_init 27 = .ok (.new 23, 3) := by decide +kernel
theorem dX11_init_30 : decode cX11_init 30 = .ok (.dup, 1) := by decide +kernel
theorem dX11_init_31 : decode cX11_init 31 = .ok (.aload_n 0, 1) := by decide +kernel
theorem dX11_init_32 : decode cX11_init 32 = .ok (.getfield 12, 3) := by decide +kernel
theorem dX11_init_35 : decode cX11_init 35 = .ok (.invokespecial 25, 3) := by decide +kernel
theorem dX11_init_38 : decode cX11_init 38 = .ok (.putfield 28, 3) := by decide +kernel
theorem dX11_init_41 : decode cX11_init 41 = .ok (.new 32, 3) := by decide +kernel
theorem dX11_init_44 : decode cX11_init 44 = .ok (.dup, 1) := by decide +kernel
theorem dX11_init_45 : decode cX11_init 45 = .ok (.aload_n 0, 1) := by decide +kernel
theorem dX11_init_46 : decode cX11_init 46 = .ok (.getfield 12, 3) := by decide +kernel
theorem dX11_init_49 : decode cX11_init 49 = .ok (.invokespecial 34, 3) := by decide +kernel
theorem dX11_init_52 : decode cX11_init 52 = .ok (.astore_n 1, 1) := by decide +kernel
theorem dX11_init_53 : decode cX11_init 53 = .ok (.aload_n 0, 1) := by decide +kernel
theorem dX11_init_54 : decode cX11_init 54 = .ok (.new 35, 3) := by decide +kernel
theorem dX11_init_57 : decode cX11_init 57 = .ok (.dup, 1) := by decide +kernel
theorem dX11_init_58 : decode cX11_init 58 = .ok (.aload_n 0, 1) := by decide +kernel
theorem dX11_init_59 : decode cX11_init 59 = .ok (.getfield 12, 3) := by decide +kernel
theorem dX11_init_62 : decode cX11_init 62 = .ok (.aload_n 0, 1) := by decide +kernel
theorem dX11_init_63 : decode cX11_init 63 = .ok (.getfield 19, 3) := by decide +kernel
theorem dX11_init_66 : decode cX11_init 66 = .ok (.aload_n 1, 1) := by decide +kernel
theorem dX11_init_67 : decode cX11_init 67 = .ok (.invokespecial 37, 3) := by decide +kernel
theorem dX11_init_70 : decode cX11_init 70 = .ok (.putfield 40, 3) := by decide +kernel
theorem dX11_init_73 : decode cX11_init 73 = .ok (.aload_n 0, 1) := by decide +kernel
theorem dX11_init_74 : decode cX11_init 74 = .ok (.new 44, 3) := by decide +kernel
theorem dX11_init_77 : decode cX11_init 77 = .ok (.dup, 1) := by decide +kernel
theorem dX11_init_78 : decode cX11_init 78 = .ok (.aload_n 0, 1) := by decide +kernel
theorem dX11_init_79 : decode cX11_init 79 = .ok (.getfield 12, 3) := by decide +kernel
theorem dX11_init_82 : decode cX11_init 82 = .ok (.aload_n 0, 1) := by decide +kernel
theorem dX11_init_83 : decode cX11_init 83 = .ok (.getfield 19, 3) := by decide +kernel
theorem dX11_init_86 : decode cX11_init 86 = .ok (.aload_n 0, 1) := by decide +kernel
theorem dX11_init_87 : decode cX11_init 87 = .ok (.getfield 28, 3) := by decide +kernel
theorem dX11_init_90 : decode cX11_init 90 = .ok (.aload_n 1, 1) := by decide +kernel
theorem dX11_init_91 : decode cX11_init 91 = .ok (.invokespecial 46, 3) := by decide +kernel
theorem dX11_init_94 : decode cX11_init 94 = .ok (.putfield 49, 3) := by decide +kernel
theorem dX11_init_97 : decode cX11_init 97 = .ok (.aload_n 0, 1) := by decide +kernel
theorem dX11_init_98 : decode cX11_init 98 = .ok (.bipush 8, 2) := by decide +kernel
theorem dX11_init_100 : decode cX11_init 100 = .ok (.anewarray 53, 3) := by decide +kernel
theorem dX11_init_103 : decode cX11_init 103 = .ok (.putfield 55, 3) := by decide +kernel
theorem dX11_init_106 : decode cX11_init 106 = .ok (.return_, 1) := by decide +kernel
theorem dX11_input_0 : decode cX11_input 0 = .ok (.iload_n 1, 1) := by decide +kernel
theorem dX11_input_1 : decode cX11_input 1 = .ok (.invokestatic 59, 3) := by decide +kernel
theorem dX11_input_4 : decode cX11_input 4 = .ok (.ifCond .ne 5, 3) := by decide +kernel
theorem dX11_input_7 : decode cX11_input 7 = .ok (.iconst (-1), 1) := by decide +kernel
theorem dX11_input_8 : decode cX11_input 8 = .ok (.ireturn, 1) := by decide +kernel
theorem dX11_input_9 : decode cX11_input 9 = .ok (.aload_n 0, 1) := by decide +kernel
theorem dX11_input_10 : decode cX11_input 10 = .ok (.iconst 5, 1) := by decide +kernel
theorem dX11_input_11 : decode cX11_input 11 = .ok (.iload_n 1, 1) := by decide +kernel
theorem dX11_input_12 : decode cX11_input 12 = .ok (.iconst 0, 1) := by decide +kernel
theorem dX11_input_13 : decode cX11_input 13 = .ok (.invokevirtual 63, 3) := by decide +kernel
theorem dX11_input_16 : decode cX11_input 16 = .ok (.ireturn, 1) := by decide +kernel
theorem dX11_keeper_0 : decode cX11_keeper 0 = .ok (.iload_n 1, 1) := by decide +kernel
theorem dX11_keeper_1 : decode cX11_keeper 1 = .ok (.invokestatic 59, 3) := by decide +kernel
theorem dX11_keeper_4 : decode cX11_keeper 4 = .ok (.ifCond .eq 12, 3) := by decide +kernel
theorem dX11_keeper_7 : decode cX11_keeper 7 = .ok (.iload_n 2, 1) := by decide +kernel
theorem dX11_keeper_8 : decode cX11_keeper 8 = .ok (.ifCond .lt 8, 3) := by decide +kernel
theorem dX11_keeper_11 : decode cX11_keeper 11 = .ok (.iload_n 2, 1) := by decide +kernel
theorem dX11_keeper_12 : decode cX11_keeper 12 = .ok (.iconst 1, 1) := by decide +kernel
theorem dX11_keeper_13 : decode cX11_keeper 13 = .ok (.if_icmp .le 5, 3) := by decide +kernel
theorem dX11_keeper_16 : decode cX11_keeper 16 = .ok (.iconst (-1), 1) := by decide +kernel
theorem dX11_keeper_17 : decode cX11_keeper 17 = .ok (.ireturn, 1) := by decide +kernel
theorem dX11_keeper_18 : decode cX11_keeper 18 = .ok (.aload_n 0, 1) := by decide +kernel
theorem dX11_keeper_19 : decode cX11_keeper 19 = .ok (.bipush 6, 2) := by decide +kernel
theorem dX11_keeper_21 : decode cX11_keeper 21 = .ok (.iload_n 1, 1) := by decide +kernel
theorem dX11_keeper_22 : decode cX11_keeper 22 = .ok (.iload_n 2, 1) := by decide +kernel
theorem dX11_keeper_23 : decode cX11_keeper 23 = .ok (.invokevirtual 63, 3) := by decide +kernel
theorem dX11_keeper_26 : decode cX11_keeper 26 = .ok (.ireturn, 1) := by decide +kernel
theorem dX11_gate_0 : decode cX11_gate 0 = .ok (.iload_n 1, 1) := by decide +kernel
theorem dX11_gate_1 : decode cX11_gate 1 = .ok (.iconst 3, 1) := by decide +kernel
theorem dX11_gate_2 : decode cX11_gate 2 = .ok (.if_icmp .eq 7, 3) := by decide +kernel
theorem dX11_gate_5 : decode cX11_gate 5 = .ok (.iconst 1, 1) := by decide +kernel
theorem dX11_gate_6 : decode cX11_gate 6 = .ok (.goto 4, 3) := by decide +kernel
theorem dX11_gate_9 : decode cX11_gate 9 = .ok (.iconst 0, 1) := by decide +kernel
theorem dX11_gate_10 : decode cX11_gate 10 = .ok (.istore 5, 2) := by decide +kernel
theorem dX11_gate_12 : decode cX11_gate 12 = .ok (.iload_n 1, 1) := by decide +kernel
theorem dX11_gate_13 : decode cX11_gate 13 = .ok (.iconst 4, 1) := by decide +kernel
theorem dX11_gate_14 : decode cX11_gate 14 = .ok (.if_icmp .ne 7, 3) := by decide +kernel
theorem dX11_gate_17 : decode cX11_gate 17 = .ok (.iconst 1, 1) := by decide +kernel
theorem dX11_gate_18 : decode cX11_gate 18 = .ok (.goto 4, 3) := by decide +kernel
theorem dX11_gate_21 : decode cX11_gate 21 = .ok (.iconst 0, 1) := by decide +kernel
theorem dX11_gate_22 : decode cX11_gate 22 = .ok (.istore 6, 2) := by decide +kernel
theorem dX11_gate_24 : decode cX11_gate 24 = .ok (.iload_n 1, 1) := by decide +kernel
theorem dX11_gate_25 : decode cX11_gate 25 = .ok (.ifCond .lt 52, 3) := by decide +kernel
theorem dX11_gate_28 : decode cX11_gate 28 = .ok (.iload_n 1, 1) := by decide +kernel
theorem dX11_gate_29 : decode cX11_gate 29 = .ok (.iconst 4, 1) := by decide +kernel
theorem dX11_gate_30 : decode cX11_gate 30 = .ok (.if_icmp .gt 47, 3) := by decide +kernel
theorem dX11_gate_33 : decode cX11_gate 33 = .ok (.aload_n 0, 1) := by decide +kernel
theorem dX11_gate_34 : decode cX11_gate 34 = .ok (.getfield 12, 3) := by decide +kernel
theorem dX11_gate_37 : decode cX11_gate 37 = .ok (.iload_n 2, 1) := by decide +kernel
theorem dX11_gate_38 : decode cX11_gate 38 = .ok (.invokevirtual 67, 3) := by decide +kernel
theorem dX11_gate_41 : decode cX11_gate 41 = .ok (.ifCond .eq 36, 3) := by decide +kernel
theorem dX11_gate_44 : decode cX11_gate 44 = .ok (.iload 5, 2) := by decide +kernel
theorem dX11_gate_46 : decode cX11_gate 46 = .ok (.ifCond .eq 14, 3) := by decide +kernel
theorem dX11_gate_49 : decode cX11_gate 49 = .ok (.aload_n 0, 1) := by decide +kernel
theorem dX11_gate_50 : decode cX11_gate 50 = .ok (.getfield 12, 3) := by decide +kernel
theorem dX11_gate_53 : decode cX11_gate 53 = .ok (.iload_n 3, 1) := by decide +kernel
theorem dX11_gate_54 : decode cX11_gate 54 = .ok (.invokevirtual 67, 3) := by decide +kernel
theorem dX11_gate_57 : decode cX11_gate 57 = .ok (.ifCond .eq 20, 3) := by decide +kernel
theorem dX11_gate_60 : decode cX11_gate 60 = .ok (.iload 6, 2) := by decide +kernel
theorem dX11_gate_62 : decode cX11_gate 62 = .ok (.ifCond .eq 17, 3) := by decide +kernel
theorem dX11_gate_65 : decode cX11_gate 65 = .ok (.aload_n 0, 1) := by decide +kernel
theorem dX11_gate_66 : decode cX11_gate 66 = .ok (.getfield 12, 3) := by decide +kernel
theorem dX11_gate_69 : decode cX11_gate 69 = .ok (.iload 4, 2) := by decide +kernel
theorem dX11_gate_71 : decode cX11_gate 71 = .ok (.invokevirtual 67, 3) := by decide +kernel
theorem dX11_gate_74 : decode cX11_gate 74 = .ok (.ifCond .ne 5, 3) := by decide +kernel
theorem dX11_gate_77 : decode cX11_gate 77 = .ok (.iconst (-1), 1) := by decide +kernel
theorem dX11_gate_78 : decode cX11_gate 78 = .ok (.ireturn, 1) := by decide +kernel
theorem dX11_gate_79 : decode cX11_gate 79 = .ok (.aload_n 0, 1) := by decide +kernel
theorem dX11_gate_80 : decode cX11_gate 80 = .ok (.getfield 12, 3) := by decide +kernel
theorem dX11_gate_83 : decode cX11_gate 83 = .ok (.getfield 70, 3) := by decide +kernel
theorem dX11_gate_86 : decode cX11_gate 86 = .ok (.bipush 24, 2) := by decide +kernel
theorem dX11_gate_88 : decode cX11_gate 88 = .ok (.if_icmp .lt 6, 3) := by decide +kernel
theorem dX11_gate_91 : decode cX11_gate 91 = .ok (.bipush (-2), 2) := by decide +kernel
theorem dX11_gate_93 : decode cX11_gate 93 = .ok (.ireturn, 1) := by decide +kernel
theorem dX11_gate_94 : decode cX11_gate 94 = .ok (.aload_n 0, 1) := by decide +kernel
theorem dX11_gate_95 : decode cX11_gate 95 = .ok (.getfield 12, 3) := by decide +kernel
theorem dX11_gate_98 : decode cX11_gate 98 = .ok (.iload_n 1, 1) := by decide +kernel
theorem dX11_gate_99 : decode cX11_gate 99 = .ok (.iload_n 2, 1) := by decide +kernel
theorem dX11_gate_100 : decode cX11_gate 100 = .ok (.iload 5, 2) := by decide +kernel
theorem dX11_gate_102 : decode cX11_gate 102 = .ok (.ifCond .eq 7, 3) := by decide +kernel
theorem dX11_gate_105 : decode cX11_gate 105 = .ok (.iload_n 3, 1) := by decide +kernel
theorem dX11_gate_106 : decode cX11_gate 106 = .ok (.goto 5, 3) := by decide +kernel
theorem dX11_gate_109 : decode cX11_gate 109 = .ok (.bipush (-2), 2) := by decide +kernel
theorem dX11_gate_111 : decode cX11_gate 111 = .ok (.iload 6, 2) := by decide +kernel
theorem dX11_gate_113 : decode cX11_gate 113 = .ok (.ifCond .eq 8, 3) := by decide +kernel
theorem dX11_gate_116 : decode cX11_gate 116 = .ok (.iload 4, 2) := by decide +kernel
theorem dX11_gate_118 : decode cX11_gate 118 = .ok (.goto 5, 3) := by decide +kernel
theorem dX11_gate_121 : decode cX11_gate 121 = .ok (.bipush (-2), 2) := by decide +kernel
theorem dX11_gate_123 : decode cX11_gate 123 = .ok (.invokevirtual 74, 3) := by decide +kernel
theorem dX11_gate_126 : decode cX11_gate 126 = .ok (.istore 7, 2) := by decide +kernel
theorem dX11_gate_128 : decode cX11_gate 128 = .ok (.aload_n 0, 1) := by decide +kernel
theorem dX11_gate_129 : decode cX11_gate 129 = .ok (.invokevirtual 78, 3) := by decide +kernel
theorem dX11_gate_132 : decode cX11_gate 132 = .ok (.iload 7, 2) := by decide +kernel
theorem dX11_gate_134 : decode cX11_gate 134 = .ok (.ireturn, 1) := by decide +kernel
theorem dX11_connect_0 : decode cX11_connect 0 = .ok (.aload_n 0, 1) := by decide +kernel
theorem dX11_connect_1 : decode cX11_connect 1 = .ok (.getfield 12, 3) := by decide +kernel
theorem dX11_connect_4 : decode cX11_connect 4 = .ok (.iload_n 1, 1) := by decide +kernel
theorem dX11_connect_5 : decode cX11_connect 5 = .ok (.invokevirtual 81, 3) := by decide +kernel
theorem dX11_connect_8 : decode cX11_connect 8 = .ok (.ifCond .eq 14, 3) := by decide +kernel
theorem dX11_connect_11 : decode cX11_connect 11 = .ok (.aload_n 0, 1) := by decide +kernel
theorem dX11_connect_12 : decode cX11_connect 12 = .ok (.getfield 12, 3) := by decide +kernel
theorem dX11_connect_15 : decode cX11_connect 15 = .ok (.iload_n 2, 1) := by decide +kernel
theorem dX11_connect_16 : decode cX11_connect 16 = .ok (.invokevirtual 67, 3) := by decide +kernel
theorem dX11_connect_19 : decode cX11_connect 19 = .ok (.ifCond .ne 5, 3) := by decide +kernel
theorem dX11_connect_22 : decode cX11_connect 22 = .ok (.iconst (-1), 1) := by decide +kernel
theorem dX11_connect_23 : decode cX11_connect 23 = .ok (.ireturn, 1) := by decide +kernel
theorem dX11_connect_24 : decode cX11_connect 24 = .ok (.aload_n 0, 1) := by decide +kernel
theorem dX11_connect_25 : decode cX11_connect 25 = .ok (.getfield 12, 3) := by decide +kernel
theorem dX11_connect_28 : decode cX11_connect 28 = .ok (.getfield 84, 3) := by decide +kernel
theorem dX11_connect_31 : decode cX11_connect 31 = .ok (.iload_n 1, 1) := by decide +kernel
theorem dX11_connect_32 : decode cX11_connect 32 = .ok (.iaload, 1) := by decide +kernel
theorem dX11_connect_33 : decode cX11_connect 33 = .ok (.istore_n 3, 1) := by decide +kernel
theorem dX11_connect_34 : decode cX11_connect 34 = .ok (.aload_n 0, 1) := by decide +kernel
theorem dX11_connect_35 : decode cX11_connect 35 = .ok (.getfield 12, 3) := by decide +kernel
theorem dX11_connect_38 : decode cX11_connect 38 = .ok (.getfield 84, 3) := by decide +kernel
theorem dX11_connect_41 : decode cX11_connect 41 = .ok (.iload_n 1, 1) := by decide +kernel
theorem dX11_connect_42 : decode cX11_connect 42 = .ok (.iload_n 2, 1) := by decide +kernel
theorem dX11_connect_43 : decode cX11_connect 43 = .ok (.iastore, 1) := by decide +kernel
theorem dX11_connect_44 : decode cX11_connect 44 = .ok (.aload_n 0, 1) := by decide +kernel
theorem dX11_connect_45 : decode cX11_connect 45 = .ok (.invokevirtual 78, 3) := by decide +kernel
theorem dX11_connect_48 : decode cX11_connect 48 = .ok (.iload_n 3, 1) := by decide +kernel
theorem dX11_connect_49 : decode cX11_connect 49 = .ok (.ireturn, 1) := by decide +kernel
theorem dX11_bound_0 : decode cX11_bound 0 = .ok (.iload_n 1, 1) := by decide +kernel
theorem dX11_bound_1 : decode cX11_bound 1 = .ok (.invokestatic 59, 3) := by decide +kernel
theorem dX11_bound_4 : decode cX11_bound 4 = .ok (.ifCond .eq 25, 3) := by decide +kernel
theorem dX11_bound_7 : decode cX11_bound 7 = .ok (.iload_n 2, 1) := by decide +kernel
theorem dX11_bound_8 : decode cX11_bound 8 = .ok (.invokestatic 59, 3) := by decide +kernel
theorem dX11_bound_11 : decode cX11_bound 11 = .ok (.ifCond .eq 18, 3) := by decide +kernel
theorem dX11_bound_14 : decode cX11_bound 14 = .ok (.iload_n 1, 1) := by decide +kernel
theorem dX11_bound_15 : decode cX11_bound 15 = .ok (.iload_n 2, 1) := by decide +kernel
theorem dX11_bound_16 : decode cX11_bound 16 = .ok (.if_icmp .eq 13, 3) := by decide +kernel
theorem dX11_bound_19 : decode cX11_bound 19 = .ok (.iload_n 3, 1) := by decide +kernel
theorem dX11_bound_20 : decode cX11_bound 20 = .ok (.ifCond .lt 9, 3) := by decide +kernel
theorem dX11_bound_23 : decode cX11_bound 23 = .ok (.iload_n 3, 1) := by decide +kernel
theorem dX11_bound_24 : decode cX11_bound 24 = .ok (.bipush 9, 2) := by decide +kernel
theorem dX11_bound_26 : decode cX11_bound 26 = .ok (.if_icmp .le 5, 3) := by decide +kernel
theorem dX11_bound_29 : decode cX11_bound 29 = .ok (.iconst (-1), 1) := by decide +kernel
theorem dX11_bound_30 : decode cX11_bound 30 = .ok (.ireturn, 1) := by decide +kernel
theorem dX11_bound_31 : decode cX11_bound 31 = .ok (.aload_n 0, 1) := by decide +kernel
theorem dX11_bound_32 : decode cX11_bound 32 = .ok (.getfield 19, 3) := by decide +kernel
theorem dX11_bound_35 : decode cX11_bound 35 = .ok (.iload_n 1, 1) := by decide +kernel
theorem dX11_bound_36 : decode cX11_bound 36 = .ok (.iload_n 2, 1) := by decide +kernel
theorem dX11_bound_37 : decode cX11_bound 37 = .ok (.invokevirtual 88, 3) := by decide +kernel
theorem dX11_bound_40 : decode cX11_bound 40 = .ok (.istore 4, 2) := by decide +kernel
theorem dX11_bound_42 : decode cX11_bound 42 = .ok (.aload_n 0, 1) := by decide +kernel
theorem dX11_bound_43 : decode cX11_bound 43 = .ok (.getfield 19, 3) := by decide +kernel
theorem dX11_bound_46 : decode cX11_bound 46 = .ok (.iload_n 1, 1) := by decide +kernel
theorem dX11_bound_47 : decode cX11_bound 47 = .ok (.iload_n 2, 1) := by decide +kernel
theorem dX11_bound_48 : decode cX11_bound 48 = .ok (.iload_n 3, 1) := by decide +kernel
theorem dX11_bound_49 : decode cX11_bound 49 = .ok (.invokevirtual 92, 3) := by decide +kernel
theorem dX11_bound_52 : decode cX11_bound 52 = .ok (.aload_n 0, 1) := by decide +kernel
theorem dX11_bound_53 : decode cX11_bound 53 = .ok (.invokevirtual 78, 3) := by decide +kernel
theorem dX11_bound_56 : decode cX11_bound 56 = .ok (.iload 4, 2) := by decide +kernel
theorem dX11_bound_58 : decode cX11_bound 58 = .ok (.ireturn, 1) := by decide +kernel
theorem dX11_still_0 : decode cX11_still 0 = .ok (.aload_n 0, 1) := by decide +kernel
theorem dX11_still_1 : decode cX11_still 1 = .ok (.getfield 12, 3) := by decide +kernel
theorem dX11_still_4 : decode cX11_still 4 = .ok (.iload_n 1, 1) := by decide +kernel
theorem dX11_still_5 : decode cX11_still 5 = .ok (.invokevirtual 96, 3) := by decide +kernel
theorem dX11_still_8 : decode cX11_still 8 = .ok (.ifCond .ne 5, 3) := by decide +kernel
theorem dX11_still_11 : decode cX11_still 11 = .ok (.iconst (-1), 1) := by decide +kernel
theorem dX11_still_12 : decode cX11_still 12 = .ok (.ireturn, 1) := by decide +kernel
theorem dX11_still_13 : decode cX11_still 13 = .ok (.iconst 1, 1) := by decide +kernel
theorem dX11_still_14 : decode cX11_still 14 = .ok (.aload_n 0, 1) := by decide +kernel
theorem dX11_still_15 : decode cX11_still 15 = .ok (.getfield 12, 3) := by decide +kernel
theorem dX11_still_18 : decode cX11_still 18 = .ok (.getfield 99, 3) := by decide +kernel
theorem dX11_still_21 : decode cX11_still 21 = .ok (.iload_n 1, 1) := by decide +kernel
theorem dX11_still_22 : decode cX11_still 22 = .ok (.iaload, 1) := by decide +kernel
theorem dX11_still_23 : decode cX11_still 23 = .ok (.ishl, 1) := by decide +kernel
theorem dX11_still_24 : decode cX11_still 24 = .ok (.istore_n 3, 1) := by decide +kernel
theorem dX11_still_25 : decode cX11_still 25 = .ok (.aload_n 0, 1) := by decide +kernel
theorem dX11_still_26 : decode cX11_still 26 = .ok (.getfield 12, 3) := by decide +kernel
theorem dX11_still_29 : decode cX11_still 29 = .ok (.getfield 102, 3) := by decide +kernel
theorem dX11_still_32 : decode cX11_still 32 = .ok (.iload_n 3, 1) := by decide +kernel
theorem dX11_still_33 : decode cX11_still 33 = .ok (.iand, 1) := by decide +kernel
theorem dX11_still_34 : decode cX11_still 34 = .ok (.ifCond .eq 7, 3) := by decide +kernel
theorem dX11_still_37 : decode cX11_still 37 = .ok (.iconst 1, 1) := by decide +kernel
theorem dX11_still_38 : decode cX11_still 38 = .ok (.goto 4, 3) := by decide +kernel
theorem dX11_still_41 : decode cX11_still 41 = .ok (.iconst 0, 1) := by decide +kernel
theorem dX11_still_42 : decode cX11_still 42 = .ok (.istore 4, 2) := by decide +kernel
theorem dX11_still_44 : decode cX11_still 44 = .ok (.aload_n 0, 1) := by decide +kernel
theorem dX11_still_45 : decode cX11_still 45 = .ok (.getfield 12, 3) := by decide +kernel
theorem dX11_still_48 : decode cX11_still 48 = .ok (.iload_n 2, 1) := by decide +kernel
theorem dX11_still_49 : decode cX11_still 49 = .ok (.ifCond .eq 15, 3) := by decide +kernel
theorem dX11_still_52 : decode cX11_still 52 = .ok (.aload_n 0, 1) := by decide +kernel
theorem dX11_still_53 : decode cX11_still 53 = .ok (.getfield 12, 3) := by decide +kernel
theorem dX11_still_56 : decode cX11_still 56 = .ok (.getfield 102, 3) := by decide +kernel
theorem dX11_still_59 : decode cX11_still 59 = .ok (.iload_n 3, 1) := by decide +kernel
theorem dX11_still_60 : decode cX11_still 60 = .ok (.ior, 1) := by decide +kernel
theorem dX11_still_61 : decode cX11_still 61 = .ok (.goto 14, 3) := by decide +kernel
theorem dX11_still_64 : decode cX11_still 64 = .ok (.aload_n 0, 1) := by decide +kernel
theorem dX11_still_65 : decode cX11_still 65 = .ok (.getfield 12, 3) := by decide +kernel
theorem dX11_still_68 : decode cX11_still 68 = .ok (.getfield 102, 3) := by decide +kernel
theorem dX11_still_71 : decode cX11_still 71 = .ok (.iload_n 3, 1) := by decide +kernel
theorem dX11_still_72 : decode cX11_still 72 = .ok (.iconst (-1), 1) := by decide +kernel
theorem dX11_still_73 : decode cX11_still 73 = .ok (.ixor, 1) := by decide +kernel
theorem dX11_still_74 : decode cX11_still 74 = .ok (.iand, 1) := by decide +kernel
theorem dX11_still_75 : decode cX11_still 75 = .ok (.putfield 102, 3) := by decide +kernel
theorem dX11_still_78 : decode cX11_still 78 = .ok (.iload 4, 2) := by decide +kernel
theorem dX11_still_80 : decode cX11_still 80 = .ok (.ireturn, 1) := by decide +kernel
theorem dX11_promise_0 : decode cX11_promise 0 = .ok (.iload_n 1, 1) := by decide +kernel
theorem dX11_promise_1 : decode cX11_promise 1 = .ok (.ifCond .eq 7, 3) := by decide +kernel
theorem dX11_promise_4 : decode cX11_promise 4 = .ok (.iconst 1, 1) := by decide +kernel
theorem dX11_promise_5 : decode cX11_promise 5 = .ok (.goto 4, 3) := by decide +kernel
theorem dX11_promise_8 : decode cX11_promise 8 = .ok (.iconst 0, 1) := by decide +kernel
theorem dX11_promise_9 : decode cX11_promise 9 = .ok (.istore 4, 2) := by decide +kernel
theorem dX11_promise_11 : decode cX11_promise 11 = .ok (.iload_n 1, 1) := by decide +kernel
theorem dX11_promise_12 : decode cX11_promise 12 = .ok (.ifCond .lt 45, 3) := by decide +kernel
theorem dX11_promise_15 : decode cX11_promise 15 = .ok (.iload_n 1, 1) := by decide +kernel
theorem dX11_promise_16 : decode cX11_promise 16 = .ok (.iconst 3, 1) := by decide +kernel
theorem dX11_promise_17 : decode cX11_promise 17 = .ok (.if_icmp .gt 40, 3) := by decide +kernel
theorem dX11_promise_20 : decode cX11_promise 20 = .ok (.aload_n 0, 1) := by decide +kernel
theorem dX11_promise_21 : decode cX11_promise 21 = .ok (.getfield 12, 3) := by decide +kernel
theorem dX11_promise_24 : decode cX11_promise 24 = .ok (.iload_n 2, 1) := by decide +kernel
theorem dX11_promise_25 : decode cX11_promise 25 = .ok (.invokevirtual 67, 3) := by decide +kernel
theorem dX11_promise_28 : decode cX11_promise 28 = .ok (.ifCond .eq 29, 3) := by decide +kernel
theorem dX11_promise_31 : decode cX11_promise 31 = .ok (.iload 4, 2) := by decide +kernel
theorem dX11_promise_33 : decode cX11_promise 33 = .ok (.ifCond .eq 14, 3) := by decide +kernel
theorem dX11_promise_36 : decode cX11_promise 36 = .ok (.aload_n 0, 1) := by decide +kernel
theorem dX11_promise_37 : decode cX11_promise 37 = .ok (.getfield 12, 3) := by decide +kernel
theorem dX11_promise_40 : decode cX11_promise 40 = .ok (.iload_n 3, 1) := by decide +kernel
theorem dX11_promise_41 : decode cX11_promise 41 = .ok (.invokevirtual 67, 3) := by decide +kernel
theorem dX11_promise_44 : decode cX11_promise 44 = .ok (.ifCond .eq 13, 3) := by decide +kernel
theorem dX11_promise_47 : decode cX11_promise 47 = .ok (.iload_n 1, 1) := by decide +kernel
theorem dX11_promise_48 : decode cX11_promise 48 = .ok (.iconst 3, 1) := by decide +kernel
theorem dX11_promise_49 : decode cX11_promise 49 = .ok (.if_icmp .ne 10, 3) := by decide +kernel
theorem dX11_promise_52 : decode cX11_promise 52 = .ok (.iload_n 2, 1) := by decide +kernel
theorem dX11_promise_53 : decode cX11_promise 53 = .ok (.iload_n 3, 1) := by decide +kernel
theorem dX11_promise_54 : decode cX11_promise 54 = .ok (.if_icmp .le 5, 3) := by decide +kernel
theorem dX11_promise_57 : decode cX11_promise 57 = .ok (.iconst (-1), 1) := by decide +kernel
theorem dX11_promise_58 : decode cX11_promise 58 = .ok (.ireturn, 1) := by decide +kernel
theorem dX11_promise_59 : decode cX11_promise 59 = .ok (.aload_n 0, 1) := by decide +kernel
theorem dX11_promise_60 : decode cX11_promise 60 = .ok (.getfield 28, 3) := by decide +kernel
theorem dX11_promise_63 : decode cX11_promise 63 = .ok (.getfield 105, 3) := by decide +kernel
theorem dX11_promise_66 : decode cX11_promise 66 = .ok (.bipush 8, 2) := by decide +kernel
theorem dX11_promise_68 : decode cX11_promise 68 = .ok (.if_icmp .lt 6, 3) := by decide +kernel
theorem dX11_promise_71 : decode cX11_promise 71 = .ok (.bipush (-2), 2) := by decide +kernel
theorem dX11_promise_73 : decode cX11_promise 73 = .ok (.ireturn, 1) := by decide +kernel
theorem dX11_promise_74 : decode cX11_promise 74 = .ok (.aload_n 0, 1) := by decide +kernel
theorem dX11_promise_75 : decode cX11_promise 75 = .ok (.getfield 49, 3) := by decide +kernel
theorem dX11_promise_78 : decode cX11_promise 78 = .ok (.invokevirtual 108, 3) := by decide +kernel
theorem dX11_promise_81 : decode cX11_promise 81 = .ok (.aload_n 0, 1) := by decide +kernel
theorem dX11_promise_82 : decode cX11_promise 82 = .ok (.getfield 28, 3) := by decide +kernel
theorem dX11_promise_85 : decode cX11_promise 85 = .ok (.iload_n 1, 1) := by decide +kernel
theorem dX11_promise_86 : decode cX11_promise 86 = .ok (.iload_n 2, 1) := by decide +kernel
theorem dX11_promise_87 : decode cX11_promise 87 = .ok (.iload 4, 2) := by decide +kernel
theorem dX11_promise_89 : decode cX11_promise 89 = .ok (.ifCond .eq 7, 3) := by decide +kernel
theorem dX11_promise_92 : decode cX11_promise 92 = .ok (.iload_n 3, 1) := by decide +kernel
theorem dX11_promise_93 : decode cX11_promise 93 = .ok (.goto 4, 3) := by decide +kernel
theorem dX11_promise_96 : decode cX11_promise 96 = .ok (.iload_n 2, 1) := by decide +kernel
theorem dX11_promise_97 : decode cX11_promise 97 = .ok (.invokevirtual 111, 3) := by decide +kernel
theorem dX11_promise_100 : decode cX11_promise 100 = .ok (.ireturn, 1) := by decide +kernel
theorem dX11_start_0 : decode cX11_start 0 = .ok (.aload_n 0, 1) := by decide +kernel
theorem dX11_start_1 : decode cX11_start 1 = .ok (.getfield 40, 3) := by decide +kernel
theorem dX11_start_4 : decode cX11_start 4 = .ok (.getfield 114, 3) := by decide +kernel
theorem dX11_start_7 : decode cX11_start 7 = .ok (.istore_n 1, 1) := by decide +kernel
theorem dX11_start_8 : decode cX11_start 8 = .ok (.aload_n 0, 1) := by decide +kernel
theorem dX11_start_9 : decode cX11_start 9 = .ok (.getfield 40, 3) := by decide +kernel
theorem dX11_start_12 : decode cX11_start 12 = .ok (.invokevirtual 117, 3) := by decide +kernel
theorem dX11_start_15 : decode cX11_start 15 = .ok (.iload_n 1, 1) := by decide +kernel
theorem dX11_start_16 : decode cX11_start 16 = .ok (.ireturn, 1) := by decide +kernel
theorem dX11_moment_0 : decode cX11_moment 0 = .ok (.iload_n 1, 1) := by decide +kernel
theorem dX11_moment_1 : decode cX11_moment 1 = .ok (.iconst 1, 1) := by decide +kernel
theorem dX11_moment_2 : decode cX11_moment 2 = .ok (.if_icmp .lt 17, 3) := by decide +kernel
theorem dX11_moment_5 : decode cX11_moment 5 = .ok (.iload_n 1, 1) := by decide +kernel
theorem dX11_moment_6 : decode cX11_moment 6 = .ok (.bipush 16, 2) := by decide +kernel
theorem dX11_moment_8 : decode cX11_moment 8 = .ok (.if_icmp .ge 11, 3) := by decide +kernel
theorem dX11_moment_11 : decode cX11_moment 11 = .ok (.iload_n 2, 1) := by decide +kernel
theorem dX11_moment_12 : decode cX11_moment 12 = .ok (.ifCond .lt 7, 3) := by decide +kernel
theorem dX11_moment_15 : decode cX11_moment 15 = .ok (.iload_n 3, 1) := by decide +kernel
theorem dX11_moment_16 : decode cX11_moment 16 = .ok (.ifCond .ge 5, 3) := by decide +kernel
theorem dX11_moment_19 : decode cX11_moment 19 = .ok (.iconst (-1), 1) := by decide +kernel
theorem dX11_moment_20 : decode cX11_moment 20 = .ok (.ireturn, 1) := by decide +kernel
theorem dX11_moment_21 : decode cX11_moment 21 = .ok (.aload_n 0, 1) := by decide +kernel
theorem dX11_moment_22 : decode cX11_moment 22 = .ok (.getfield 40, 3) := by decide +kernel
theorem dX11_moment_25 : decode cX11_moment 25 = .ok (.iload_n 1, 1) := by decide +kernel
theorem dX11_moment_26 : decode cX11_moment 26 = .ok (.iload_n 2, 1) := by decide +kernel
theorem dX11_moment_27 : decode cX11_moment 27 = .ok (.iload_n 3, 1) := by decide +kernel
theorem dX11_moment_28 : decode cX11_moment 28 = .ok (.invokevirtual 120, 3) := by decide +kernel
theorem dX11_moment_31 : decode cX11_moment 31 = .ok (.ireturn, 1) := by decide +kernel
theorem dX11_value_0 : decode cX11_value 0 = .ok (.aload_n 0, 1) := by decide +kernel
theorem dX11_value_1 : decode cX11_value 1 = .ok (.getfield 12, 3) := by decide +kernel
theorem dX11_value_4 : decode cX11_value 4 = .ok (.iload_n 1, 1) := by decide +kernel
theorem dX11_value_5 : decode cX11_value 5 = .ok (.invokevirtual 67, 3) := by decide +kernel
theorem dX11_value_8 : decode cX11_value 8 = .ok (.ifCond .ne 5, 3) := by decide +kernel
theorem dX11_value_11 : decode cX11_value 11 = .ok (.iconst (-1), 1) := by decide +kernel
theorem dX11_value_12 : decode cX11_value 12 = .ok (.ireturn, 1) := by decide +kernel
theorem dX11_value_13 : decode cX11_value 13 = .ok (.aload_n 0, 1) := by decide +kernel
theorem dX11_value_14 : decode cX11_value 14 = .ok (.getfield 12, 3) := by decide +kernel
theorem dX11_value_17 : decode cX11_value 17 = .ok (.iload_n 1, 1) := by decide +kernel
theorem dX11_value_18 : decode cX11_value 18 = .ok (.aload_n 0, 1) := by decide +kernel
theorem dX11_value_19 : decode cX11_value 19 = .ok (.getfield 40, 3) := by decide +kernel
theorem dX11_value_22 : decode cX11_value 22 = .ok (.invokevirtual 123, 3) := by decide +kernel
theorem dX11_value_25 : decode cX11_value 25 = .ok (.invokevirtual 127, 3) := by decide +kernel
theorem dX11_value_28 : decode cX11_value 28 = .ok (.ireturn, 1) := by decide +kernel
theorem dX11_either_0 : decode cX11_either 0 = .ok (.iload_n 1, 1) := by decide +kernel
theorem dX11_either_1 : decode cX11_either 1 = .ok (.istore_n 2, 1) := by decide +kernel
theorem dX11_either_2 : decode cX11_either 2 = .ok (.iconst 0, 1) := by decide +kernel
theorem dX11_either_3 : decode cX11_either 3 = .ok (.istore_n 3, 1) := by decide +kernel
theorem dX11_either_4 : decode cX11_either 4 = .ok (.iload_n 3, 1) := by decide +kernel
theorem dX11_either_5 : decode cX11_either 5 = .ok (.aload_n 0, 1) := by decide +kernel
theorem dX11_either_6 : decode cX11_either 6 = .ok (.getfield 12, 3) := by decide +kernel
theorem dX11_either_9 : decode cX11_either 9 = .ok (.getfield 130, 3) := by decide +kernel
theorem dX11_either_12 : decode cX11_either 12 = .ok (.if_icmp .ge 41, 3) := by decide +kernel
theorem dX11_either_15 : decode cX11_either 15 = .ok (.aload_n 0, 1) := by decide +kernel
theorem dX11_either_16 : decode cX11_either 16 = .ok (.getfield 40, 3) := by decide +kernel
theorem dX11_either_19 : decode cX11_either 19 = .ok (.getfield 133, 3) := by decide +kernel
theorem dX11_either_22 : decode cX11_either 22 = .ok (.iload_n 3, 1) := by decide +kernel
theorem dX11_either_23 : decode cX11_either 23 = .ok (.ishr, 1) := by decide +kernel
theorem dX11_either_24 : decode cX11_either 24 = .ok (.iconst 1, 1) := by decide +kernel
theorem dX11_either_25 : decode cX11_either 25 = .ok (.iand, 1) := by decide +kernel
theorem dX11_either_26 : decode cX11_either 26 = .ok (.iconst 1, 1) := by decide +kernel
theorem dX11_either_27 : decode cX11_either 27 = .ok (.if_icmp .ne 20, 3) := by decide +kernel
theorem dX11_either_30 : decode cX11_either 30 = .ok (.iload_n 2, 1) := by decide +kernel
theorem dX11_either_31 : decode cX11_either 31 = .ok (.ifCond .ne 13, 3) := by decide +kernel
theorem dX11_either_34 : decode cX11_either 34 = .ok (.aload_n 0, 1) := by decide +kernel
theorem dX11_either_35 : decode cX11_either 35 = .ok (.getfield 12, 3) := by decide +kernel
theorem dX11_either_38 : decode cX11_either 38 = .ok (.getfield 136, 3) := by decide +kernel
theorem dX11_either_41 : decode cX11_either 41 = .ok (.iload_n 3, 1) := by decide +kernel
theorem dX11_either_42 : decode cX11_either 42 = .ok (.iaload, 1) := by decide +kernel
theorem dX11_either_43 : decode cX11_either 43 = .ok (.ireturn, 1) := by decide +kernel
theorem dX11_either_44 : decode cX11_either 44 = .ok (.iinc 2 (-1), 3) := by decide +kernel
theorem dX11_either_47 : decode cX11_either 47 = .ok (.iinc 3 1, 3) := by decide +kernel
theorem dX11_either_50 : decode cX11_either 50 = .ok (.goto (-46), 3) := by decide +kernel
theorem dX11_either_53 : decode cX11_either 53 = .ok (.iconst (-1), 1) := by decide +kernel
theorem dX11_either_54 : decode cX11_either 54 = .ok (.ireturn, 1) := by decide +kernel
theorem dX11_ticks_0 : decode cX11_ticks 0 = .ok (.iload_n 1, 1) := by decide +kernel
theorem dX11_ticks_1 : decode cX11_ticks 1 = .ok (.invokestatic 59, 3) := by decide +kernel
theorem dX11_ticks_4 : decode cX11_ticks 4 = .ok (.ifCond .eq 15, 3) := by decide +kernel
theorem dX11_ticks_7 : decode cX11_ticks 7 = .ok (.iload_n 2, 1) := by decide +kernel
theorem dX11_ticks_8 : decode cX11_ticks 8 = .ok (.invokestatic 59, 3) := by decide +kernel
theorem dX11_ticks_11 : decode cX11_ticks 11 = .ok (.ifCond .eq 8, 3) := by decide +kernel
theorem dX11_ticks_14 : decode cX11_ticks 14 = .ok (.iload_n 1, 1) := by decide +kernel
theorem dX11_ticks_15 : decode cX11_ticks 15 = .ok (.iload_n 2, 1) := by decide +kernel
theorem dX11_ticks_16 : decode cX11_ticks 16 = .ok (.if_icmp .ne 5, 3) := by decide +kernel
theorem dX11_ticks_19 : decode cX11_ticks 19 = .ok (.iconst (-1), 1) := by decide +kernel
theorem dX11_ticks_20 : decode cX11_ticks 20 = .ok (.ireturn, 1) := by decide +kernel
theorem dX11_ticks_21 : decode cX11_ticks 21 = .ok (.aload_n 0, 1) := by decide +kernel
theorem dX11_ticks_22 : decode cX11_ticks 22 = .ok (.getfield 40, 3) := by decide +kernel
theorem dX11_ticks_25 : decode cX11_ticks 25 = .ok (.getfield 139, 3) := by decide +kernel
theorem dX11_ticks_28 : decode cX11_ticks 28 = .ok (.iload_n 1, 1) := by decide +kernel
theorem dX11_ticks_29 : decode cX11_ticks 29 = .ok (.iload_n 2, 1) := by decide +kernel
theorem dX11_ticks_30 : decode cX11_ticks 30 = .ok (.invokestatic 143, 3) := by decide +kernel
theorem dX11_ticks_33 : decode cX11_ticks 33 = .ok (.ireturn, 1) := by decide +kernel
theorem dX11_broken_0 : decode cX11_broken 0 = .ok (.aload_n 0, 1) := by decide +kernel
theorem dX11_broken_1 : decode cX11_broken 1 = .ok (.getfield 28, 3) := by decide +kernel
theorem dX11_broken_4 : decode cX11_broken 4 = .ok (.iload_n 1, 1) := by decide +kernel
theorem dX11_broken_5 : decode cX11_broken 5 = .ok (.invokevirtual 147, 3) := by decide +kernel
theorem dX11_broken_8 : decode cX11_broken 8 = .ok (.ifCond .ne 5, 3) := by decide +kernel
theorem dX11_broken_11 : decode cX11_broken 11 = .ok (.iconst (-1), 1) := by decide +kernel
theorem dX11_broken_12 : decode cX11_broken 12 = .ok (.ireturn, 1) := by decide +kernel
theorem dX11_broken_13 : decode cX11_broken 13 = .ok (.iconst 0, 1) := by decide +kernel
theorem dX11_broken_14 : decode cX11_broken 14 = .ok (.istore_n 2, 1) := by decide +kernel
theorem dX11_broken_15 : decode cX11_broken 15 = .ok (.iload_n 2, 1) := by decide +kernel
theorem dX11_broken_16 : decode cX11_broken 16 = .ok (.aload_n 0, 1) := by decide +kernel
theorem dX11_broken_17 : decode cX11_broken 17 = .ok (.getfield 40, 3) := by decide +kernel
theorem dX11_broken_20 : decode cX11_broken 20 = .ok (.getfield 114, 3) := by decide +kernel
theorem dX11_broken_23 : decode cX11_broken 23 = .ok (.if_icmp .gt 52, 3) := by decide +kernel
theorem dX11_broken_26 : decode cX11_broken 26 = .ok (.iload_n 2, 1) := by decide +kernel
theorem dX11_broken_27 : decode cX11_broken 27 = .ok (.ifCond .ne 7, 3) := by decide +kernel
theorem dX11_broken_30 : decode cX11_broken 30 = .ok (.iconst 0, 1) := by decide +kernel
theorem dX11_broken_31 : decode cX11_broken 31 = .ok (.goto 6, 3) := by decide +kernel
theorem dX11_broken_34 : decode cX11_broken 34 = .ok (.iload_n 2, 1) := by decide +kernel
theorem dX11_broken_35 : decode cX11_broken 35 = .ok (.iconst 1, 1) := by decide +kernel
theorem dX11_broken_36 : decode cX11_broken 36 = .ok (.isub, 1) := by decide +kernel
theorem dX11_broken_37 : decode cX11_broken 37 = .ok (.istore_n 3, 1) := by decide +kernel
theorem dX11_broken_38 : decode cX11_broken 38 = .ok (.aload_n 0, 1) := by decide +kernel
theorem dX11_broken_39 : decode cX11_broken 39 = .ok (.getfield 28, 3) := by decide +kernel
theorem dX11_broken_42 : decode cX11_broken 42 = .ok (.iload_n 1, 1) := by decide +kernel
theorem dX11_broken_43 : decode cX11_broken 43 = .ok (.aload_n 0, 1) := by decide +kernel
theorem dX11_broken_44 : decode cX11_broken 44 = .ok (.getfield 40, 3) := by decide +kernel
theorem dX11_broken_47 : decode cX11_broken 47 = .ok (.getfield 150, 3) := by decide +kernel
theorem dX11_broken_50 : decode cX11_broken 50 = .ok (.iload_n 3, 1) := by decide +kernel
theorem dX11_broken_51 : decode cX11_broken 51 = .ok (.iaload, 1) := by decide +kernel
theorem dX11_broken_52 : decode cX11_broken 52 = .ok (.aload_n 0, 1) := by decide +kernel
theorem dX11_broken_53 : decode cX11_broken 53 = .ok (.getfield 40, 3) := by decide +kernel
theorem dX11_broken_56 : decode cX11_broken 56 = .ok (.getfield 150, 3) := by decide +kernel
theorem dX11_broken_59 : decode cX11_broken 59 = .ok (.iload_n 2, 1) := by decide +kernel
theorem dX11_broken_60 : decode cX11_broken 60 = .ok (.iaload, 1) := by decide +kernel
theorem dX11_broken_61 : decode cX11_broken 61 = .ok (.invokevirtual 152, 3) := by decide +kernel
theorem dX11_broken_64 : decode cX11_broken 64 = .ok (.ifCond .ne 5, 3) := by decide +kernel
theorem dX11_broken_67 : decode cX11_broken 67 = .ok (.iload_n 2, 1) := by decide +kernel
theorem dX11_broken_68 : decode cX11_broken 68 = .ok (.ireturn, 1) := by decide +kernel
theorem dX11_broken_69 : decode cX11_broken 69 = .ok (.iinc 2 1, 3) := by decide +kernel
theorem dX11_broken_72 : decode cX11_broken 72 = .ok (.goto (-57), 3) := by decide +kernel
theorem dX11_broken_75 : decode cX11_broken 75 = .ok (.bipush (-2), 2) := by decide +kernel
theorem dX11_broken_77 : decode cX11_broken 77 = .ok (.ireturn, 1) := by decide +kernel
theorem dX11_walk_0 : decode cX11_walk 0 = .ok (.aload_n 0, 1) := by decide +kernel
theorem dX11_walk_1 : decode cX11_walk 1 = .ok (.getfield 12, 3) := by decide +kernel
theorem dX11_walk_4 : decode cX11_walk 4 = .ok (.getfield 130, 3) := by decide +kernel
theorem dX11_walk_7 : decode cX11_walk 7 = .ok (.ifCond .ne 6, 3) := by decide +kernel
theorem dX11_walk_10 : decode cX11_walk 10 = .ok (.bipush (-3), 2) := by decide +kernel
theorem dX11_walk_12 : decode cX11_walk 12 = .ok (.ireturn, 1) := by decide +kernel
theorem dX11_walk_13 : decode cX11_walk 13 = .ok (.aload_n 0, 1) := by decide +kernel
theorem dX11_walk_14 : decode cX11_walk 14 = .ok (.getfield 49, 3) := by decide +kernel
theorem dX11_walk_17 : decode cX11_walk 17 = .ok (.getfield 156, 3) := by decide +kernel
theorem dX11_walk_20 : decode cX11_walk 20 = .ok (.ifCond .ne 44, 3) := by decide +kernel
theorem dX11_walk_23 : decode cX11_walk 23 = .ok (.aload_n 0, 1) := by decide +kernel
theorem dX11_walk_24 : decode cX11_walk 24 = .ok (.getfield 49, 3) := by decide +kernel
theorem dX11_walk_27 : decode cX11_walk 27 = .ok (.invokevirtual 159, 3) := by decide +kernel
theorem dX11_walk_30 : decode cX11_walk 30 = .ok (.iconst 0, 1) := by decide +kernel
theorem dX11_walk_31 : decode cX11_walk 31 = .ok (.istore_n 1, 1) := by decide +kernel
theorem dX11_walk_32 : decode cX11_walk 32 = .ok (.iload_n 1, 1) := by decide +kernel
theorem dX11_walk_33 : decode cX11_walk 33 = .ok (.sipush 250, 3) := by decide +kernel
theorem dX11_walk_36 : decode cX11_walk 36 = .ok (.if_icmp .ge 28, 3) := by decide +kernel
theorem dX11_walk_39 : decode cX11_walk 39 = .ok (.aload_n 0, 1) := by decide +kernel
theorem dX11_walk_40 : decode cX11_walk 40 = .ok (.getfield 49, 3) := by decide +kernel
theorem dX11_walk_43 : decode cX11_walk 43 = .ok (.iload_n 1, 1) := by decide +kernel
theorem dX11_walk_44 : decode cX11_walk 44 = .ok (.invokevirtual 160, 3) := by decide +kernel
theorem dX11_walk_47 : decode cX11_walk 47 = .ok (.ifCond .eq 17, 3) := by decide +kernel
theorem dX11_walk_50 : decode cX11_walk 50 = .ok (.aload_n 0, 1) := by decide +kernel
theorem dX11_walk_51 : decode cX11_walk 51 = .ok (.getfield 49, 3) := by decide +kernel
theorem dX11_walk_54 : decode cX11_walk 54 = .ok (.iload_n 1, 1) := by decide +kernel
theorem dX11_walk_55 : decode cX11_walk 55 = .ok (.invokevirtual 163, 3) := by decide +kernel
theorem dX11_walk_58 : decode cX11_walk 58 = .ok (.iinc 1 1, 3) := by decide +kernel
theorem dX11_walk_61 : decode cX11_walk 61 = .ok (.goto (-29), 3) := by decide +kernel
theorem dX11_walk_64 : decode cX11_walk 64 = .ok (.aload_n 0, 1) := by decide +kernel
theorem dX11_walk_65 : decode cX11_walk 65 = .ok (.getfield 49, 3) := by decide +kernel
theorem dX11_walk_68 : decode cX11_walk 68 = .ok (.getfield 167, 3) := by decide +kernel
theorem dX11_walk_71 : decode cX11_walk 71 = .ok (.ifCond .eq 16, 3) := by decide +kernel
theorem dX11_walk_74 : decode cX11_walk 74 = .ok (.bipush (-2), 2) := by decide +kernel
theorem dX11_walk_76 : decode cX11_walk 76 = .ok (.aload_n 0, 1) := by decide +kernel
theorem dX11_walk_77 : decode cX11_walk 77 = .ok (.getfield 49, 3) := by decide +kernel
theorem dX11_walk_80 : decode cX11_walk 80 = .ok (.getfield 156, 3) := by decide +kernel
theorem dX11_walk_83 : decode cX11_walk 83 = .ok (.isub, 1) := by decide +kernel
theorem dX11_walk_84 : decode cX11_walk 84 = .ok (.goto 10, 3) := by decide +kernel
theorem dX11_walk_87 : decode cX11_walk 87 = .ok (.aload_n 0, 1) := by decide +kernel
theorem dX11_walk_88 : decode cX11_walk 88 = .ok (.getfield 49, 3) := by decide +kernel
theorem dX11_walk_91 : decode cX11_walk 91 = .ok (.getfield 156, 3) := by decide +kernel
theorem dX11_walk_94 : decode cX11_walk 94 = .ok (.ireturn, 1) := by decide +kernel
theorem dX11_state_0 : decode cX11_state 0 = .ok (.aload_n 0, 1) := by decide +kernel
theorem dX11_state_1 : decode cX11_state 1 = .ok (.getfield 49, 3) := by decide +kernel
theorem dX11_state_4 : decode cX11_state 4 = .ok (.iload_n 1, 1) := by decide +kernel
theorem dX11_state_5 : decode cX11_state 5 = .ok (.invokevirtual 171, 3) := by decide +kernel
theorem dX11_state_8 : decode cX11_state 8 = .ok (.ifCond .eq 13, 3) := by decide +kernel
theorem dX11_state_11 : decode cX11_state 11 = .ok (.iload_n 2, 1) := by decide +kernel
theorem dX11_state_12 : decode cX11_state 12 = .ok (.ifCond .lt 9, 3) := by decide +kernel
theorem dX11_state_15 : decode cX11_state 15 = .ok (.iload_n 2, 1) := by decide +kernel
theorem dX11_state_16 : decode cX11_state 16 = .ok (.bipush 6, 2) := by decide +kernel
theorem dX11_state_18 : decode cX11_state 18 = .ok (.if_icmp .le 5, 3) := by decide +kernel
theorem dX11_state_21 : decode cX11_state 21 = .ok (.iconst (-1), 1) := by decide +kernel
theorem dX11_state_22 : decode cX11_state 22 = .ok (.ireturn, 1) := by decide +kernel
theorem dX11_state_23 : decode cX11_state 23 = .ok (.iload_n 2, 1) := by decide +kernel
theorem dX11_state_24 : decode cX11_state 24 = .ok (.lookupswitch 66 #[(0, 36), (5, 46), (6, 56)], 36) := by decide +kernel
theorem dX11_state_60 : decode cX11_state 60 = .ok (.aload_n 0, 1) := by decide +kernel
theorem dX11_state_61 : decode cX11_state 61 = .ok (.getfield 49, 3) := by decide +kernel
theorem dX11_state_64 : decode cX11_state 64 = .ok (.getfield 174, 3) := by decide +kernel
theorem dX11_state_67 : decode cX11_state 67 = .ok (.iload_n 1, 1) := by decide +kernel
theorem dX11_state_68 : decode cX11_state 68 = .ok (.iaload, 1) := by decide +kernel
theorem dX11_state_69 : decode cX11_state 69 = .ok (.ireturn, 1) := by decide +kernel
theorem dX11_state_70 : decode cX11_state 70 = .ok (.aload_n 0, 1) := by decide +kernel
theorem dX11_state_71 : decode cX11_state 71 = .ok (.getfield 49, 3) := by decide +kernel
theorem dX11_state_74 : decode cX11_state 74 = .ok (.getfield 175, 3) := by decide +kernel
theorem dX11_state_77 : decode cX11_state 77 = .ok (.iload_n 1, 1) := by decide +kernel
theorem dX11_state_78 : decode cX11_state 78 = .ok (.iaload, 1) := by decide +kernel
theorem dX11_state_79 : decode cX11_state 79 = .ok (.ireturn, 1) := by decide +kernel
theorem dX11_state_80 : decode cX11_state 80 = .ok (.aload_n 0, 1) := by decide +kernel
theorem dX11_state_81 : decode cX11_state 81 = .ok (.getfield 49, 3) := by decide +kernel
theorem dX11_state_84 : decode cX11_state 84 = .ok (.getfield 178, 3) := by decide +kernel
theorem dX11_state_87 : decode cX11_state 87 = .ok (.iload_n 1, 1) := by decide +kernel
theorem dX11_state_88 : decode cX11_state 88 = .ok (.iaload, 1) := by decide +kernel
theorem dX11_state_89 : decode cX11_state 89 = .ok (.ireturn, 1) := by decide +kernel
theorem dX11_state_90 : decode cX11_state 90 = .ok (.aload_n 0, 1) := by decide +kernel
theorem dX11_state_91 : decode cX11_state 91 = .ok (.getfield 49, 3) := by decide +kernel
theorem dX11_state_94 : decode cX11_state 94 = .ok (.getfield 181, 3) := by decide +kernel
theorem dX11_state_97 : decode cX11_state 97 = .ok (.iload_n 1, 1) := by decide +kernel
theorem dX11_state_98 : decode cX11_state 98 = .ok (.iconst 5, 1) := by decide +kernel
theorem dX11_state_99 : decode cX11_state 99 = .ok (.imul, 1) := by decide +kernel
theorem dX11_state_100 : decode cX11_state 100 = .ok (.iload_n 2, 1) := by decide +kernel
theorem dX11_state_101 : decode cX11_state 101 = .ok (.iadd, 1) := by decide +kernel
theorem dX11_state_102 : decode cX11_state 102 = .ok (.iconst 1, 1) := by decide +kernel
theorem dX11_state_103 : decode cX11_state 103 = .ok (.isub, 1) := by decide +kernel
theorem dX11_state_104 : decode cX11_state 104 = .ok (.iaload, 1) := by decide +kernel
theorem dX11_state_105 : decode cX11_state 105 = .ok (.ireturn, 1) := by decide +kernel
theorem dX11_shown_0 : decode cX11_shown 0 = .ok (.aload_n 0, 1) := by decide +kernel
theorem dX11_shown_1 : decode cX11_shown 1 = .ok (.getfield 49, 3) := by decide +kernel
theorem dX11_shown_4 : decode cX11_shown 4 = .ok (.iload_n 1, 1) := by decide +kernel
theorem dX11_shown_5 : decode cX11_shown 5 = .ok (.invokevirtual 171, 3) := by decide +kernel
theorem dX11_shown_8 : decode cX11_shown 8 = .ok (.ifCond .eq 14, 3) := by decide +kernel
theorem dX11_shown_11 : decode cX11_shown 11 = .ok (.aload_n 0, 1) := by decide +kernel
theorem dX11_shown_12 : decode cX11_shown 12 = .ok (.getfield 12, 3) := by decide +kernel
theorem dX11_shown_15 : decode cX11_shown 15 = .ok (.iload_n 2, 1) := by decide +kernel
theorem dX11_shown_16 : decode cX11_shown 16 = .ok (.invokevirtual 67, 3) := by decide +kernel
theorem dX11_shown_19 : decode cX11_shown 19 = .ok (.ifCond .ne 5, 3) := by decide +kernel
theorem dX11_shown_22 : decode cX11_shown 22 = .ok (.iconst (-1), 1) := by decide +kernel
theorem dX11_shown_23 : decode cX11_shown 23 = .ok (.ireturn, 1) := by decide +kernel
theorem dX11_shown_24 : decode cX11_shown 24 = .ok (.aload_n 0, 1) := by decide +kernel
theorem dX11_shown_25 : decode cX11_shown 25 = .ok (.getfield 12, 3) := by decide +kernel
theorem dX11_shown_28 : decode cX11_shown 28 = .ok (.iload_n 2, 1) := by decide +kernel
theorem dX11_shown_29 : decode cX11_shown 29 = .ok (.aload_n 0, 1) := by decide +kernel
theorem dX11_shown_30 : decode cX11_shown 30 = .ok (.getfield 49, 3) := by decide +kernel
theorem dX11_shown_33 : decode cX11_shown 33 = .ok (.getfield 174, 3) := by decide +kernel
theorem dX11_shown_36 : decode cX11_shown 36 = .ok (.iload_n 1, 1) := by decide +kernel
theorem dX11_shown_37 : decode cX11_shown 37 = .ok (.iaload, 1) := by decide +kernel
theorem dX11_shown_38 : decode cX11_shown 38 = .ok (.invokevirtual 127, 3) := by decide +kernel
theorem dX11_shown_41 : decode cX11_shown 41 = .ok (.ireturn, 1) := by decide +kernel
theorem dX11_never_0 : decode cX11_never 0 = .ok (.aload_n 0, 1) := by decide +kernel
theorem dX11_never_1 : decode cX11_never 1 = .ok (.getfield 28, 3) := by decide +kernel
theorem dX11_never_4 : decode cX11_never 4 = .ok (.iload_n 1, 1) := by decide +kernel
theorem dX11_never_5 : decode cX11_never 5 = .ok (.invokevirtual 147, 3) := by decide +kernel
theorem dX11_never_8 : decode cX11_never 8 = .ok (.ifCond .eq 12, 3) := by decide +kernel
theorem dX11_never_11 : decode cX11_never 11 = .ok (.iload_n 2, 1) := by decide +kernel
theorem dX11_never_12 : decode cX11_never 12 = .ok (.ifCond .lt 8, 3) := by decide +kernel
theorem dX11_never_15 : decode cX11_never 15 = .ok (.iload_n 2, 1) := by decide +kernel
theorem dX11_never_16 : decode cX11_never 16 = .ok (.iconst 5, 1) := by decide +kernel
theorem dX11_never_17 : decode cX11_never 17 = .ok (.if_icmp .lt 5, 3) := by decide +kernel
theorem dX11_never_20 : decode cX11_never 20 = .ok (.iconst (-1), 1) := by decide +kernel
theorem dX11_never_21 : decode cX11_never 21 = .ok (.ireturn, 1) := by decide +kernel
theorem dX11_never_22 : decode cX11_never 22 = .ok (.aload_n 0, 1) := by decide +kernel
theorem dX11_never_23 : decode cX11_never 23 = .ok (.getfield 49, 3) := by decide +kernel
theorem dX11_never_26 : decode cX11_never 26 = .ok (.getfield 156, 3) := by decide +kernel
theorem dX11_never_29 : decode cX11_never 29 = .ok (.ifCond .ne 6, 3) := by decide +kernel
theorem dX11_never_32 : decode cX11_never 32 = .ok (.bipush (-3), 2) := by decide +kernel
theorem dX11_never_34 : decode cX11_never 34 = .ok (.ireturn, 1) := by decide +kernel
theorem dX11_never_35 : decode cX11_never 35 = .ok (.aload_n 0, 1) := by decide +kernel
theorem dX11_never_36 : decode cX11_never 36 = .ok (.getfield 49, 3) := by decide +kernel
theorem dX11_never_39 : decode cX11_never 39 = .ok (.iload_n 1, 1) := by decide +kernel
theorem dX11_never_40 : decode cX11_never 40 = .ok (.invokevirtual 184, 3) := by decide +kernel
theorem dX11_never_43 : decode cX11_never 43 = .ok (.ifCond .ne 6, 3) := by decide +kernel
theorem dX11_never_46 : decode cX11_never 46 = .ok (.bipush (-2), 2) := by decide +kernel
theorem dX11_never_48 : decode cX11_never 48 = .ok (.ireturn, 1) := by decide +kernel
theorem dX11_never_49 : decode cX11_never 49 = .ok (.aload_n 0, 1) := by decide +kernel
theorem dX11_never_50 : decode cX11_never 50 = .ok (.getfield 49, 3) := by decide +kernel
theorem dX11_never_53 : decode cX11_never 53 = .ok (.getfield 187, 3) := by decide +kernel
theorem dX11_never_56 : decode cX11_never 56 = .ok (.iload_n 1, 1) := by decide +kernel
theorem dX11_never_57 : decode cX11_never 57 = .ok (.iconst 5, 1) := by decide +kernel
theorem dX11_never_58 : decode cX11_never 58 = .ok (.imul, 1) := by decide +kernel
theorem dX11_never_59 : decode cX11_never 59 = .ok (.iload_n 2, 1) := by decide +kernel
theorem dX11_never_60 : decode cX11_never 60 = .ok (.iadd, 1) := by decide +kernel
theorem dX11_never_61 : decode cX11_never 61 = .ok (.iaload, 1) := by decide +kernel
theorem dX11_never_62 : decode cX11_never 62 = .ok (.ireturn, 1) := by decide +kernel
theorem dX11_follow_0 : decode cX11_follow 0 = .ok (.aload_n 0, 1) := by decide +kernel
theorem dX11_follow_1 : decode cX11_follow 1 = .ok (.getfield 49, 3) := by decide +kernel
theorem dX11_follow_4 : decode cX11_follow 4 = .ok (.iload_n 1, 1) := by decide +kernel
theorem dX11_follow_5 : decode cX11_follow 5 = .ok (.invokevirtual 171, 3) := by decide +kernel
theorem dX11_follow_8 : decode cX11_follow 8 = .ok (.ifCond .ne 5, 3) := by decide +kernel
theorem dX11_follow_11 : decode cX11_follow 11 = .ok (.iconst (-1), 1) := by decide +kernel
theorem dX11_follow_12 : decode cX11_follow 12 = .ok (.ireturn, 1) := by decide +kernel
theorem dX11_follow_13 : decode cX11_follow 13 = .ok (.aload_n 0, 1) := by decide +kernel
theorem dX11_follow_14 : decode cX11_follow 14 = .ok (.getfield 49, 3) := by decide +kernel
theorem dX11_follow_17 : decode cX11_follow 17 = .ok (.getfield 175, 3) := by decide +kernel
theorem dX11_follow_20 : decode cX11_follow 20 = .ok (.iload_n 1, 1) := by decide +kernel
theorem dX11_follow_21 : decode cX11_follow 21 = .ok (.iaload, 1) := by decide +kernel
theorem dX11_follow_22 : decode cX11_follow 22 = .ok (.bipush 60, 2) := by decide +kernel
theorem dX11_follow_24 : decode cX11_follow 24 = .ok (.if_icmp .le 6, 3) := by decide +kernel
theorem dX11_follow_27 : decode cX11_follow 27 = .ok (.bipush (-3), 2) := by decide +kernel
theorem dX11_follow_29 : decode cX11_follow 29 = .ok (.ireturn, 1) := by decide +kernel
theorem dX11_follow_30 : decode cX11_follow 30 = .ok (.aload_n 0, 1) := by decide +kernel
theorem dX11_follow_31 : decode cX11_follow 31 = .ok (.getfield 40, 3) := by decide +kernel
theorem dX11_follow_34 : decode cX11_follow 34 = .ok (.invokevirtual 117, 3) := by decide +kernel
theorem dX11_follow_37 : decode cX11_follow 37 = .ok (.aload_n 0, 1) := by decide +kernel
theorem dX11_follow_38 : decode cX11_follow 38 = .ok (.getfield 49, 3) := by decide +kernel
theorem dX11_follow_41 : decode cX11_follow 41 = .ok (.iload_n 1, 1) := by decide +kernel
theorem dX11_follow_42 : decode cX11_follow 42 = .ok (.aload_n 0, 1) := by decide +kernel
theorem dX11_follow_43 : decode cX11_follow 43 = .ok (.getfield 40, 3) := by decide +kernel
theorem dX11_follow_46 : decode cX11_follow 46 = .ok (.invokevirtual 190, 3) := by decide +kernel
theorem dX11_follow_49 : decode cX11_follow 49 = .ok (.aload_n 0, 1) := by decide +kernel
theorem dX11_follow_50 : decode cX11_follow 50 = .ok (.getfield 40, 3) := by decide +kernel
theorem dX11_follow_53 : decode cX11_follow 53 = .ok (.getfield 114, 3) := by decide +kernel
theorem dX11_follow_56 : decode cX11_follow 56 = .ok (.ireturn, 1) := by decide +kernel
theorem dX11_fewest_0 : decode cX11_fewest 0 = .ok (.aload_n 0, 1) := by decide +kernel
theorem dX11_fewest_1 : decode cX11_fewest 1 = .ok (.getfield 49, 3) := by decide +kernel
theorem dX11_fewest_4 : decode cX11_fewest 4 = .ok (.iload_n 1, 1) := by decide +kernel
theorem dX11_fewest_5 : decode cX11_fewest 5 = .ok (.invokevirtual 171, 3) := by decide +kernel
theorem dX11_fewest_8 : decode cX11_fewest 8 = .ok (.ifCond .ne 5, 3) := by decide +kernel
theorem dX11_fewest_11 : decode cX11_fewest 11 = .ok (.iconst (-1), 1) := by decide +kernel
theorem dX11_fewest_12 : decode cX11_fewest 12 = .ok (.ireturn, 1) := by decide +kernel
theorem dX11_fewest_13 : decode cX11_fewest 13 = .ok (.aload_n 0, 1) := by decide +kernel
theorem dX11_fewest_14 : decode cX11_fewest 14 = .ok (.getfield 49, 3) := by decide +kernel
theorem dX11_fewest_17 : decode cX11_fewest 17 = .ok (.getfield 194, 3) := by decide +kernel
theorem dX11_fewest_20 : decode cX11_fewest 20 = .ok (.iload_n 1, 1) := by decide +kernel
theorem dX11_fewest_21 : decode cX11_fewest 21 = .ok (.aload_n 0, 1) := by decide +kernel
theorem dX11_fewest_22 : decode cX11_fewest 22 = .ok (.getfield 49, 3) := by decide +kernel
theorem dX11_fewest_25 : decode cX11_fewest 25 = .ok (.getfield 156, 3) := by decide +kernel
theorem dX11_fewest_28 : decode cX11_fewest 28 = .ok (.aload_n 0, 1) := by decide +kernel
theorem dX11_fewest_29 : decode cX11_fewest 29 = .ok (.getfield 49, 3) := by decide +kernel
theorem dX11_fewest_32 : decode cX11_fewest 32 = .ok (.getfield 198, 3) := by decide +kernel
theorem dX11_fewest_35 : decode cX11_fewest 35 = .ok (.invokevirtual 201, 3) := by decide +kernel
theorem dX11_fewest_38 : decode cX11_fewest 38 = .ok (.ireturn, 1) := by decide +kernel
theorem dX11_crossings_0 : decode cX11_crossings 0 = .ok (.aload_n 0, 1) := by decide +kernel
theorem dX11_crossings_1 : decode cX11_crossings 1 = .ok (.getfield 12, 3) := by decide +kernel
theorem dX11_crossings_4 : decode cX11_crossings 4 = .ok (.invokestatic 206, 3) := by decide +kernel
theorem dX11_crossings_7 : decode cX11_crossings 7 = .ok (.ireturn, 1) := by decide +kernel
theorem dX11_crossing_0 : decode cX11_crossing 0 = .ok (.aload_n 0, 1) := by decide +kernel
theorem dX11_crossing_1 : decode cX11_crossing 1 = .ok (.getfield 12, 3) := by decide +kernel
theorem dX11_crossing_4 : decode cX11_crossing 4 = .ok (.iload_n 1, 1) := by decide +kernel
theorem dX11_crossing_5 : decode cX11_crossing 5 = .ok (.invokestatic 211, 3) := by decide +kernel
theorem dX11_crossing_8 : decode cX11_crossing 8 = .ok (.istore_n 3, 1) := by decide +kernel
theorem dX11_crossing_9 : decode cX11_crossing 9 = .ok (.iload_n 3, 1) := by decide +kernel
theorem dX11_crossing_10 : decode cX11_crossing 10 = .ok (.ifCond .ge 5, 3) := by decide +kernel
theorem dX11_crossing_13 : decode cX11_crossing 13 = .ok (.iconst (-1), 1) := by decide +kernel
theorem dX11_crossing_14 : decode cX11_crossing 14 = .ok (.ireturn, 1) := by decide +kernel
theorem dX11_crossing_15 : decode cX11_crossing 15 = .ok (.iload_n 2, 1) := by decide +kernel
theorem dX11_crossing_16 : decode cX11_crossing 16 = .ok (.tableswitch 97 0 4 #[36, 38, 47, 64, 81], 36) := by decide +kernel
theorem dX11_crossing_52 : decode cX11_crossing 52 = .ok (.iload_n 3, 1) := by decide +kernel
theorem dX11_crossing_53 : decode cX11_crossing 53 = .ok (.ireturn, 1) := by decide +kernel
theorem dX11_crossing_54 : decode cX11_crossing 54 = .ok (.aload_n 0, 1) := by decide +kernel
theorem dX11_crossing_55 : decode cX11_crossing 55 = .ok (.getfield 12, 3) := by decide +kernel
theorem dX11_crossing_58 : decode cX11_crossing 58 = .ok (.iload_n 3, 1) := by decide +kernel
theorem dX11_crossing_59 : decode cX11_crossing 59 = .ok (.invokestatic 215, 3) := by decide +kernel
theorem dX11_crossing_62 : decode cX11_crossing 62 = .ok (.ireturn, 1) := by decide +kernel
theorem dX11_crossing_63 : decode cX11_crossing 63 = .ok (.aload_n 0, 1) := by decide +kernel
theorem dX11_crossing_64 : decode cX11_crossing 64 = .ok (.getfield 12, 3) := by decide +kernel
theorem dX11_crossing_67 : decode cX11_crossing 67 = .ok (.iload_n 3, 1) := by decide +kernel
theorem dX11_crossing_68 : decode cX11_crossing 68 = .ok (.invokestatic 218, 3) := by decide +kernel
theorem dX11_crossing_71 : decode cX11_crossing 71 = .ok (.ifCond .eq 7, 3) := by decide +kernel
theorem dX11_crossing_74 : decode cX11_crossing 74 = .ok (.iconst 1, 1) := by decide +kernel
theorem dX11_crossing_75 : decode cX11_crossing 75 = .ok (.goto 4, 3) := by decide +kernel
theorem dX11_crossing_78 : decode cX11_crossing 78 = .ok (.iconst 0, 1) := by decide +kernel
theorem dX11_crossing_79 : decode cX11_crossing 79 = .ok (.ireturn, 1) := by decide +kernel
theorem dX11_crossing_80 : decode cX11_crossing 80 = .ok (.aload_n 0, 1) := by decide +kernel
theorem dX11_crossing_81 : decode cX11_crossing 81 = .ok (.getfield 12, 3) := by decide +kernel
theorem dX11_crossing_84 : decode cX11_crossing 84 = .ok (.iload_n 3, 1) := by decide +kernel
theorem dX11_crossing_85 : decode cX11_crossing 85 = .ok (.invokestatic 222, 3) := by decide +kernel
theorem dX11_crossing_88 : decode cX11_crossing 88 = .ok (.ifCond .eq 7, 3) := by decide +kernel
theorem dX11_crossing_91 : decode cX11_crossing 91 = .ok (.iconst 1, 1) := by decide +kernel
theorem dX11_crossing_92 : decode cX11_crossing 92 = .ok (.goto 4, 3) := by decide +kernel
theorem dX11_crossing_95 : decode cX11_crossing 95 = .ok (.iconst 0, 1) := by decide +kernel
theorem dX11_crossing_96 : decode cX11_crossing 96 = .ok (.ireturn, 1) := by decide +kernel
theorem dX11_crossing_97 : decode cX11_crossing 97 = .ok (.aload_n 0, 1) := by decide +kernel
theorem dX11_crossing_98 : decode cX11_crossing 98 = .ok (.getfield 12, 3) := by decide +kernel
theorem dX11_crossing_101 : decode cX11_crossing 101 = .ok (.aload_n 0, 1) := by decide +kernel
theorem dX11_crossing_102 : decode cX11_crossing 102 = .ok (.getfield 12, 3) := by decide +kernel
theorem dX11_crossing_105 : decode cX11_crossing 105 = .ok (.iload_n 3, 1) := by decide +kernel
theorem dX11_crossing_106 : decode cX11_crossing 106 = .ok (.invokevirtual 225, 3) := by decide +kernel
theorem dX11_crossing_109 : decode cX11_crossing 109 = .ok (.invokevirtual 229, 3) := by decide +kernel
theorem dX11_crossing_112 : decode cX11_crossing 112 = .ok (.ireturn, 1) := by decide +kernel
theorem dX11_crossing_113 : decode cX11_crossing 113 = .ok (.iconst (-1), 1) := by decide +kernel
theorem dX11_crossing_114 : decode cX11_crossing 114 = .ok (.ireturn, 1) := by decide +kernel
theorem dX11_mend_0 : decode cX11_mend 0 = .ok (.aload_n 0, 1) := by decide +kernel
theorem dX11_mend_1 : decode cX11_mend 1 = .ok (.getfield 12, 3) := by decide +kernel
theorem dX11_mend_4 : decode cX11_mend 4 = .ok (.iload_n 1, 1) := by decide +kernel
theorem dX11_mend_5 : decode cX11_mend 5 = .ok (.invokestatic 211, 3) := by decide +kernel
theorem dX11_mend_8 : decode cX11_mend 8 = .ok (.istore_n 2, 1) := by decide +kernel
theorem dX11_mend_9 : decode cX11_mend 9 = .ok (.iload_n 2, 1) := by decide +kernel
theorem dX11_mend_10 : decode cX11_mend 10 = .ok (.ifCond .ge 5, 3) := by decide +kernel
theorem dX11_mend_13 : decode cX11_mend 13 = .ok (.iconst (-1), 1) := by decide +kernel
theorem dX11_mend_14 : decode cX11_mend 14 = .ok (.ireturn, 1) := by decide +kernel
theorem dX11_mend_15 : decode cX11_mend 15 = .ok (.aload_n 0, 1) := by decide +kernel
theorem dX11_mend_16 : decode cX11_mend 16 = .ok (.getfield 12, 3) := by decide +kernel
theorem dX11_mend_19 : decode cX11_mend 19 = .ok (.invokevirtual 232, 3) := by decide +kernel
theorem dX11_mend_22 : decode cX11_mend 22 = .ok (.ifCond .eq 6, 3) := by decide +kernel
theorem dX11_mend_25 : decode cX11_mend 25 = .ok (.bipush (-2), 2) := by decide +kernel
theorem dX11_mend_27 : decode cX11_mend 27 = .ok (.ireturn, 1) := by decide +kernel
theorem dX11_mend_28 : decode cX11_mend 28 = .ok (.aload_n 0, 1) := by decide +kernel
theorem dX11_mend_29 : decode cX11_mend 29 = .ok (.getfield 12, 3) := by decide +kernel
theorem dX11_mend_32 : decode cX11_mend 32 = .ok (.iload_n 2, 1) := by decide +kernel
theorem dX11_mend_33 : decode cX11_mend 33 = .ok (.invokestatic 215, 3) := by decide +kernel
theorem dX11_mend_36 : decode cX11_mend 36 = .ok (.iconst 3, 1) := by decide +kernel
theorem dX11_mend_37 : decode cX11_mend 37 = .ok (.if_icmp .eq 6, 3) := by decide +kernel
theorem dX11_mend_40 : decode cX11_mend 40 = .ok (.bipush (-3), 2) := by decide +kernel
theorem dX11_mend_42 : decode cX11_mend 42 = .ok (.ireturn, 1) := by decide +kernel
theorem dX11_mend_43 : decode cX11_mend 43 = .ok (.aload_n 0, 1) := by decide +kernel
theorem dX11_mend_44 : decode cX11_mend 44 = .ok (.getfield 12, 3) := by decide +kernel
theorem dX11_mend_47 : decode cX11_mend 47 = .ok (.iload_n 2, 1) := by decide +kernel
theorem dX11_mend_48 : decode cX11_mend 48 = .ok (.invokevirtual 236, 3) := by decide +kernel
theorem dX11_mend_51 : decode cX11_mend 51 = .ok (.istore_n 3, 1) := by decide +kernel
theorem dX11_mend_52 : decode cX11_mend 52 = .ok (.aload_n 0, 1) := by decide +kernel
theorem dX11_mend_53 : decode cX11_mend 53 = .ok (.invokevirtual 78, 3) := by decide +kernel
theorem dX11_mend_56 : decode cX11_mend 56 = .ok (.iload_n 3, 1) := by decide +kernel
theorem dX11_mend_57 : decode cX11_mend 57 = .ok (.ireturn, 1) := by decide +kernel
theorem dX11_count_0 : decode cX11_count 0 = .ok (.iload_n 1, 1) := by decide +kernel
theorem dX11_count_1 : decode cX11_count 1 = .ok (.tableswitch 119 0 7 #[47, 55, 63, 79, 87, 95, 103, 111], 47) := by decide +kernel
theorem dX11_count_48 : decode cX11_count 48 = .ok (.aload_n 0, 1) := by decide +kernel
theorem dX11_count_49 : decode cX11_count 49 = .ok (.getfield 12, 3) := by decide +kernel
theorem dX11_count_52 : decode cX11_count 52 = .ok (.getfield 70, 3) := by decide +kernel
theorem dX11_count_55 : decode cX11_count 55 = .ok (.ireturn, 1) := by decide +kernel
theorem dX11_count_56 : decode cX11_count 56 = .ok (.aload_n 0, 1) := by decide +kernel
theorem dX11_count_57 : decode cX11_count 57 = .ok (.getfield 12, 3) := by decide +kernel
theorem dX11_count_60 : decode cX11_count 60 = .ok (.getfield 130, 3) := by decide +kernel
theorem dX11_count_63 : decode cX11_count 63 = .ok (.ireturn, 1) := by decide +kernel
theorem dX11_count_64 : decode cX11_count 64 = .ok (.aload_n 0, 1) := by decide +kernel
theorem dX11_count_65 : decode cX11_count 65 = .ok (.getfield 12, 3) := by decide +kernel
theorem dX11_count_68 : decode cX11_count 68 = .ok (.getfield 70, 3) := by decide +kernel
theorem dX11_count_71 : decode cX11_count 71 = .ok (.aload_n 0, 1) := by decide +kernel
theorem dX11_count_72 : decode cX11_count 72 = .ok (.getfield 12, 3) := by decide +kernel
theorem dX11_count_75 : decode cX11_count 75 = .ok (.getfield 130, 3) := by decide +kernel
theorem dX11_count_78 : decode cX11_count 78 = .ok (.isub, 1) := by decide +kernel
theorem dX11_count_79 : decode cX11_count 79 = .ok (.ireturn, 1) := by decide +kernel
theorem dX11_count_80 : decode cX11_count 80 = .ok (.aload_n 0, 1) := by decide +kernel
theorem dX11_count_81 : decode cX11_count 81 = .ok (.getfield 28, 3) := by decide +kernel
theorem dX11_count_84 : decode cX11_count 84 = .ok (.getfield 105, 3) := by decide +kernel
theorem dX11_count_87 : decode cX11_count 87 = .ok (.ireturn, 1) := by decide +kernel
theorem dX11_count_88 : decode cX11_count 88 = .ok (.aload_n 0, 1) := by decide +kernel
theorem dX11_count_89 : decode cX11_count 89 = .ok (.getfield 40, 3) := by decide +kernel
theorem dX11_count_92 : decode cX11_count 92 = .ok (.getfield 114, 3) := by decide +kernel
theorem dX11_count_95 : decode cX11_count 95 = .ok (.ireturn, 1) := by decide +kernel
theorem dX11_count_96 : decode cX11_count 96 = .ok (.aload_n 0, 1) := by decide +kernel
theorem dX11_count_97 : decode cX11_count 97 = .ok (.getfield 49, 3) := by decide +kernel
theorem dX11_count_100 : decode cX11_count 100 = .ok (.getfield 156, 3) := by decide +kernel
theorem dX11_count_103 : decode cX11_count 103 = .ok (.ireturn, 1) := by decide +kernel
theorem dX11_count_104 : decode cX11_count 104 = .ok (.aload_n 0, 1) := by decide +kernel
theorem dX11_count_105 : decode cX11_count 105 = .ok (.getfield 49, 3) := by decide +kernel
theorem dX11_count_108 : decode cX11_count 108 = .ok (.getfield 198, 3) := by decide +kernel
theorem dX11_count_111 : decode cX11_count 111 = .ok (.ireturn, 1) := by decide +kernel
theorem dX11_count_112 : decode cX11_count 112 = .ok (.aload_n 0, 1) := by decide +kernel
theorem dX11_count_113 : decode cX11_count 113 = .ok (.getfield 49, 3) := by decide +kernel
theorem dX11_count_116 : decode cX11_count 116 = .ok (.getfield 239, 3) := by decide +kernel
theorem dX11_count_119 : decode cX11_count 119 = .ok (.ireturn, 1) := by decide +kernel
theorem dX11_count_120 : decode cX11_count 120 = .ok (.iconst (-1), 1) := by decide +kernel
theorem dX11_count_121 : decode cX11_count 121 = .ok (.ireturn, 1) := by decide +kernel
theorem dX11_look_0 : decode cX11_look 0 = .ok (.aload_n 0, 1) := by decide +kernel
end
section
theorem dX11_look_1 : decode cX11_look 1 = .ok (.getfield 12, 3) := by decide +kernel
theorem dX11_look_4 : decode cX11_look 4 = .ok (.iload_n 1, 1) := by decide +kernel
theorem dX11_look_5 : decode cX11_look 5 = .ok (.invokevirtual 67, 3) := by decide +kernel
theorem dX11_look_8 : decode cX11_look 8 = .ok (.ifCond .ne 5, 3) := by decide +kernel
theorem dX11_look_11 : decode cX11_look 11 = .ok (.iconst (-1), 1) := by decide +kernel
theorem dX11_look_12 : decode cX11_look 12 = .ok (.ireturn, 1) := by decide +kernel
theorem dX11_look_13 : decode cX11_look 13 = .ok (.iload_n 2, 1) := by decide +kernel
theorem dX11_look_14 : decode cX11_look 14 = .ok (.tableswitch 84 0 4 #[34, 44, 54, 64, 74], 34) := by decide +kernel
theorem dX11_look_48 : decode cX11_look 48 = .ok (.aload_n 0, 1) := by decide +kernel
theorem dX11_look_49 : decode cX11_look 49 = .ok (.getfield 12, 3) := by decide +kernel
theorem dX11_look_52 : decode cX11_look 52 = .ok (.getfield 240, 3) := by decide +kernel
theorem dX11_look_55 : decode cX11_look 55 = .ok (.iload_n 1, 1) := by decide +kernel
theorem dX11_look_56 : decode cX11_look 56 = .ok (.iaload, 1) := by decide +kernel
theorem dX11_look_57 : decode cX11_look 57 = .ok (.ireturn, 1) := by decide +kernel
theorem dX11_look_58 : decode cX11_look 58 = .ok (.aload_n 0, 1) := by decide +kernel
theorem dX11_look_59 : decode cX11_look 59 = .ok (.getfield 12, 3) := by decide +kernel
theorem dX11_look_62 : decode cX11_look 62 = .ok (.getfield 243, 3) := by decide +kernel
theorem dX11_look_65 : decode cX11_look 65 = .ok (.iload_n 1, 1) := by decide +kernel
theorem dX11_look_66 : decode cX11_look 66 = .ok (.iaload, 1) := by decide +kernel
theorem dX11_look_67 : decode cX11_look 67 = .ok (.ireturn, 1) := by decide +kernel
theorem dX11_look_68 : decode cX11_look 68 = .ok (.aload_n 0, 1) := by decide +kernel
theorem dX11_look_69 : decode cX11_look 69 = .ok (.getfield 12, 3) := by decide +kernel
theorem dX11_look_72 : decode cX11_look 72 = .ok (.getfield 84, 3) := by decide +kernel
theorem dX11_look_75 : decode cX11_look 75 = .ok (.iload_n 1, 1) := by decide +kernel
theorem dX11_look_76 : decode cX11_look 76 = .ok (.iaload, 1) := by decide +kernel
theorem dX11_look_77 : decode cX11_look 77 = .ok (.ireturn, 1) := by decide +kernel
theorem dX11_look_78 : decode cX11_look 78 = .ok (.aload_n 0, 1) := by decide +kernel
theorem dX11_look_79 : decode cX11_look 79 = .ok (.getfield 12, 3) := by decide +kernel
theorem dX11_look_82 : decode cX11_look 82 = .ok (.getfield 246, 3) := by decide +kernel
theorem dX11_look_85 : decode cX11_look 85 = .ok (.iload_n 1, 1) := by decide +kernel
theorem dX11_look_86 : decode cX11_look 86 = .ok (.iaload, 1) := by decide +kernel
theorem dX11_look_87 : decode cX11_look 87 = .ok (.ireturn, 1) := by decide +kernel
theorem dX11_look_88 : decode cX11_look 88 = .ok (.aload_n 0, 1) := by decide +kernel
theorem dX11_look_89 : decode cX11_look 89 = .ok (.getfield 12, 3) := by decide +kernel
theorem dX11_look_92 : decode cX11_look 92 = .ok (.getfield 249, 3) := by decide +kernel
theorem dX11_look_95 : decode cX11_look 95 = .ok (.iload_n 1, 1) := by decide +kernel
theorem dX11_look_96 : decode cX11_look 96 = .ok (.iaload, 1) := by decide +kernel
theorem dX11_look_97 : decode cX11_look 97 = .ok (.ireturn, 1) := by decide +kernel
theorem dX11_look_98 : decode cX11_look 98 = .ok (.iconst (-1), 1) := by decide +kernel
theorem dX11_look_99 : decode cX11_look 99 = .ok (.ireturn, 1) := by decide +kernel
theorem dX11_keep_0 : decode cX11_keep 0 = .ok (.iload_n 1, 1) := by decide +kernel
theorem dX11_keep_1 : decode cX11_keep 1 = .ok (.invokestatic 252, 3) := by decide +kernel
theorem dX11_keep_4 : decode cX11_keep 4 = .ok (.ifCond .ne 5, 3) := by decide +kernel
theorem dX11_keep_7 : decode cX11_keep 7 = .ok (.iconst (-1), 1) := by decide +kernel
theorem dX11_keep_8 : decode cX11_keep 8 = .ok (.ireturn, 1) := by decide +kernel
theorem dX11_keep_9 : decode cX11_keep 9 = .ok (.iload_n 2, 1) := by decide +kernel
theorem dX11_keep_10 : decode cX11_keep 10 = .ok (.tableswitch 100 0 4 #[34, 43, 100, 76, 88], 34) := by decide +kernel
theorem dX11_keep_44 : decode cX11_keep 44 = .ok (.aload_n 0, 1) := by decide +kernel
theorem dX11_keep_45 : decode cX11_keep 45 = .ok (.getfield 55, 3) := by decide +kernel
theorem dX11_keep_48 : decode cX11_keep 48 = .ok (.iload_n 1, 1) := by decide +kernel
theorem dX11_keep_49 : decode cX11_keep 49 = .ok (.aconst_null, 1) := by decide +kernel
theorem dX11_keep_50 : decode cX11_keep 50 = .ok (.aastore, 1) := by decide +kernel
theorem dX11_keep_51 : decode cX11_keep 51 = .ok (.iconst 0, 1) := by decide +kernel
theorem dX11_keep_52 : decode cX11_keep 52 = .ok (.ireturn, 1) := by decide +kernel
theorem dX11_keep_53 : decode cX11_keep 53 = .ok (.aload_n 0, 1) := by decide +kernel
theorem dX11_keep_54 : decode cX11_keep 54 = .ok (.getfield 12, 3) := by decide +kernel
theorem dX11_keep_57 : decode cX11_keep 57 = .ok (.iload_n 3, 1) := by decide +kernel
theorem dX11_keep_58 : decode cX11_keep 58 = .ok (.invokevirtual 67, 3) := by decide +kernel
theorem dX11_keep_61 : decode cX11_keep 61 = .ok (.ifCond .ne 5, 3) := by decide +kernel
theorem dX11_keep_64 : decode cX11_keep 64 = .ok (.iconst (-1), 1) := by decide +kernel
theorem dX11_keep_65 : decode cX11_keep 65 = .ok (.ireturn, 1) := by decide +kernel
theorem dX11_keep_66 : decode cX11_keep 66 = .ok (.aload_n 0, 1) := by decide +kernel
theorem dX11_keep_67 : decode cX11_keep 67 = .ok (.getfield 55, 3) := by decide +kernel
theorem dX11_keep_70 : decode cX11_keep 70 = .ok (.iload_n 1, 1) := by decide +kernel
theorem dX11_keep_71 : decode cX11_keep 71 = .ok (.new 255, 3) := by decide +kernel
theorem dX11_keep_74 : decode cX11_keep 74 = .ok (.dup, 1) := by decide +kernel
theorem dX11_keep_75 : decode cX11_keep 75 = .ok (.aload_n 0, 1) := by decide +kernel
theorem dX11_keep_76 : decode cX11_keep 76 = .ok (.getfield 12, 3) := by decide +kernel
theorem dX11_keep_79 : decode cX11_keep 79 = .ok (.iload_n 3, 1) := by decide +kernel
theorem dX11_keep_80 : decode cX11_keep 80 = .ok (.invokespecial 257, 3) := by decide +kernel
theorem dX11_keep_83 : decode cX11_keep 83 = .ok (.aastore, 1) := by decide +kernel
theorem dX11_keep_84 : decode cX11_keep 84 = .ok (.iconst 0, 1) := by decide +kernel
theorem dX11_keep_85 : decode cX11_keep 85 = .ok (.ireturn, 1) := by decide +kernel
theorem dX11_keep_86 : decode cX11_keep 86 = .ok (.aload_n 0, 1) := by decide +kernel
theorem dX11_keep_87 : decode cX11_keep 87 = .ok (.getfield 55, 3) := by decide +kernel
theorem dX11_keep_90 : decode cX11_keep 90 = .ok (.iload_n 1, 1) := by decide +kernel
theorem dX11_keep_91 : decode cX11_keep 91 = .ok (.aload_n 0, 1) := by decide +kernel
theorem dX11_keep_92 : decode cX11_keep 92 = .ok (.invokevirtual 260, 3) := by decide +kernel
theorem dX11_keep_95 : decode cX11_keep 95 = .ok (.aastore, 1) := by decide +kernel
theorem dX11_keep_96 : decode cX11_keep 96 = .ok (.iconst 0, 1) := by decide +kernel
theorem dX11_keep_97 : decode cX11_keep 97 = .ok (.ireturn, 1) := by decide +kernel
theorem dX11_keep_98 : decode cX11_keep 98 = .ok (.aload_n 0, 1) := by decide +kernel
theorem dX11_keep_99 : decode cX11_keep 99 = .ok (.getfield 55, 3) := by decide +kernel
theorem dX11_keep_102 : decode cX11_keep 102 = .ok (.iload_n 1, 1) := by decide +kernel
theorem dX11_keep_103 : decode cX11_keep 103 = .ok (.aload_n 0, 1) := by decide +kernel
theorem dX11_keep_104 : decode cX11_keep 104 = .ok (.invokevirtual 264, 3) := by decide +kernel
theorem dX11_keep_107 : decode cX11_keep 107 = .ok (.aastore, 1) := by decide +kernel
theorem dX11_keep_108 : decode cX11_keep 108 = .ok (.iconst 0, 1) := by decide +kernel
theorem dX11_keep_109 : decode cX11_keep 109 = .ok (.ireturn, 1) := by decide +kernel
theorem dX11_keep_110 : decode cX11_keep 110 = .ok (.iconst (-1), 1) := by decide +kernel
theorem dX11_keep_111 : decode cX11_keep 111 = .ok (.ireturn, 1) := by decide +kernel
theorem dX11_make_0 : decode cX11_make 0 = .ok (.iload_n 1, 1) := by decide +kernel
theorem dX11_make_1 : decode cX11_make 1 = .ok (.invokestatic 252, 3) := by decide +kernel
theorem dX11_make_4 : decode cX11_make 4 = .ok (.ifCond .eq 19, 3) := by decide +kernel
theorem dX11_make_7 : decode cX11_make 7 = .ok (.iload_n 2, 1) := by decide +kernel
theorem dX11_make_8 : decode cX11_make 8 = .ok (.iconst 3, 1) := by decide +kernel
theorem dX11_make_9 : decode cX11_make 9 = .ok (.if_icmp .eq 8, 3) := by decide +kernel
theorem dX11_make_12 : decode cX11_make 12 = .ok (.iload_n 2, 1) := by decide +kernel
theorem dX11_make_13 : decode cX11_make 13 = .ok (.iconst 4, 1) := by decide +kernel
theorem dX11_make_14 : decode cX11_make 14 = .ok (.if_icmp .ne 9, 3) := by decide +kernel
theorem dX11_make_17 : decode cX11_make 17 = .ok (.iload_n 3, 1) := by decide +kernel
theorem dX11_make_18 : decode cX11_make 18 = .ok (.bipush 60, 2) := by decide +kernel
theorem dX11_make_20 : decode cX11_make 20 = .ok (.if_icmp .le 5, 3) := by decide +kernel
theorem dX11_make_23 : decode cX11_make 23 = .ok (.iconst (-1), 1) := by decide +kernel
theorem dX11_make_24 : decode cX11_make 24 = .ok (.ireturn, 1) := by decide +kernel
theorem dX11_make_25 : decode cX11_make 25 = .ok (.iload_n 3, 1) := by decide +kernel
theorem dX11_make_26 : decode cX11_make 26 = .ok (.ifCond .ge 6, 3) := by decide +kernel
theorem dX11_make_29 : decode cX11_make 29 = .ok (.bipush (-14), 2) := by decide +kernel
theorem dX11_make_31 : decode cX11_make 31 = .ok (.ireturn, 1) := by decide +kernel
theorem dX11_make_32 : decode cX11_make 32 = .ok (.aload_n 0, 1) := by decide +kernel
theorem dX11_make_33 : decode cX11_make 33 = .ok (.getfield 55, 3) := by decide +kernel
theorem dX11_make_36 : decode cX11_make 36 = .ok (.iload_n 1, 1) := by decide +kernel
theorem dX11_make_37 : decode cX11_make 37 = .ok (.new 267, 3) := by decide +kernel
theorem dX11_make_40 : decode cX11_make 40 = .ok (.dup, 1) := by decide +kernel
theorem dX11_make_41 : decode cX11_make 41 = .ok (.iload_n 2, 1) := by decide +kernel
theorem dX11_make_42 : decode cX11_make 42 = .ok (.iload_n 3, 1) := by decide +kernel
theorem dX11_make_43 : decode cX11_make 43 = .ok (.invokespecial 269, 3) := by decide +kernel
theorem dX11_make_46 : decode cX11_make 46 = .ok (.aastore, 1) := by decide +kernel
theorem dX11_make_47 : decode cX11_make 47 = .ok (.iconst 0, 1) := by decide +kernel
theorem dX11_make_48 : decode cX11_make 48 = .ok (.ireturn, 1) := by decide +kernel
theorem dX11_element_0 : decode cX11_element 0 = .ok (.iload_n 1, 1) := by decide +kernel
theorem dX11_element_1 : decode cX11_element 1 = .ok (.invokestatic 252, 3) := by decide +kernel
theorem dX11_element_4 : decode cX11_element 4 = .ok (.ifCond .ne 14, 3) := by decide +kernel
theorem dX11_element_7 : decode cX11_element 7 = .ok (.new 272, 3) := by decide +kernel
theorem dX11_element_10 : decode cX11_element 10 = .ok (.dup, 1) := by decide +kernel
theorem dX11_element_11 : decode cX11_element 11 = .ok (.ldc_w 274, 3) := by decide +kernel
theorem dX11_element_14 : decode cX11_element 14 = .ok (.invokespecial 276, 3) := by decide +kernel
theorem dX11_element_17 : decode cX11_element 17 = .ok (.athrow, 1) := by decide +kernel
theorem dX11_element_18 : decode cX11_element 18 = .ok (.aload_n 0, 1) := by decide +kernel
theorem dX11_element_19 : decode cX11_element 19 = .ok (.getfield 55, 3) := by decide +kernel
theorem dX11_element_22 : decode cX11_element 22 = .ok (.iload_n 1, 1) := by decide +kernel
theorem dX11_element_23 : decode cX11_element 23 = .ok (.aaload, 1) := by decide +kernel
theorem dX11_element_24 : decode cX11_element 24 = .ok (.astore 4, 2) := by decide +kernel
theorem dX11_element_26 : decode cX11_element 26 = .ok (.aload 4, 2) := by decide +kernel
theorem dX11_element_28 : decode cX11_element 28 = .ok (.instanceof 267, 3) := by decide +kernel
theorem dX11_element_31 : decode cX11_element 31 = .ok (.ifCond .eq 41, 3) := by decide +kernel
theorem dX11_element_34 : decode cX11_element 34 = .ok (.aload 4, 2) := by decide +kernel
theorem dX11_element_36 : decode cX11_element 36 = .ok (.checkcast 267, 3) := by decide +kernel
theorem dX11_element_39 : decode cX11_element 39 = .ok (.astore_n 3, 1) := by decide +kernel
theorem dX11_element_40 : decode cX11_element 40 = .ok (.iload_n 2, 1) := by decide +kernel
theorem dX11_element_41 : decode cX11_element 41 = .ok (.ifCond .lt 20, 3) := by decide +kernel
theorem dX11_element_44 : decode cX11_element 44 = .ok (.iload_n 2, 1) := by decide +kernel
theorem dX11_element_45 : decode cX11_element 45 = .ok (.aload_n 3, 1) := by decide +kernel
theorem dX11_element_46 : decode cX11_element 46 = .ok (.getfield 279, 3) := by decide +kernel
theorem dX11_element_49 : decode cX11_element 49 = .ok (.arraylength, 1) := by decide +kernel
theorem dX11_element_50 : decode cX11_element 50 = .ok (.if_icmp .ge 11, 3) := by decide +kernel
theorem dX11_element_53 : decode cX11_element 53 = .ok (.aload_n 3, 1) := by decide +kernel
theorem dX11_element_54 : decode cX11_element 54 = .ok (.getfield 279, 3) := by decide +kernel
theorem dX11_element_57 : decode cX11_element 57 = .ok (.iload_n 2, 1) := by decide +kernel
theorem dX11_element_58 : decode cX11_element 58 = .ok (.iaload, 1) := by decide +kernel
theorem dX11_element_59 : decode cX11_element 59 = .ok (.i2l, 1) := by decide +kernel
theorem dX11_element_60 : decode cX11_element 60 = .ok (.lreturn, 1) := by decide +kernel
theorem dX11_element_61 : decode cX11_element 61 = .ok (.new 282, 3) := by decide +kernel
theorem dX11_element_64 : decode cX11_element 64 = .ok (.dup, 1) := by decide +kernel
theorem dX11_element_65 : decode cX11_element 65 = .ok (.ldc_w 284, 3) := by decide +kernel
theorem dX11_element_68 : decode cX11_element 68 = .ok (.invokespecial 286, 3) := by decide +kernel
theorem dX11_element_71 : decode cX11_element 71 = .ok (.athrow, 1) := by decide +kernel
theorem dX11_element_72 : decode cX11_element 72 = .ok (.new 282, 3) := by decide +kernel
theorem dX11_element_75 : decode cX11_element 75 = .ok (.dup, 1) := by decide +kernel
theorem dX11_element_76 : decode cX11_element 76 = .ok (.ldc_w 287, 3) := by decide +kernel
theorem dX11_element_79 : decode cX11_element 79 = .ok (.invokespecial 286, 3) := by decide +kernel
theorem dX11_element_82 : decode cX11_element 82 = .ok (.athrow, 1) := by decide +kernel
theorem dX11_copy_0 : decode cX11_copy 0 = .ok (.iload_n 1, 1) := by decide +kernel
theorem dX11_copy_1 : decode cX11_copy 1 = .ok (.invokestatic 252, 3) := by decide +kernel
theorem dX11_copy_4 : decode cX11_copy 4 = .ok (.ifCond .eq 10, 3) := by decide +kernel
theorem dX11_copy_7 : decode cX11_copy 7 = .ok (.iload_n 3, 1) := by decide +kernel
theorem dX11_copy_8 : decode cX11_copy 8 = .ok (.invokestatic 252, 3) := by decide +kernel
theorem dX11_copy_11 : decode cX11_copy 11 = .ok (.ifCond .ne 5, 3) := by decide +kernel
theorem dX11_copy_14 : decode cX11_copy 14 = .ok (.iconst (-1), 1) := by decide +kernel
theorem dX11_copy_15 : decode cX11_copy 15 = .ok (.ireturn, 1) := by decide +kernel
theorem dX11_copy_16 : decode cX11_copy 16 = .ok (.aload_n 0, 1) := by decide +kernel
theorem dX11_copy_17 : decode cX11_copy 17 = .ok (.getfield 55, 3) := by decide +kernel
theorem dX11_copy_20 : decode cX11_copy 20 = .ok (.iload_n 1, 1) := by decide +kernel
theorem dX11_copy_21 : decode cX11_copy 21 = .ok (.aaload, 1) := by decide +kernel
theorem dX11_copy_22 : decode cX11_copy 22 = .ok (.ifnull 12, 3) := by decide +kernel
theorem dX11_copy_25 : decode cX11_copy 25 = .ok (.aload_n 0, 1) := by decide +kernel
theorem dX11_copy_26 : decode cX11_copy 26 = .ok (.getfield 55, 3) := by decide +kernel
theorem dX11_copy_29 : decode cX11_copy 29 = .ok (.iload_n 3, 1) := by decide +kernel
theorem dX11_copy_30 : decode cX11_copy 30 = .ok (.aaload, 1) := by decide +kernel
theorem dX11_copy_31 : decode cX11_copy 31 = .ok (.ifnonnull 6, 3) := by decide +kernel
theorem dX11_copy_34 : decode cX11_copy 34 = .ok (.bipush (-11), 2) := by decide +kernel
theorem dX11_copy_36 : decode cX11_copy 36 = .ok (.ireturn, 1) := by decide +kernel
theorem dX11_copy_37 : decode cX11_copy 37 = .ok (.aload_n 0, 1) := by decide +kernel
theorem dX11_copy_38 : decode cX11_copy 38 = .ok (.getfield 55, 3) := by decide +kernel
theorem dX11_copy_41 : decode cX11_copy 41 = .ok (.iload_n 1, 1) := by decide +kernel
theorem dX11_copy_42 : decode cX11_copy 42 = .ok (.aaload, 1) := by decide +kernel
theorem dX11_copy_43 : decode cX11_copy 43 = .ok (.astore 8, 2) := by decide +kernel
theorem dX11_copy_45 : decode cX11_copy 45 = .ok (.aload 8, 2) := by decide +kernel
theorem dX11_copy_47 : decode cX11_copy 47 = .ok (.instanceof 267, 3) := by decide +kernel
theorem dX11_copy_50 : decode cX11_copy 50 = .ok (.ifCond .eq 93, 3) := by decide +kernel
theorem dX11_copy_53 : decode cX11_copy 53 = .ok (.aload 8, 2) := by decide +kernel
theorem dX11_copy_55 : decode cX11_copy 55 = .ok (.checkcast 267, 3) := by decide +kernel
theorem dX11_copy_58 : decode cX11_copy 58 = .ok (.astore 6, 2) := by decide +kernel
theorem dX11_copy_60 : decode cX11_copy 60 = .ok (.aload_n 0, 1) := by decide +kernel
theorem dX11_copy_61 : decode cX11_copy 61 = .ok (.getfield 55, 3) := by decide +kernel
theorem dX11_copy_64 : decode cX11_copy 64 = .ok (.iload_n 3, 1) := by decide +kernel
theorem dX11_copy_65 : decode cX11_copy 65 = .ok (.aaload, 1) := by decide +kernel
theorem dX11_copy_66 : decode cX11_copy 66 = .ok (.astore 8, 2) := by decide +kernel
theorem dX11_copy_68 : decode cX11_copy 68 = .ok (.aload 8, 2) := by decide +kernel
theorem dX11_copy_70 : decode cX11_copy 70 = .ok (.instanceof 267, 3) := by decide +kernel
theorem dX11_copy_73 : decode cX11_copy 73 = .ok (.ifCond .eq 70, 3) := by decide +kernel
theorem dX11_copy_76 : decode cX11_copy 76 = .ok (.aload 8, 2) := by decide +kernel
theorem dX11_copy_78 : decode cX11_copy 78 = .ok (.checkcast 267, 3) := by decide +kernel
theorem dX11_copy_81 : decode cX11_copy 81 = .ok (.astore 7, 2) := by decide +kernel
theorem dX11_copy_83 : decode cX11_copy 83 = .ok (.aload 6, 2) := by decide +kernel
theorem dX11_copy_85 : decode cX11_copy 85 = .ok (.getfield 289, 3) := by decide +kernel
theorem dX11_copy_88 : decode cX11_copy 88 = .ok (.aload 7, 2) := by decide +kernel
theorem dX11_copy_90 : decode cX11_copy 90 = .ok (.getfield 289, 3) := by decide +kernel
theorem dX11_copy_93 : decode cX11_copy 93 = .ok (.if_icmp .ne 50, 3) := by decide +kernel
theorem dX11_copy_96 : decode cX11_copy 96 = .ok (.aload 6, 2) := by decide +kernel
theorem dX11_copy_98 : decode cX11_copy 98 = .ok (.iload_n 2, 1) := by decide +kernel
theorem dX11_copy_99 : decode cX11_copy 99 = .ok (.iload 5, 2) := by decide +kernel
theorem dX11_copy_101 : decode cX11_copy 101 = .ok (.invokevirtual 292, 3) := by decide +kernel
theorem dX11_copy_104 : decode cX11_copy 104 = .ok (.ifCond .eq 15, 3) := by decide +kernel
theorem dX11_copy_107 : decode cX11_copy 107 = .ok (.aload 7, 2) := by decide +kernel
theorem dX11_copy_109 : decode cX11_copy 109 = .ok (.iload 4, 2) := by decide +kernel
theorem dX11_copy_111 : decode cX11_copy 111 = .ok (.iload 5, 2) := by decide +kernel
theorem dX11_copy_113 : decode cX11_copy 113 = .ok (.invokevirtual 292, 3) := by decide +kernel
theorem dX11_copy_116 : decode cX11_copy 116 = .ok (.ifCond .ne 6, 3) := by decide +kernel
theorem dX11_copy_119 : decode cX11_copy 119 = .ok (.bipush (-13), 2) := by decide +kernel
theorem dX11_copy_121 : decode cX11_copy 121 = .ok (.ireturn, 1) := by decide +kernel
theorem dX11_copy_122 : decode cX11_copy 122 = .ok (.aload 6, 2) := by decide +kernel
theorem dX11_copy_124 : decode cX11_copy 124 = .ok (.getfield 279, 3) := by decide +kernel
theorem dX11_copy_127 : decode cX11_copy 127 = .ok (.iload_n 2, 1) := by decide +kernel
theorem dX11_copy_128 : decode cX11_copy 128 = .ok (.aload 7, 2) := by decide +kernel
theorem dX11_copy_130 : decode cX11_copy 130 = .ok (.getfield 279, 3) := by decide +kernel
theorem dX11_copy_133 : decode cX11_copy 133 = .ok (.iload 4, 2) := by decide +kernel
theorem dX11_copy_135 : decode cX11_copy 135 = .ok (.iload 5, 2) := by decide +kernel
theorem dX11_copy_137 : decode cX11_copy 137 = .ok (.invokestatic 296, 3) := by decide +kernel
theorem dX11_copy_140 : decode cX11_copy 140 = .ok (.iload 5, 2) := by decide +kernel
theorem dX11_copy_142 : decode cX11_copy 142 = .ok (.ireturn, 1) := by decide +kernel
theorem dX11_copy_143 : decode cX11_copy 143 = .ok (.bipush (-12), 2) := by decide +kernel
theorem dX11_copy_145 : decode cX11_copy 145 = .ok (.ireturn, 1) := by decide +kernel
theorem dX11_weight_0 : decode cX11_weight 0 = .ok (.iload_n 1, 1) := by decide +kernel
theorem dX11_weight_1 : decode cX11_weight 1 = .ok (.invokestatic 252, 3) := by decide +kernel
theorem dX11_weight_4 : decode cX11_weight 4 = .ok (.ifCond .ne 5, 3) := by decide +kernel
theorem dX11_weight_7 : decode cX11_weight 7 = .ok (.iconst (-1), 1) := by decide +kernel
theorem dX11_weight_8 : decode cX11_weight 8 = .ok (.ireturn, 1) := by decide +kernel
theorem dX11_weight_9 : decode cX11_weight 9 = .ok (.aload_n 0, 1) := by decide +kernel
theorem dX11_weight_10 : decode cX11_weight 10 = .ok (.getfield 55, 3) := by decide +kernel
theorem dX11_weight_13 : decode cX11_weight 13 = .ok (.iload_n 1, 1) := by decide +kernel
theorem dX11_weight_14 : decode cX11_weight 14 = .ok (.aaload, 1) := by decide +kernel
theorem dX11_weight_15 : decode cX11_weight 15 = .ok (.astore_n 2, 1) := by decide +kernel
theorem dX11_weight_16 : decode cX11_weight 16 = .ok (.aload_n 2, 1) := by decide +kernel
theorem dX11_weight_17 : decode cX11_weight 17 = .ok (.ifnonnull 8, 3) := by decide +kernel
theorem dX11_weight_20 : decode cX11_weight 20 = .ok (.bipush (-11), 2) := by decide +kernel
theorem dX11_weight_22 : decode cX11_weight 22 = .ok (.goto 7, 3) := by decide +kernel
theorem dX11_weight_25 : decode cX11_weight 25 = .ok (.aload_n 2, 1) := by decide +kernel
theorem dX11_weight_26 : decode cX11_weight 26 = .ok (.invokevirtual 302, 3) := by decide +kernel
theorem dX11_weight_29 : decode cX11_weight 29 = .ok (.ireturn, 1) := by decide +kernel
theorem dX11_toss_0 : decode cX11_toss 0 = .ok (.iload_n 1, 1) := by decide +kernel
theorem dX11_toss_1 : decode cX11_toss 1 = .ok (.invokestatic 252, 3) := by decide +kernel
theorem dX11_toss_4 : decode cX11_toss 4 = .ok (.ifCond .ne 5, 3) := by decide +kernel
theorem dX11_toss_7 : decode cX11_toss 7 = .ok (.iconst (-1), 1) := by decide +kernel
theorem dX11_toss_8 : decode cX11_toss 8 = .ok (.ireturn, 1) := by decide +kernel
theorem dX11_toss_9 : decode cX11_toss 9 = .ok (.aload_n 0, 1) := by decide +kernel
theorem dX11_toss_10 : decode cX11_toss 10 = .ok (.getfield 55, 3) := by decide +kernel
theorem dX11_toss_13 : decode cX11_toss 13 = .ok (.iload_n 1, 1) := by decide +kernel
theorem dX11_toss_14 : decode cX11_toss 14 = .ok (.aaload, 1) := by decide +kernel
theorem dX11_toss_15 : decode cX11_toss 15 = .ok (.astore_n 2, 1) := by decide +kernel
theorem dX11_toss_16 : decode cX11_toss 16 = .ok (.aload_n 2, 1) := by decide +kernel
theorem dX11_toss_17 : decode cX11_toss 17 = .ok (.ifnonnull 8, 3) := by decide +kernel
theorem dX11_toss_20 : decode cX11_toss 20 = .ok (.bipush (-11), 2) := by decide +kernel
theorem dX11_toss_22 : decode cX11_toss 22 = .ok (.goto 7, 3) := by decide +kernel
theorem dX11_toss_25 : decode cX11_toss 25 = .ok (.aload_n 2, 1) := by decide +kernel
theorem dX11_toss_26 : decode cX11_toss 26 = .ok (.invokevirtual 305, 3) := by decide +kernel
theorem dX11_toss_29 : decode cX11_toss 29 = .ok (.ireturn, 1) := by decide +kernel
theorem dX11_isClock_0 : decode cX11_isClock 0 = .ok (.iload_n 0, 1) := by decide +kernel
theorem dX11_isClock_1 : decode cX11_isClock 1 = .ok (.ifCond .lt 12, 3) := by decide +kernel
theorem dX11_isClock_4 : decode cX11_isClock 4 = .ok (.iload_n 0, 1) := by decide +kernel
theorem dX11_isClock_5 : decode cX11_isClock 5 = .ok (.iconst 4, 1) := by decide +kernel
theorem dX11_isClock_6 : decode cX11_isClock 6 = .ok (.if_icmp .ge 7, 3) := by decide +kernel
theorem dX11_isClock_9 : decode cX11_isClock 9 = .ok (.iconst 1, 1) := by decide +kernel
theorem dX11_isClock_10 : decode cX11_isClock 10 = .ok (.goto 4, 3) := by decide +kernel
theorem dX11_isClock_13 : decode cX11_isClock 13 = .ok (.iconst 0, 1) := by decide +kernel
theorem dX11_isClock_14 : decode cX11_isClock 14 = .ok (.ireturn, 1) := by decide +kernel
theorem dX11_isShelf_0 : decode cX11_isShelf 0 = .ok (.iload_n 0, 1) := by decide +kernel
theorem dX11_isShelf_1 : decode cX11_isShelf 1 = .ok (.ifCond .lt 13, 3) := by decide +kernel
theorem dX11_isShelf_4 : decode cX11_isShelf 4 = .ok (.iload_n 0, 1) := by decide +kernel
theorem dX11_isShelf_5 : decode cX11_isShelf 5 = .ok (.bipush 8, 2) := by decide +kernel
theorem dX11_isShelf_7 : decode cX11_isShelf 7 = .ok (.if_icmp .ge 7, 3) := by decide +kernel
theorem dX11_isShelf_10 : decode cX11_isShelf 10 = .ok (.iconst 1, 1) := by decide +kernel
theorem dX11_isShelf_11 : decode cX11_isShelf 11 = .ok (.goto 4, 3) := by decide +kernel
theorem dX11_isShelf_14 : decode cX11_isShelf 14 = .ok (.iconst 0, 1) := by decide +kernel
theorem dX11_isShelf_15 : decode cX11_isShelf 15 = .ok (.ireturn, 1) := by decide +kernel
theorem dX11_addBit_0 : decode cX11_addBit 0 = .ok (.aload_n 0, 1) := by decide +kernel
theorem dX11_addBit_1 : decode cX11_addBit 1 = .ok (.getfield 12, 3) := by decide +kernel
theorem dX11_addBit_4 : decode cX11_addBit 4 = .ok (.invokevirtual 232, 3) := by decide +kernel
theorem dX11_addBit_7 : decode cX11_addBit 7 = .ok (.ifCond .eq 6, 3) := by decide +kernel
theorem dX11_addBit_10 : decode cX11_addBit 10 = .ok (.bipush (-2), 2) := by decide +kernel
theorem dX11_addBit_12 : decode cX11_addBit 12 = .ok (.ireturn, 1) := by decide +kernel
theorem dX11_addBit_13 : decode cX11_addBit 13 = .ok (.aload_n 0, 1) := by decide +kernel
theorem dX11_addBit_14 : decode cX11_addBit 14 = .ok (.getfield 12, 3) := by decide +kernel
theorem dX11_addBit_17 : decode cX11_addBit 17 = .ok (.iload_n 1, 1) := by decide +kernel
theorem dX11_addBit_18 : decode cX11_addBit 18 = .ok (.iload_n 2, 1) := by decide +kernel
theorem dX11_addBit_19 : decode cX11_addBit 19 = .ok (.iload_n 3, 1) := by decide +kernel
theorem dX11_addBit_20 : decode cX11_addBit 20 = .ok (.invokevirtual 308, 3) := by decide +kernel
theorem dX11_addBit_23 : decode cX11_addBit 23 = .ok (.istore 4, 2) := by decide +kernel
theorem dX11_addBit_25 : decode cX11_addBit 25 = .ok (.aload_n 0, 1) := by decide +kernel
theorem dX11_addBit_26 : decode cX11_addBit 26 = .ok (.invokevirtual 78, 3) := by decide +kernel
theorem dX11_addBit_29 : decode cX11_addBit 29 = .ok (.iload 4, 2) := by decide +kernel
theorem dX11_addBit_31 : decode cX11_addBit 31 = .ok (.ireturn, 1) := by decide +kernel
theorem dX11_beginAnew_0 : decode cX11_beginAnew 0 = .ok (.aload_n 0, 1) := by decide +kernel
theorem dX11_beginAnew_1 : decode cX11_beginAnew 1 = .ok (.getfield 40, 3) := by decide +kernel
theorem dX11_beginAnew_4 : decode cX11_beginAnew 4 = .ok (.invokevirtual 117, 3) := by decide +kernel
theorem dX11_beginAnew_7 : decode cX11_beginAnew 7 = .ok (.aload_n 0, 1) := by decide +kernel
theorem dX11_beginAnew_8 : decode cX11_beginAnew 8 = .ok (.getfield 49, 3) := by decide +kernel
theorem dX11_beginAnew_11 : decode cX11_beginAnew 11 = .ok (.invokevirtual 108, 3) := by decide +kernel
theorem dX11_beginAnew_14 : decode cX11_beginAnew 14 = .ok (.return_, 1) := by decide +kernel
theorem dX11_rowOfValues_0 : decode cX11_rowOfValues 0 = .ok (.new 267, 3) := by decide +kernel
theorem dX11_rowOfValues_3 : decode cX11_rowOfValues 3 = .ok (.dup, 1) := by decide +kernel
theorem dX11_rowOfValues_4 : decode cX11_rowOfValues 4 = .ok (.iconst 3, 1) := by decide +kernel
theorem dX11_rowOfValues_5 : decode cX11_rowOfValues 5 = .ok (.aload_n 0, 1) := by decide +kernel
theorem dX11_rowOfValues_6 : decode cX11_rowOfValues 6 = .ok (.getfield 12, 3) := by decide +kernel
theorem dX11_rowOfValues_9 : decode cX11_rowOfValues 9 = .ok (.getfield 70, 3) := by decide +kernel
theorem dX11_rowOfValues_12 : decode cX11_rowOfValues 12 = .ok (.invokespecial 269, 3) := by decide +kernel
theorem dX11_rowOfValues_15 : decode cX11_rowOfValues 15 = .ok (.astore_n 1, 1) := by decide +kernel
theorem dX11_rowOfValues_16 : decode cX11_rowOfValues 16 = .ok (.iconst 0, 1) := by decide +kernel
theorem dX11_rowOfValues_17 : decode cX11_rowOfValues 17 = .ok (.istore_n 2, 1) := by decide +kernel
theorem dX11_rowOfValues_18 : decode cX11_rowOfValues 18 = .ok (.iload_n 2, 1) := by decide +kernel
theorem dX11_rowOfValues_19 : decode cX11_rowOfValues 19 = .ok (.aload_n 0, 1) := by decide +kernel
theorem dX11_rowOfValues_20 : decode cX11_rowOfValues 20 = .ok (.getfield 12, 3) := by decide +kernel
theorem dX11_rowOfValues_23 : decode cX11_rowOfValues 23 = .ok (.getfield 70, 3) := by decide +kernel
theorem dX11_rowOfValues_26 : decode cX11_rowOfValues 26 = .ok (.if_icmp .ge 30, 3) := by decide +kernel
theorem dX11_rowOfValues_29 : decode cX11_rowOfValues 29 = .ok (.aload_n 1, 1) := by decide +kernel
theorem dX11_rowOfValues_30 : decode cX11_rowOfValues 30 = .ok (.getfield 279, 3) := by decide +kernel
theorem dX11_rowOfValues_33 : decode cX11_rowOfValues 33 = .ok (.iload_n 2, 1) := by decide +kernel
theorem dX11_rowOfValues_34 : decode cX11_rowOfValues 34 = .ok (.aload_n 0, 1) := by decide +kernel
theorem dX11_rowOfValues_35 : decode cX11_rowOfValues 35 = .ok (.getfield 12, 3) := by decide +kernel
theorem dX11_rowOfValues_38 : decode cX11_rowOfValues 38 = .ok (.iload_n 2, 1) := by decide +kernel
theorem dX11_rowOfValues_39 : decode cX11_rowOfValues 39 = .ok (.aload_n 0, 1) := by decide +kernel
theorem dX11_rowOfValues_40 : decode cX11_rowOfValues 40 = .ok (.getfield 40, 3) := by decide +kernel
theorem dX11_rowOfValues_43 : decode cX11_rowOfValues 43 = .ok (.invokevirtual 123, 3) := by decide +kernel
theorem dX11_rowOfValues_46 : decode cX11_rowOfValues 46 = .ok (.invokevirtual 127, 3) := by decide +kernel
theorem dX11_rowOfValues_49 : decode cX11_rowOfValues 49 = .ok (.iastore, 1) := by decide +kernel
theorem dX11_rowOfValues_50 : decode cX11_rowOfValues 50 = .ok (.iinc 2 1, 3) := by decide +kernel
theorem dX11_rowOfValues_53 : decode cX11_rowOfValues 53 = .ok (.goto (-35), 3) := by decide +kernel
theorem dX11_rowOfValues_56 : decode cX11_rowOfValues 56 = .ok (.aload_n 1, 1) := by decide +kernel
theorem dX11_rowOfValues_57 : decode cX11_rowOfValues 57 = .ok (.areturn, 1) := by decide +kernel
theorem dX11_rowOfClocks_0 : decode cX11_rowOfClocks 0 = .ok (.new 267, 3) := by decide +kernel
theorem dX11_rowOfClocks_3 : decode cX11_rowOfClocks 3 = .ok (.dup, 1) := by decide +kernel
theorem dX11_rowOfClocks_4 : decode cX11_rowOfClocks 4 = .ok (.iconst 4, 1) := by decide +kernel
theorem dX11_rowOfClocks_5 : decode cX11_rowOfClocks 5 = .ok (.aload_n 0, 1) := by decide +kernel
theorem dX11_rowOfClocks_6 : decode cX11_rowOfClocks 6 = .ok (.getfield 40, 3) := by decide +kernel
theorem dX11_rowOfClocks_9 : decode cX11_rowOfClocks 9 = .ok (.getfield 114, 3) := by decide +kernel
theorem dX11_rowOfClocks_12 : decode cX11_rowOfClocks 12 = .ok (.invokespecial 269, 3) := by decide +kernel
theorem dX11_rowOfClocks_15 : decode cX11_rowOfClocks 15 = .ok (.astore_n 1, 1) := by decide +kernel
theorem dX11_rowOfClocks_16 : decode cX11_rowOfClocks 16 = .ok (.aload_n 0, 1) := by decide +kernel
theorem dX11_rowOfClocks_17 : decode cX11_rowOfClocks 17 = .ok (.getfield 40, 3) := by decide +kernel
theorem dX11_rowOfClocks_20 : decode cX11_rowOfClocks 20 = .ok (.getfield 309, 3) := by decide +kernel
theorem dX11_rowOfClocks_23 : decode cX11_rowOfClocks 23 = .ok (.iconst 0, 1) := by decide +kernel
theorem dX11_rowOfClocks_24 : decode cX11_rowOfClocks 24 = .ok (.aload_n 1, 1) := by decide +kernel
theorem dX11_rowOfClocks_25 : decode cX11_rowOfClocks 25 = .ok (.getfield 279, 3) := by decide +kernel
theorem dX11_rowOfClocks_28 : decode cX11_rowOfClocks 28 = .ok (.iconst 0, 1) := by decide +kernel
theorem dX11_rowOfClocks_29 : decode cX11_rowOfClocks 29 = .ok (.aload_n 0, 1) := by decide +kernel
theorem dX11_rowOfClocks_30 : decode cX11_rowOfClocks 30 = .ok (.getfield 40, 3) := by decide +kernel
theorem dX11_rowOfClocks_33 : decode cX11_rowOfClocks 33 = .ok (.getfield 114, 3) := by decide +kernel
theorem dX11_rowOfClocks_36 : decode cX11_rowOfClocks 36 = .ok (.invokestatic 296, 3) := by decide +kernel
theorem dX11_rowOfClocks_39 : decode cX11_rowOfClocks 39 = .ok (.aload_n 1, 1) := by decide +kernel
theorem dX11_rowOfClocks_40 : decode cX11_rowOfClocks 40 = .ok (.areturn, 1) := by decide +kernel
theorem dX12_init_0 : decode cX12_init 0 = .ok (.aload_n 0, 1) := by decide +kernel
theorem dX12_init_1 : decode cX12_init 1 = .ok (.invokespecial 1, 3) := by decide +kernel
theorem dX12_init_4 : decode cX12_init 4 = .ok (.aload_n 0, 1) := by decide +kernel
theorem dX12_init_5 : decode cX12_init 5 = .ok (.bipush 24, 2) := by decide +kernel
theorem dX12_init_7 : decode cX12_init 7 = .ok (.newarray .int, 2) := by decide +kernel
theorem dX12_init_9 : decode cX12_init 9 = .ok (.putfield 7, 3) := by decide +kernel
theorem dX12_init_12 : decode cX12_init 12 = .ok (.aload_n 0, 1) := by decide +kernel
theorem dX12_init_13 : decode cX12_init 13 = .ok (.bipush 24, 2) := by decide +kernel
theorem dX12_init_15 : decode cX12_init 15 = .ok (.newarray .int, 2) := by decide +kernel
theorem dX12_init_17 : decode cX12_init 17 = .ok (.putfield 13, 3) := by decide +kernel
theorem dX12_init_20 : decode cX12_init 20 = .ok (.aload_n 0, 1) := by decide +kernel
theorem dX12_init_21 : decode cX12_init 21 = .ok (.bipush 24, 2) := by decide +kernel
theorem dX12_init_23 : decode cX12_init 23 = .ok (.newarray .int, 2) := by decide +kernel
theorem dX12_init_25 : decode cX12_init 25 = .ok (.putfield 16, 3) := by decide +kernel
theorem dX12_init_28 : decode cX12_init 28 = .ok (.aload_n 0, 1) := by decide +kernel
theorem dX12_init_29 : decode cX12_init 29 = .ok (.bipush 24, 2) := by decide +kernel
theorem dX12_init_31 : decode cX12_init 31 = .ok (.newarray .int, 2) := by decide +kernel
theorem dX12_init_33 : decode cX12_init 33 = .ok (.putfield 19, 3) := by decide +kernel
theorem dX12_init_36 : decode cX12_init 36 = .ok (.aload_n 0, 1) := by decide +kernel
theorem dX12_init_37 : decode cX12_init 37 = .ok (.bipush 24, 2) := by decide +kernel
theorem dX12_init_39 : decode cX12_init 39 = .ok (.newarray .int, 2) := by decide +kernel
theorem dX12_init_41 : decode cX12_init 41 = .ok (.putfield 22, 3) := by decide +kernel
theorem dX12_init_44 : decode cX12_init 44 = .ok (.aload_n 0, 1) := by decide +kernel
theorem dX12_init_45 : decode cX12_init 45 = .ok (.bipush 24, 2) := by decide +kernel
theorem dX12_init_47 : decode cX12_init 47 = .ok (.newarray .int, 2) := by decide +kernel
theorem dX12_init_49 : decode cX12_init 49 = .ok (.putfield 25, 3) := by decide +kernel
theorem dX12_init_52 : decode cX12_init 52 = .ok (.aload_n 0, 1) := by decide +kernel
theorem dX12_init_53 : decode cX12_init 53 = .ok (.bipush 24, 2) := by decide +kernel
theorem dX12_init_55 : decode cX12_init 55 = .ok (.newarray .boolean, 2) := by decide +kernel
theorem dX12_init_57 : decode cX12_init 57 = .ok (.putfield 28, 3) := by decide +kernel
theorem dX12_init_60 : decode cX12_init 60 = .ok (.aload_n 0, 1) := by decide +kernel
theorem dX12_init_61 : decode cX12_init 61 = .ok (.bipush 16, 2) := by decide +kernel
theorem dX12_init_63 : decode cX12_init 63 = .ok (.newarray .int, 2) := by decide +kernel
theorem dX12_init_65 : decode cX12_init 65 = .ok (.putfield 32, 3) := by decide +kernel
theorem dX12_init_68 : decode cX12_init 68 = .ok (.aload_n 0, 1) := by decide +kernel
theorem dX12_init_69 : decode cX12_init 69 = .ok (.bipush 8, 2) := by decide +kernel
theorem dX12_init_71 : decode cX12_init 71 = .ok (.newarray .int, 2) := by decide +kernel
theorem dX12_init_73 : decode cX12_init 73 = .ok (.putfield 35, 3) := by decide +kernel
theorem dX12_init_76 : decode cX12_init 76 = .ok (.aload_n 0, 1) := by decide +kernel
theorem dX12_init_77 : decode cX12_init 77 = .ok (.bipush 8, 2) := by decide +kernel
theorem dX12_init_79 : decode cX12_init 79 = .ok (.newarray .int, 2) := by decide +kernel
theorem dX12_init_81 : decode cX12_init 81 = .ok (.putfield 38, 3) := by decide +kernel
theorem dX12_init_84 : decode cX12_init 84 = .ok (.aload_n 0, 1) := by decide +kernel
theorem dX12_init_85 : decode cX12_init 85 = .ok (.bipush 8, 2) := by decide +kernel
theorem dX12_init_87 : decode cX12_init 87 = .ok (.newarray .int, 2) := by decide +kernel
theorem dX12_init_89 : decode cX12_init 89 = .ok (.putfield 41, 3) := by decide +kernel
theorem dX12_init_92 : decode cX12_init 92 = .ok (.aload_n 0, 1) := by decide +kernel
theorem dX12_init_93 : decode cX12_init 93 = .ok (.bipush 61, 2) := by decide +kernel
theorem dX12_init_95 : decode cX12_init 95 = .ok (.newarray .int, 2) := by decide +kernel
theorem dX12_init_97 : decode cX12_init 97 = .ok (.putfield 44, 3) := by decide +kernel
theorem dX12_init_100 : decode cX12_init 100 = .ok (.aload_n 0, 1) := by decide +kernel
theorem dX12_init_101 : decode cX12_init 101 = .ok (.bipush 60, 2) := by decide +kernel
theorem dX12_init_103 : decode cX12_init 103 = .ok (.newarray .int, 2) := by decide +kernel
theorem dX12_init_105 : decode cX12_init 105 = .ok (.putfield 47, 3) := by decide +kernel
theorem dX12_init_108 : decode cX12_init 108 = .ok (.aload_n 0, 1) := by decide +kernel
theorem dX12_init_109 : decode cX12_init 109 = .ok (.bipush 16, 2) := by decide +kernel
theorem dX12_init_111 : decode cX12_init 111 = .ok (.newarray .int, 2) := by decide +kernel
theorem dX12_init_113 : decode cX12_init 113 = .ok (.putfield 50, 3) := by decide +kernel
theorem dX12_init_116 : decode cX12_init 116 = .ok (.aload_n 0, 1) := by decide +kernel
theorem dX12_init_117 : decode cX12_init 117 = .ok (.bipush 10, 2) := by decide +kernel
theorem dX12_init_119 : decode cX12_init 119 = .ok (.newarray .int, 2) := by decide +kernel
theorem dX12_init_121 : decode cX12_init 121 = .ok (.putfield 53, 3) := by decide +kernel
theorem dX12_init_124 : decode cX12_init 124 = .ok (.aload_n 0, 1) := by decide +kernel
theorem dX12_init_125 : decode cX12_init 125 = .ok (.sipush 250, 3) := by decide +kernel
theorem dX12_init_128 : decode cX12_init 128 = .ok (.newarray .int, 2) := by decide +kernel
theorem dX12_init_130 : decode cX12_init 130 = .ok (.putfield 56, 3) := by decide +kernel
theorem dX12_init_133 : decode cX12_init 133 = .ok (.aload_n 0, 1) := by decide +kernel
theorem dX12_init_134 : decode cX12_init 134 = .ok (.sipush 4000, 3) := by decide +kernel
theorem dX12_init_137 : decode cX12_init 137 = .ok (.newarray .int, 2) := by decide +kernel
theorem dX12_init_139 : decode cX12_init 139 = .ok (.putfield 59, 3) := by decide +kernel
theorem dX12_init_142 : decode cX12_init 142 = .ok (.aload_n 0, 1) := by decide +kernel
theorem dX12_init_143 : decode cX12_init 143 = .ok (.sipush 250, 3) := by decide +kernel
theorem dX12_init_146 : decode cX12_init 146 = .ok (.newarray .int, 2) := by decide +kernel
theorem dX12_init_148 : decode cX12_init 148 = .ok (.putfield 62, 3) := by decide +kernel
theorem dX12_init_151 : decode cX12_init 151 = .ok (.aload_n 0, 1) := by decide +kernel
theorem dX12_init_152 : decode cX12_init 152 = .ok (.sipush 250, 3) := by decide +kernel
theorem dX12_init_155 : decode cX12_init 155 = .ok (.newarray .int, 2) := by decide +kernel
theorem dX12_init_157 : decode cX12_init 157 = .ok (.putfield 65, 3) := by decide +kernel
theorem dX12_init_160 : decode cX12_init 160 = .ok (.aload_n 0, 1) := by decide +kernel
theorem dX12_init_161 : decode cX12_init 161 = .ok (.sipush 250, 3) := by decide +kernel
theorem dX12_init_164 : decode cX12_init 164 = .ok (.newarray .int, 2) := by decide +kernel
theorem dX12_init_166 : decode cX12_init 166 = .ok (.putfield 68, 3) := by decide +kernel
theorem dX12_init_169 : decode cX12_init 169 = .ok (.aload_n 0, 1) := by decide +kernel
theorem dX12_init_170 : decode cX12_init 170 = .ok (.sipush 250, 3) := by decide +kernel
theorem dX12_init_173 : decode cX12_init 173 = .ok (.newarray .int, 2) := by decide +kernel
theorem dX12_init_175 : decode cX12_init 175 = .ok (.putfield 71, 3) := by decide +kernel
theorem dX12_init_178 : decode cX12_init 178 = .ok (.aload_n 0, 1) := by decide +kernel
theorem dX12_init_179 : decode cX12_init 179 = .ok (.sipush 250, 3) := by decide +kernel
theorem dX12_init_182 : decode cX12_init 182 = .ok (.newarray .int, 2) := by decide +kernel
theorem dX12_init_184 : decode cX12_init 184 = .ok (.putfield 74, 3) := by decide +kernel
theorem dX12_init_187 : decode cX12_init 187 = .ok (.aload_n 0, 1) := by decide +kernel
theorem dX12_init_188 : decode cX12_init 188 = .ok (.sipush 250, 3) := by decide +kernel
theorem dX12_init_191 : decode cX12_init 191 = .ok (.newarray .int, 2) := by decide +kernel
theorem dX12_init_193 : decode cX12_init 193 = .ok (.putfield 77, 3) := by decide +kernel
theorem dX12_init_196 : decode cX12_init 196 = .ok (.aload_n 0, 1) := by decide +kernel
theorem dX12_init_197 : decode cX12_init 197 = .ok (.sipush 20000, 3) := by decide +kernel
theorem dX12_init_200 : decode cX12_init 200 = .ok (.newarray .int, 2) := by decide +kernel
theorem dX12_init_202 : decode cX12_init 202 = .ok (.putfield 80, 3) := by decide +kernel
theorem dX12_init_205 : decode cX12_init 205 = .ok (.aload_n 0, 1) := by decide +kernel
theorem dX12_init_206 : decode cX12_init 206 = .ok (.sipush 20000, 3) := by decide +kernel
theorem dX12_init_209 : decode cX12_init 209 = .ok (.newarray .int, 2) := by decide +kernel
theorem dX12_init_211 : decode cX12_init 211 = .ok (.putfield 83, 3) := by decide +kernel
theorem dX12_init_214 : decode cX12_init 214 = .ok (.aload_n 0, 1) := by decide +kernel
theorem dX12_init_215 : decode cX12_init 215 = .ok (.sipush 20000, 3) := by decide +kernel
theorem dX12_init_218 : decode cX12_init 218 = .ok (.newarray .int, 2) := by decide +kernel
theorem dX12_init_220 : decode cX12_init 220 = .ok (.putfield 86, 3) := by decide +kernel
theorem dX12_init_223 : decode cX12_init 223 = .ok (.aload_n 0, 1) := by decide +kernel
theorem dX12_init_224 : decode cX12_init 224 = .ok (.bipush 40, 2) := by decide +kernel
theorem dX12_init_226 : decode cX12_init 226 = .ok (.newarray .int, 2) := by decide +kernel
theorem dX12_init_228 : decode cX12_init 228 = .ok (.putfield 89, 3) := by decide +kernel
theorem dX12_init_231 : decode cX12_init 231 = .ok (.aload_n 0, 1) := by decide +kernel
theorem dX12_init_232 : decode cX12_init 232 = .ok (.bipush 8, 2) := by decide +kernel
theorem dX12_init_234 : decode cX12_init 234 = .ok (.newarray .boolean, 2) := by decide +kernel
theorem dX12_init_236 : decode cX12_init 236 = .ok (.putfield 92, 3) := by decide +kernel
theorem dX12_init_239 : decode cX12_init 239 = .ok (.aload_n 0, 1) := by decide +kernel
theorem dX12_init_240 : decode cX12_init 240 = .ok (.bipush 16, 2) := by decide +kernel
theorem dX12_init_242 : decode cX12_init 242 = .ok (.newarray .int, 2) := by decide +kernel
theorem dX12_init_244 : decode cX12_init 244 = .ok (.putfield 95, 3) := by decide +kernel
theorem dX12_init_247 : decode cX12_init 247 = .ok (.aload_n 0, 1) := by decide +kernel
theorem dX12_init_248 : decode cX12_init 248 = .ok (.sipush 250, 3) := by decide +kernel
theorem dX12_init_251 : decode cX12_init 251 = .ok (.newarray .int, 2) := by decide +kernel
theorem dX12_init_253 : decode cX12_init 253 = .ok (.putfield 98, 3) := by decide +kernel
theorem dX12_init_256 : decode cX12_init 256 = .ok (.aload_n 0, 1) := by decide +kernel
theorem dX12_init_257 : decode cX12_init 257 = .ok (.bipush 8, 2) := by decide +kernel
theorem dX12_init_259 : decode cX12_init 259 = .ok (.newarray .int, 2) := by decide +kernel
theorem dX12_init_261 : decode cX12_init 261 = .ok (.putfield 101, 3) := by decide +kernel
theorem dX12_init_264 : decode cX12_init 264 = .ok (.aload_n 0, 1) := by decide +kernel
theorem dX12_init_265 : decode cX12_init 265 = .ok (.bipush 8, 2) := by decide +kernel
theorem dX12_init_267 : decode cX12_init 267 = .ok (.newarray .int, 2) := by decide +kernel
theorem dX12_init_269 : decode cX12_init 269 = .ok (.putfield 104, 3) := by decide +kernel
theorem dX12_init_272 : decode cX12_init 272 = .ok (.aload_n 0, 1) := by decide +kernel
theorem dX12_init_273 : decode cX12_init 273 = .ok (.bipush 8, 2) := by decide +kernel
theorem dX12_init_275 : decode cX12_init 275 = .ok (.newarray .int, 2) := by decide +kernel
theorem dX12_init_277 : decode cX12_init 277 = .ok (.putfield 107, 3) := by decide +kernel
theorem dX12_init_280 : decode cX12_init 280 = .ok (.aload_n 0, 1) := by decide +kernel
theorem dX12_init_281 : decode cX12_init 281 = .ok (.bipush 8, 2) := by decide +kernel
theorem dX12_init_283 : decode cX12_init 283 = .ok (.newarray .int, 2) := by decide +kernel
theorem dX12_init_285 : decode cX12_init 285 = .ok (.putfield 110, 3) := by decide +kernel
theorem dX12_init_288 : decode cX12_init 288 = .ok (.aload_n 0, 1) := by decide +kernel
theorem dX12_init_289 : decode cX12_init 289 = .ok (.sipush 480, 3) := by decide +kernel
theorem dX12_init_292 : decode cX12_init 292 = .ok (.newarray .int, 2) := by decide +kernel
theorem dX12_init_294 : decode cX12_init 294 = .ok (.putfield 113, 3) := by decide +kernel
theorem dX12_init_297 : decode cX12_init 297 = .ok (.aload_n 0, 1) := by decide +kernel
theorem dX12_init_298 : decode cX12_init 298 = .ok (.bipush 60, 2) := by decide +kernel
theorem dX12_init_300 : decode cX12_init 300 = .ok (.newarray .int, 2) := by decide +kernel
theorem dX12_init_302 : decode cX12_init 302 = .ok (.putfield 116, 3) := by decide +kernel
theorem dX12_init_305 : decode cX12_init 305 = .ok (.aload_n 0, 1) := by decide +kernel
theorem dX12_init_306 : decode cX12_init 306 = .ok (.invokevirtual 119, 3) := by decide +kernel
theorem dX12_init_309 : decode cX12_init 309 = .ok (.return_, 1) := by decide +kernel
theorem dX12_thrown_0 : decode cX12_thrown 0 = .ok (.aload_n 0, 1) := by decide +kernel
theorem dX12_thrown_1 : decode cX12_thrown 1 = .ok (.getfield 122, 3) := by decide +kernel
theorem dX12_thrown_4 : decode cX12_thrown 4 = .ok (.ireturn, 1) := by decide +kernel
theorem dX12_isIn_0 : decode cX12_isIn 0 = .ok (.lload_n 0, 1) := by decide +kernel
theorem dX12_isIn_1 : decode cX12_isIn 1 = .ok (.lload_n 2, 1) := by decide +kernel
theorem dX12_isIn_2 : decode cX12_isIn 2 = .ok (.lcmp, 1) := by decide +kernel
theorem dX12_isIn_3 : decode cX12_isIn 3 = .ok (.ifCond .lt 14, 3) := by decide +kernel
theorem dX12_isIn_6 : decode cX12_isIn 6 = .ok (.lload_n 0, 1) := by decide +kernel
theorem dX12_isIn_7 : decode cX12_isIn 7 = .ok (.lload 4, 2) := by decide +kernel
theorem dX12_isIn_9 : decode cX12_isIn 9 = .ok (.lcmp, 1) := by decide +kernel
theorem dX12_isIn_10 : decode cX12_isIn 10 = .ok (.ifCond .gt 7, 3) := by decide +kernel
theorem dX12_isIn_13 : decode cX12_isIn 13 = .ok (.iconst 1, 1) := by decide +kernel
theorem dX12_isIn_14 : decode cX12_isIn 14 = .ok (.goto 4, 3) := by decide +kernel
theorem dX12_isIn_17 : decode cX12_isIn 17 = .ok (.iconst 0, 1) := by decide +kernel
theorem dX12_isIn_18 : decode cX12_isIn 18 = .ok (.ireturn, 1) := by decide +kernel
theorem dX12_isCell_0 : decode cX12_isCell 0 = .ok (.iload_n 1, 1) := by decide +kernel
theorem dX12_isCell_1 : decode cX12_isCell 1 = .ok (.ifCond .lt 15, 3) := by decide +kernel
theorem dX12_isCell_4 : decode cX12_isCell 4 = .ok (.iload_n 1, 1) := by decide +kernel
theorem dX12_isCell_5 : decode cX12_isCell 5 = .ok (.aload_n 0, 1) := by decide +kernel
theorem dX12_isCell_6 : decode cX12_isCell 6 = .ok (.getfield 126, 3) := by decide +kernel
theorem dX12_isCell_9 : decode cX12_isCell 9 = .ok (.if_icmp .ge 7, 3) := by decide +kernel
theorem dX12_isCell_12 : decode cX12_isCell 12 = .ok (.iconst 1, 1) := by decide +kernel
theorem dX12_isCell_13 : decode cX12_isCell 13 = .ok (.goto 4, 3) := by decide +kernel
theorem dX12_isCell_16 : decode cX12_isCell 16 = .ok (.iconst 0, 1) := by decide +kernel
theorem dX12_isCell_17 : decode cX12_isCell 17 = .ok (.ireturn, 1) := by decide +kernel
theorem dX12_isBit_0 : decode cX12_isBit 0 = .ok (.aload_n 0, 1) := by decide +kernel
theorem dX12_isBit_1 : decode cX12_isBit 1 = .ok (.iload_n 1, 1) := by decide +kernel
theorem dX12_isBit_2 : decode cX12_isBit 2 = .ok (.invokevirtual 129, 3) := by decide +kernel
theorem dX12_isBit_5 : decode cX12_isBit 5 = .ok (.ifCond .eq 17, 3) := by decide +kernel
theorem dX12_isBit_8 : decode cX12_isBit 8 = .ok (.aload_n 0, 1) := by decide +kernel
theorem dX12_isBit_9 : decode cX12_isBit 9 = .ok (.getfield 7, 3) := by decide +kernel
theorem dX12_isBit_12 : decode cX12_isBit 12 = .ok (.iload_n 1, 1) := by decide +kernel
theorem dX12_isBit_13 : decode cX12_isBit 13 = .ok (.iaload, 1) := by decide +kernel
theorem dX12_isBit_14 : decode cX12_isBit 14 = .ok (.iconst 4, 1) := by decide +kernel
theorem dX12_isBit_15 : decode cX12_isBit 15 = .ok (.if_icmp .le 7, 3) := by decide +kernel
theorem dX12_isBit_18 : decode cX12_isBit 18 = .ok (.iconst 1, 1) := by decide +kernel
theorem dX12_isBit_19 : decode cX12_isBit 19 = .ok (.goto 4, 3) := by decide +kernel
theorem dX12_isBit_22 : decode cX12_isBit 22 = .ok (.iconst 0, 1) := by decide +kernel
theorem dX12_isBit_23 : decode cX12_isBit 23 = .ok (.ireturn, 1) := by decide +kernel
theorem dX12_isKeeper_0 : decode cX12_isKeeper 0 = .ok (.aload_n 0, 1) := by decide +kernel
theorem dX12_isKeeper_1 : decode cX12_isKeeper 1 = .ok (.iload_n 1, 1) := by decide +kernel
theorem dX12_isKeeper_2 : decode cX12_isKeeper 2 = .ok (.invokevirtual 129, 3) := by decide +kernel
theorem dX12_isKeeper_5 : decode cX12_isKeeper 5 = .ok (.ifCond .eq 18, 3) := by decide +kernel
theorem dX12_isKeeper_8 : decode cX12_isKeeper 8 = .ok (.aload_n 0, 1) := by decide +kernel
theorem dX12_isKeeper_9 : decode cX12_isKeeper 9 = .ok (.getfield 7, 3) := by decide +kernel
theorem dX12_isKeeper_12 : decode cX12_isKeeper 12 = .ok (.iload_n 1, 1) := by decide +kernel
theorem dX12_isKeeper_13 : decode cX12_isKeeper 13 = .ok (.iaload, 1) := by decide +kernel
theorem dX12_isKeeper_14 : decode cX12_isKeeper 14 = .ok (.bipush 6, 2) := by decide +kernel
theorem dX12_isKeeper_16 : decode cX12_isKeeper 16 = .ok (.if_icmp .ne 7, 3) := by decide +kernel
theorem dX12_isKeeper_19 : decode cX12_isKeeper 19 = .ok (.iconst 1, 1) := by decide +kernel
theorem dX12_isKeeper_20 : decode cX12_isKeeper 20 = .ok (.goto 4, 3) := by decide +kernel
theorem dX12_isKeeper_23 : decode cX12_isKeeper 23 = .ok (.iconst 0, 1) := by decide +kernel
theorem dX12_isKeeper_24 : decode cX12_isKeeper 24 = .ok (.ireturn, 1) := by decide +kernel
theorem dX12_bitOf_0 : decode cX12_bitOf 0 = .ok (.iload_n 0, 1) := by decide +kernel
theorem dX12_bitOf_1 : decode cX12_bitOf 1 = .ok (.iload_n 1, 1) := by decide +kernel
theorem dX12_bitOf_2 : decode cX12_bitOf 2 = .ok (.ishr, 1) := by decide +kernel
theorem dX12_bitOf_3 : decode cX12_bitOf 3 = .ok (.iconst 1, 1) := by decide +kernel
theorem dX12_bitOf_4 : decode cX12_bitOf 4 = .ok (.iand, 1) := by decide +kernel
theorem dX12_bitOf_5 : decode cX12_bitOf 5 = .ok (.ireturn, 1) := by decide +kernel
theorem dX12_settle_0 : decode cX12_settle 0 = .ok (.iload_n 1, 1) := by decide +kernel
theorem dX12_settle_1 : decode cX12_settle 1 = .ok (.istore_n 2, 1) := by decide +kernel
theorem dX12_settle_2 : decode cX12_settle 2 = .ok (.iconst 0, 1) := by decide +kernel
theorem dX12_settle_3 : decode cX12_settle 3 = .ok (.istore_n 3, 1) := by decide +kernel
theorem dX12_settle_4 : decode cX12_settle 4 = .ok (.iload_n 3, 1) := by decide +kernel
theorem dX12_settle_5 : decode cX12_settle 5 = .ok (.aload_n 0, 1) := by decide +kernel
theorem dX12_settle_6 : decode cX12_settle 6 = .ok (.getfield 126, 3) := by decide +kernel
theorem dX12_settle_9 : decode cX12_settle 9 = .ok (.if_icmp .ge 172, 3) := by decide +kernel
theorem dX12_settle_12 : decode cX12_settle 12 = .ok (.aload_n 0, 1) := by decide +kernel
theorem dX12_settle_13 : decode cX12_settle 13 = .ok (.getfield 7, 3) := by decide +kernel
theorem dX12_settle_16 : decode cX12_settle 16 = .ok (.iload_n 3, 1) := by decide +kernel
theorem dX12_settle_17 : decode cX12_settle 17 = .ok (.iaload, 1) := by decide +kernel
theorem dX12_settle_18 : decode cX12_settle 18 = .ok (.iconst 4, 1) := by decide +kernel
theorem dX12_settle_19 : decode cX12_settle 19 = .ok (.if_icmp .le 6, 3) := by decide +kernel
theorem dX12_settle_22 : decode cX12_settle 22 = .ok (.goto 153, 3) := by decide +kernel
theorem dX12_settle_25 : decode cX12_settle 25 = .ok (.iload_n 2, 1) := by decide +kernel
theorem dX12_settle_26 : decode cX12_settle 26 = .ok (.aload_n 0, 1) := by decide +kernel
theorem dX12_settle_27 : decode cX12_settle 27 = .ok (.getfield 19, 3) := by decide +kernel
theorem dX12_settle_30 : decode cX12_settle 30 = .ok (.iload_n 3, 1) := by decide +kernel
theorem dX12_settle_31 : decode cX12_settle 31 = .ok (.iaload, 1) := by decide +kernel
theorem dX12_settle_32 : decode cX12_settle 32 = .ok (.invokestatic 133, 3) := by decide +kernel
theorem dX12_settle_35 : decode cX12_settle 35 = .ok (.istore 4, 2) := by decide +kernel
theorem dX12_settle_37 : decode cX12_settle 37 = .ok (.aload_n 0, 1) := by decide +kernel
theorem dX12_settle_38 : decode cX12_settle 38 = .ok (.getfield 7, 3) := by decide +kernel
theorem dX12_settle_41 : decode cX12_settle 41 = .ok (.iload_n 3, 1) := by decide +kernel
theorem dX12_settle_42 : decode cX12_settle 42 = .ok (.iaload, 1) := by decide +kernel
theorem dX12_settle_43 : decode cX12_settle 43 = .ok (.iconst 3, 1) := by decide +kernel
theorem dX12_settle_44 : decode cX12_settle 44 = .ok (.if_icmp .ne 7, 3) := by decide +kernel
theorem dX12_settle_47 : decode cX12_settle 47 = .ok (.iconst 0, 1) := by decide +kernel
theorem dX12_settle_48 : decode cX12_settle 48 = .ok (.goto 13, 3) := by decide +kernel
theorem dX12_settle_51 : decode cX12_settle 51 = .ok (.iload_n 2, 1) := by decide +kernel
theorem dX12_settle_52 : decode cX12_settle 52 = .ok (.aload_n 0, 1) := by decide +kernel
theorem dX12_settle_53 : decode cX12_settle 53 = .ok (.getfield 22, 3) := by decide +kernel
theorem dX12_settle_56 : decode cX12_settle 56 = .ok (.iload_n 3, 1) := by decide +kernel
theorem dX12_settle_57 : decode cX12_settle 57 = .ok (.iaload, 1) := by decide +kernel
theorem dX12_settle_58 : decode cX12_settle 58 = .ok (.invokestatic 133, 3) := by decide +kernel
theorem dX12_settle_61 : decode cX12_settle 61 = .ok (.istore 5, 2) := by decide +kernel
theorem dX12_settle_63 : decode cX12_settle 63 = .ok (.aload_n 0, 1) := by decide +kernel
theorem dX12_settle_64 : decode cX12_settle 64 = .ok (.getfield 7, 3) := by decide +kernel
theorem dX12_settle_67 : decode cX12_settle 67 = .ok (.iload_n 3, 1) := by decide +kernel
theorem dX12_settle_68 : decode cX12_settle 68 = .ok (.iaload, 1) := by decide +kernel
theorem dX12_settle_69 : decode cX12_settle 69 = .ok (.tableswitch 70 0 3 #[31, 41, 51, 61], 31) := by decide +kernel
theorem dX12_settle_100 : decode cX12_settle 100 = .ok (.iload 4, 2) := by decide +kernel
theorem dX12_settle_102 : decode cX12_settle 102 = .ok (.iload 5, 2) := by decide +kernel
theorem dX12_settle_104 : decode cX12_settle 104 = .ok (.iand, 1) := by decide +kernel
theorem dX12_settle_105 : decode cX12_settle 105 = .ok (.istore 6, 2) := by decide +kernel
theorem dX12_settle_107 : decode cX12_settle 107 = .ok (.goto 55, 3) := by decide +kernel
theorem dX12_settle_110 : decode cX12_settle 110 = .ok (.iload 4, 2) := by decide +kernel
theorem dX12_settle_112 : decode cX12_settle 112 = .ok (.iload 5, 2) := by decide +kernel
theorem dX12_settle_114 : decode cX12_settle 114 = .ok (.ior, 1) := by decide +kernel
theorem dX12_settle_115 : decode cX12_settle 115 = .ok (.istore 6, 2) := by decide +kernel
theorem dX12_settle_117 : decode cX12_settle 117 = .ok (.goto 45, 3) := by decide +kernel
theorem dX12_settle_120 : decode cX12_settle 120 = .ok (.iload 4, 2) := by decide +kernel
theorem dX12_settle_122 : decode cX12_settle 122 = .ok (.iload 5, 2) := by decide +kernel
theorem dX12_settle_124 : decode cX12_settle 124 = .ok (.ixor, 1) := by decide +kernel
theorem dX12_settle_125 : decode cX12_settle 125 = .ok (.istore 6, 2) := by decide +kernel
theorem dX12_settle_127 : decode cX12_settle 127 = .ok (.goto 35, 3) := by decide +kernel
theorem dX12_settle_130 : decode cX12_settle 130 = .ok (.iconst 1, 1) := by decide +kernel
theorem dX12_settle_131 : decode cX12_settle 131 = .ok (.iload 4, 2) := by decide +kernel
theorem dX12_settle_133 : decode cX12_settle 133 = .ok (.isub, 1) := by decide +kernel
theorem dX12_settle_134 : decode cX12_settle 134 = .ok (.istore 6, 2) := by decide +kernel
theorem dX12_settle_136 : decode cX12_settle 136 = .ok (.goto 26, 3) := by decide +kernel
theorem dX12_settle_139 : decode cX12_settle 139 = .ok (.iload 4, 2) := by decide +kernel
theorem dX12_settle_141 : decode cX12_settle 141 = .ok (.iconst 1, 1) := by decide +kernel
theorem dX12_settle_142 : decode cX12_settle 142 = .ok (.if_icmp .ne 8, 3) := by decide +kernel
theorem dX12_settle_145 : decode cX12_settle 145 = .ok (.iload 5, 2) := by decide +kernel
theorem dX12_settle_147 : decode cX12_settle 147 = .ok (.goto 13, 3) := by decide +kernel
theorem dX12_settle_150 : decode cX12_settle 150 = .ok (.iload_n 2, 1) := by decide +kernel
theorem dX12_settle_151 : decode cX12_settle 151 = .ok (.aload_n 0, 1) := by decide +kernel
theorem dX12_settle_152 : decode cX12_settle 152 = .ok (.getfield 25, 3) := by decide +kernel
theorem dX12_settle_155 : decode cX12_settle 155 = .ok (.iload_n 3, 1) := by decide +kernel
theorem dX12_settle_156 : decode cX12_settle 156 = .ok (.iaload, 1) := by decide +kernel
theorem dX12_settle_157 : decode cX12_settle 157 = .ok (.invokestatic 133, 3) := by decide +kernel
theorem dX12_settle_160 : decode cX12_settle 160 = .ok (.istore 6, 2) := by decide +kernel
theorem dX12_settle_162 : decode cX12_settle 162 = .ok (.iload_n 2, 1) := by decide +kernel
theorem dX12_settle_163 : decode cX12_settle 163 = .ok (.iconst 1, 1) := by decide +kernel
theorem dX12_settle_164 : decode cX12_settle 164 = .ok (.iload_n 3, 1) := by decide +kernel
theorem dX12_settle_165 : decode cX12_settle 165 = .ok (.ishl, 1) := by decide +kernel
theorem dX12_settle_166 : decode cX12_settle 166 = .ok (.iconst (-1), 1) := by decide +kernel
theorem dX12_settle_167 : decode cX12_settle 167 = .ok (.ixor, 1) := by decide +kernel
theorem dX12_settle_168 : decode cX12_settle 168 = .ok (.iand, 1) := by decide +kernel
theorem dX12_settle_169 : decode cX12_settle 169 = .ok (.iload 6, 2) := by decide +kernel
theorem dX12_settle_171 : decode cX12_settle 171 = .ok (.iload_n 3, 1) := by decide +kernel
theorem dX12_settle_172 : decode cX12_settle 172 = .ok (.ishl, 1) := by decide +kernel
theorem dX12_settle_173 : decode cX12_settle 173 = .ok (.ior, 1) := by decide +kernel
theorem dX12_settle_174 : decode cX12_settle 174 = .ok (.istore_n 2, 1) := by decide +kernel
theorem dX12_settle_175 : decode cX12_settle 175 = .ok (.iinc 3 1, 3) := by decide +kernel
theorem dX12_settle_178 : decode cX12_settle 178 = .ok (.goto (-174), 3) := by decide +kernel
theorem dX12_settle_181 : decode cX12_settle 181 = .ok (.iload_n 2, 1) := by decide +kernel
theorem dX12_settle_182 : decode cX12_settle 182 = .ok (.ireturn, 1) := by decide +kernel
theorem dX12_beginning_0 : decode cX12_beginning 0 = .ok (.iconst 0, 1) := by decide +kernel
theorem dX12_beginning_1 : decode cX12_beginning 1 = .ok (.istore_n 1, 1) := by decide +kernel
theorem dX12_beginning_2 : decode cX12_beginning 2 = .ok (.iconst 0, 1) := by decide +kernel
theorem dX12_beginning_3 : decode cX12_beginning 3 = .ok (.istore_n 2, 1) := by decide +kernel
theorem dX12_beginning_4 : decode cX12_beginning 4 = .ok (.iload_n 2, 1) := by decide +kernel
theorem dX12_beginning_5 : decode cX12_beginning 5 = .ok (.aload_n 0, 1) := by decide +kernel
theorem dX12_beginning_6 : decode cX12_beginning 6 = .ok (.getfield 126, 3) := by decide +kernel
theorem dX12_beginning_9 : decode cX12_beginning 9 = .ok (.if_icmp .ge 40, 3) := by decide +kernel
theorem dX12_beginning_12 : decode cX12_beginning 12 = .ok (.iload_n 1, 1) := by decide +kernel
theorem dX12_beginning_13 : decode cX12_beginning 13 = .ok (.aload_n 0, 1) := by decide +kernel
theorem dX12_beginning_14 : decode cX12_beginning 14 = .ok (.getfield 7, 3) := by decide +kernel
theorem dX12_beginning_17 : decode cX12_beginning 17 = .ok (.iload_n 2, 1) := by decide +kernel
theorem dX12_beginning_18 : decode cX12_beginning 18 = .ok (.iaload, 1) := by decide +kernel
theorem dX12_beginning_19 : decode cX12_beginning 19 = .ok (.bipush 6, 2) := by decide +kernel
theorem dX12_beginning_21 : decode cX12_beginning 21 = .ok (.if_icmp .ne 19, 3) := by decide +kernel
theorem dX12_beginning_24 : decode cX12_beginning 24 = .ok (.aload_n 0, 1) := by decide +kernel
theorem dX12_beginning_25 : decode cX12_beginning 25 = .ok (.getfield 16, 3) := by decide +kernel
theorem dX12_beginning_28 : decode cX12_beginning 28 = .ok (.iload_n 2, 1) := by decide +kernel
theorem dX12_beginning_29 : decode cX12_beginning 29 = .ok (.iaload, 1) := by decide +kernel
theorem dX12_beginning_30 : decode cX12_beginning 30 = .ok (.iconst 1, 1) := by decide +kernel
theorem dX12_beginning_31 : decode cX12_beginning 31 = .ok (.if_icmp .ne 9, 3) := by decide +kernel
theorem dX12_beginning_34 : decode cX12_beginning 34 = .ok (.iconst 1, 1) := by decide +kernel
theorem dX12_beginning_35 : decode cX12_beginning 35 = .ok (.iload_n 2, 1) := by decide +kernel
theorem dX12_beginning_36 : decode cX12_beginning 36 = .ok (.ishl, 1) := by decide +kernel
theorem dX12_beginning_37 : decode cX12_beginning 37 = .ok (.goto 4, 3) := by decide +kernel
theorem dX12_beginning_40 : decode cX12_beginning 40 = .ok (.iconst 0, 1) := by decide +kernel
theorem dX12_beginning_41 : decode cX12_beginning 41 = .ok (.ior, 1) := by decide +kernel
theorem dX12_beginning_42 : decode cX12_beginning 42 = .ok (.istore_n 1, 1) := by decide +kernel
theorem dX12_beginning_43 : decode cX12_beginning 43 = .ok (.iinc 2 1, 3) := by decide +kernel
theorem dX12_beginning_46 : decode cX12_beginning 46 = .ok (.goto (-42), 3) := by decide +kernel
theorem dX12_beginning_49 : decode cX12_beginning 49 = .ok (.aload_n 0, 1) := by decide +kernel
theorem dX12_beginning_50 : decode cX12_beginning 50 = .ok (.iload_n 1, 1) := by decide +kernel
theorem dX12_beginning_51 : decode cX12_beginning 51 = .ok (.invokevirtual 137, 3) := by decide +kernel
theorem dX12_beginning_54 : decode cX12_beginning 54 = .ok (.ireturn, 1) := by decide +kernel
theorem dX12_begin_0 : decode cX12_begin 0 = .ok (.aload_n 0, 1) := by decide +kernel
theorem dX12_begin_1 : decode cX12_begin 1 = .ok (.iconst 0, 1) := by decide +kernel
theorem dX12_begin_2 : decode cX12_begin 2 = .ok (.putfield 141, 3) := by decide +kernel
theorem dX12_begin_5 : decode cX12_begin 5 = .ok (.aload_n 0, 1) := by decide +kernel
theorem dX12_begin_6 : decode cX12_begin 6 = .ok (.iconst 0, 1) := by decide +kernel
theorem dX12_begin_7 : decode cX12_begin 7 = .ok (.putfield 144, 3) := by decide +kernel
theorem dX12_begin_10 : decode cX12_begin 10 = .ok (.aload_n 0, 1) := by decide +kernel
theorem dX12_begin_11 : decode cX12_begin 11 = .ok (.getfield 44, 3) := by decide +kernel
theorem dX12_begin_14 : decode cX12_begin 14 = .ok (.iconst 0, 1) := by decide +kernel
theorem dX12_begin_15 : decode cX12_begin 15 = .ok (.aload_n 0, 1) := by decide +kernel
theorem dX12_begin_16 : decode cX12_begin 16 = .ok (.invokevirtual 147, 3) := by decide +kernel
theorem dX12_begin_19 : decode cX12_begin 19 = .ok (.iastore, 1) := by decide +kernel
theorem dX12_begin_20 : decode cX12_begin 20 = .ok (.iconst 0, 1) := by decide +kernel
theorem dX12_begin_21 : decode cX12_begin 21 = .ok (.istore_n 1, 1) := by decide +kernel
theorem dX12_begin_22 : decode cX12_begin 22 = .ok (.iload_n 1, 1) := by decide +kernel
theorem dX12_begin_23 : decode cX12_begin 23 = .ok (.bipush 16, 2) := by decide +kernel
theorem dX12_begin_25 : decode cX12_begin 25 = .ok (.if_icmp .ge 16, 3) := by decide +kernel
theorem dX12_begin_28 : decode cX12_begin 28 = .ok (.aload_n 0, 1) := by decide +kernel
theorem dX12_begin_29 : decode cX12_begin 29 = .ok (.getfield 50, 3) := by decide +kernel
theorem dX12_begin_32 : decode cX12_begin 32 = .ok (.iload_n 1, 1) := by decide +kernel
theorem dX12_begin_33 : decode cX12_begin 33 = .ok (.iconst 0, 1) := by decide +kernel
theorem dX12_begin_34 : decode cX12_begin 34 = .ok (.iastore, 1) := by decide +kernel
theorem dX12_begin_35 : decode cX12_begin 35 = .ok (.iinc 1 1, 3) := by decide +kernel
theorem dX12_begin_38 : decode cX12_begin 38 = .ok (.goto (-16), 3) := by decide +kernel
theorem dX12_begin_41 : decode cX12_begin 41 = .ok (.return_, 1) := by decide +kernel
theorem dX12_changed_0 : decode cX12_changed 0 = .ok (.aload_n 0, 1) := by decide +kernel
theorem dX12_changed_1 : decode cX12_changed 1 = .ok (.invokevirtual 119, 3) := by decide +kernel
theorem dX12_changed_4 : decode cX12_changed 4 = .ok (.aload_n 0, 1) := by decide +kernel
theorem dX12_changed_5 : decode cX12_changed 5 = .ok (.invokevirtual 151, 3) := by decide +kernel
theorem dX12_changed_8 : decode cX12_changed 8 = .ok (.return_, 1) := by decide +kernel
theorem dX12_input_0 : decode cX12_input 0 = .ok (.aload_n 0, 1) := by decide +kernel
theorem dX12_input_1 : decode cX12_input 1 = .ok (.iconst 0, 1) := by decide +kernel
theorem dX12_input_2 : decode cX12_input 2 = .ok (.putfield 122, 3) := by decide +kernel
theorem dX12_input_5 : decode cX12_input 5 = .ok (.iload_n 1, 1) := by decide +kernel
theorem dX12_input_6 : decode cX12_input 6 = .ok (.i2l, 1) := by decide +kernel
theorem dX12_input_7 : decode cX12_input 7 = .ok (.lconst 0, 1) := by decide +kernel
theorem dX12_input_8 : decode cX12_input 8 = .ok (.ldc2_w 154, 3) := by decide +kernel
theorem dX12_input_11 : decode cX12_input 11 = .ok (.invokestatic 156, 3) := by decide +kernel
theorem dX12_input_14 : decode cX12_input 14 = .ok (.ifCond .ne 5, 3) := by decide +kernel
theorem dX12_input_17 : decode cX12_input 17 = .ok (.iconst (-1), 1) := by decide +kernel
theorem dX12_input_18 : decode cX12_input 18 = .ok (.ireturn, 1) := by decide +kernel
theorem dX12_input_19 : decode cX12_input 19 = .ok (.aload_n 0, 1) := by decide +kernel
theorem dX12_input_20 : decode cX12_input 20 = .ok (.getfield 126, 3) := by decide +kernel
theorem dX12_input_23 : decode cX12_input 23 = .ok (.bipush 24, 2) := by decide +kernel
theorem dX12_input_25 : decode cX12_input 25 = .ok (.if_icmp .eq 12, 3) := by decide +kernel
theorem dX12_input_28 : decode cX12_input 28 = .ok (.aload_n 0, 1) := by decide +kernel
theorem dX12_input_29 : decode cX12_input 29 = .ok (.getfield 160, 3) := by decide +kernel
theorem dX12_input_32 : decode cX12_input 32 = .ok (.bipush 10, 2) := by decide +kernel
theorem dX12_input_34 : decode cX12_input 34 = .ok (.if_icmp .ne 6, 3) := by decide +kernel
theorem dX12_input_37 : decode cX12_input 37 = .ok (.bipush (-2), 2) := by decide +kernel
theorem dX12_input_39 : decode cX12_input 39 = .ok (.ireturn, 1) := by decide +kernel
theorem dX12_input_40 : decode cX12_input 40 = .ok (.aload_n 0, 1) := by decide +kernel
theorem dX12_input_41 : decode cX12_input 41 = .ok (.iconst 5, 1) := by decide +kernel
theorem dX12_input_42 : decode cX12_input 42 = .ok (.iload_n 1, 1) := by decide +kernel
theorem dX12_input_43 : decode cX12_input 43 = .ok (.iconst 0, 1) := by decide +kernel
theorem dX12_input_44 : decode cX12_input 44 = .ok (.invokevirtual 163, 3) := by decide +kernel
theorem dX12_input_47 : decode cX12_input 47 = .ok (.aload_n 0, 1) := by decide +kernel
theorem dX12_input_48 : decode cX12_input 48 = .ok (.getfield 126, 3) := by decide +kernel
theorem dX12_input_51 : decode cX12_input 51 = .ok (.iconst 1, 1) := by decide +kernel
theorem dX12_input_52 : decode cX12_input 52 = .ok (.isub, 1) := by decide +kernel
theorem dX12_input_53 : decode cX12_input 53 = .ok (.ireturn, 1) := by decide +kernel
theorem dX12_add_0 : decode cX12_add 0 = .ok (.aload_n 0, 1) := by decide +kernel
theorem dX12_add_1 : decode cX12_add 1 = .ok (.getfield 7, 3) := by decide +kernel
theorem dX12_add_4 : decode cX12_add 4 = .ok (.aload_n 0, 1) := by decide +kernel
theorem dX12_add_5 : decode cX12_add 5 = .ok (.getfield 126, 3) := by decide +kernel
theorem dX12_add_8 : decode cX12_add 8 = .ok (.iload_n 1, 1) := by decide +kernel
theorem dX12_add_9 : decode cX12_add 9 = .ok (.iastore, 1) := by decide +kernel
theorem dX12_add_10 : decode cX12_add 10 = .ok (.aload_n 0, 1) := by decide +kernel
theorem dX12_add_11 : decode cX12_add 11 = .ok (.getfield 13, 3) := by decide +kernel
theorem dX12_add_14 : decode cX12_add 14 = .ok (.aload_n 0, 1) := by decide +kernel
theorem dX12_add_15 : decode cX12_add 15 = .ok (.getfield 126, 3) := by decide +kernel
theorem dX12_add_18 : decode cX12_add 18 = .ok (.iload_n 2, 1) := by decide +kernel
theorem dX12_add_19 : decode cX12_add 19 = .ok (.iastore, 1) := by decide +kernel
theorem dX12_add_20 : decode cX12_add 20 = .ok (.aload_n 0, 1) := by decide +kernel
theorem dX12_add_21 : decode cX12_add 21 = .ok (.getfield 16, 3) := by decide +kernel
theorem dX12_add_24 : decode cX12_add 24 = .ok (.aload_n 0, 1) := by decide +kernel
theorem dX12_add_25 : decode cX12_add 25 = .ok (.getfield 126, 3) := by decide +kernel
theorem dX12_add_28 : decode cX12_add 28 = .ok (.iload_n 3, 1) := by decide +kernel
theorem dX12_add_29 : decode cX12_add 29 = .ok (.iastore, 1) := by decide +kernel
theorem dX12_add_30 : decode cX12_add 30 = .ok (.aload_n 0, 1) := by decide +kernel
theorem dX12_add_31 : decode cX12_add 31 = .ok (.getfield 19, 3) := by decide +kernel
theorem dX12_add_34 : decode cX12_add 34 = .ok (.aload_n 0, 1) := by decide +kernel
theorem dX12_add_35 : decode cX12_add 35 = .ok (.getfield 126, 3) := by decide +kernel
theorem dX12_add_38 : decode cX12_add 38 = .ok (.aload_n 0, 1) := by decide +kernel
theorem dX12_add_39 : decode cX12_add 39 = .ok (.getfield 126, 3) := by decide +kernel
theorem dX12_add_42 : decode cX12_add 42 = .ok (.iastore, 1) := by decide +kernel
theorem dX12_add_43 : decode cX12_add 43 = .ok (.aload_n 0, 1) := by decide +kernel
theorem dX12_add_44 : decode cX12_add 44 = .ok (.getfield 22, 3) := by decide +kernel
theorem dX12_add_47 : decode cX12_add 47 = .ok (.aload_n 0, 1) := by decide +kernel
theorem dX12_add_48 : decode cX12_add 48 = .ok (.getfield 126, 3) := by decide +kernel
theorem dX12_add_51 : decode cX12_add 51 = .ok (.bipush (-2), 2) := by decide +kernel
theorem dX12_add_53 : decode cX12_add 53 = .ok (.iastore, 1) := by decide +kernel
theorem dX12_add_54 : decode cX12_add 54 = .ok (.aload_n 0, 1) := by decide +kernel
theorem dX12_add_55 : decode cX12_add 55 = .ok (.getfield 25, 3) := by decide +kernel
theorem dX12_add_58 : decode cX12_add 58 = .ok (.aload_n 0, 1) := by decide +kernel
theorem dX12_add_59 : decode cX12_add 59 = .ok (.getfield 126, 3) := by decide +kernel
theorem dX12_add_62 : decode cX12_add 62 = .ok (.bipush (-2), 2) := by decide +kernel
theorem dX12_add_64 : decode cX12_add 64 = .ok (.iastore, 1) := by decide +kernel
theorem dX12_add_65 : decode cX12_add 65 = .ok (.aload_n 0, 1) := by decide +kernel
theorem dX12_add_66 : decode cX12_add 66 = .ok (.getfield 28, 3) := by decide +kernel
theorem dX12_add_69 : decode cX12_add 69 = .ok (.aload_n 0, 1) := by decide +kernel
theorem dX12_add_70 : decode cX12_add 70 = .ok (.getfield 126, 3) := by decide +kernel
theorem dX12_add_73 : decode cX12_add 73 = .ok (.iconst 0, 1) := by decide +kernel
theorem dX12_add_74 : decode cX12_add 74 = .ok (.bastore, 1) := by decide +kernel
theorem dX12_add_75 : decode cX12_add 75 = .ok (.aload_n 0, 1) := by decide +kernel
theorem dX12_add_76 : decode cX12_add 76 = .ok (.dup, 1) := by decide +kernel
theorem dX12_add_77 : decode cX12_add 77 = .ok (.getfield 160, 3) := by decide +kernel
theorem dX12_add_80 : decode cX12_add 80 = .ok (.iconst 1, 1) := by decide +kernel
theorem dX12_add_81 : decode cX12_add 81 = .ok (.iadd, 1) := by decide +kernel
theorem dX12_add_82 : decode cX12_add 82 = .ok (.putfield 160, 3) := by decide +kernel
theorem dX12_add_85 : decode cX12_add 85 = .ok (.aload_n 0, 1) := by decide +kernel
theorem dX12_add_86 : decode cX12_add 86 = .ok (.dup, 1) := by decide +kernel
theorem dX12_add_87 : decode cX12_add 87 = .ok (.getfield 126, 3) := by decide +kernel
theorem dX12_add_90 : decode cX12_add 90 = .ok (.iconst 1, 1) := by decide +kernel
theorem dX12_add_91 : decode cX12_add 91 = .ok (.iadd, 1) := by decide +kernel
theorem dX12_add_92 : decode cX12_add 92 = .ok (.putfield 126, 3) := by decide +kernel
theorem dX12_add_95 : decode cX12_add 95 = .ok (.aload_n 0, 1) := by decide +kernel
theorem dX12_add_96 : decode cX12_add 96 = .ok (.invokevirtual 167, 3) := by decide +kernel
theorem dX12_add_99 : decode cX12_add 99 = .ok (.return_, 1) := by decide +kernel
theorem dX12_keeper_0 : decode cX12_keeper 0 = .ok (.aload_n 0, 1) := by decide +kernel
theorem dX12_keeper_1 : decode cX12_keeper 1 = .ok (.iconst 0, 1) := by decide +kernel
theorem dX12_keeper_2 : decode cX12_keeper 2 = .ok (.putfield 122, 3) := by decide +kernel
theorem dX12_keeper_5 : decode cX12_keeper 5 = .ok (.iload_n 1, 1) := by decide +kernel
theorem dX12_keeper_6 : decode cX12_keeper 6 = .ok (.i2l, 1) := by decide +kernel
theorem dX12_keeper_7 : decode cX12_keeper 7 = .ok (.lconst 0, 1) := by decide +kernel
theorem dX12_keeper_8 : decode cX12_keeper 8 = .ok (.ldc2_w 154, 3) := by decide +kernel
theorem dX12_keeper_11 : decode cX12_keeper 11 = .ok (.invokestatic 156, 3) := by decide +kernel
theorem dX12_keeper_14 : decode cX12_keeper 14 = .ok (.ifCond .eq 13, 3) := by decide +kernel
theorem dX12_keeper_17 : decode cX12_keeper 17 = .ok (.iload_n 2, 1) := by decide +kernel
theorem dX12_keeper_18 : decode cX12_keeper 18 = .ok (.i2l, 1) := by decide +kernel
theorem dX12_keeper_19 : decode cX12_keeper 19 = .ok (.lconst 0, 1) := by decide +kernel
theorem dX12_keeper_20 : decode cX12_keeper 20 = .ok (.lconst 1, 1) := by decide +kernel
theorem dX12_keeper_21 : decode cX12_keeper 21 = .ok (.invokestatic 156, 3) := by decide +kernel
theorem dX12_keeper_24 : decode cX12_keeper 24 = .ok (.ifCond .ne 5, 3) := by decide +kernel
theorem dX12_keeper_27 : decode cX12_keeper 27 = .ok (.iconst (-1), 1) := by decide +kernel
theorem dX12_keeper_28 : decode cX12_keeper 28 = .ok (.ireturn, 1) := by decide +kernel
theorem dX12_keeper_29 : decode cX12_keeper 29 = .ok (.aload_n 0, 1) := by decide +kernel
theorem dX12_keeper_30 : decode cX12_keeper 30 = .ok (.getfield 126, 3) := by decide +kernel
theorem dX12_keeper_33 : decode cX12_keeper 33 = .ok (.bipush 24, 2) := by decide +kernel
theorem dX12_keeper_35 : decode cX12_keeper 35 = .ok (.if_icmp .eq 12, 3) := by decide +kernel
theorem dX12_keeper_38 : decode cX12_keeper 38 = .ok (.aload_n 0, 1) := by decide +kernel
theorem dX12_keeper_39 : decode cX12_keeper 39 = .ok (.getfield 160, 3) := by decide +kernel
theorem dX12_keeper_42 : decode cX12_keeper 42 = .ok (.bipush 10, 2) := by decide +kernel
theorem dX12_keeper_44 : decode cX12_keeper 44 = .ok (.if_icmp .ne 6, 3) := by decide +kernel
theorem dX12_keeper_47 : decode cX12_keeper 47 = .ok (.bipush (-2), 2) := by decide +kernel
theorem dX12_keeper_49 : decode cX12_keeper 49 = .ok (.ireturn, 1) := by decide +kernel
theorem dX12_keeper_50 : decode cX12_keeper 50 = .ok (.aload_n 0, 1) := by decide +kernel
theorem dX12_keeper_51 : decode cX12_keeper 51 = .ok (.bipush 6, 2) := by decide +kernel
theorem dX12_keeper_53 : decode cX12_keeper 53 = .ok (.iload_n 1, 1) := by decide +kernel
theorem dX12_keeper_54 : decode cX12_keeper 54 = .ok (.iload_n 2, 1) := by decide +kernel
theorem dX12_keeper_55 : decode cX12_keeper 55 = .ok (.invokevirtual 163, 3) := by decide +kernel
theorem dX12_keeper_58 : decode cX12_keeper 58 = .ok (.aload_n 0, 1) := by decide +kernel
theorem dX12_keeper_59 : decode cX12_keeper 59 = .ok (.getfield 126, 3) := by decide +kernel
theorem dX12_keeper_62 : decode cX12_keeper 62 = .ok (.iconst 1, 1) := by decide +kernel
theorem dX12_keeper_63 : decode cX12_keeper 63 = .ok (.isub, 1) := by decide +kernel
theorem dX12_keeper_64 : decode cX12_keeper 64 = .ok (.ireturn, 1) := by decide +kernel
theorem dX12_gate_0 : decode cX12_gate 0 = .ok (.aload_n 0, 1) := by decide +kernel
theorem dX12_gate_1 : decode cX12_gate 1 = .ok (.iconst 0, 1) := by decide +kernel
theorem dX12_gate_2 : decode cX12_gate 2 = .ok (.putfield 122, 3) := by decide +kernel
theorem dX12_gate_5 : decode cX12_gate 5 = .ok (.iload_n 1, 1) := by decide +kernel
theorem dX12_gate_6 : decode cX12_gate 6 = .ok (.i2l, 1) := by decide +kernel
theorem dX12_gate_7 : decode cX12_gate 7 = .ok (.lconst 0, 1) := by decide +kernel
theorem dX12_gate_8 : decode cX12_gate 8 = .ok (.ldc2_w 170, 3) := by decide +kernel
theorem dX12_gate_11 : decode cX12_gate 11 = .ok (.invokestatic 156, 3) := by decide +kernel
theorem dX12_gate_14 : decode cX12_gate 14 = .ok (.ifCond .eq 38, 3) := by decide +kernel
theorem dX12_gate_17 : decode cX12_gate 17 = .ok (.aload_n 0, 1) := by decide +kernel
theorem dX12_gate_18 : decode cX12_gate 18 = .ok (.iload_n 2, 1) := by decide +kernel
theorem dX12_gate_19 : decode cX12_gate 19 = .ok (.invokevirtual 129, 3) := by decide +kernel
theorem dX12_gate_22 : decode cX12_gate 22 = .ok (.ifCond .eq 30, 3) := by decide +kernel
theorem dX12_gate_25 : decode cX12_gate 25 = .ok (.iload_n 1, 1) := by decide +kernel
theorem dX12_gate_26 : decode cX12_gate 26 = .ok (.iconst 3, 1) := by decide +kernel
theorem dX12_gate_27 : decode cX12_gate 27 = .ok (.if_icmp .eq 11, 3) := by decide +kernel
theorem dX12_gate_30 : decode cX12_gate 30 = .ok (.aload_n 0, 1) := by decide +kernel
theorem dX12_gate_31 : decode cX12_gate 31 = .ok (.iload_n 3, 1) := by decide +kernel
theorem dX12_gate_32 : decode cX12_gate 32 = .ok (.invokevirtual 129, 3) := by decide +kernel
theorem dX12_gate_35 : decode cX12_gate 35 = .ok (.ifCond .eq 17, 3) := by decide +kernel
theorem dX12_gate_38 : decode cX12_gate 38 = .ok (.iload_n 1, 1) := by decide +kernel
theorem dX12_gate_39 : decode cX12_gate 39 = .ok (.iconst 4, 1) := by decide +kernel
theorem dX12_gate_40 : decode cX12_gate 40 = .ok (.if_icmp .ne 14, 3) := by decide +kernel
theorem dX12_gate_43 : decode cX12_gate 43 = .ok (.aload_n 0, 1) := by decide +kernel
theorem dX12_gate_44 : decode cX12_gate 44 = .ok (.iload 4, 2) := by decide +kernel
theorem dX12_gate_46 : decode cX12_gate 46 = .ok (.invokevirtual 129, 3) := by decide +kernel
theorem dX12_gate_49 : decode cX12_gate 49 = .ok (.ifCond .ne 5, 3) := by decide +kernel
theorem dX12_gate_52 : decode cX12_gate 52 = .ok (.iconst (-1), 1) := by decide +kernel
theorem dX12_gate_53 : decode cX12_gate 53 = .ok (.ireturn, 1) := by decide +kernel
theorem dX12_gate_54 : decode cX12_gate 54 = .ok (.aload_n 0, 1) := by decide +kernel
theorem dX12_gate_55 : decode cX12_gate 55 = .ok (.getfield 126, 3) := by decide +kernel
theorem dX12_gate_58 : decode cX12_gate 58 = .ok (.bipush 24, 2) := by decide +kernel
theorem dX12_gate_60 : decode cX12_gate 60 = .ok (.if_icmp .ne 6, 3) := by decide +kernel
theorem dX12_gate_63 : decode cX12_gate 63 = .ok (.bipush (-2), 2) := by decide +kernel
theorem dX12_gate_65 : decode cX12_gate 65 = .ok (.ireturn, 1) := by decide +kernel
theorem dX12_gate_66 : decode cX12_gate 66 = .ok (.aload_n 0, 1) := by decide +kernel
theorem dX12_gate_67 : decode cX12_gate 67 = .ok (.getfield 7, 3) := by decide +kernel
theorem dX12_gate_70 : decode cX12_gate 70 = .ok (.aload_n 0, 1) := by decide +kernel
theorem dX12_gate_71 : decode cX12_gate 71 = .ok (.getfield 126, 3) := by decide +kernel
theorem dX12_gate_74 : decode cX12_gate 74 = .ok (.iload_n 1, 1) := by decide +kernel
theorem dX12_gate_75 : decode cX12_gate 75 = .ok (.iastore, 1) := by decide +kernel
theorem dX12_gate_76 : decode cX12_gate 76 = .ok (.aload_n 0, 1) := by decide +kernel
theorem dX12_gate_77 : decode cX12_gate 77 = .ok (.getfield 13, 3) := by decide +kernel
theorem dX12_gate_80 : decode cX12_gate 80 = .ok (.aload_n 0, 1) := by decide +kernel
theorem dX12_gate_81 : decode cX12_gate 81 = .ok (.getfield 126, 3) := by decide +kernel
theorem dX12_gate_84 : decode cX12_gate 84 = .ok (.bipush (-2), 2) := by decide +kernel
theorem dX12_gate_86 : decode cX12_gate 86 = .ok (.iastore, 1) := by decide +kernel
theorem dX12_gate_87 : decode cX12_gate 87 = .ok (.aload_n 0, 1) := by decide +kernel
theorem dX12_gate_88 : decode cX12_gate 88 = .ok (.getfield 19, 3) := by decide +kernel
theorem dX12_gate_91 : decode cX12_gate 91 = .ok (.aload_n 0, 1) := by decide +kernel
theorem dX12_gate_92 : decode cX12_gate 92 = .ok (.getfield 126, 3) := by decide +kernel
theorem dX12_gate_95 : decode cX12_gate 95 = .ok (.iload_n 2, 1) := by decide +kernel
theorem dX12_gate_96 : decode cX12_gate 96 = .ok (.iastore, 1) := by decide +kernel
theorem dX12_gate_97 : decode cX12_gate 97 = .ok (.aload_n 0, 1) := by decide +kernel
theorem dX12_gate_98 : decode cX12_gate 98 = .ok (.getfield 22, 3) := by decide +kernel
theorem dX12_gate_101 : decode cX12_gate 101 = .ok (.aload_n 0, 1) := by decide +kernel
theorem dX12_gate_102 : decode cX12_gate 102 = .ok (.getfield 126, 3) := by decide +kernel
theorem dX12_gate_105 : decode cX12_gate 105 = .ok (.iload_n 1, 1) := by decide +kernel
theorem dX12_gate_106 : decode cX12_gate 106 = .ok (.iconst 3, 1) := by decide +kernel
theorem dX12_gate_107 : decode cX12_gate 107 = .ok (.if_icmp .ne 8, 3) := by decide +kernel
theorem dX12_gate_110 : decode cX12_gate 110 = .ok (.bipush (-2), 2) := by decide +kernel
theorem dX12_gate_112 : decode cX12_gate 112 = .ok (.goto 4, 3) := by decide +kernel
theorem dX12_gate_115 : decode cX12_gate 115 = .ok (.iload_n 3, 1) := by decide +kernel
theorem dX12_gate_116 : decode cX12_gate 116 = .ok (.iastore, 1) := by decide +kernel
theorem dX12_gate_117 : decode cX12_gate 117 = .ok (.aload_n 0, 1) := by decide +kernel
theorem dX12_gate_118 : decode cX12_gate 118 = .ok (.getfield 25, 3) := by decide +kernel
theorem dX12_gate_121 : decode cX12_gate 121 = .ok (.aload_n 0, 1) := by decide +kernel
theorem dX12_gate_122 : decode cX12_gate 122 = .ok (.getfield 126, 3) := by decide +kernel
theorem dX12_gate_125 : decode cX12_gate 125 = .ok (.iload_n 1, 1) := by decide +kernel
theorem dX12_gate_126 : decode cX12_gate 126 = .ok (.iconst 4, 1) := by decide +kernel
theorem dX12_gate_127 : decode cX12_gate 127 = .ok (.if_icmp .ne 8, 3) := by decide +kernel
theorem dX12_gate_130 : decode cX12_gate 130 = .ok (.iload 4, 2) := by decide +kernel
theorem dX12_gate_132 : decode cX12_gate 132 = .ok (.goto 5, 3) := by decide +kernel
theorem dX12_gate_135 : decode cX12_gate 135 = .ok (.bipush (-2), 2) := by decide +kernel
theorem dX12_gate_137 : decode cX12_gate 137 = .ok (.iastore, 1) := by decide +kernel
theorem dX12_gate_138 : decode cX12_gate 138 = .ok (.aload_n 0, 1) := by decide +kernel
theorem dX12_gate_139 : decode cX12_gate 139 = .ok (.getfield 28, 3) := by decide +kernel
theorem dX12_gate_142 : decode cX12_gate 142 = .ok (.aload_n 0, 1) := by decide +kernel
theorem dX12_gate_143 : decode cX12_gate 143 = .ok (.getfield 126, 3) := by decide +kernel
theorem dX12_gate_146 : decode cX12_gate 146 = .ok (.iconst 0, 1) := by decide +kernel
theorem dX12_gate_147 : decode cX12_gate 147 = .ok (.bastore, 1) := by decide +kernel
theorem dX12_gate_148 : decode cX12_gate 148 = .ok (.aload_n 0, 1) := by decide +kernel
theorem dX12_gate_149 : decode cX12_gate 149 = .ok (.dup, 1) := by decide +kernel
theorem dX12_gate_150 : decode cX12_gate 150 = .ok (.getfield 126, 3) := by decide +kernel
theorem dX12_gate_153 : decode cX12_gate 153 = .ok (.iconst 1, 1) := by decide +kernel
theorem dX12_gate_154 : decode cX12_gate 154 = .ok (.iadd, 1) := by decide +kernel
theorem dX12_gate_155 : decode cX12_gate 155 = .ok (.putfield 126, 3) := by decide +kernel
theorem dX12_gate_158 : decode cX12_gate 158 = .ok (.aload_n 0, 1) := by decide +kernel
theorem dX12_gate_159 : decode cX12_gate 159 = .ok (.invokevirtual 167, 3) := by decide +kernel
theorem dX12_gate_162 : decode cX12_gate 162 = .ok (.aload_n 0, 1) := by decide +kernel
theorem dX12_gate_163 : decode cX12_gate 163 = .ok (.getfield 126, 3) := by decide +kernel
theorem dX12_gate_166 : decode cX12_gate 166 = .ok (.iconst 1, 1) := by decide +kernel
theorem dX12_gate_167 : decode cX12_gate 167 = .ok (.isub, 1) := by decide +kernel
theorem dX12_gate_168 : decode cX12_gate 168 = .ok (.ireturn, 1) := by decide +kernel
theorem dX12_connect_0 : decode cX12_connect 0 = .ok (.aload_n 0, 1) := by decide +kernel
theorem dX12_connect_1 : decode cX12_connect 1 = .ok (.iconst 0, 1) := by decide +kernel
theorem dX12_connect_2 : decode cX12_connect 2 = .ok (.putfield 122, 3) := by decide +kernel
theorem dX12_connect_5 : decode cX12_connect 5 = .ok (.aload_n 0, 1) := by decide +kernel
theorem dX12_connect_6 : decode cX12_connect 6 = .ok (.iload_n 1, 1) := by decide +kernel
theorem dX12_connect_7 : decode cX12_connect 7 = .ok (.invokevirtual 172, 3) := by decide +kernel
theorem dX12_connect_10 : decode cX12_connect 10 = .ok (.ifCond .eq 11, 3) := by decide +kernel
theorem dX12_connect_13 : decode cX12_connect 13 = .ok (.aload_n 0, 1) := by decide +kernel
theorem dX12_connect_14 : decode cX12_connect 14 = .ok (.iload_n 2, 1) := by decide +kernel
theorem dX12_connect_15 : decode cX12_connect 15 = .ok (.invokevirtual 129, 3) := by decide +kernel
theorem dX12_connect_18 : decode cX12_connect 18 = .ok (.ifCond .ne 5, 3) := by decide +kernel
theorem dX12_connect_21 : decode cX12_connect 21 = .ok (.iconst (-1), 1) := by decide +kernel
theorem dX12_connect_22 : decode cX12_connect 22 = .ok (.ireturn, 1) := by decide +kernel
theorem dX12_connect_23 : decode cX12_connect 23 = .ok (.aload_n 0, 1) := by decide +kernel
theorem dX12_connect_24 : decode cX12_connect 24 = .ok (.getfield 19, 3) := by decide +kernel
theorem dX12_connect_27 : decode cX12_connect 27 = .ok (.iload_n 1, 1) := by decide +kernel
theorem dX12_connect_28 : decode cX12_connect 28 = .ok (.iaload, 1) := by decide +kernel
theorem dX12_connect_29 : decode cX12_connect 29 = .ok (.istore_n 3, 1) := by decide +kernel
theorem dX12_connect_30 : decode cX12_connect 30 = .ok (.aload_n 0, 1) := by decide +kernel
theorem dX12_connect_31 : decode cX12_connect 31 = .ok (.getfield 19, 3) := by decide +kernel
theorem dX12_connect_34 : decode cX12_connect 34 = .ok (.iload_n 1, 1) := by decide +kernel
theorem dX12_connect_35 : decode cX12_connect 35 = .ok (.iload_n 2, 1) := by decide +kernel
theorem dX12_connect_36 : decode cX12_connect 36 = .ok (.iastore, 1) := by decide +kernel
theorem dX12_connect_37 : decode cX12_connect 37 = .ok (.aload_n 0, 1) := by decide +kernel
theorem dX12_connect_38 : decode cX12_connect 38 = .ok (.invokevirtual 167, 3) := by decide +kernel
theorem dX12_connect_41 : decode cX12_connect 41 = .ok (.iload_n 3, 1) := by decide +kernel
theorem dX12_connect_42 : decode cX12_connect 42 = .ok (.ireturn, 1) := by decide +kernel
theorem dX12_bound_0 : decode cX12_bound 0 = .ok (.aload_n 0, 1) := by decide +kernel
theorem dX12_bound_1 : decode cX12_bound 1 = .ok (.iconst 0, 1) := by decide +kernel
theorem dX12_bound_2 : decode cX12_bound 2 = .ok (.putfield 122, 3) := by decide +kernel
theorem dX12_bound_5 : decode cX12_bound 5 = .ok (.iload_n 1, 1) := by decide +kernel
theorem dX12_bound_6 : decode cX12_bound 6 = .ok (.i2l, 1) := by decide +kernel
theorem dX12_bound_7 : decode cX12_bound 7 = .ok (.lconst 0, 1) := by decide +kernel
theorem dX12_bound_8 : decode cX12_bound 8 = .ok (.ldc2_w 154, 3) := by decide +kernel
theorem dX12_bound_11 : decode cX12_bound 11 = .ok (.invokestatic 156, 3) := by decide +kernel
theorem dX12_bound_14 : decode cX12_bound 14 = .ok (.ifCond .eq 32, 3) := by decide +kernel
theorem dX12_bound_17 : decode cX12_bound 17 = .ok (.iload_n 2, 1) := by decide +kernel
theorem dX12_bound_18 : decode cX12_bound 18 = .ok (.i2l, 1) := by decide +kernel
theorem dX12_bound_19 : decode cX12_bound 19 = .ok (.lconst 0, 1) := by decide +kernel
theorem dX12_bound_20 : decode cX12_bound 20 = .ok (.ldc2_w 154, 3) := by decide +kernel
theorem dX12_bound_23 : decode cX12_bound 23 = .ok (.invokestatic 156, 3) := by decide +kernel
theorem dX12_bound_26 : decode cX12_bound 26 = .ok (.ifCond .eq 20, 3) := by decide +kernel
theorem dX12_bound_29 : decode cX12_bound 29 = .ok (.iload_n 1, 1) := by decide +kernel
theorem dX12_bound_30 : decode cX12_bound 30 = .ok (.iload_n 2, 1) := by decide +kernel
theorem dX12_bound_31 : decode cX12_bound 31 = .ok (.if_icmp .eq 15, 3) := by decide +kernel
theorem dX12_bound_34 : decode cX12_bound 34 = .ok (.iload_n 3, 1) := by decide +kernel
theorem dX12_bound_35 : decode cX12_bound 35 = .ok (.i2l, 1) := by decide +kernel
theorem dX12_bound_36 : decode cX12_bound 36 = .ok (.lconst 0, 1) := by decide +kernel
theorem dX12_bound_37 : decode cX12_bound 37 = .ok (.ldc2_w 175, 3) := by decide +kernel
theorem dX12_bound_40 : decode cX12_bound 40 = .ok (.invokestatic 156, 3) := by decide +kernel
theorem dX12_bound_43 : decode cX12_bound 43 = .ok (.ifCond .ne 5, 3) := by decide +kernel
theorem dX12_bound_46 : decode cX12_bound 46 = .ok (.iconst (-1), 1) := by decide +kernel
theorem dX12_bound_47 : decode cX12_bound 47 = .ok (.ireturn, 1) := by decide +kernel
theorem dX12_bound_48 : decode cX12_bound 48 = .ok (.aload_n 0, 1) := by decide +kernel
theorem dX12_bound_49 : decode cX12_bound 49 = .ok (.getfield 32, 3) := by decide +kernel
theorem dX12_bound_52 : decode cX12_bound 52 = .ok (.iconst 4, 1) := by decide +kernel
theorem dX12_bound_53 : decode cX12_bound 53 = .ok (.iload_n 1, 1) := by decide +kernel
theorem dX12_bound_54 : decode cX12_bound 54 = .ok (.imul, 1) := by decide +kernel
theorem dX12_bound_55 : decode cX12_bound 55 = .ok (.iload_n 2, 1) := by decide +kernel
theorem dX12_bound_56 : decode cX12_bound 56 = .ok (.iadd, 1) := by decide +kernel
theorem dX12_bound_57 : decode cX12_bound 57 = .ok (.iaload, 1) := by decide +kernel
theorem dX12_bound_58 : decode cX12_bound 58 = .ok (.istore 4, 2) := by decide +kernel
theorem dX12_bound_60 : decode cX12_bound 60 = .ok (.aload_n 0, 1) := by decide +kernel
theorem dX12_bound_61 : decode cX12_bound 61 = .ok (.getfield 32, 3) := by decide +kernel
theorem dX12_bound_64 : decode cX12_bound 64 = .ok (.iconst 4, 1) := by decide +kernel
theorem dX12_bound_65 : decode cX12_bound 65 = .ok (.iload_n 1, 1) := by decide +kernel
theorem dX12_bound_66 : decode cX12_bound 66 = .ok (.imul, 1) := by decide +kernel
theorem dX12_bound_67 : decode cX12_bound 67 = .ok (.iload_n 2, 1) := by decide +kernel
theorem dX12_bound_68 : decode cX12_bound 68 = .ok (.iadd, 1) := by decide +kernel
theorem dX12_bound_69 : decode cX12_bound 69 = .ok (.iload_n 3, 1) := by decide +kernel
theorem dX12_bound_70 : decode cX12_bound 70 = .ok (.iastore, 1) := by decide +kernel
theorem dX12_bound_71 : decode cX12_bound 71 = .ok (.aload_n 0, 1) := by decide +kernel
theorem dX12_bound_72 : decode cX12_bound 72 = .ok (.invokevirtual 167, 3) := by decide +kernel
theorem dX12_bound_75 : decode cX12_bound 75 = .ok (.iload 4, 2) := by decide +kernel
theorem dX12_bound_77 : decode cX12_bound 77 = .ok (.ireturn, 1) := by decide +kernel
theorem dX12_still_0 : decode cX12_still 0 = .ok (.aload_n 0, 1) := by decide +kernel
theorem dX12_still_1 : decode cX12_still 1 = .ok (.iconst 0, 1) := by decide +kernel
theorem dX12_still_2 : decode cX12_still 2 = .ok (.putfield 122, 3) := by decide +kernel
theorem dX12_still_5 : decode cX12_still 5 = .ok (.aload_n 0, 1) := by decide +kernel
theorem dX12_still_6 : decode cX12_still 6 = .ok (.iload_n 1, 1) := by decide +kernel
theorem dX12_still_7 : decode cX12_still 7 = .ok (.invokevirtual 177, 3) := by decide +kernel
theorem dX12_still_10 : decode cX12_still 10 = .ok (.ifCond .ne 5, 3) := by decide +kernel
theorem dX12_still_13 : decode cX12_still 13 = .ok (.iconst (-1), 1) := by decide +kernel
theorem dX12_still_14 : decode cX12_still 14 = .ok (.ireturn, 1) := by decide +kernel
theorem dX12_still_15 : decode cX12_still 15 = .ok (.aload_n 0, 1) := by decide +kernel
theorem dX12_still_16 : decode cX12_still 16 = .ok (.getfield 28, 3) := by decide +kernel
theorem dX12_still_19 : decode cX12_still 19 = .ok (.iload_n 1, 1) := by decide +kernel
theorem dX12_still_20 : decode cX12_still 20 = .ok (.baload, 1) := by decide +kernel
theorem dX12_still_21 : decode cX12_still 21 = .ok (.istore_n 3, 1) := by decide +kernel
theorem dX12_still_22 : decode cX12_still 22 = .ok (.aload_n 0, 1) := by decide +kernel
theorem dX12_still_23 : decode cX12_still 23 = .ok (.getfield 28, 3) := by decide +kernel
theorem dX12_still_26 : decode cX12_still 26 = .ok (.iload_n 1, 1) := by decide +kernel
theorem dX12_still_27 : decode cX12_still 27 = .ok (.iload_n 2, 1) := by decide +kernel
theorem dX12_still_28 : decode cX12_still 28 = .ok (.bastore, 1) := by decide +kernel
theorem dX12_still_29 : decode cX12_still 29 = .ok (.iload_n 3, 1) := by decide +kernel
theorem dX12_still_30 : decode cX12_still 30 = .ok (.ifCond .eq 7, 3) := by decide +kernel
theorem dX12_still_33 : decode cX12_still 33 = .ok (.iconst 1, 1) := by decide +kernel
theorem dX12_still_34 : decode cX12_still 34 = .ok (.goto 4, 3) := by decide +kernel
theorem dX12_still_37 : decode cX12_still 37 = .ok (.iconst 0, 1) := by decide +kernel
theorem dX12_still_38 : decode cX12_still 38 = .ok (.ireturn, 1) := by decide +kernel
theorem dX12_promise_0 : decode cX12_promise 0 = .ok (.aload_n 0, 1) := by decide +kernel
theorem dX12_promise_1 : decode cX12_promise 1 = .ok (.iconst 0, 1) := by decide +kernel
theorem dX12_promise_2 : decode cX12_promise 2 = .ok (.putfield 122, 3) := by decide +kernel
theorem dX12_promise_5 : decode cX12_promise 5 = .ok (.iload_n 1, 1) := by decide +kernel
theorem dX12_promise_6 : decode cX12_promise 6 = .ok (.i2l, 1) := by decide +kernel
theorem dX12_promise_7 : decode cX12_promise 7 = .ok (.lconst 0, 1) := by decide +kernel
theorem dX12_promise_8 : decode cX12_promise 8 = .ok (.ldc2_w 154, 3) := by decide +kernel
theorem dX12_promise_11 : decode cX12_promise 11 = .ok (.invokestatic 156, 3) := by decide +kernel
theorem dX12_promise_14 : decode cX12_promise 14 = .ok (.ifCond .eq 33, 3) := by decide +kernel
theorem dX12_promise_17 : decode cX12_promise 17 = .ok (.aload_n 0, 1) := by decide +kernel
theorem dX12_promise_18 : decode cX12_promise 18 = .ok (.iload_n 2, 1) := by decide +kernel
theorem dX12_promise_19 : decode cX12_promise 19 = .ok (.invokevirtual 129, 3) := by decide +kernel
theorem dX12_promise_22 : decode cX12_promise 22 = .ok (.ifCond .eq 25, 3) := by decide +kernel
theorem dX12_promise_25 : decode cX12_promise 25 = .ok (.iload_n 1, 1) := by decide +kernel
theorem dX12_promise_26 : decode cX12_promise 26 = .ok (.ifCond .le 11, 3) := by decide +kernel
theorem dX12_promise_29 : decode cX12_promise 29 = .ok (.aload_n 0, 1) := by decide +kernel
theorem dX12_promise_30 : decode cX12_promise 30 = .ok (.iload_n 3, 1) := by decide +kernel
theorem dX12_promise_31 : decode cX12_promise 31 = .ok (.invokevirtual 129, 3) := by decide +kernel
theorem dX12_promise_34 : decode cX12_promise 34 = .ok (.ifCond .eq 13, 3) := by decide +kernel
theorem dX12_promise_37 : decode cX12_promise 37 = .ok (.iload_n 1, 1) := by decide +kernel
theorem dX12_promise_38 : decode cX12_promise 38 = .ok (.iconst 3, 1) := by decide +kernel
theorem dX12_promise_39 : decode cX12_promise 39 = .ok (.if_icmp .ne 10, 3) := by decide +kernel
theorem dX12_promise_42 : decode cX12_promise 42 = .ok (.iload_n 2, 1) := by decide +kernel
theorem dX12_promise_43 : decode cX12_promise 43 = .ok (.iload_n 3, 1) := by decide +kernel
theorem dX12_promise_44 : decode cX12_promise 44 = .ok (.if_icmp .le 5, 3) := by decide +kernel
theorem dX12_promise_47 : decode cX12_promise 47 = .ok (.iconst (-1), 1) := by decide +kernel
theorem dX12_promise_48 : decode cX12_promise 48 = .ok (.ireturn, 1) := by decide +kernel
theorem dX12_promise_49 : decode cX12_promise 49 = .ok (.aload_n 0, 1) := by decide +kernel
theorem dX12_promise_50 : decode cX12_promise 50 = .ok (.getfield 180, 3) := by decide +kernel
theorem dX12_promise_53 : decode cX12_promise 53 = .ok (.bipush 8, 2) := by decide +kernel
theorem dX12_promise_55 : decode cX12_promise 55 = .ok (.if_icmp .ne 6, 3) := by decide +kernel
theorem dX12_promise_58 : decode cX12_promise 58 = .ok (.bipush (-2), 2) := by decide +kernel
theorem dX12_promise_60 : decode cX12_promise 60 = .ok (.ireturn, 1) := by decide +kernel
theorem dX12_promise_61 : decode cX12_promise 61 = .ok (.aload_n 0, 1) := by decide +kernel
theorem dX12_promise_62 : decode cX12_promise 62 = .ok (.getfield 35, 3) := by decide +kernel
theorem dX12_promise_65 : decode cX12_promise 65 = .ok (.aload_n 0, 1) := by decide +kernel
theorem dX12_promise_66 : decode cX12_promise 66 = .ok (.getfield 180, 3) := by decide +kernel
theorem dX12_promise_69 : decode cX12_promise 69 = .ok (.iload_n 1, 1) := by decide +kernel
theorem dX12_promise_70 : decode cX12_promise 70 = .ok (.iastore, 1) := by decide +kernel
theorem dX12_promise_71 : decode cX12_promise 71 = .ok (.aload_n 0, 1) := by decide +kernel
theorem dX12_promise_72 : decode cX12_promise 72 = .ok (.getfield 38, 3) := by decide +kernel
theorem dX12_promise_75 : decode cX12_promise 75 = .ok (.aload_n 0, 1) := by decide +kernel
theorem dX12_promise_76 : decode cX12_promise 76 = .ok (.getfield 180, 3) := by decide +kernel
theorem dX12_promise_79 : decode cX12_promise 79 = .ok (.iload_n 2, 1) := by decide +kernel
theorem dX12_promise_80 : decode cX12_promise 80 = .ok (.iastore, 1) := by decide +kernel
theorem dX12_promise_81 : decode cX12_promise 81 = .ok (.aload_n 0, 1) := by decide +kernel
theorem dX12_promise_82 : decode cX12_promise 82 = .ok (.getfield 41, 3) := by decide +kernel
theorem dX12_promise_85 : decode cX12_promise 85 = .ok (.aload_n 0, 1) := by decide +kernel
theorem dX12_promise_86 : decode cX12_promise 86 = .ok (.getfield 180, 3) := by decide +kernel
theorem dX12_promise_89 : decode cX12_promise 89 = .ok (.iload_n 3, 1) := by decide +kernel
theorem dX12_promise_90 : decode cX12_promise 90 = .ok (.iastore, 1) := by decide +kernel
theorem dX12_promise_91 : decode cX12_promise 91 = .ok (.aload_n 0, 1) := by decide +kernel
theorem dX12_promise_92 : decode cX12_promise 92 = .ok (.dup, 1) := by decide +kernel
theorem dX12_promise_93 : decode cX12_promise 93 = .ok (.getfield 180, 3) := by decide +kernel
theorem dX12_promise_96 : decode cX12_promise 96 = .ok (.iconst 1, 1) := by decide +kernel
theorem dX12_promise_97 : decode cX12_promise 97 = .ok (.iadd, 1) := by decide +kernel
theorem dX12_promise_98 : decode cX12_promise 98 = .ok (.putfield 180, 3) := by decide +kernel
theorem dX12_promise_101 : decode cX12_promise 101 = .ok (.aload_n 0, 1) := by decide +kernel
end
section
theorem dX12_promise_102 : decode cX12_promise 102 = .ok (.invokevirtual 151, 3) := by decide +kernel
theorem dX12_promise_105 : decode cX12_promise 105 = .ok (.aload_n 0, 1) := by decide +kernel
theorem dX12_promise_106 : decode cX12_promise 106 = .ok (.getfield 180, 3) := by decide +kernel
theorem dX12_promise_109 : decode cX12_promise 109 = .ok (.iconst 1, 1) := by decide +kernel
theorem dX12_promise_110 : decode cX12_promise 110 = .ok (.isub, 1) := by decide +kernel
theorem dX12_promise_111 : decode cX12_promise 111 = .ok (.ireturn, 1) := by decide +kernel
theorem dX12_isTicking_0 : decode cX12_isTicking 0 = .ok (.aload_n 0, 1) := by decide +kernel
theorem dX12_isTicking_1 : decode cX12_isTicking 1 = .ok (.getfield 7, 3) := by decide +kernel
theorem dX12_isTicking_4 : decode cX12_isTicking 4 = .ok (.iload_n 2, 1) := by decide +kernel
theorem dX12_isTicking_5 : decode cX12_isTicking 5 = .ok (.iaload, 1) := by decide +kernel
theorem dX12_isTicking_6 : decode cX12_isTicking 6 = .ok (.iconst 4, 1) := by decide +kernel
theorem dX12_isTicking_7 : decode cX12_isTicking 7 = .ok (.if_icmp .le 21, 3) := by decide +kernel
theorem dX12_isTicking_10 : decode cX12_isTicking 10 = .ok (.iload_n 1, 1) := by decide +kernel
theorem dX12_isTicking_11 : decode cX12_isTicking 11 = .ok (.aload_n 0, 1) := by decide +kernel
theorem dX12_isTicking_12 : decode cX12_isTicking 12 = .ok (.getfield 13, 3) := by decide +kernel
theorem dX12_isTicking_15 : decode cX12_isTicking 15 = .ok (.iload_n 2, 1) := by decide +kernel
theorem dX12_isTicking_16 : decode cX12_isTicking 16 = .ok (.iaload, 1) := by decide +kernel
theorem dX12_isTicking_17 : decode cX12_isTicking 17 = .ok (.ishr, 1) := by decide +kernel
theorem dX12_isTicking_18 : decode cX12_isTicking 18 = .ok (.iconst 1, 1) := by decide +kernel
theorem dX12_isTicking_19 : decode cX12_isTicking 19 = .ok (.iand, 1) := by decide +kernel
theorem dX12_isTicking_20 : decode cX12_isTicking 20 = .ok (.iconst 1, 1) := by decide +kernel
theorem dX12_isTicking_21 : decode cX12_isTicking 21 = .ok (.if_icmp .ne 7, 3) := by decide +kernel
theorem dX12_isTicking_24 : decode cX12_isTicking 24 = .ok (.iconst 1, 1) := by decide +kernel
theorem dX12_isTicking_25 : decode cX12_isTicking 25 = .ok (.goto 4, 3) := by decide +kernel
theorem dX12_isTicking_28 : decode cX12_isTicking 28 = .ok (.iconst 0, 1) := by decide +kernel
theorem dX12_isTicking_29 : decode cX12_isTicking 29 = .ok (.ireturn, 1) := by decide +kernel
theorem dX12_then_0 : decode cX12_then 0 = .ok (.iload_n 2, 1) := by decide +kernel
theorem dX12_then_1 : decode cX12_then 1 = .ok (.iload_n 3, 1) := by decide +kernel
theorem dX12_then_2 : decode cX12_then 2 = .ok (.iconst 4, 1) := by decide +kernel
theorem dX12_then_3 : decode cX12_then 3 = .ok (.irem, 1) := by decide +kernel
theorem dX12_then_4 : decode cX12_then 4 = .ok (.ishr, 1) := by decide +kernel
theorem dX12_then_5 : decode cX12_then 5 = .ok (.iconst 1, 1) := by decide +kernel
theorem dX12_then_6 : decode cX12_then 6 = .ok (.iand, 1) := by decide +kernel
theorem dX12_then_7 : decode cX12_then 7 = .ok (.iconst 1, 1) := by decide +kernel
theorem dX12_then_8 : decode cX12_then 8 = .ok (.if_icmp .ne 7, 3) := by decide +kernel
theorem dX12_then_11 : decode cX12_then 11 = .ok (.iconst 0, 1) := by decide +kernel
theorem dX12_then_12 : decode cX12_then 12 = .ok (.goto 21, 3) := by decide +kernel
theorem dX12_then_15 : decode cX12_then 15 = .ok (.iload_n 2, 1) := by decide +kernel
theorem dX12_then_16 : decode cX12_then 16 = .ok (.iload_n 3, 1) := by decide +kernel
theorem dX12_then_17 : decode cX12_then 17 = .ok (.iconst 4, 1) := by decide +kernel
theorem dX12_then_18 : decode cX12_then 18 = .ok (.idiv, 1) := by decide +kernel
theorem dX12_then_19 : decode cX12_then 19 = .ok (.ishr, 1) := by decide +kernel
theorem dX12_then_20 : decode cX12_then 20 = .ok (.iconst 1, 1) := by decide +kernel
theorem dX12_then_21 : decode cX12_then 21 = .ok (.iand, 1) := by decide +kernel
theorem dX12_then_22 : decode cX12_then 22 = .ok (.iconst 1, 1) := by decide +kernel
theorem dX12_then_23 : decode cX12_then 23 = .ok (.if_icmp .ne 9, 3) := by decide +kernel
theorem dX12_then_26 : decode cX12_then 26 = .ok (.iload_n 1, 1) := by decide +kernel
theorem dX12_then_27 : decode cX12_then 27 = .ok (.iconst 1, 1) := by decide +kernel
theorem dX12_then_28 : decode cX12_then 28 = .ok (.iadd, 1) := by decide +kernel
theorem dX12_then_29 : decode cX12_then 29 = .ok (.goto 4, 3) := by decide +kernel
theorem dX12_then_32 : decode cX12_then 32 = .ok (.iload_n 1, 1) := by decide +kernel
theorem dX12_then_33 : decode cX12_then 33 = .ok (.ireturn, 1) := by decide +kernel
theorem dX12_fits_0 : decode cX12_fits 0 = .ok (.aload_n 0, 1) := by decide +kernel
theorem dX12_fits_1 : decode cX12_fits 1 = .ok (.getfield 32, 3) := by decide +kernel
theorem dX12_fits_4 : decode cX12_fits 4 = .ok (.iload_n 1, 1) := by decide +kernel
theorem dX12_fits_5 : decode cX12_fits 5 = .ok (.iaload, 1) := by decide +kernel
theorem dX12_fits_6 : decode cX12_fits 6 = .ok (.ifCond .eq 13, 3) := by decide +kernel
theorem dX12_fits_9 : decode cX12_fits 9 = .ok (.iload_n 2, 1) := by decide +kernel
theorem dX12_fits_10 : decode cX12_fits 10 = .ok (.aload_n 0, 1) := by decide +kernel
theorem dX12_fits_11 : decode cX12_fits 11 = .ok (.getfield 32, 3) := by decide +kernel
theorem dX12_fits_14 : decode cX12_fits 14 = .ok (.iload_n 1, 1) := by decide +kernel
theorem dX12_fits_15 : decode cX12_fits 15 = .ok (.iaload, 1) := by decide +kernel
theorem dX12_fits_16 : decode cX12_fits 16 = .ok (.if_icmp .gt 7, 3) := by decide +kernel
theorem dX12_fits_19 : decode cX12_fits 19 = .ok (.iconst 1, 1) := by decide +kernel
theorem dX12_fits_20 : decode cX12_fits 20 = .ok (.goto 4, 3) := by decide +kernel
theorem dX12_fits_23 : decode cX12_fits 23 = .ok (.iconst 0, 1) := by decide +kernel
theorem dX12_fits_24 : decode cX12_fits 24 = .ok (.ireturn, 1) := by decide +kernel
theorem dX12_mixed_0 : decode cX12_mixed 0 = .ok (.aload_n 0, 1) := by decide +kernel
theorem dX12_mixed_1 : decode cX12_mixed 1 = .ok (.aload_n 0, 1) := by decide +kernel
theorem dX12_mixed_2 : decode cX12_mixed 2 = .ok (.getfield 183, 3) := by decide +kernel
theorem dX12_mixed_5 : decode cX12_mixed 5 = .ok (.iload_n 1, 1) := by decide +kernel
theorem dX12_mixed_6 : decode cX12_mixed 6 = .ok (.iconst (-1), 1) := by decide +kernel
theorem dX12_mixed_7 : decode cX12_mixed 7 = .ok (.ixor, 1) := by decide +kernel
theorem dX12_mixed_8 : decode cX12_mixed 8 = .ok (.iand, 1) := by decide +kernel
theorem dX12_mixed_9 : decode cX12_mixed 9 = .ok (.aload_n 0, 1) := by decide +kernel
theorem dX12_mixed_10 : decode cX12_mixed 10 = .ok (.getfield 186, 3) := by decide +kernel
theorem dX12_mixed_13 : decode cX12_mixed 13 = .ok (.iload_n 1, 1) := by decide +kernel
theorem dX12_mixed_14 : decode cX12_mixed 14 = .ok (.iand, 1) := by decide +kernel
theorem dX12_mixed_15 : decode cX12_mixed 15 = .ok (.ior, 1) := by decide +kernel
theorem dX12_mixed_16 : decode cX12_mixed 16 = .ok (.invokevirtual 137, 3) := by decide +kernel
theorem dX12_mixed_19 : decode cX12_mixed 19 = .ok (.ireturn, 1) := by decide +kernel
theorem dX12_isEither_0 : decode cX12_isEither 0 = .ok (.iconst 0, 1) := by decide +kernel
theorem dX12_isEither_1 : decode cX12_isEither 1 = .ok (.istore_n 2, 1) := by decide +kernel
theorem dX12_isEither_2 : decode cX12_isEither 2 = .ok (.iconst 0, 1) := by decide +kernel
theorem dX12_isEither_3 : decode cX12_isEither 3 = .ok (.istore_n 3, 1) := by decide +kernel
theorem dX12_isEither_4 : decode cX12_isEither 4 = .ok (.iload_n 3, 1) := by decide +kernel
theorem dX12_isEither_5 : decode cX12_isEither 5 = .ok (.aload_n 0, 1) := by decide +kernel
theorem dX12_isEither_6 : decode cX12_isEither 6 = .ok (.getfield 126, 3) := by decide +kernel
theorem dX12_isEither_9 : decode cX12_isEither 9 = .ok (.if_icmp .ge 46, 3) := by decide +kernel
theorem dX12_isEither_12 : decode cX12_isEither 12 = .ok (.iload_n 2, 1) := by decide +kernel
theorem dX12_isEither_13 : decode cX12_isEither 13 = .ok (.aload_n 0, 1) := by decide +kernel
theorem dX12_isEither_14 : decode cX12_isEither 14 = .ok (.getfield 189, 3) := by decide +kernel
theorem dX12_isEither_17 : decode cX12_isEither 17 = .ok (.iload_n 3, 1) := by decide +kernel
theorem dX12_isEither_18 : decode cX12_isEither 18 = .ok (.ishr, 1) := by decide +kernel
theorem dX12_isEither_19 : decode cX12_isEither 19 = .ok (.iconst 1, 1) := by decide +kernel
theorem dX12_isEither_20 : decode cX12_isEither 20 = .ok (.iand, 1) := by decide +kernel
theorem dX12_isEither_21 : decode cX12_isEither 21 = .ok (.iconst 1, 1) := by decide +kernel
theorem dX12_isEither_22 : decode cX12_isEither 22 = .ok (.if_icmp .ne 24, 3) := by decide +kernel
theorem dX12_isEither_25 : decode cX12_isEither 25 = .ok (.aload_n 0, 1) := by decide +kernel
theorem dX12_isEither_26 : decode cX12_isEither 26 = .ok (.getfield 13, 3) := by decide +kernel
theorem dX12_isEither_29 : decode cX12_isEither 29 = .ok (.iload_n 3, 1) := by decide +kernel
theorem dX12_isEither_30 : decode cX12_isEither 30 = .ok (.iaload, 1) := by decide +kernel
theorem dX12_isEither_31 : decode cX12_isEither 31 = .ok (.aload_n 0, 1) := by decide +kernel
theorem dX12_isEither_32 : decode cX12_isEither 32 = .ok (.getfield 13, 3) := by decide +kernel
theorem dX12_isEither_35 : decode cX12_isEither 35 = .ok (.iload_n 1, 1) := by decide +kernel
theorem dX12_isEither_36 : decode cX12_isEither 36 = .ok (.iaload, 1) := by decide +kernel
theorem dX12_isEither_37 : decode cX12_isEither 37 = .ok (.if_icmp .eq 9, 3) := by decide +kernel
theorem dX12_isEither_40 : decode cX12_isEither 40 = .ok (.iconst 1, 1) := by decide +kernel
theorem dX12_isEither_41 : decode cX12_isEither 41 = .ok (.iload_n 3, 1) := by decide +kernel
theorem dX12_isEither_42 : decode cX12_isEither 42 = .ok (.ishl, 1) := by decide +kernel
theorem dX12_isEither_43 : decode cX12_isEither 43 = .ok (.goto 4, 3) := by decide +kernel
theorem dX12_isEither_46 : decode cX12_isEither 46 = .ok (.iconst 0, 1) := by decide +kernel
theorem dX12_isEither_47 : decode cX12_isEither 47 = .ok (.ior, 1) := by decide +kernel
theorem dX12_isEither_48 : decode cX12_isEither 48 = .ok (.istore_n 2, 1) := by decide +kernel
theorem dX12_isEither_49 : decode cX12_isEither 49 = .ok (.iinc 3 1, 3) := by decide +kernel
theorem dX12_isEither_52 : decode cX12_isEither 52 = .ok (.goto (-48), 3) := by decide +kernel
theorem dX12_isEither_55 : decode cX12_isEither 55 = .ok (.aload_n 0, 1) := by decide +kernel
theorem dX12_isEither_56 : decode cX12_isEither 56 = .ok (.getfield 183, 3) := by decide +kernel
theorem dX12_isEither_59 : decode cX12_isEither 59 = .ok (.aload_n 0, 1) := by decide +kernel
theorem dX12_isEither_60 : decode cX12_isEither 60 = .ok (.getfield 19, 3) := by decide +kernel
theorem dX12_isEither_63 : decode cX12_isEither 63 = .ok (.iload_n 1, 1) := by decide +kernel
theorem dX12_isEither_64 : decode cX12_isEither 64 = .ok (.iaload, 1) := by decide +kernel
theorem dX12_isEither_65 : decode cX12_isEither 65 = .ok (.invokestatic 133, 3) := by decide +kernel
theorem dX12_isEither_68 : decode cX12_isEither 68 = .ok (.istore_n 3, 1) := by decide +kernel
theorem dX12_isEither_69 : decode cX12_isEither 69 = .ok (.iload_n 2, 1) := by decide +kernel
theorem dX12_isEither_70 : decode cX12_isEither 70 = .ok (.istore 4, 2) := by decide +kernel
theorem dX12_isEither_72 : decode cX12_isEither 72 = .ok (.iload 4, 2) := by decide +kernel
theorem dX12_isEither_74 : decode cX12_isEither 74 = .ok (.ifCond .le 35, 3) := by decide +kernel
theorem dX12_isEither_77 : decode cX12_isEither 77 = .ok (.aload_n 0, 1) := by decide +kernel
theorem dX12_isEither_78 : decode cX12_isEither 78 = .ok (.iload 4, 2) := by decide +kernel
theorem dX12_isEither_80 : decode cX12_isEither 80 = .ok (.invokevirtual 192, 3) := by decide +kernel
theorem dX12_isEither_83 : decode cX12_isEither 83 = .ok (.aload_n 0, 1) := by decide +kernel
theorem dX12_isEither_84 : decode cX12_isEither 84 = .ok (.getfield 19, 3) := by decide +kernel
theorem dX12_isEither_87 : decode cX12_isEither 87 = .ok (.iload_n 1, 1) := by decide +kernel
theorem dX12_isEither_88 : decode cX12_isEither 88 = .ok (.iaload, 1) := by decide +kernel
theorem dX12_isEither_89 : decode cX12_isEither 89 = .ok (.invokestatic 133, 3) := by decide +kernel
theorem dX12_isEither_92 : decode cX12_isEither 92 = .ok (.iload_n 3, 1) := by decide +kernel
theorem dX12_isEither_93 : decode cX12_isEither 93 = .ok (.if_icmp .eq 5, 3) := by decide +kernel
theorem dX12_isEither_96 : decode cX12_isEither 96 = .ok (.iconst 1, 1) := by decide +kernel
theorem dX12_isEither_97 : decode cX12_isEither 97 = .ok (.ireturn, 1) := by decide +kernel
theorem dX12_isEither_98 : decode cX12_isEither 98 = .ok (.iload 4, 2) := by decide +kernel
theorem dX12_isEither_100 : decode cX12_isEither 100 = .ok (.iconst 1, 1) := by decide +kernel
theorem dX12_isEither_101 : decode cX12_isEither 101 = .ok (.isub, 1) := by decide +kernel
theorem dX12_isEither_102 : decode cX12_isEither 102 = .ok (.iload_n 2, 1) := by decide +kernel
theorem dX12_isEither_103 : decode cX12_isEither 103 = .ok (.iand, 1) := by decide +kernel
theorem dX12_isEither_104 : decode cX12_isEither 104 = .ok (.istore 4, 2) := by decide +kernel
theorem dX12_isEither_106 : decode cX12_isEither 106 = .ok (.goto (-34), 3) := by decide +kernel
theorem dX12_isEither_109 : decode cX12_isEither 109 = .ok (.iconst 0, 1) := by decide +kernel
theorem dX12_isEither_110 : decode cX12_isEither 110 = .ok (.ireturn, 1) := by decide +kernel
theorem dX12_look_0 : decode cX12_look 0 = .ok (.aload_n 0, 1) := by decide +kernel
theorem dX12_look_1 : decode cX12_look 1 = .ok (.iload_n 1, 1) := by decide +kernel
theorem dX12_look_2 : decode cX12_look 2 = .ok (.putfield 183, 3) := by decide +kernel
theorem dX12_look_5 : decode cX12_look 5 = .ok (.aload_n 0, 1) := by decide +kernel
theorem dX12_look_6 : decode cX12_look 6 = .ok (.iload_n 1, 1) := by decide +kernel
theorem dX12_look_7 : decode cX12_look 7 = .ok (.putfield 186, 3) := by decide +kernel
theorem dX12_look_10 : decode cX12_look 10 = .ok (.aload_n 0, 1) := by decide +kernel
theorem dX12_look_11 : decode cX12_look 11 = .ok (.iconst 0, 1) := by decide +kernel
theorem dX12_look_12 : decode cX12_look 12 = .ok (.putfield 189, 3) := by decide +kernel
theorem dX12_look_15 : decode cX12_look 15 = .ok (.iconst 0, 1) := by decide +kernel
theorem dX12_look_16 : decode cX12_look 16 = .ok (.istore 4, 2) := by decide +kernel
theorem dX12_look_18 : decode cX12_look 18 = .ok (.iconst 0, 1) := by decide +kernel
theorem dX12_look_19 : decode cX12_look 19 = .ok (.istore 5, 2) := by decide +kernel
theorem dX12_look_21 : decode cX12_look 21 = .ok (.iload 5, 2) := by decide +kernel
theorem dX12_look_23 : decode cX12_look 23 = .ok (.aload_n 0, 1) := by decide +kernel
theorem dX12_look_24 : decode cX12_look 24 = .ok (.getfield 126, 3) := by decide +kernel
theorem dX12_look_27 : decode cX12_look 27 = .ok (.if_icmp .ge 137, 3) := by decide +kernel
theorem dX12_look_30 : decode cX12_look 30 = .ok (.aload_n 0, 1) := by decide +kernel
theorem dX12_look_31 : decode cX12_look 31 = .ok (.iload_n 2, 1) := by decide +kernel
theorem dX12_look_32 : decode cX12_look 32 = .ok (.iload 5, 2) := by decide +kernel
theorem dX12_look_34 : decode cX12_look 34 = .ok (.invokevirtual 195, 3) := by decide +kernel
theorem dX12_look_37 : decode cX12_look 37 = .ok (.ifCond .ne 6, 3) := by decide +kernel
theorem dX12_look_40 : decode cX12_look 40 = .ok (.goto 118, 3) := by decide +kernel
theorem dX12_look_43 : decode cX12_look 43 = .ok (.aload_n 0, 1) := by decide +kernel
theorem dX12_look_44 : decode cX12_look 44 = .ok (.getfield 7, 3) := by decide +kernel
theorem dX12_look_47 : decode cX12_look 47 = .ok (.iload 5, 2) := by decide +kernel
theorem dX12_look_49 : decode cX12_look 49 = .ok (.iaload, 1) := by decide +kernel
theorem dX12_look_50 : decode cX12_look 50 = .ok (.bipush 6, 2) := by decide +kernel
theorem dX12_look_52 : decode cX12_look 52 = .ok (.if_icmp .ne 17, 3) := by decide +kernel
theorem dX12_look_55 : decode cX12_look 55 = .ok (.iload_n 1, 1) := by decide +kernel
theorem dX12_look_56 : decode cX12_look 56 = .ok (.aload_n 0, 1) := by decide +kernel
theorem dX12_look_57 : decode cX12_look 57 = .ok (.getfield 19, 3) := by decide +kernel
theorem dX12_look_60 : decode cX12_look 60 = .ok (.iload 5, 2) := by decide +kernel
theorem dX12_look_62 : decode cX12_look 62 = .ok (.iaload, 1) := by decide +kernel
theorem dX12_look_63 : decode cX12_look 63 = .ok (.invokestatic 133, 3) := by decide +kernel
theorem dX12_look_66 : decode cX12_look 66 = .ok (.goto 20, 3) := by decide +kernel
theorem dX12_look_69 : decode cX12_look 69 = .ok (.iload 4, 2) := by decide +kernel
theorem dX12_look_71 : decode cX12_look 71 = .ok (.bipush 31, 2) := by decide +kernel
theorem dX12_look_73 : decode cX12_look 73 = .ok (.if_icmp .ge 12, 3) := by decide +kernel
theorem dX12_look_76 : decode cX12_look 76 = .ok (.iload_n 3, 1) := by decide +kernel
theorem dX12_look_77 : decode cX12_look 77 = .ok (.iload 4, 2) := by decide +kernel
theorem dX12_look_79 : decode cX12_look 79 = .ok (.ishr, 1) := by decide +kernel
theorem dX12_look_80 : decode cX12_look 80 = .ok (.iconst 1, 1) := by decide +kernel
theorem dX12_look_81 : decode cX12_look 81 = .ok (.iand, 1) := by decide +kernel
theorem dX12_look_82 : decode cX12_look 82 = .ok (.goto 4, 3) := by decide +kernel
theorem dX12_look_85 : decode cX12_look 85 = .ok (.iconst 0, 1) := by decide +kernel
theorem dX12_look_86 : decode cX12_look 86 = .ok (.istore 6, 2) := by decide +kernel
theorem dX12_look_88 : decode cX12_look 88 = .ok (.iload 4, 2) := by decide +kernel
theorem dX12_look_90 : decode cX12_look 90 = .ok (.aload_n 0, 1) := by decide +kernel
theorem dX12_look_91 : decode cX12_look 91 = .ok (.getfield 7, 3) := by decide +kernel
theorem dX12_look_94 : decode cX12_look 94 = .ok (.iload 5, 2) := by decide +kernel
theorem dX12_look_96 : decode cX12_look 96 = .ok (.iaload, 1) := by decide +kernel
theorem dX12_look_97 : decode cX12_look 97 = .ok (.iconst 5, 1) := by decide +kernel
theorem dX12_look_98 : decode cX12_look 98 = .ok (.if_icmp .ne 7, 3) := by decide +kernel
theorem dX12_look_101 : decode cX12_look 101 = .ok (.iconst 1, 1) := by decide +kernel
theorem dX12_look_102 : decode cX12_look 102 = .ok (.goto 4, 3) := by decide +kernel
theorem dX12_look_105 : decode cX12_look 105 = .ok (.iconst 0, 1) := by decide +kernel
theorem dX12_look_106 : decode cX12_look 106 = .ok (.iadd, 1) := by decide +kernel
theorem dX12_look_107 : decode cX12_look 107 = .ok (.istore 4, 2) := by decide +kernel
theorem dX12_look_109 : decode cX12_look 109 = .ok (.aload_n 0, 1) := by decide +kernel
theorem dX12_look_110 : decode cX12_look 110 = .ok (.aload_n 0, 1) := by decide +kernel
theorem dX12_look_111 : decode cX12_look 111 = .ok (.getfield 186, 3) := by decide +kernel
theorem dX12_look_114 : decode cX12_look 114 = .ok (.iconst 1, 1) := by decide +kernel
theorem dX12_look_115 : decode cX12_look 115 = .ok (.iload 5, 2) := by decide +kernel
theorem dX12_look_117 : decode cX12_look 117 = .ok (.ishl, 1) := by decide +kernel
theorem dX12_look_118 : decode cX12_look 118 = .ok (.iconst (-1), 1) := by decide +kernel
theorem dX12_look_119 : decode cX12_look 119 = .ok (.ixor, 1) := by decide +kernel
theorem dX12_look_120 : decode cX12_look 120 = .ok (.iand, 1) := by decide +kernel
theorem dX12_look_121 : decode cX12_look 121 = .ok (.iload 6, 2) := by decide +kernel
theorem dX12_look_123 : decode cX12_look 123 = .ok (.iload 5, 2) := by decide +kernel
theorem dX12_look_125 : decode cX12_look 125 = .ok (.ishl, 1) := by decide +kernel
theorem dX12_look_126 : decode cX12_look 126 = .ok (.ior, 1) := by decide +kernel
theorem dX12_look_127 : decode cX12_look 127 = .ok (.putfield 186, 3) := by decide +kernel
theorem dX12_look_130 : decode cX12_look 130 = .ok (.aload_n 0, 1) := by decide +kernel
theorem dX12_look_131 : decode cX12_look 131 = .ok (.dup, 1) := by decide +kernel
theorem dX12_look_132 : decode cX12_look 132 = .ok (.getfield 189, 3) := by decide +kernel
theorem dX12_look_135 : decode cX12_look 135 = .ok (.iload 6, 2) := by decide +kernel
theorem dX12_look_137 : decode cX12_look 137 = .ok (.iload_n 1, 1) := by decide +kernel
theorem dX12_look_138 : decode cX12_look 138 = .ok (.iload 5, 2) := by decide +kernel
theorem dX12_look_140 : decode cX12_look 140 = .ok (.invokestatic 133, 3) := by decide +kernel
theorem dX12_look_143 : decode cX12_look 143 = .ok (.if_icmp .eq 10, 3) := by decide +kernel
theorem dX12_look_146 : decode cX12_look 146 = .ok (.iconst 1, 1) := by decide +kernel
theorem dX12_look_147 : decode cX12_look 147 = .ok (.iload 5, 2) := by decide +kernel
theorem dX12_look_149 : decode cX12_look 149 = .ok (.ishl, 1) := by decide +kernel
theorem dX12_look_150 : decode cX12_look 150 = .ok (.goto 4, 3) := by decide +kernel
theorem dX12_look_153 : decode cX12_look 153 = .ok (.iconst 0, 1) := by decide +kernel
theorem dX12_look_154 : decode cX12_look 154 = .ok (.ior, 1) := by decide +kernel
theorem dX12_look_155 : decode cX12_look 155 = .ok (.putfield 189, 3) := by decide +kernel
theorem dX12_look_158 : decode cX12_look 158 = .ok (.iinc 5 1, 3) := by decide +kernel
theorem dX12_look_161 : decode cX12_look 161 = .ok (.goto (-140), 3) := by decide +kernel
theorem dX12_look_164 : decode cX12_look 164 = .ok (.aload_n 0, 1) := by decide +kernel
theorem dX12_look_165 : decode cX12_look 165 = .ok (.iconst 0, 1) := by decide +kernel
theorem dX12_look_166 : decode cX12_look 166 = .ok (.putfield 199, 3) := by decide +kernel
theorem dX12_look_169 : decode cX12_look 169 = .ok (.iconst 0, 1) := by decide +kernel
theorem dX12_look_170 : decode cX12_look 170 = .ok (.istore 5, 2) := by decide +kernel
theorem dX12_look_172 : decode cX12_look 172 = .ok (.iload 5, 2) := by decide +kernel
theorem dX12_look_174 : decode cX12_look 174 = .ok (.aload_n 0, 1) := by decide +kernel
theorem dX12_look_175 : decode cX12_look 175 = .ok (.getfield 126, 3) := by decide +kernel
theorem dX12_look_178 : decode cX12_look 178 = .ok (.if_icmp .ge 57, 3) := by decide +kernel
theorem dX12_look_181 : decode cX12_look 181 = .ok (.aload_n 0, 1) := by decide +kernel
theorem dX12_look_182 : decode cX12_look 182 = .ok (.dup, 1) := by decide +kernel
theorem dX12_look_183 : decode cX12_look 183 = .ok (.getfield 199, 3) := by decide +kernel
theorem dX12_look_186 : decode cX12_look 186 = .ok (.aload_n 0, 1) := by decide +kernel
theorem dX12_look_187 : decode cX12_look 187 = .ok (.getfield 7, 3) := by decide +kernel
theorem dX12_look_190 : decode cX12_look 190 = .ok (.iload 5, 2) := by decide +kernel
theorem dX12_look_192 : decode cX12_look 192 = .ok (.iaload, 1) := by decide +kernel
theorem dX12_look_193 : decode cX12_look 193 = .ok (.bipush 6, 2) := by decide +kernel
theorem dX12_look_195 : decode cX12_look 195 = .ok (.if_icmp .ne 29, 3) := by decide +kernel
theorem dX12_look_198 : decode cX12_look 198 = .ok (.aload_n 0, 1) := by decide +kernel
theorem dX12_look_199 : decode cX12_look 199 = .ok (.iload_n 2, 1) := by decide +kernel
theorem dX12_look_200 : decode cX12_look 200 = .ok (.iload 5, 2) := by decide +kernel
theorem dX12_look_202 : decode cX12_look 202 = .ok (.invokevirtual 195, 3) := by decide +kernel
theorem dX12_look_205 : decode cX12_look 205 = .ok (.ifCond .eq 19, 3) := by decide +kernel
theorem dX12_look_208 : decode cX12_look 208 = .ok (.aload_n 0, 1) := by decide +kernel
theorem dX12_look_209 : decode cX12_look 209 = .ok (.iload 5, 2) := by decide +kernel
theorem dX12_look_211 : decode cX12_look 211 = .ok (.invokevirtual 202, 3) := by decide +kernel
theorem dX12_look_214 : decode cX12_look 214 = .ok (.ifCond .eq 10, 3) := by decide +kernel
theorem dX12_look_217 : decode cX12_look 217 = .ok (.iconst 1, 1) := by decide +kernel
theorem dX12_look_218 : decode cX12_look 218 = .ok (.iload 5, 2) := by decide +kernel
theorem dX12_look_220 : decode cX12_look 220 = .ok (.ishl, 1) := by decide +kernel
theorem dX12_look_221 : decode cX12_look 221 = .ok (.goto 4, 3) := by decide +kernel
theorem dX12_look_224 : decode cX12_look 224 = .ok (.iconst 0, 1) := by decide +kernel
theorem dX12_look_225 : decode cX12_look 225 = .ok (.ior, 1) := by decide +kernel
theorem dX12_look_226 : decode cX12_look 226 = .ok (.putfield 199, 3) := by decide +kernel
theorem dX12_look_229 : decode cX12_look 229 = .ok (.iinc 5 1, 3) := by decide +kernel
theorem dX12_look_232 : decode cX12_look 232 = .ok (.goto (-60), 3) := by decide +kernel
theorem dX12_look_235 : decode cX12_look 235 = .ok (.return_, 1) := by decide +kernel
theorem dX12_countBits_0 : decode cX12_countBits 0 = .ok (.iconst 0, 1) := by decide +kernel
theorem dX12_countBits_1 : decode cX12_countBits 1 = .ok (.istore_n 2, 1) := by decide +kernel
theorem dX12_countBits_2 : decode cX12_countBits 2 = .ok (.iconst 0, 1) := by decide +kernel
theorem dX12_countBits_3 : decode cX12_countBits 3 = .ok (.istore_n 3, 1) := by decide +kernel
theorem dX12_countBits_4 : decode cX12_countBits 4 = .ok (.iload_n 3, 1) := by decide +kernel
theorem dX12_countBits_5 : decode cX12_countBits 5 = .ok (.bipush 24, 2) := by decide +kernel
theorem dX12_countBits_7 : decode cX12_countBits 7 = .ok (.if_icmp .ge 17, 3) := by decide +kernel
theorem dX12_countBits_10 : decode cX12_countBits 10 = .ok (.iload_n 2, 1) := by decide +kernel
theorem dX12_countBits_11 : decode cX12_countBits 11 = .ok (.iload_n 1, 1) := by decide +kernel
theorem dX12_countBits_12 : decode cX12_countBits 12 = .ok (.iload_n 3, 1) := by decide +kernel
theorem dX12_countBits_13 : decode cX12_countBits 13 = .ok (.ishr, 1) := by decide +kernel
theorem dX12_countBits_14 : decode cX12_countBits 14 = .ok (.iconst 1, 1) := by decide +kernel
theorem dX12_countBits_15 : decode cX12_countBits 15 = .ok (.iand, 1) := by decide +kernel
theorem dX12_countBits_16 : decode cX12_countBits 16 = .ok (.iadd, 1) := by decide +kernel
theorem dX12_countBits_17 : decode cX12_countBits 17 = .ok (.istore_n 2, 1) := by decide +kernel
theorem dX12_countBits_18 : decode cX12_countBits 18 = .ok (.iinc 3 1, 3) := by decide +kernel
theorem dX12_countBits_21 : decode cX12_countBits 21 = .ok (.goto (-17), 3) := by decide +kernel
theorem dX12_countBits_24 : decode cX12_countBits 24 = .ok (.iload_n 2, 1) := by decide +kernel
theorem dX12_countBits_25 : decode cX12_countBits 25 = .ok (.ireturn, 1) := by decide +kernel
theorem dX12_behind_0 : decode cX12_behind 0 = .ok (.aload_n 0, 1) := by decide +kernel
theorem dX12_behind_1 : decode cX12_behind 1 = .ok (.getfield 186, 3) := by decide +kernel
theorem dX12_behind_4 : decode cX12_behind 4 = .ok (.istore_n 2, 1) := by decide +kernel
theorem dX12_behind_5 : decode cX12_behind 5 = .ok (.iconst 0, 1) := by decide +kernel
theorem dX12_behind_6 : decode cX12_behind 6 = .ok (.istore_n 3, 1) := by decide +kernel
theorem dX12_behind_7 : decode cX12_behind 7 = .ok (.iconst 0, 1) := by decide +kernel
theorem dX12_behind_8 : decode cX12_behind 8 = .ok (.istore 4, 2) := by decide +kernel
theorem dX12_behind_10 : decode cX12_behind 10 = .ok (.iload 4, 2) := by decide +kernel
theorem dX12_behind_12 : decode cX12_behind 12 = .ok (.aload_n 0, 1) := by decide +kernel
theorem dX12_behind_13 : decode cX12_behind 13 = .ok (.getfield 126, 3) := by decide +kernel
theorem dX12_behind_16 : decode cX12_behind 16 = .ok (.if_icmp .ge 46, 3) := by decide +kernel
theorem dX12_behind_19 : decode cX12_behind 19 = .ok (.aload_n 0, 1) := by decide +kernel
theorem dX12_behind_20 : decode cX12_behind 20 = .ok (.getfield 199, 3) := by decide +kernel
theorem dX12_behind_23 : decode cX12_behind 23 = .ok (.iload 4, 2) := by decide +kernel
theorem dX12_behind_25 : decode cX12_behind 25 = .ok (.ishr, 1) := by decide +kernel
theorem dX12_behind_26 : decode cX12_behind 26 = .ok (.iconst 1, 1) := by decide +kernel
theorem dX12_behind_27 : decode cX12_behind 27 = .ok (.iand, 1) := by decide +kernel
theorem dX12_behind_28 : decode cX12_behind 28 = .ok (.iconst 1, 1) := by decide +kernel
theorem dX12_behind_29 : decode cX12_behind 29 = .ok (.if_icmp .ne 27, 3) := by decide +kernel
theorem dX12_behind_32 : decode cX12_behind 32 = .ok (.iload_n 2, 1) := by decide +kernel
theorem dX12_behind_33 : decode cX12_behind 33 = .ok (.iload_n 3, 1) := by decide +kernel
theorem dX12_behind_34 : decode cX12_behind 34 = .ok (.bipush 31, 2) := by decide +kernel
theorem dX12_behind_36 : decode cX12_behind 36 = .ok (.if_icmp .ge 11, 3) := by decide +kernel
theorem dX12_behind_39 : decode cX12_behind 39 = .ok (.iload_n 1, 1) := by decide +kernel
theorem dX12_behind_40 : decode cX12_behind 40 = .ok (.iload_n 3, 1) := by decide +kernel
theorem dX12_behind_41 : decode cX12_behind 41 = .ok (.ishr, 1) := by decide +kernel
theorem dX12_behind_42 : decode cX12_behind 42 = .ok (.iconst 1, 1) := by decide +kernel
theorem dX12_behind_43 : decode cX12_behind 43 = .ok (.iand, 1) := by decide +kernel
theorem dX12_behind_44 : decode cX12_behind 44 = .ok (.goto 4, 3) := by decide +kernel
theorem dX12_behind_47 : decode cX12_behind 47 = .ok (.iconst 0, 1) := by decide +kernel
theorem dX12_behind_48 : decode cX12_behind 48 = .ok (.iload 4, 2) := by decide +kernel
theorem dX12_behind_50 : decode cX12_behind 50 = .ok (.ishl, 1) := by decide +kernel
theorem dX12_behind_51 : decode cX12_behind 51 = .ok (.ixor, 1) := by decide +kernel
theorem dX12_behind_52 : decode cX12_behind 52 = .ok (.istore_n 2, 1) := by decide +kernel
theorem dX12_behind_53 : decode cX12_behind 53 = .ok (.iinc 3 1, 3) := by decide +kernel
theorem dX12_behind_56 : decode cX12_behind 56 = .ok (.iinc 4 1, 3) := by decide +kernel
theorem dX12_behind_59 : decode cX12_behind 59 = .ok (.goto (-49), 3) := by decide +kernel
theorem dX12_behind_62 : decode cX12_behind 62 = .ok (.aload_n 0, 1) := by decide +kernel
theorem dX12_behind_63 : decode cX12_behind 63 = .ok (.iload_n 2, 1) := by decide +kernel
theorem dX12_behind_64 : decode cX12_behind 64 = .ok (.invokevirtual 137, 3) := by decide +kernel
theorem dX12_behind_67 : decode cX12_behind 67 = .ok (.ireturn, 1) := by decide +kernel
theorem dX12_turned_0 : decode cX12_turned 0 = .ok (.iconst 0, 1) := by decide +kernel
theorem dX12_turned_1 : decode cX12_turned 1 = .ok (.istore_n 2, 1) := by decide +kernel
theorem dX12_turned_2 : decode cX12_turned 2 = .ok (.iconst 0, 1) := by decide +kernel
theorem dX12_turned_3 : decode cX12_turned 3 = .ok (.istore_n 3, 1) := by decide +kernel
theorem dX12_turned_4 : decode cX12_turned 4 = .ok (.iload_n 3, 1) := by decide +kernel
theorem dX12_turned_5 : decode cX12_turned 5 = .ok (.aload_n 0, 1) := by decide +kernel
theorem dX12_turned_6 : decode cX12_turned 6 = .ok (.aload_n 0, 1) := by decide +kernel
theorem dX12_turned_7 : decode cX12_turned 7 = .ok (.getfield 199, 3) := by decide +kernel
theorem dX12_turned_10 : decode cX12_turned 10 = .ok (.invokevirtual 205, 3) := by decide +kernel
theorem dX12_turned_13 : decode cX12_turned 13 = .ok (.if_icmp .ge 17, 3) := by decide +kernel
theorem dX12_turned_16 : decode cX12_turned 16 = .ok (.iload_n 2, 1) := by decide +kernel
theorem dX12_turned_17 : decode cX12_turned 17 = .ok (.iload_n 1, 1) := by decide +kernel
theorem dX12_turned_18 : decode cX12_turned 18 = .ok (.iload_n 3, 1) := by decide +kernel
theorem dX12_turned_19 : decode cX12_turned 19 = .ok (.ishr, 1) := by decide +kernel
theorem dX12_turned_20 : decode cX12_turned 20 = .ok (.iconst 1, 1) := by decide +kernel
theorem dX12_turned_21 : decode cX12_turned 21 = .ok (.iand, 1) := by decide +kernel
theorem dX12_turned_22 : decode cX12_turned 22 = .ok (.iadd, 1) := by decide +kernel
theorem dX12_turned_23 : decode cX12_turned 23 = .ok (.istore_n 2, 1) := by decide +kernel
theorem dX12_turned_24 : decode cX12_turned 24 = .ok (.iinc 3 1, 3) := by decide +kernel
theorem dX12_turned_27 : decode cX12_turned 27 = .ok (.goto (-23), 3) := by decide +kernel
theorem dX12_turned_30 : decode cX12_turned 30 = .ok (.iload_n 2, 1) := by decide +kernel
theorem dX12_turned_31 : decode cX12_turned 31 = .ok (.ireturn, 1) := by decide +kernel
theorem dX12_isKept_0 : decode cX12_isKept 0 = .ok (.iload_n 3, 1) := by decide +kernel
theorem dX12_isKept_1 : decode cX12_isKept 1 = .ok (.aload_n 0, 1) := by decide +kernel
theorem dX12_isKept_2 : decode cX12_isKept 2 = .ok (.getfield 38, 3) := by decide +kernel
theorem dX12_isKept_5 : decode cX12_isKept 5 = .ok (.iload_n 1, 1) := by decide +kernel
theorem dX12_isKept_6 : decode cX12_isKept 6 = .ok (.iaload, 1) := by decide +kernel
theorem dX12_isKept_7 : decode cX12_isKept 7 = .ok (.invokestatic 133, 3) := by decide +kernel
theorem dX12_isKept_10 : decode cX12_isKept 10 = .ok (.istore 5, 2) := by decide +kernel
theorem dX12_isKept_12 : decode cX12_isKept 12 = .ok (.aload_n 0, 1) := by decide +kernel
theorem dX12_isKept_13 : decode cX12_isKept 13 = .ok (.getfield 35, 3) := by decide +kernel
theorem dX12_isKept_16 : decode cX12_isKept 16 = .ok (.iload_n 1, 1) := by decide +kernel
theorem dX12_isKept_17 : decode cX12_isKept 17 = .ok (.iaload, 1) := by decide +kernel
theorem dX12_isKept_18 : decode cX12_isKept 18 = .ok (.tableswitch 81 0 2 #[26, 38, 60], 26) := by decide +kernel
theorem dX12_isKept_44 : decode cX12_isKept 44 = .ok (.iload 5, 2) := by decide +kernel
theorem dX12_isKept_46 : decode cX12_isKept 46 = .ok (.iconst 1, 1) := by decide +kernel
theorem dX12_isKept_47 : decode cX12_isKept 47 = .ok (.if_icmp .ne 7, 3) := by decide +kernel
theorem dX12_isKept_50 : decode cX12_isKept 50 = .ok (.iconst 1, 1) := by decide +kernel
theorem dX12_isKept_51 : decode cX12_isKept 51 = .ok (.goto 4, 3) := by decide +kernel
theorem dX12_isKept_54 : decode cX12_isKept 54 = .ok (.iconst 0, 1) := by decide +kernel
theorem dX12_isKept_55 : decode cX12_isKept 55 = .ok (.ireturn, 1) := by decide +kernel
theorem dX12_isKept_56 : decode cX12_isKept 56 = .ok (.iload 5, 2) := by decide +kernel
theorem dX12_isKept_58 : decode cX12_isKept 58 = .ok (.iload_n 3, 1) := by decide +kernel
theorem dX12_isKept_59 : decode cX12_isKept 59 = .ok (.aload_n 0, 1) := by decide +kernel
theorem dX12_isKept_60 : decode cX12_isKept 60 = .ok (.getfield 41, 3) := by decide +kernel
theorem dX12_isKept_63 : decode cX12_isKept 63 = .ok (.iload_n 1, 1) := by decide +kernel
theorem dX12_isKept_64 : decode cX12_isKept 64 = .ok (.iaload, 1) := by decide +kernel
theorem dX12_isKept_65 : decode cX12_isKept 65 = .ok (.invokestatic 133, 3) := by decide +kernel
theorem dX12_isKept_68 : decode cX12_isKept 68 = .ok (.iand, 1) := by decide +kernel
theorem dX12_isKept_69 : decode cX12_isKept 69 = .ok (.ifCond .ne 7, 3) := by decide +kernel
theorem dX12_isKept_72 : decode cX12_isKept 72 = .ok (.iconst 1, 1) := by decide +kernel
theorem dX12_isKept_73 : decode cX12_isKept 73 = .ok (.goto 4, 3) := by decide +kernel
theorem dX12_isKept_76 : decode cX12_isKept 76 = .ok (.iconst 0, 1) := by decide +kernel
theorem dX12_isKept_77 : decode cX12_isKept 77 = .ok (.ireturn, 1) := by decide +kernel
theorem dX12_isKept_78 : decode cX12_isKept 78 = .ok (.iload 5, 2) := by decide +kernel
theorem dX12_isKept_80 : decode cX12_isKept 80 = .ok (.iload_n 3, 1) := by decide +kernel
theorem dX12_isKept_81 : decode cX12_isKept 81 = .ok (.aload_n 0, 1) := by decide +kernel
theorem dX12_isKept_82 : decode cX12_isKept 82 = .ok (.getfield 41, 3) := by decide +kernel
theorem dX12_isKept_85 : decode cX12_isKept 85 = .ok (.iload_n 1, 1) := by decide +kernel
theorem dX12_isKept_86 : decode cX12_isKept 86 = .ok (.iaload, 1) := by decide +kernel
theorem dX12_isKept_87 : decode cX12_isKept 87 = .ok (.invokestatic 133, 3) := by decide +kernel
theorem dX12_isKept_90 : decode cX12_isKept 90 = .ok (.if_icmp .ne 7, 3) := by decide +kernel
theorem dX12_isKept_93 : decode cX12_isKept 93 = .ok (.iconst 1, 1) := by decide +kernel
theorem dX12_isKept_94 : decode cX12_isKept 94 = .ok (.goto 4, 3) := by decide +kernel
theorem dX12_isKept_97 : decode cX12_isKept 97 = .ok (.iconst 0, 1) := by decide +kernel
theorem dX12_isKept_98 : decode cX12_isKept 98 = .ok (.ireturn, 1) := by decide +kernel
theorem dX12_isKept_99 : decode cX12_isKept 99 = .ok (.iconst 0, 1) := by decide +kernel
theorem dX12_isKept_100 : decode cX12_isKept 100 = .ok (.istore 6, 2) := by decide +kernel
theorem dX12_isKept_102 : decode cX12_isKept 102 = .ok (.aload_n 0, 1) := by decide +kernel
theorem dX12_isKept_103 : decode cX12_isKept 103 = .ok (.getfield 38, 3) := by decide +kernel
theorem dX12_isKept_106 : decode cX12_isKept 106 = .ok (.iload_n 1, 1) := by decide +kernel
theorem dX12_isKept_107 : decode cX12_isKept 107 = .ok (.iaload, 1) := by decide +kernel
theorem dX12_isKept_108 : decode cX12_isKept 108 = .ok (.istore 7, 2) := by decide +kernel
theorem dX12_isKept_110 : decode cX12_isKept 110 = .ok (.iload 7, 2) := by decide +kernel
theorem dX12_isKept_112 : decode cX12_isKept 112 = .ok (.aload_n 0, 1) := by decide +kernel
theorem dX12_isKept_113 : decode cX12_isKept 113 = .ok (.getfield 41, 3) := by decide +kernel
theorem dX12_isKept_116 : decode cX12_isKept 116 = .ok (.iload_n 1, 1) := by decide +kernel
theorem dX12_isKept_117 : decode cX12_isKept 117 = .ok (.iaload, 1) := by decide +kernel
theorem dX12_isKept_118 : decode cX12_isKept 118 = .ok (.if_icmp .gt 45, 3) := by decide +kernel
theorem dX12_isKept_121 : decode cX12_isKept 121 = .ok (.iload 6, 2) := by decide +kernel
theorem dX12_isKept_123 : decode cX12_isKept 123 = .ok (.aload_n 0, 1) := by decide +kernel
theorem dX12_isKept_124 : decode cX12_isKept 124 = .ok (.getfield 7, 3) := by decide +kernel
theorem dX12_isKept_127 : decode cX12_isKept 127 = .ok (.iload 7, 2) := by decide +kernel
theorem dX12_isKept_129 : decode cX12_isKept 129 = .ok (.iaload, 1) := by decide +kernel
theorem dX12_isKept_130 : decode cX12_isKept 130 = .ok (.iconst 4, 1) := by decide +kernel
theorem dX12_isKept_131 : decode cX12_isKept 131 = .ok (.if_icmp .le 22, 3) := by decide +kernel
theorem dX12_isKept_134 : decode cX12_isKept 134 = .ok (.iload_n 2, 1) := by decide +kernel
theorem dX12_isKept_135 : decode cX12_isKept 135 = .ok (.iload 7, 2) := by decide +kernel
theorem dX12_isKept_137 : decode cX12_isKept 137 = .ok (.invokestatic 133, 3) := by decide +kernel
theorem dX12_isKept_140 : decode cX12_isKept 140 = .ok (.iload_n 3, 1) := by decide +kernel
theorem dX12_isKept_141 : decode cX12_isKept 141 = .ok (.iload 7, 2) := by decide +kernel
theorem dX12_isKept_143 : decode cX12_isKept 143 = .ok (.invokestatic 133, 3) := by decide +kernel
theorem dX12_isKept_146 : decode cX12_isKept 146 = .ok (.if_icmp .eq 7, 3) := by decide +kernel
theorem dX12_isKept_149 : decode cX12_isKept 149 = .ok (.iconst 1, 1) := by decide +kernel
theorem dX12_isKept_150 : decode cX12_isKept 150 = .ok (.goto 4, 3) := by decide +kernel
theorem dX12_isKept_153 : decode cX12_isKept 153 = .ok (.iconst 0, 1) := by decide +kernel
theorem dX12_isKept_154 : decode cX12_isKept 154 = .ok (.iadd, 1) := by decide +kernel
theorem dX12_isKept_155 : decode cX12_isKept 155 = .ok (.istore 6, 2) := by decide +kernel
theorem dX12_isKept_157 : decode cX12_isKept 157 = .ok (.iinc 7 1, 3) := by decide +kernel
theorem dX12_isKept_160 : decode cX12_isKept 160 = .ok (.goto (-50), 3) := by decide +kernel
theorem dX12_isKept_163 : decode cX12_isKept 163 = .ok (.iload 4, 2) := by decide +kernel
theorem dX12_isKept_165 : decode cX12_isKept 165 = .ok (.ifCond .ne 9, 3) := by decide +kernel
theorem dX12_isKept_168 : decode cX12_isKept 168 = .ok (.iload 6, 2) := by decide +kernel
theorem dX12_isKept_170 : decode cX12_isKept 170 = .ok (.iconst 2, 1) := by decide +kernel
theorem dX12_isKept_171 : decode cX12_isKept 171 = .ok (.if_icmp .ge 7, 3) := by decide +kernel
theorem dX12_isKept_174 : decode cX12_isKept 174 = .ok (.iconst 1, 1) := by decide +kernel
theorem dX12_isKept_175 : decode cX12_isKept 175 = .ok (.goto 4, 3) := by decide +kernel
theorem dX12_isKept_178 : decode cX12_isKept 178 = .ok (.iconst 0, 1) := by decide +kernel
theorem dX12_isKept_179 : decode cX12_isKept 179 = .ok (.ireturn, 1) := by decide +kernel
theorem dX12_start_0 : decode cX12_start 0 = .ok (.aload_n 0, 1) := by decide +kernel
theorem dX12_start_1 : decode cX12_start 1 = .ok (.iconst 0, 1) := by decide +kernel
theorem dX12_start_2 : decode cX12_start 2 = .ok (.putfield 122, 3) := by decide +kernel
theorem dX12_start_5 : decode cX12_start 5 = .ok (.aload_n 0, 1) := by decide +kernel
theorem dX12_start_6 : decode cX12_start 6 = .ok (.getfield 141, 3) := by decide +kernel
theorem dX12_start_9 : decode cX12_start 9 = .ok (.istore_n 1, 1) := by decide +kernel
theorem dX12_start_10 : decode cX12_start 10 = .ok (.aload_n 0, 1) := by decide +kernel
theorem dX12_start_11 : decode cX12_start 11 = .ok (.invokevirtual 119, 3) := by decide +kernel
theorem dX12_start_14 : decode cX12_start 14 = .ok (.iload_n 1, 1) := by decide +kernel
theorem dX12_start_15 : decode cX12_start 15 = .ok (.ireturn, 1) := by decide +kernel
theorem dX12_canBe_0 : decode cX12_canBe 0 = .ok (.iconst 1, 1) := by decide +kernel
theorem dX12_canBe_1 : decode cX12_canBe 1 = .ok (.istore_n 2, 1) := by decide +kernel
theorem dX12_canBe_2 : decode cX12_canBe 2 = .ok (.iconst 0, 1) := by decide +kernel
theorem dX12_canBe_3 : decode cX12_canBe 3 = .ok (.istore_n 3, 1) := by decide +kernel
theorem dX12_canBe_4 : decode cX12_canBe 4 = .ok (.iload_n 3, 1) := by decide +kernel
theorem dX12_canBe_5 : decode cX12_canBe 5 = .ok (.bipush 16, 2) := by decide +kernel
theorem dX12_canBe_7 : decode cX12_canBe 7 = .ok (.if_icmp .ge 39, 3) := by decide +kernel
theorem dX12_canBe_10 : decode cX12_canBe 10 = .ok (.iload_n 2, 1) := by decide +kernel
theorem dX12_canBe_11 : decode cX12_canBe 11 = .ok (.ifCond .eq 27, 3) := by decide +kernel
theorem dX12_canBe_14 : decode cX12_canBe 14 = .ok (.aload_n 0, 1) := by decide +kernel
theorem dX12_canBe_15 : decode cX12_canBe 15 = .ok (.iload_n 3, 1) := by decide +kernel
theorem dX12_canBe_16 : decode cX12_canBe 16 = .ok (.aload_n 0, 1) := by decide +kernel
theorem dX12_canBe_17 : decode cX12_canBe 17 = .ok (.aload_n 0, 1) := by decide +kernel
theorem dX12_canBe_18 : decode cX12_canBe 18 = .ok (.getfield 50, 3) := by decide +kernel
theorem dX12_canBe_21 : decode cX12_canBe 21 = .ok (.iload_n 3, 1) := by decide +kernel
theorem dX12_canBe_22 : decode cX12_canBe 22 = .ok (.iaload, 1) := by decide +kernel
theorem dX12_canBe_23 : decode cX12_canBe 23 = .ok (.iload_n 1, 1) := by decide +kernel
theorem dX12_canBe_24 : decode cX12_canBe 24 = .ok (.iload_n 3, 1) := by decide +kernel
theorem dX12_canBe_25 : decode cX12_canBe 25 = .ok (.invokevirtual 208, 3) := by decide +kernel
theorem dX12_canBe_28 : decode cX12_canBe 28 = .ok (.invokevirtual 212, 3) := by decide +kernel
theorem dX12_canBe_31 : decode cX12_canBe 31 = .ok (.ifCond .eq 7, 3) := by decide +kernel
theorem dX12_canBe_34 : decode cX12_canBe 34 = .ok (.iconst 1, 1) := by decide +kernel
theorem dX12_canBe_35 : decode cX12_canBe 35 = .ok (.goto 4, 3) := by decide +kernel
theorem dX12_canBe_38 : decode cX12_canBe 38 = .ok (.iconst 0, 1) := by decide +kernel
theorem dX12_canBe_39 : decode cX12_canBe 39 = .ok (.istore_n 2, 1) := by decide +kernel
theorem dX12_canBe_40 : decode cX12_canBe 40 = .ok (.iinc 3 1, 3) := by decide +kernel
theorem dX12_canBe_43 : decode cX12_canBe 43 = .ok (.goto (-39), 3) := by decide +kernel
theorem dX12_canBe_46 : decode cX12_canBe 46 = .ok (.iload_n 2, 1) := by decide +kernel
theorem dX12_canBe_47 : decode cX12_canBe 47 = .ok (.ireturn, 1) := by decide +kernel
theorem dX12_go_0 : decode cX12_go 0 = .ok (.aload_n 0, 1) := by decide +kernel
theorem dX12_go_1 : decode cX12_go 1 = .ok (.aload_n 0, 1) := by decide +kernel
theorem dX12_go_2 : decode cX12_go 2 = .ok (.getfield 44, 3) := by decide +kernel
theorem dX12_go_5 : decode cX12_go 5 = .ok (.aload_n 0, 1) := by decide +kernel
theorem dX12_go_6 : decode cX12_go 6 = .ok (.getfield 141, 3) := by decide +kernel
theorem dX12_go_9 : decode cX12_go 9 = .ok (.iaload, 1) := by decide +kernel
theorem dX12_go_10 : decode cX12_go 10 = .ok (.iload_n 1, 1) := by decide +kernel
theorem dX12_go_11 : decode cX12_go 11 = .ok (.iload_n 2, 1) := by decide +kernel
theorem dX12_go_12 : decode cX12_go 12 = .ok (.invokevirtual 215, 3) := by decide +kernel
theorem dX12_go_15 : decode cX12_go 15 = .ok (.aload_n 0, 1) := by decide +kernel
theorem dX12_go_16 : decode cX12_go 16 = .ok (.iconst 0, 1) := by decide +kernel
theorem dX12_go_17 : decode cX12_go 17 = .ok (.putfield 144, 3) := by decide +kernel
theorem dX12_go_20 : decode cX12_go 20 = .ok (.iconst 0, 1) := by decide +kernel
theorem dX12_go_21 : decode cX12_go 21 = .ok (.istore 4, 2) := by decide +kernel
theorem dX12_go_23 : decode cX12_go 23 = .ok (.iload 4, 2) := by decide +kernel
theorem dX12_go_25 : decode cX12_go 25 = .ok (.aload_n 0, 1) := by decide +kernel
theorem dX12_go_26 : decode cX12_go 26 = .ok (.getfield 126, 3) := by decide +kernel
theorem dX12_go_29 : decode cX12_go 29 = .ok (.if_icmp .ge 43, 3) := by decide +kernel
theorem dX12_go_32 : decode cX12_go 32 = .ok (.aload_n 0, 1) := by decide +kernel
theorem dX12_go_33 : decode cX12_go 33 = .ok (.getfield 199, 3) := by decide +kernel
theorem dX12_go_36 : decode cX12_go 36 = .ok (.iload 4, 2) := by decide +kernel
theorem dX12_go_38 : decode cX12_go 38 = .ok (.ishr, 1) := by decide +kernel
theorem dX12_go_39 : decode cX12_go 39 = .ok (.iconst 1, 1) := by decide +kernel
theorem dX12_go_40 : decode cX12_go 40 = .ok (.iand, 1) := by decide +kernel
theorem dX12_go_41 : decode cX12_go 41 = .ok (.iconst 1, 1) := by decide +kernel
theorem dX12_go_42 : decode cX12_go 42 = .ok (.if_icmp .ne 24, 3) := by decide +kernel
theorem dX12_go_45 : decode cX12_go 45 = .ok (.aload_n 0, 1) := by decide +kernel
theorem dX12_go_46 : decode cX12_go 46 = .ok (.getfield 53, 3) := by decide +kernel
theorem dX12_go_49 : decode cX12_go 49 = .ok (.aload_n 0, 1) := by decide +kernel
theorem dX12_go_50 : decode cX12_go 50 = .ok (.getfield 144, 3) := by decide +kernel
theorem dX12_go_53 : decode cX12_go 53 = .ok (.iload 4, 2) := by decide +kernel
theorem dX12_go_55 : decode cX12_go 55 = .ok (.iastore, 1) := by decide +kernel
theorem dX12_go_56 : decode cX12_go 56 = .ok (.aload_n 0, 1) := by decide +kernel
theorem dX12_go_57 : decode cX12_go 57 = .ok (.dup, 1) := by decide +kernel
theorem dX12_go_58 : decode cX12_go 58 = .ok (.getfield 144, 3) := by decide +kernel
theorem dX12_go_61 : decode cX12_go 61 = .ok (.iconst 1, 1) := by decide +kernel
theorem dX12_go_62 : decode cX12_go 62 = .ok (.iadd, 1) := by decide +kernel
theorem dX12_go_63 : decode cX12_go 63 = .ok (.putfield 144, 3) := by decide +kernel
theorem dX12_go_66 : decode cX12_go 66 = .ok (.iinc 4 1, 3) := by decide +kernel
theorem dX12_go_69 : decode cX12_go 69 = .ok (.goto (-46), 3) := by decide +kernel
theorem dX12_go_72 : decode cX12_go 72 = .ok (.aload_n 0, 1) := by decide +kernel
theorem dX12_go_73 : decode cX12_go 73 = .ok (.getfield 44, 3) := by decide +kernel
theorem dX12_go_76 : decode cX12_go 76 = .ok (.aload_n 0, 1) := by decide +kernel
theorem dX12_go_77 : decode cX12_go 77 = .ok (.getfield 141, 3) := by decide +kernel
theorem dX12_go_80 : decode cX12_go 80 = .ok (.iconst 1, 1) := by decide +kernel
theorem dX12_go_81 : decode cX12_go 81 = .ok (.iadd, 1) := by decide +kernel
theorem dX12_go_82 : decode cX12_go 82 = .ok (.aload_n 0, 1) := by decide +kernel
theorem dX12_go_83 : decode cX12_go 83 = .ok (.iload_n 3, 1) := by decide +kernel
theorem dX12_go_84 : decode cX12_go 84 = .ok (.invokevirtual 218, 3) := by decide +kernel
theorem dX12_go_87 : decode cX12_go 87 = .ok (.iastore, 1) := by decide +kernel
theorem dX12_go_88 : decode cX12_go 88 = .ok (.aload_n 0, 1) := by decide +kernel
theorem dX12_go_89 : decode cX12_go 89 = .ok (.getfield 47, 3) := by decide +kernel
theorem dX12_go_92 : decode cX12_go 92 = .ok (.aload_n 0, 1) := by decide +kernel
theorem dX12_go_93 : decode cX12_go 93 = .ok (.getfield 141, 3) := by decide +kernel
theorem dX12_go_96 : decode cX12_go 96 = .ok (.iload_n 1, 1) := by decide +kernel
theorem dX12_go_97 : decode cX12_go 97 = .ok (.iastore, 1) := by decide +kernel
theorem dX12_go_98 : decode cX12_go 98 = .ok (.aload_n 0, 1) := by decide +kernel
theorem dX12_go_99 : decode cX12_go 99 = .ok (.dup, 1) := by decide +kernel
theorem dX12_go_100 : decode cX12_go 100 = .ok (.getfield 141, 3) := by decide +kernel
theorem dX12_go_103 : decode cX12_go 103 = .ok (.iconst 1, 1) := by decide +kernel
theorem dX12_go_104 : decode cX12_go 104 = .ok (.iadd, 1) := by decide +kernel
theorem dX12_go_105 : decode cX12_go 105 = .ok (.putfield 141, 3) := by decide +kernel
theorem dX12_go_108 : decode cX12_go 108 = .ok (.iconst 0, 1) := by decide +kernel
theorem dX12_go_109 : decode cX12_go 109 = .ok (.istore 4, 2) := by decide +kernel
theorem dX12_go_111 : decode cX12_go 111 = .ok (.iload 4, 2) := by decide +kernel
theorem dX12_go_113 : decode cX12_go 113 = .ok (.bipush 16, 2) := by decide +kernel
theorem dX12_go_115 : decode cX12_go 115 = .ok (.if_icmp .ge 30, 3) := by decide +kernel
theorem dX12_go_118 : decode cX12_go 118 = .ok (.aload_n 0, 1) := by decide +kernel
theorem dX12_go_119 : decode cX12_go 119 = .ok (.getfield 50, 3) := by decide +kernel
theorem dX12_go_122 : decode cX12_go 122 = .ok (.iload 4, 2) := by decide +kernel
theorem dX12_go_124 : decode cX12_go 124 = .ok (.aload_n 0, 1) := by decide +kernel
theorem dX12_go_125 : decode cX12_go 125 = .ok (.aload_n 0, 1) := by decide +kernel
theorem dX12_go_126 : decode cX12_go 126 = .ok (.getfield 50, 3) := by decide +kernel
theorem dX12_go_129 : decode cX12_go 129 = .ok (.iload 4, 2) := by decide +kernel
theorem dX12_go_131 : decode cX12_go 131 = .ok (.iaload, 1) := by decide +kernel
theorem dX12_go_132 : decode cX12_go 132 = .ok (.iload_n 1, 1) := by decide +kernel
theorem dX12_go_133 : decode cX12_go 133 = .ok (.iload 4, 2) := by decide +kernel
theorem dX12_go_135 : decode cX12_go 135 = .ok (.invokevirtual 208, 3) := by decide +kernel
theorem dX12_go_138 : decode cX12_go 138 = .ok (.iastore, 1) := by decide +kernel
theorem dX12_go_139 : decode cX12_go 139 = .ok (.iinc 4 1, 3) := by decide +kernel
theorem dX12_go_142 : decode cX12_go 142 = .ok (.goto (-31), 3) := by decide +kernel
theorem dX12_go_145 : decode cX12_go 145 = .ok (.return_, 1) := by decide +kernel
theorem dX12_moment_0 : decode cX12_moment 0 = .ok (.aload_n 0, 1) := by decide +kernel
theorem dX12_moment_1 : decode cX12_moment 1 = .ok (.iconst 0, 1) := by decide +kernel
theorem dX12_moment_2 : decode cX12_moment 2 = .ok (.putfield 122, 3) := by decide +kernel
theorem dX12_moment_5 : decode cX12_moment 5 = .ok (.iload_n 1, 1) := by decide +kernel
theorem dX12_moment_6 : decode cX12_moment 6 = .ok (.i2l, 1) := by decide +kernel
theorem dX12_moment_7 : decode cX12_moment 7 = .ok (.lconst 1, 1) := by decide +kernel
theorem dX12_moment_8 : decode cX12_moment 8 = .ok (.ldc2_w 221, 3) := by decide +kernel
theorem dX12_moment_11 : decode cX12_moment 11 = .ok (.invokestatic 156, 3) := by decide +kernel
theorem dX12_moment_14 : decode cX12_moment 14 = .ok (.ifCond .eq 11, 3) := by decide +kernel
theorem dX12_moment_17 : decode cX12_moment 17 = .ok (.iload_n 2, 1) := by decide +kernel
theorem dX12_moment_18 : decode cX12_moment 18 = .ok (.ifCond .lt 7, 3) := by decide +kernel
theorem dX12_moment_21 : decode cX12_moment 21 = .ok (.iload_n 3, 1) := by decide +kernel
theorem dX12_moment_22 : decode cX12_moment 22 = .ok (.ifCond .ge 5, 3) := by decide +kernel
theorem dX12_moment_25 : decode cX12_moment 25 = .ok (.iconst (-1), 1) := by decide +kernel
theorem dX12_moment_26 : decode cX12_moment 26 = .ok (.ireturn, 1) := by decide +kernel
theorem dX12_moment_27 : decode cX12_moment 27 = .ok (.aload_n 0, 1) := by decide +kernel
theorem dX12_moment_28 : decode cX12_moment 28 = .ok (.iload_n 1, 1) := by decide +kernel
theorem dX12_moment_29 : decode cX12_moment 29 = .ok (.invokevirtual 223, 3) := by decide +kernel
theorem dX12_moment_32 : decode cX12_moment 32 = .ok (.ifCond .ne 6, 3) := by decide +kernel
theorem dX12_moment_35 : decode cX12_moment 35 = .ok (.bipush (-2), 2) := by decide +kernel
theorem dX12_moment_37 : decode cX12_moment 37 = .ok (.ireturn, 1) := by decide +kernel
theorem dX12_moment_38 : decode cX12_moment 38 = .ok (.aload_n 0, 1) := by decide +kernel
theorem dX12_moment_39 : decode cX12_moment 39 = .ok (.getfield 141, 3) := by decide +kernel
theorem dX12_moment_42 : decode cX12_moment 42 = .ok (.bipush 60, 2) := by decide +kernel
theorem dX12_moment_44 : decode cX12_moment 44 = .ok (.if_icmp .ne 6, 3) := by decide +kernel
theorem dX12_moment_47 : decode cX12_moment 47 = .ok (.bipush (-3), 2) := by decide +kernel
theorem dX12_moment_49 : decode cX12_moment 49 = .ok (.ireturn, 1) := by decide +kernel
theorem dX12_moment_50 : decode cX12_moment 50 = .ok (.aload_n 0, 1) := by decide +kernel
theorem dX12_moment_51 : decode cX12_moment 51 = .ok (.iload_n 1, 1) := by decide +kernel
theorem dX12_moment_52 : decode cX12_moment 52 = .ok (.iload_n 2, 1) := by decide +kernel
theorem dX12_moment_53 : decode cX12_moment 53 = .ok (.iload_n 3, 1) := by decide +kernel
theorem dX12_moment_54 : decode cX12_moment 54 = .ok (.invokevirtual 226, 3) := by decide +kernel
theorem dX12_moment_57 : decode cX12_moment 57 = .ok (.aload_n 0, 1) := by decide +kernel
theorem dX12_moment_58 : decode cX12_moment 58 = .ok (.getfield 144, 3) := by decide +kernel
theorem dX12_moment_61 : decode cX12_moment 61 = .ok (.ireturn, 1) := by decide +kernel
theorem dX12_value_0 : decode cX12_value 0 = .ok (.aload_n 0, 1) := by decide +kernel
theorem dX12_value_1 : decode cX12_value 1 = .ok (.iconst 0, 1) := by decide +kernel
theorem dX12_value_2 : decode cX12_value 2 = .ok (.putfield 122, 3) := by decide +kernel
theorem dX12_value_5 : decode cX12_value 5 = .ok (.aload_n 0, 1) := by decide +kernel
theorem dX12_value_6 : decode cX12_value 6 = .ok (.iload_n 1, 1) := by decide +kernel
theorem dX12_value_7 : decode cX12_value 7 = .ok (.invokevirtual 129, 3) := by decide +kernel
theorem dX12_value_10 : decode cX12_value 10 = .ok (.ifCond .eq 19, 3) := by decide +kernel
theorem dX12_value_13 : decode cX12_value 13 = .ok (.aload_n 0, 1) := by decide +kernel
theorem dX12_value_14 : decode cX12_value 14 = .ok (.getfield 44, 3) := by decide +kernel
theorem dX12_value_17 : decode cX12_value 17 = .ok (.aload_n 0, 1) := by decide +kernel
theorem dX12_value_18 : decode cX12_value 18 = .ok (.getfield 141, 3) := by decide +kernel
theorem dX12_value_21 : decode cX12_value 21 = .ok (.iaload, 1) := by decide +kernel
theorem dX12_value_22 : decode cX12_value 22 = .ok (.iload_n 1, 1) := by decide +kernel
theorem dX12_value_23 : decode cX12_value 23 = .ok (.invokestatic 133, 3) := by decide +kernel
theorem dX12_value_26 : decode cX12_value 26 = .ok (.goto 4, 3) := by decide +kernel
theorem dX12_value_29 : decode cX12_value 29 = .ok (.iconst (-1), 1) := by decide +kernel
theorem dX12_value_30 : decode cX12_value 30 = .ok (.ireturn, 1) := by decide +kernel
theorem dX12_either_0 : decode cX12_either 0 = .ok (.aload_n 0, 1) := by decide +kernel
theorem dX12_either_1 : decode cX12_either 1 = .ok (.iconst 0, 1) := by decide +kernel
theorem dX12_either_2 : decode cX12_either 2 = .ok (.putfield 122, 3) := by decide +kernel
theorem dX12_either_5 : decode cX12_either 5 = .ok (.iload_n 1, 1) := by decide +kernel
theorem dX12_either_6 : decode cX12_either 6 = .ok (.ifCond .lt 11, 3) := by decide +kernel
theorem dX12_either_9 : decode cX12_either 9 = .ok (.iload_n 1, 1) := by decide +kernel
theorem dX12_either_10 : decode cX12_either 10 = .ok (.aload_n 0, 1) := by decide +kernel
theorem dX12_either_11 : decode cX12_either 11 = .ok (.getfield 144, 3) := by decide +kernel
theorem dX12_either_14 : decode cX12_either 14 = .ok (.if_icmp .lt 7, 3) := by decide +kernel
theorem dX12_either_17 : decode cX12_either 17 = .ok (.iconst (-1), 1) := by decide +kernel
theorem dX12_either_18 : decode cX12_either 18 = .ok (.goto 9, 3) := by decide +kernel
theorem dX12_either_21 : decode cX12_either 21 = .ok (.aload_n 0, 1) := by decide +kernel
theorem dX12_either_22 : decode cX12_either 22 = .ok (.getfield 53, 3) := by decide +kernel
theorem dX12_either_25 : decode cX12_either 25 = .ok (.iload_n 1, 1) := by decide +kernel
theorem dX12_either_26 : decode cX12_either 26 = .ok (.iaload, 1) := by decide +kernel
theorem dX12_either_27 : decode cX12_either 27 = .ok (.ireturn, 1) := by decide +kernel
theorem dX12_ticks_0 : decode cX12_ticks 0 = .ok (.aload_n 0, 1) := by decide +kernel
theorem dX12_ticks_1 : decode cX12_ticks 1 = .ok (.iconst 0, 1) := by decide +kernel
theorem dX12_ticks_2 : decode cX12_ticks 2 = .ok (.putfield 122, 3) := by decide +kernel
theorem dX12_ticks_5 : decode cX12_ticks 5 = .ok (.iload_n 1, 1) := by decide +kernel
theorem dX12_ticks_6 : decode cX12_ticks 6 = .ok (.i2l, 1) := by decide +kernel
theorem dX12_ticks_7 : decode cX12_ticks 7 = .ok (.lconst 0, 1) := by decide +kernel
theorem dX12_ticks_8 : decode cX12_ticks 8 = .ok (.ldc2_w 154, 3) := by decide +kernel
theorem dX12_ticks_11 : decode cX12_ticks 11 = .ok (.invokestatic 156, 3) := by decide +kernel
theorem dX12_ticks_14 : decode cX12_ticks 14 = .ok (.ifCond .eq 20, 3) := by decide +kernel
theorem dX12_ticks_17 : decode cX12_ticks 17 = .ok (.iload_n 2, 1) := by decide +kernel
theorem dX12_ticks_18 : decode cX12_ticks 18 = .ok (.i2l, 1) := by decide +kernel
theorem dX12_ticks_19 : decode cX12_ticks 19 = .ok (.lconst 0, 1) := by decide +kernel
theorem dX12_ticks_20 : decode cX12_ticks 20 = .ok (.ldc2_w 154, 3) := by decide +kernel
theorem dX12_ticks_23 : decode cX12_ticks 23 = .ok (.invokestatic 156, 3) := by decide +kernel
theorem dX12_ticks_26 : decode cX12_ticks 26 = .ok (.ifCond .eq 8, 3) := by decide +kernel
theorem dX12_ticks_29 : decode cX12_ticks 29 = .ok (.iload_n 1, 1) := by decide +kernel
theorem dX12_ticks_30 : decode cX12_ticks 30 = .ok (.iload_n 2, 1) := by decide +kernel
theorem dX12_ticks_31 : decode cX12_ticks 31 = .ok (.if_icmp .ne 7, 3) := by decide +kernel
theorem dX12_ticks_34 : decode cX12_ticks 34 = .ok (.iconst (-1), 1) := by decide +kernel
theorem dX12_ticks_35 : decode cX12_ticks 35 = .ok (.goto 30, 3) := by decide +kernel
theorem dX12_ticks_38 : decode cX12_ticks 38 = .ok (.aload_n 0, 1) := by decide +kernel
theorem dX12_ticks_39 : decode cX12_ticks 39 = .ok (.getfield 32, 3) := by decide +kernel
theorem dX12_ticks_42 : decode cX12_ticks 42 = .ok (.iconst 4, 1) := by decide +kernel
theorem dX12_ticks_43 : decode cX12_ticks 43 = .ok (.iload_n 1, 1) := by decide +kernel
theorem dX12_ticks_44 : decode cX12_ticks 44 = .ok (.imul, 1) := by decide +kernel
theorem dX12_ticks_45 : decode cX12_ticks 45 = .ok (.iload_n 2, 1) := by decide +kernel
theorem dX12_ticks_46 : decode cX12_ticks 46 = .ok (.iadd, 1) := by decide +kernel
theorem dX12_ticks_47 : decode cX12_ticks 47 = .ok (.iaload, 1) := by decide +kernel
theorem dX12_ticks_48 : decode cX12_ticks 48 = .ok (.ifCond .ne 7, 3) := by decide +kernel
theorem dX12_ticks_51 : decode cX12_ticks 51 = .ok (.iconst 0, 1) := by decide +kernel
theorem dX12_ticks_52 : decode cX12_ticks 52 = .ok (.goto 13, 3) := by decide +kernel
theorem dX12_ticks_55 : decode cX12_ticks 55 = .ok (.aload_n 0, 1) := by decide +kernel
theorem dX12_ticks_56 : decode cX12_ticks 56 = .ok (.getfield 50, 3) := by decide +kernel
theorem dX12_ticks_59 : decode cX12_ticks 59 = .ok (.iconst 4, 1) := by decide +kernel
theorem dX12_ticks_60 : decode cX12_ticks 60 = .ok (.iload_n 1, 1) := by decide +kernel
theorem dX12_ticks_61 : decode cX12_ticks 61 = .ok (.imul, 1) := by decide +kernel
theorem dX12_ticks_62 : decode cX12_ticks 62 = .ok (.iload_n 2, 1) := by decide +kernel
theorem dX12_ticks_63 : decode cX12_ticks 63 = .ok (.iadd, 1) := by decide +kernel
theorem dX12_ticks_64 : decode cX12_ticks 64 = .ok (.iaload, 1) := by decide +kernel
theorem dX12_ticks_65 : decode cX12_ticks 65 = .ok (.ireturn, 1) := by decide +kernel
theorem dX12_broken_0 : decode cX12_broken 0 = .ok (.aload_n 0, 1) := by decide +kernel
theorem dX12_broken_1 : decode cX12_broken 1 = .ok (.iconst 0, 1) := by decide +kernel
theorem dX12_broken_2 : decode cX12_broken 2 = .ok (.putfield 122, 3) := by decide +kernel
theorem dX12_broken_5 : decode cX12_broken 5 = .ok (.iload_n 1, 1) := by decide +kernel
theorem dX12_broken_6 : decode cX12_broken 6 = .ok (.ifCond .lt 11, 3) := by decide +kernel
theorem dX12_broken_9 : decode cX12_broken 9 = .ok (.iload_n 1, 1) := by decide +kernel
theorem dX12_broken_10 : decode cX12_broken 10 = .ok (.aload_n 0, 1) := by decide +kernel
theorem dX12_broken_11 : decode cX12_broken 11 = .ok (.getfield 180, 3) := by decide +kernel
theorem dX12_broken_14 : decode cX12_broken 14 = .ok (.if_icmp .lt 5, 3) := by decide +kernel
theorem dX12_broken_17 : decode cX12_broken 17 = .ok (.iconst (-1), 1) := by decide +kernel
theorem dX12_broken_18 : decode cX12_broken 18 = .ok (.ireturn, 1) := by decide +kernel
theorem dX12_broken_19 : decode cX12_broken 19 = .ok (.iconst 0, 1) := by decide +kernel
theorem dX12_broken_20 : decode cX12_broken 20 = .ok (.istore_n 2, 1) := by decide +kernel
theorem dX12_broken_21 : decode cX12_broken 21 = .ok (.iload_n 2, 1) := by decide +kernel
theorem dX12_broken_22 : decode cX12_broken 22 = .ok (.aload_n 0, 1) := by decide +kernel
theorem dX12_broken_23 : decode cX12_broken 23 = .ok (.getfield 141, 3) := by decide +kernel
theorem dX12_broken_26 : decode cX12_broken 26 = .ok (.if_icmp .gt 50, 3) := by decide +kernel
theorem dX12_broken_29 : decode cX12_broken 29 = .ok (.aload_n 0, 1) := by decide +kernel
theorem dX12_broken_30 : decode cX12_broken 30 = .ok (.iload_n 1, 1) := by decide +kernel
theorem dX12_broken_31 : decode cX12_broken 31 = .ok (.iload_n 2, 1) := by decide +kernel
theorem dX12_broken_32 : decode cX12_broken 32 = .ok (.ifCond .ne 7, 3) := by decide +kernel
theorem dX12_broken_35 : decode cX12_broken 35 = .ok (.iconst 0, 1) := by decide +kernel
theorem dX12_broken_36 : decode cX12_broken 36 = .ok (.goto 11, 3) := by decide +kernel
theorem dX12_broken_39 : decode cX12_broken 39 = .ok (.aload_n 0, 1) := by decide +kernel
theorem dX12_broken_40 : decode cX12_broken 40 = .ok (.getfield 44, 3) := by decide +kernel
theorem dX12_broken_43 : decode cX12_broken 43 = .ok (.iload_n 2, 1) := by decide +kernel
theorem dX12_broken_44 : decode cX12_broken 44 = .ok (.iconst 1, 1) := by decide +kernel
theorem dX12_broken_45 : decode cX12_broken 45 = .ok (.isub, 1) := by decide +kernel
theorem dX12_broken_46 : decode cX12_broken 46 = .ok (.iaload, 1) := by decide +kernel
theorem dX12_broken_47 : decode cX12_broken 47 = .ok (.aload_n 0, 1) := by decide +kernel
theorem dX12_broken_48 : decode cX12_broken 48 = .ok (.getfield 44, 3) := by decide +kernel
theorem dX12_broken_51 : decode cX12_broken 51 = .ok (.iload_n 2, 1) := by decide +kernel
theorem dX12_broken_52 : decode cX12_broken 52 = .ok (.iaload, 1) := by decide +kernel
theorem dX12_broken_53 : decode cX12_broken 53 = .ok (.iload_n 2, 1) := by decide +kernel
theorem dX12_broken_54 : decode cX12_broken 54 = .ok (.ifCond .ne 7, 3) := by decide +kernel
theorem dX12_broken_57 : decode cX12_broken 57 = .ok (.iconst 1, 1) := by decide +kernel
theorem dX12_broken_58 : decode cX12_broken 58 = .ok (.goto 4, 3) := by decide +kernel
theorem dX12_broken_61 : decode cX12_broken 61 = .ok (.iconst 0, 1) := by decide +kernel
theorem dX12_broken_62 : decode cX12_broken 62 = .ok (.invokevirtual 229, 3) := by decide +kernel
theorem dX12_broken_65 : decode cX12_broken 65 = .ok (.ifCond .ne 5, 3) := by decide +kernel
theorem dX12_broken_68 : decode cX12_broken 68 = .ok (.iload_n 2, 1) := by decide +kernel
theorem dX12_broken_69 : decode cX12_broken 69 = .ok (.ireturn, 1) := by decide +kernel
theorem dX12_broken_70 : decode cX12_broken 70 = .ok (.iinc 2 1, 3) := by decide +kernel
theorem dX12_broken_73 : decode cX12_broken 73 = .ok (.goto (-52), 3) := by decide +kernel
theorem dX12_broken_76 : decode cX12_broken 76 = .ok (.bipush (-2), 2) := by decide +kernel
theorem dX12_broken_78 : decode cX12_broken 78 = .ok (.ireturn, 1) := by decide +kernel
theorem dX12_unwalk_0 : decode cX12_unwalk 0 = .ok (.aload_n 0, 1) := by decide +kernel
theorem dX12_unwalk_1 : decode cX12_unwalk 1 = .ok (.iconst 0, 1) := by decide +kernel
theorem dX12_unwalk_2 : decode cX12_unwalk 2 = .ok (.putfield 233, 3) := by decide +kernel
theorem dX12_unwalk_5 : decode cX12_unwalk 5 = .ok (.aload_n 0, 1) := by decide +kernel
theorem dX12_unwalk_6 : decode cX12_unwalk 6 = .ok (.iconst 0, 1) := by decide +kernel
theorem dX12_unwalk_7 : decode cX12_unwalk 7 = .ok (.putfield 237, 3) := by decide +kernel
theorem dX12_unwalk_10 : decode cX12_unwalk 10 = .ok (.aload_n 0, 1) := by decide +kernel
theorem dX12_unwalk_11 : decode cX12_unwalk 11 = .ok (.iconst 0, 1) := by decide +kernel
theorem dX12_unwalk_12 : decode cX12_unwalk 12 = .ok (.putfield 240, 3) := by decide +kernel
theorem dX12_unwalk_15 : decode cX12_unwalk 15 = .ok (.aload_n 0, 1) := by decide +kernel
theorem dX12_unwalk_16 : decode cX12_unwalk 16 = .ok (.iconst 0, 1) := by decide +kernel
theorem dX12_unwalk_17 : decode cX12_unwalk 17 = .ok (.putfield 243, 3) := by decide +kernel
theorem dX12_unwalk_20 : decode cX12_unwalk 20 = .ok (.aload_n 0, 1) := by decide +kernel
theorem dX12_unwalk_21 : decode cX12_unwalk 21 = .ok (.iconst 0, 1) := by decide +kernel
theorem dX12_unwalk_22 : decode cX12_unwalk 22 = .ok (.putfield 246, 3) := by decide +kernel
theorem dX12_unwalk_25 : decode cX12_unwalk 25 = .ok (.aload_n 0, 1) := by decide +kernel
theorem dX12_unwalk_26 : decode cX12_unwalk 26 = .ok (.iconst 0, 1) := by decide +kernel
theorem dX12_unwalk_27 : decode cX12_unwalk 27 = .ok (.putfield 249, 3) := by decide +kernel
theorem dX12_unwalk_30 : decode cX12_unwalk 30 = .ok (.return_, 1) := by decide +kernel
theorem dX12_stateOf_0 : decode cX12_stateOf 0 = .ok (.iconst 0, 1) := by decide +kernel
theorem dX12_stateOf_1 : decode cX12_stateOf 1 = .ok (.istore_n 2, 1) := by decide +kernel
theorem dX12_stateOf_2 : decode cX12_stateOf 2 = .ok (.iload_n 2, 1) := by decide +kernel
theorem dX12_stateOf_3 : decode cX12_stateOf 3 = .ok (.aload_n 0, 1) := by decide +kernel
theorem dX12_stateOf_4 : decode cX12_stateOf 4 = .ok (.getfield 240, 3) := by decide +kernel
theorem dX12_stateOf_7 : decode cX12_stateOf 7 = .ok (.if_icmp .ge 89, 3) := by decide +kernel
theorem dX12_stateOf_10 : decode cX12_stateOf 10 = .ok (.aload_n 0, 1) := by decide +kernel
theorem dX12_stateOf_11 : decode cX12_stateOf 11 = .ok (.getfield 56, 3) := by decide +kernel
theorem dX12_stateOf_14 : decode cX12_stateOf 14 = .ok (.iload_n 2, 1) := by decide +kernel
theorem dX12_stateOf_15 : decode cX12_stateOf 15 = .ok (.iaload, 1) := by decide +kernel
theorem dX12_stateOf_16 : decode cX12_stateOf 16 = .ok (.iload_n 1, 1) := by decide +kernel
theorem dX12_stateOf_17 : decode cX12_stateOf 17 = .ok (.if_icmp .ne 7, 3) := by decide +kernel
theorem dX12_stateOf_20 : decode cX12_stateOf 20 = .ok (.iconst 1, 1) := by decide +kernel
theorem dX12_stateOf_21 : decode cX12_stateOf 21 = .ok (.goto 4, 3) := by decide +kernel
theorem dX12_stateOf_24 : decode cX12_stateOf 24 = .ok (.iconst 0, 1) := by decide +kernel
theorem dX12_stateOf_25 : decode cX12_stateOf 25 = .ok (.istore_n 3, 1) := by decide +kernel
theorem dX12_stateOf_26 : decode cX12_stateOf 26 = .ok (.iconst 0, 1) := by decide +kernel
theorem dX12_stateOf_27 : decode cX12_stateOf 27 = .ok (.istore 4, 2) := by decide +kernel
theorem dX12_stateOf_29 : decode cX12_stateOf 29 = .ok (.iload 4, 2) := by decide +kernel
theorem dX12_stateOf_31 : decode cX12_stateOf 31 = .ok (.bipush 16, 2) := by decide +kernel
theorem dX12_stateOf_33 : decode cX12_stateOf 33 = .ok (.if_icmp .ge 51, 3) := by decide +kernel
theorem dX12_stateOf_36 : decode cX12_stateOf 36 = .ok (.iload_n 3, 1) := by decide +kernel
theorem dX12_stateOf_37 : decode cX12_stateOf 37 = .ok (.ifCond .eq 47, 3) := by decide +kernel
theorem dX12_stateOf_40 : decode cX12_stateOf 40 = .ok (.aload_n 0, 1) := by decide +kernel
theorem dX12_stateOf_41 : decode cX12_stateOf 41 = .ok (.getfield 32, 3) := by decide +kernel
theorem dX12_stateOf_44 : decode cX12_stateOf 44 = .ok (.iload 4, 2) := by decide +kernel
theorem dX12_stateOf_46 : decode cX12_stateOf 46 = .ok (.iaload, 1) := by decide +kernel
theorem dX12_stateOf_47 : decode cX12_stateOf 47 = .ok (.ifCond .eq 25, 3) := by decide +kernel
theorem dX12_stateOf_50 : decode cX12_stateOf 50 = .ok (.aload_n 0, 1) := by decide +kernel
theorem dX12_stateOf_51 : decode cX12_stateOf 51 = .ok (.getfield 59, 3) := by decide +kernel
theorem dX12_stateOf_54 : decode cX12_stateOf 54 = .ok (.bipush 16, 2) := by decide +kernel
theorem dX12_stateOf_56 : decode cX12_stateOf 56 = .ok (.iload_n 2, 1) := by decide +kernel
theorem dX12_stateOf_57 : decode cX12_stateOf 57 = .ok (.imul, 1) := by decide +kernel
theorem dX12_stateOf_58 : decode cX12_stateOf 58 = .ok (.iload 4, 2) := by decide +kernel
theorem dX12_stateOf_60 : decode cX12_stateOf 60 = .ok (.iadd, 1) := by decide +kernel
theorem dX12_stateOf_61 : decode cX12_stateOf 61 = .ok (.iaload, 1) := by decide +kernel
theorem dX12_stateOf_62 : decode cX12_stateOf 62 = .ok (.aload_n 0, 1) := by decide +kernel
theorem dX12_stateOf_63 : decode cX12_stateOf 63 = .ok (.getfield 95, 3) := by decide +kernel
theorem dX12_stateOf_66 : decode cX12_stateOf 66 = .ok (.iload 4, 2) := by decide +kernel
theorem dX12_stateOf_68 : decode cX12_stateOf 68 = .ok (.iaload, 1) := by decide +kernel
theorem dX12_stateOf_69 : decode cX12_stateOf 69 = .ok (.if_icmp .ne 7, 3) := by decide +kernel
theorem dX12_stateOf_72 : decode cX12_stateOf 72 = .ok (.iconst 1, 1) := by decide +kernel
theorem dX12_stateOf_73 : decode cX12_stateOf 73 = .ok (.goto 4, 3) := by decide +kernel
theorem dX12_stateOf_76 : decode cX12_stateOf 76 = .ok (.iconst 0, 1) := by decide +kernel
theorem dX12_stateOf_77 : decode cX12_stateOf 77 = .ok (.istore_n 3, 1) := by decide +kernel
theorem dX12_stateOf_78 : decode cX12_stateOf 78 = .ok (.iinc 4 1, 3) := by decide +kernel
theorem dX12_stateOf_81 : decode cX12_stateOf 81 = .ok (.goto (-52), 3) := by decide +kernel
theorem dX12_stateOf_84 : decode cX12_stateOf 84 = .ok (.iload_n 3, 1) := by decide +kernel
theorem dX12_stateOf_85 : decode cX12_stateOf 85 = .ok (.ifCond .eq 5, 3) := by decide +kernel
theorem dX12_stateOf_88 : decode cX12_stateOf 88 = .ok (.iload_n 2, 1) := by decide +kernel
theorem dX12_stateOf_89 : decode cX12_stateOf 89 = .ok (.ireturn, 1) := by decide +kernel
theorem dX12_stateOf_90 : decode cX12_stateOf 90 = .ok (.iinc 2 1, 3) := by decide +kernel
theorem dX12_stateOf_93 : decode cX12_stateOf 93 = .ok (.goto (-91), 3) := by decide +kernel
theorem dX12_stateOf_96 : decode cX12_stateOf 96 = .ok (.iconst (-1), 1) := by decide +kernel
theorem dX12_stateOf_97 : decode cX12_stateOf 97 = .ok (.ireturn, 1) := by decide +kernel
theorem dX12_addState_0 : decode cX12_addState 0 = .ok (.aload_n 0, 1) := by decide +kernel
theorem dX12_addState_1 : decode cX12_addState 1 = .ok (.getfield 56, 3) := by decide +kernel
theorem dX12_addState_4 : decode cX12_addState 4 = .ok (.aload_n 0, 1) := by decide +kernel
theorem dX12_addState_5 : decode cX12_addState 5 = .ok (.getfield 240, 3) := by decide +kernel
theorem dX12_addState_8 : decode cX12_addState 8 = .ok (.iload_n 1, 1) := by decide +kernel
theorem dX12_addState_9 : decode cX12_addState 9 = .ok (.iastore, 1) := by decide +kernel
theorem dX12_addState_10 : decode cX12_addState 10 = .ok (.iconst 0, 1) := by decide +kernel
theorem dX12_addState_11 : decode cX12_addState 11 = .ok (.istore 6, 2) := by decide +kernel
theorem dX12_addState_13 : decode cX12_addState 13 = .ok (.iload 6, 2) := by decide +kernel
theorem dX12_addState_15 : decode cX12_addState 15 = .ok (.bipush 16, 2) := by decide +kernel
theorem dX12_addState_17 : decode cX12_addState 17 = .ok (.if_icmp .ge 45, 3) := by decide +kernel
theorem dX12_addState_20 : decode cX12_addState 20 = .ok (.aload_n 0, 1) := by decide +kernel
theorem dX12_addState_21 : decode cX12_addState 21 = .ok (.getfield 59, 3) := by decide +kernel
theorem dX12_addState_24 : decode cX12_addState 24 = .ok (.bipush 16, 2) := by decide +kernel
theorem dX12_addState_26 : decode cX12_addState 26 = .ok (.aload_n 0, 1) := by decide +kernel
theorem dX12_addState_27 : decode cX12_addState 27 = .ok (.getfield 240, 3) := by decide +kernel
theorem dX12_addState_30 : decode cX12_addState 30 = .ok (.imul, 1) := by decide +kernel
theorem dX12_addState_31 : decode cX12_addState 31 = .ok (.iload 6, 2) := by decide +kernel
theorem dX12_addState_33 : decode cX12_addState 33 = .ok (.iadd, 1) := by decide +kernel
theorem dX12_addState_34 : decode cX12_addState 34 = .ok (.aload_n 0, 1) := by decide +kernel
theorem dX12_addState_35 : decode cX12_addState 35 = .ok (.getfield 32, 3) := by decide +kernel
theorem dX12_addState_38 : decode cX12_addState 38 = .ok (.iload 6, 2) := by decide +kernel
theorem dX12_addState_40 : decode cX12_addState 40 = .ok (.iaload, 1) := by decide +kernel
theorem dX12_addState_41 : decode cX12_addState 41 = .ok (.ifCond .ne 7, 3) := by decide +kernel
theorem dX12_addState_44 : decode cX12_addState 44 = .ok (.iconst 0, 1) := by decide +kernel
theorem dX12_addState_45 : decode cX12_addState 45 = .ok (.goto 10, 3) := by decide +kernel
theorem dX12_addState_48 : decode cX12_addState 48 = .ok (.aload_n 0, 1) := by decide +kernel
theorem dX12_addState_49 : decode cX12_addState 49 = .ok (.getfield 95, 3) := by decide +kernel
theorem dX12_addState_52 : decode cX12_addState 52 = .ok (.iload 6, 2) := by decide +kernel
theorem dX12_addState_54 : decode cX12_addState 54 = .ok (.iaload, 1) := by decide +kernel
theorem dX12_addState_55 : decode cX12_addState 55 = .ok (.iastore, 1) := by decide +kernel
theorem dX12_addState_56 : decode cX12_addState 56 = .ok (.iinc 6 1, 3) := by decide +kernel
theorem dX12_addState_59 : decode cX12_addState 59 = .ok (.goto (-46), 3) := by decide +kernel
theorem dX12_addState_62 : decode cX12_addState 62 = .ok (.aload_n 0, 1) := by decide +kernel
theorem dX12_addState_63 : decode cX12_addState 63 = .ok (.getfield 62, 3) := by decide +kernel
theorem dX12_addState_66 : decode cX12_addState 66 = .ok (.aload_n 0, 1) := by decide +kernel
theorem dX12_addState_67 : decode cX12_addState 67 = .ok (.getfield 240, 3) := by decide +kernel
theorem dX12_addState_70 : decode cX12_addState 70 = .ok (.iload_n 2, 1) := by decide +kernel
theorem dX12_addState_71 : decode cX12_addState 71 = .ok (.iastore, 1) := by decide +kernel
theorem dX12_addState_72 : decode cX12_addState 72 = .ok (.aload_n 0, 1) := by decide +kernel
theorem dX12_addState_73 : decode cX12_addState 73 = .ok (.getfield 65, 3) := by decide +kernel
theorem dX12_addState_76 : decode cX12_addState 76 = .ok (.aload_n 0, 1) := by decide +kernel
theorem dX12_addState_77 : decode cX12_addState 77 = .ok (.getfield 240, 3) := by decide +kernel
theorem dX12_addState_80 : decode cX12_addState 80 = .ok (.iload_n 3, 1) := by decide +kernel
theorem dX12_addState_81 : decode cX12_addState 81 = .ok (.iastore, 1) := by decide +kernel
theorem dX12_addState_82 : decode cX12_addState 82 = .ok (.aload_n 0, 1) := by decide +kernel
theorem dX12_addState_83 : decode cX12_addState 83 = .ok (.getfield 68, 3) := by decide +kernel
theorem dX12_addState_86 : decode cX12_addState 86 = .ok (.aload_n 0, 1) := by decide +kernel
theorem dX12_addState_87 : decode cX12_addState 87 = .ok (.getfield 240, 3) := by decide +kernel
theorem dX12_addState_90 : decode cX12_addState 90 = .ok (.iload 4, 2) := by decide +kernel
theorem dX12_addState_92 : decode cX12_addState 92 = .ok (.iastore, 1) := by decide +kernel
theorem dX12_addState_93 : decode cX12_addState 93 = .ok (.aload_n 0, 1) := by decide +kernel
theorem dX12_addState_94 : decode cX12_addState 94 = .ok (.getfield 71, 3) := by decide +kernel
theorem dX12_addState_97 : decode cX12_addState 97 = .ok (.aload_n 0, 1) := by decide +kernel
theorem dX12_addState_98 : decode cX12_addState 98 = .ok (.getfield 240, 3) := by decide +kernel
theorem dX12_addState_101 : decode cX12_addState 101 = .ok (.iload 5, 2) := by decide +kernel
theorem dX12_addState_103 : decode cX12_addState 103 = .ok (.iastore, 1) := by decide +kernel
theorem dX12_addState_104 : decode cX12_addState 104 = .ok (.aload_n 0, 1) := by decide +kernel
theorem dX12_addState_105 : decode cX12_addState 105 = .ok (.getfield 74, 3) := by decide +kernel
theorem dX12_addState_108 : decode cX12_addState 108 = .ok (.aload_n 0, 1) := by decide +kernel
theorem dX12_addState_109 : decode cX12_addState 109 = .ok (.getfield 240, 3) := by decide +kernel
theorem dX12_addState_112 : decode cX12_addState 112 = .ok (.iload_n 2, 1) := by decide +kernel
theorem dX12_addState_113 : decode cX12_addState 113 = .ok (.ifCond .ge 7, 3) := by decide +kernel
theorem dX12_addState_116 : decode cX12_addState 116 = .ok (.iconst 0, 1) := by decide +kernel
theorem dX12_addState_117 : decode cX12_addState 117 = .ok (.goto 11, 3) := by decide +kernel
theorem dX12_addState_120 : decode cX12_addState 120 = .ok (.aload_n 0, 1) := by decide +kernel
theorem dX12_addState_121 : decode cX12_addState 121 = .ok (.getfield 74, 3) := by decide +kernel
theorem dX12_addState_124 : decode cX12_addState 124 = .ok (.iload_n 2, 1) := by decide +kernel
theorem dX12_addState_125 : decode cX12_addState 125 = .ok (.iaload, 1) := by decide +kernel
theorem dX12_addState_126 : decode cX12_addState 126 = .ok (.iconst 1, 1) := by decide +kernel
theorem dX12_addState_127 : decode cX12_addState 127 = .ok (.iadd, 1) := by decide +kernel
theorem dX12_addState_128 : decode cX12_addState 128 = .ok (.iastore, 1) := by decide +kernel
theorem dX12_addState_129 : decode cX12_addState 129 = .ok (.aload_n 0, 1) := by decide +kernel
theorem dX12_addState_130 : decode cX12_addState 130 = .ok (.getfield 77, 3) := by decide +kernel
theorem dX12_addState_133 : decode cX12_addState 133 = .ok (.aload_n 0, 1) := by decide +kernel
theorem dX12_addState_134 : decode cX12_addState 134 = .ok (.getfield 240, 3) := by decide +kernel
theorem dX12_addState_137 : decode cX12_addState 137 = .ok (.bipush (-2), 2) := by decide +kernel
theorem dX12_addState_139 : decode cX12_addState 139 = .ok (.iastore, 1) := by decide +kernel
theorem dX12_addState_140 : decode cX12_addState 140 = .ok (.aload_n 0, 1) := by decide +kernel
theorem dX12_addState_141 : decode cX12_addState 141 = .ok (.dup, 1) := by decide +kernel
theorem dX12_addState_142 : decode cX12_addState 142 = .ok (.getfield 240, 3) := by decide +kernel
theorem dX12_addState_145 : decode cX12_addState 145 = .ok (.iconst 1, 1) := by decide +kernel
theorem dX12_addState_146 : decode cX12_addState 146 = .ok (.iadd, 1) := by decide +kernel
theorem dX12_addState_147 : decode cX12_addState 147 = .ok (.putfield 240, 3) := by decide +kernel
theorem dX12_addState_150 : decode cX12_addState 150 = .ok (.return_, 1) := by decide +kernel
theorem dX12_lookAtPromises_0 : decode cX12_lookAtPromises 0 = .ok (.iconst 0, 1) := by decide +kernel
theorem dX12_lookAtPromises_1 : decode cX12_lookAtPromises 1 = .ok (.istore 8, 2) := by decide +kernel
theorem dX12_lookAtPromises_3 : decode cX12_lookAtPromises 3 = .ok (.iload 8, 2) := by decide +kernel
theorem dX12_lookAtPromises_5 : decode cX12_lookAtPromises 5 = .ok (.aload_n 0, 1) := by decide +kernel
theorem dX12_lookAtPromises_6 : decode cX12_lookAtPromises 6 = .ok (.getfield 180, 3) := by decide +kernel
theorem dX12_lookAtPromises_9 : decode cX12_lookAtPromises 9 = .ok (.if_icmp .ge 118, 3) := by decide +kernel
theorem dX12_lookAtPromises_12 : decode cX12_lookAtPromises 12 = .ok (.aload_n 0, 1) := by decide +kernel
theorem dX12_lookAtPromises_13 : decode cX12_lookAtPromises 13 = .ok (.getfield 92, 3) := by decide +kernel
theorem dX12_lookAtPromises_16 : decode cX12_lookAtPromises 16 = .ok (.iload 8, 2) := by decide +kernel
theorem dX12_lookAtPromises_18 : decode cX12_lookAtPromises 18 = .ok (.baload, 1) := by decide +kernel
theorem dX12_lookAtPromises_19 : decode cX12_lookAtPromises 19 = .ok (.ifCond .ne 102, 3) := by decide +kernel
theorem dX12_lookAtPromises_22 : decode cX12_lookAtPromises 22 = .ok (.aload_n 0, 1) := by decide +kernel
theorem dX12_lookAtPromises_23 : decode cX12_lookAtPromises 23 = .ok (.iload 8, 2) := by decide +kernel
theorem dX12_lookAtPromises_25 : decode cX12_lookAtPromises 25 = .ok (.iload_n 1, 1) := by decide +kernel
theorem dX12_lookAtPromises_26 : decode cX12_lookAtPromises 26 = .ok (.iload_n 2, 1) := by decide +kernel
theorem dX12_lookAtPromises_27 : decode cX12_lookAtPromises 27 = .ok (.iload_n 3, 1) := by decide +kernel
theorem dX12_lookAtPromises_28 : decode cX12_lookAtPromises 28 = .ok (.ifCond .ge 7, 3) := by decide +kernel
theorem dX12_lookAtPromises_31 : decode cX12_lookAtPromises 31 = .ok (.iconst 1, 1) := by decide +kernel
theorem dX12_lookAtPromises_32 : decode cX12_lookAtPromises 32 = .ok (.goto 4, 3) := by decide +kernel
theorem dX12_lookAtPromises_35 : decode cX12_lookAtPromises 35 = .ok (.iconst 0, 1) := by decide +kernel
theorem dX12_lookAtPromises_36 : decode cX12_lookAtPromises 36 = .ok (.invokevirtual 229, 3) := by decide +kernel
theorem dX12_lookAtPromises_39 : decode cX12_lookAtPromises 39 = .ok (.ifCond .ne 82, 3) := by decide +kernel
theorem dX12_lookAtPromises_42 : decode cX12_lookAtPromises 42 = .ok (.aload_n 0, 1) := by decide +kernel
theorem dX12_lookAtPromises_43 : decode cX12_lookAtPromises 43 = .ok (.getfield 92, 3) := by decide +kernel
theorem dX12_lookAtPromises_46 : decode cX12_lookAtPromises 46 = .ok (.iload 8, 2) := by decide +kernel
theorem dX12_lookAtPromises_48 : decode cX12_lookAtPromises 48 = .ok (.iconst 1, 1) := by decide +kernel
theorem dX12_lookAtPromises_49 : decode cX12_lookAtPromises 49 = .ok (.bastore, 1) := by decide +kernel
theorem dX12_lookAtPromises_50 : decode cX12_lookAtPromises 50 = .ok (.aload_n 0, 1) := by decide +kernel
theorem dX12_lookAtPromises_51 : decode cX12_lookAtPromises 51 = .ok (.getfield 89, 3) := by decide +kernel
theorem dX12_lookAtPromises_54 : decode cX12_lookAtPromises 54 = .ok (.iconst 5, 1) := by decide +kernel
theorem dX12_lookAtPromises_55 : decode cX12_lookAtPromises 55 = .ok (.iload 8, 2) := by decide +kernel
theorem dX12_lookAtPromises_57 : decode cX12_lookAtPromises 57 = .ok (.imul, 1) := by decide +kernel
theorem dX12_lookAtPromises_58 : decode cX12_lookAtPromises 58 = .ok (.iload_n 3, 1) := by decide +kernel
theorem dX12_lookAtPromises_59 : decode cX12_lookAtPromises 59 = .ok (.ifCond .ge 8, 3) := by decide +kernel
theorem dX12_lookAtPromises_62 : decode cX12_lookAtPromises 62 = .ok (.bipush (-2), 2) := by decide +kernel
theorem dX12_lookAtPromises_64 : decode cX12_lookAtPromises 64 = .ok (.goto 4, 3) := by decide +kernel
theorem dX12_lookAtPromises_67 : decode cX12_lookAtPromises 67 = .ok (.iload_n 3, 1) := by decide +kernel
theorem dX12_lookAtPromises_68 : decode cX12_lookAtPromises 68 = .ok (.iastore, 1) := by decide +kernel
theorem dX12_lookAtPromises_69 : decode cX12_lookAtPromises 69 = .ok (.aload_n 0, 1) := by decide +kernel
theorem dX12_lookAtPromises_70 : decode cX12_lookAtPromises 70 = .ok (.getfield 89, 3) := by decide +kernel
theorem dX12_lookAtPromises_73 : decode cX12_lookAtPromises 73 = .ok (.iconst 5, 1) := by decide +kernel
theorem dX12_lookAtPromises_74 : decode cX12_lookAtPromises 74 = .ok (.iload 8, 2) := by decide +kernel
theorem dX12_lookAtPromises_76 : decode cX12_lookAtPromises 76 = .ok (.imul, 1) := by decide +kernel
theorem dX12_lookAtPromises_77 : decode cX12_lookAtPromises 77 = .ok (.iconst 1, 1) := by decide +kernel
theorem dX12_lookAtPromises_78 : decode cX12_lookAtPromises 78 = .ok (.iadd, 1) := by decide +kernel
theorem dX12_lookAtPromises_79 : decode cX12_lookAtPromises 79 = .ok (.iload 4, 2) := by decide +kernel
theorem dX12_lookAtPromises_81 : decode cX12_lookAtPromises 81 = .ok (.iastore, 1) := by decide +kernel
theorem dX12_lookAtPromises_82 : decode cX12_lookAtPromises 82 = .ok (.aload_n 0, 1) := by decide +kernel
theorem dX12_lookAtPromises_83 : decode cX12_lookAtPromises 83 = .ok (.getfield 89, 3) := by decide +kernel
theorem dX12_lookAtPromises_86 : decode cX12_lookAtPromises 86 = .ok (.iconst 5, 1) := by decide +kernel
theorem dX12_lookAtPromises_87 : decode cX12_lookAtPromises 87 = .ok (.iload 8, 2) := by decide +kernel
theorem dX12_lookAtPromises_89 : decode cX12_lookAtPromises 89 = .ok (.imul, 1) := by decide +kernel
theorem dX12_lookAtPromises_90 : decode cX12_lookAtPromises 90 = .ok (.iconst 2, 1) := by decide +kernel
theorem dX12_lookAtPromises_91 : decode cX12_lookAtPromises 91 = .ok (.iadd, 1) := by decide +kernel
theorem dX12_lookAtPromises_92 : decode cX12_lookAtPromises 92 = .ok (.iload 5, 2) := by decide +kernel
theorem dX12_lookAtPromises_94 : decode cX12_lookAtPromises 94 = .ok (.iastore, 1) := by decide +kernel
theorem dX12_lookAtPromises_95 : decode cX12_lookAtPromises 95 = .ok (.aload_n 0, 1) := by decide +kernel
theorem dX12_lookAtPromises_96 : decode cX12_lookAtPromises 96 = .ok (.getfield 89, 3) := by decide +kernel
theorem dX12_lookAtPromises_99 : decode cX12_lookAtPromises 99 = .ok (.iconst 5, 1) := by decide +kernel
theorem dX12_lookAtPromises_100 : decode cX12_lookAtPromises 100 = .ok (.iload 8, 2) := by decide +kernel
theorem dX12_lookAtPromises_102 : decode cX12_lookAtPromises 102 = .ok (.imul, 1) := by decide +kernel
theorem dX12_lookAtPromises_103 : decode cX12_lookAtPromises 103 = .ok (.iconst 3, 1) := by decide +kernel
theorem dX12_lookAtPromises_104 : decode cX12_lookAtPromises 104 = .ok (.iadd, 1) := by decide +kernel
theorem dX12_lookAtPromises_105 : decode cX12_lookAtPromises 105 = .ok (.iload 6, 2) := by decide +kernel
theorem dX12_lookAtPromises_107 : decode cX12_lookAtPromises 107 = .ok (.iastore, 1) := by decide +kernel
theorem dX12_lookAtPromises_108 : decode cX12_lookAtPromises 108 = .ok (.aload_n 0, 1) := by decide +kernel
theorem dX12_lookAtPromises_109 : decode cX12_lookAtPromises 109 = .ok (.getfield 89, 3) := by decide +kernel
theorem dX12_lookAtPromises_112 : decode cX12_lookAtPromises 112 = .ok (.iconst 5, 1) := by decide +kernel
theorem dX12_lookAtPromises_113 : decode cX12_lookAtPromises 113 = .ok (.iload 8, 2) := by decide +kernel
theorem dX12_lookAtPromises_115 : decode cX12_lookAtPromises 115 = .ok (.imul, 1) := by decide +kernel
theorem dX12_lookAtPromises_116 : decode cX12_lookAtPromises 116 = .ok (.iconst 4, 1) := by decide +kernel
theorem dX12_lookAtPromises_117 : decode cX12_lookAtPromises 117 = .ok (.iadd, 1) := by decide +kernel
theorem dX12_lookAtPromises_118 : decode cX12_lookAtPromises 118 = .ok (.iload 7, 2) := by decide +kernel
theorem dX12_lookAtPromises_120 : decode cX12_lookAtPromises 120 = .ok (.iastore, 1) := by decide +kernel
theorem dX12_lookAtPromises_121 : decode cX12_lookAtPromises 121 = .ok (.iinc 8 1, 3) := by decide +kernel
theorem dX12_lookAtPromises_124 : decode cX12_lookAtPromises 124 = .ok (.goto (-121), 3) := by decide +kernel
theorem dX12_lookAtPromises_127 : decode cX12_lookAtPromises 127 = .ok (.return_, 1) := by decide +kernel
theorem dX12_tryMove_0 : decode cX12_tryMove 0 = .ok (.aload_n 0, 1) := by decide +kernel
theorem dX12_tryMove_1 : decode cX12_tryMove 1 = .ok (.getfield 246, 3) := by decide +kernel
theorem dX12_tryMove_4 : decode cX12_tryMove 4 = .ok (.sipush 20000, 3) := by decide +kernel
theorem dX12_tryMove_7 : decode cX12_tryMove 7 = .ok (.if_icmp .ne 9, 3) := by decide +kernel
theorem dX12_tryMove_10 : decode cX12_tryMove 10 = .ok (.aload_n 0, 1) := by decide +kernel
theorem dX12_tryMove_11 : decode cX12_tryMove 11 = .ok (.iconst 1, 1) := by decide +kernel
theorem dX12_tryMove_12 : decode cX12_tryMove 12 = .ok (.putfield 237, 3) := by decide +kernel
theorem dX12_tryMove_15 : decode cX12_tryMove 15 = .ok (.return_, 1) := by decide +kernel
theorem dX12_tryMove_16 : decode cX12_tryMove 16 = .ok (.aload_n 0, 1) := by decide +kernel
theorem dX12_tryMove_17 : decode cX12_tryMove 17 = .ok (.iload 4, 2) := by decide +kernel
theorem dX12_tryMove_19 : decode cX12_tryMove 19 = .ok (.invokevirtual 218, 3) := by decide +kernel
theorem dX12_tryMove_22 : decode cX12_tryMove 22 = .ok (.istore 5, 2) := by decide +kernel
theorem dX12_tryMove_24 : decode cX12_tryMove 24 = .ok (.aload_n 0, 1) := by decide +kernel
theorem dX12_tryMove_25 : decode cX12_tryMove 25 = .ok (.iload 5, 2) := by decide +kernel
theorem dX12_tryMove_27 : decode cX12_tryMove 27 = .ok (.invokevirtual 252, 3) := by decide +kernel
theorem dX12_tryMove_30 : decode cX12_tryMove 30 = .ok (.istore 6, 2) := by decide +kernel
theorem dX12_tryMove_32 : decode cX12_tryMove 32 = .ok (.iload 6, 2) := by decide +kernel
theorem dX12_tryMove_34 : decode cX12_tryMove 34 = .ok (.ifCond .ge 19, 3) := by decide +kernel
theorem dX12_tryMove_37 : decode cX12_tryMove 37 = .ok (.aload_n 0, 1) := by decide +kernel
theorem dX12_tryMove_38 : decode cX12_tryMove 38 = .ok (.getfield 240, 3) := by decide +kernel
theorem dX12_tryMove_41 : decode cX12_tryMove 41 = .ok (.sipush 250, 3) := by decide +kernel
theorem dX12_tryMove_44 : decode cX12_tryMove 44 = .ok (.if_icmp .ne 9, 3) := by decide +kernel
theorem dX12_tryMove_47 : decode cX12_tryMove 47 = .ok (.aload_n 0, 1) := by decide +kernel
theorem dX12_tryMove_48 : decode cX12_tryMove 48 = .ok (.iconst 1, 1) := by decide +kernel
theorem dX12_tryMove_49 : decode cX12_tryMove 49 = .ok (.putfield 237, 3) := by decide +kernel
theorem dX12_tryMove_52 : decode cX12_tryMove 52 = .ok (.return_, 1) := by decide +kernel
theorem dX12_tryMove_53 : decode cX12_tryMove 53 = .ok (.aload_n 0, 1) := by decide +kernel
theorem dX12_tryMove_54 : decode cX12_tryMove 54 = .ok (.dup, 1) := by decide +kernel
theorem dX12_tryMove_55 : decode cX12_tryMove 55 = .ok (.getfield 246, 3) := by decide +kernel
theorem dX12_tryMove_58 : decode cX12_tryMove 58 = .ok (.iconst 1, 1) := by decide +kernel
theorem dX12_tryMove_59 : decode cX12_tryMove 59 = .ok (.iadd, 1) := by decide +kernel
theorem dX12_tryMove_60 : decode cX12_tryMove 60 = .ok (.putfield 246, 3) := by decide +kernel
theorem dX12_tryMove_63 : decode cX12_tryMove 63 = .ok (.iload 6, 2) := by decide +kernel
theorem dX12_tryMove_65 : decode cX12_tryMove 65 = .ok (.ifCond .ge 22, 3) := by decide +kernel
theorem dX12_tryMove_68 : decode cX12_tryMove 68 = .ok (.aload_n 0, 1) := by decide +kernel
theorem dX12_tryMove_69 : decode cX12_tryMove 69 = .ok (.iload 5, 2) := by decide +kernel
theorem dX12_tryMove_71 : decode cX12_tryMove 71 = .ok (.iload_n 1, 1) := by decide +kernel
theorem dX12_tryMove_72 : decode cX12_tryMove 72 = .ok (.iload_n 2, 1) := by decide +kernel
theorem dX12_tryMove_73 : decode cX12_tryMove 73 = .ok (.iload_n 3, 1) := by decide +kernel
theorem dX12_tryMove_74 : decode cX12_tryMove 74 = .ok (.iload 4, 2) := by decide +kernel
theorem dX12_tryMove_76 : decode cX12_tryMove 76 = .ok (.invokevirtual 255, 3) := by decide +kernel
theorem dX12_tryMove_79 : decode cX12_tryMove 79 = .ok (.aload_n 0, 1) := by decide +kernel
theorem dX12_tryMove_80 : decode cX12_tryMove 80 = .ok (.getfield 240, 3) := by decide +kernel
theorem dX12_tryMove_83 : decode cX12_tryMove 83 = .ok (.iconst 1, 1) := by decide +kernel
theorem dX12_tryMove_84 : decode cX12_tryMove 84 = .ok (.isub, 1) := by decide +kernel
theorem dX12_tryMove_85 : decode cX12_tryMove 85 = .ok (.istore 6, 2) := by decide +kernel
theorem dX12_tryMove_87 : decode cX12_tryMove 87 = .ok (.aload_n 0, 1) := by decide +kernel
theorem dX12_tryMove_88 : decode cX12_tryMove 88 = .ok (.getfield 80, 3) := by decide +kernel
theorem dX12_tryMove_91 : decode cX12_tryMove 91 = .ok (.aload_n 0, 1) := by decide +kernel
theorem dX12_tryMove_92 : decode cX12_tryMove 92 = .ok (.getfield 249, 3) := by decide +kernel
theorem dX12_tryMove_95 : decode cX12_tryMove 95 = .ok (.iload_n 1, 1) := by decide +kernel
theorem dX12_tryMove_96 : decode cX12_tryMove 96 = .ok (.iastore, 1) := by decide +kernel
theorem dX12_tryMove_97 : decode cX12_tryMove 97 = .ok (.aload_n 0, 1) := by decide +kernel
theorem dX12_tryMove_98 : decode cX12_tryMove 98 = .ok (.getfield 83, 3) := by decide +kernel
theorem dX12_tryMove_101 : decode cX12_tryMove 101 = .ok (.aload_n 0, 1) := by decide +kernel
theorem dX12_tryMove_102 : decode cX12_tryMove 102 = .ok (.getfield 249, 3) := by decide +kernel
theorem dX12_tryMove_105 : decode cX12_tryMove 105 = .ok (.iload 6, 2) := by decide +kernel
theorem dX12_tryMove_107 : decode cX12_tryMove 107 = .ok (.iastore, 1) := by decide +kernel
theorem dX12_tryMove_108 : decode cX12_tryMove 108 = .ok (.aload_n 0, 1) := by decide +kernel
theorem dX12_tryMove_109 : decode cX12_tryMove 109 = .ok (.getfield 86, 3) := by decide +kernel
theorem dX12_tryMove_112 : decode cX12_tryMove 112 = .ok (.aload_n 0, 1) := by decide +kernel
theorem dX12_tryMove_113 : decode cX12_tryMove 113 = .ok (.getfield 249, 3) := by decide +kernel
theorem dX12_tryMove_116 : decode cX12_tryMove 116 = .ok (.aload_n 0, 1) := by decide +kernel
theorem dX12_tryMove_117 : decode cX12_tryMove 117 = .ok (.iload 4, 2) := by decide +kernel
theorem dX12_tryMove_119 : decode cX12_tryMove 119 = .ok (.invokevirtual 259, 3) := by decide +kernel
theorem dX12_tryMove_122 : decode cX12_tryMove 122 = .ok (.iastore, 1) := by decide +kernel
theorem dX12_tryMove_123 : decode cX12_tryMove 123 = .ok (.aload_n 0, 1) := by decide +kernel
theorem dX12_tryMove_124 : decode cX12_tryMove 124 = .ok (.dup, 1) := by decide +kernel
theorem dX12_tryMove_125 : decode cX12_tryMove 125 = .ok (.getfield 249, 3) := by decide +kernel
theorem dX12_tryMove_128 : decode cX12_tryMove 128 = .ok (.iconst 1, 1) := by decide +kernel
theorem dX12_tryMove_129 : decode cX12_tryMove 129 = .ok (.iadd, 1) := by decide +kernel
theorem dX12_tryMove_130 : decode cX12_tryMove 130 = .ok (.putfield 249, 3) := by decide +kernel
theorem dX12_tryMove_133 : decode cX12_tryMove 133 = .ok (.aload_n 0, 1) := by decide +kernel
theorem dX12_tryMove_134 : decode cX12_tryMove 134 = .ok (.aload_n 0, 1) := by decide +kernel
theorem dX12_tryMove_135 : decode cX12_tryMove 135 = .ok (.getfield 56, 3) := by decide +kernel
theorem dX12_tryMove_138 : decode cX12_tryMove 138 = .ok (.iload_n 1, 1) := by decide +kernel
theorem dX12_tryMove_139 : decode cX12_tryMove 139 = .ok (.iaload, 1) := by decide +kernel
theorem dX12_tryMove_140 : decode cX12_tryMove 140 = .ok (.iload 5, 2) := by decide +kernel
theorem dX12_tryMove_142 : decode cX12_tryMove 142 = .ok (.iload_n 1, 1) := by decide +kernel
theorem dX12_tryMove_143 : decode cX12_tryMove 143 = .ok (.iload_n 2, 1) := by decide +kernel
theorem dX12_tryMove_144 : decode cX12_tryMove 144 = .ok (.iload_n 3, 1) := by decide +kernel
theorem dX12_tryMove_145 : decode cX12_tryMove 145 = .ok (.iload 4, 2) := by decide +kernel
theorem dX12_tryMove_147 : decode cX12_tryMove 147 = .ok (.iload 6, 2) := by decide +kernel
theorem dX12_tryMove_149 : decode cX12_tryMove 149 = .ok (.invokevirtual 262, 3) := by decide +kernel
theorem dX12_tryMove_152 : decode cX12_tryMove 152 = .ok (.return_, 1) := by decide +kernel
theorem dX12_inputsOf_0 : decode cX12_inputsOf 0 = .ok (.iconst 0, 1) := by decide +kernel
theorem dX12_inputsOf_1 : decode cX12_inputsOf 1 = .ok (.istore_n 2, 1) := by decide +kernel
theorem dX12_inputsOf_2 : decode cX12_inputsOf 2 = .ok (.iconst 0, 1) := by decide +kernel
theorem dX12_inputsOf_3 : decode cX12_inputsOf 3 = .ok (.istore_n 3, 1) := by decide +kernel
theorem dX12_inputsOf_4 : decode cX12_inputsOf 4 = .ok (.iload_n 3, 1) := by decide +kernel
theorem dX12_inputsOf_5 : decode cX12_inputsOf 5 = .ok (.aload_n 0, 1) := by decide +kernel
theorem dX12_inputsOf_6 : decode cX12_inputsOf 6 = .ok (.getfield 126, 3) := by decide +kernel
theorem dX12_inputsOf_9 : decode cX12_inputsOf 9 = .ok (.if_icmp .ge 36, 3) := by decide +kernel
theorem dX12_inputsOf_12 : decode cX12_inputsOf 12 = .ok (.iload_n 2, 1) := by decide +kernel
theorem dX12_inputsOf_13 : decode cX12_inputsOf 13 = .ok (.aload_n 0, 1) := by decide +kernel
theorem dX12_inputsOf_14 : decode cX12_inputsOf 14 = .ok (.getfield 7, 3) := by decide +kernel
theorem dX12_inputsOf_17 : decode cX12_inputsOf 17 = .ok (.iload_n 3, 1) := by decide +kernel
theorem dX12_inputsOf_18 : decode cX12_inputsOf 18 = .ok (.iaload, 1) := by decide +kernel
theorem dX12_inputsOf_19 : decode cX12_inputsOf 19 = .ok (.iconst 5, 1) := by decide +kernel
theorem dX12_inputsOf_20 : decode cX12_inputsOf 20 = .ok (.if_icmp .ne 16, 3) := by decide +kernel
theorem dX12_inputsOf_23 : decode cX12_inputsOf 23 = .ok (.aload_n 0, 1) := by decide +kernel
theorem dX12_inputsOf_24 : decode cX12_inputsOf 24 = .ok (.iload_n 1, 1) := by decide +kernel
theorem dX12_inputsOf_25 : decode cX12_inputsOf 25 = .ok (.iload_n 3, 1) := by decide +kernel
theorem dX12_inputsOf_26 : decode cX12_inputsOf 26 = .ok (.invokevirtual 195, 3) := by decide +kernel
theorem dX12_inputsOf_29 : decode cX12_inputsOf 29 = .ok (.ifCond .eq 7, 3) := by decide +kernel
theorem dX12_inputsOf_32 : decode cX12_inputsOf 32 = .ok (.iconst 1, 1) := by decide +kernel
theorem dX12_inputsOf_33 : decode cX12_inputsOf 33 = .ok (.goto 4, 3) := by decide +kernel
theorem dX12_inputsOf_36 : decode cX12_inputsOf 36 = .ok (.iconst 0, 1) := by decide +kernel
theorem dX12_inputsOf_37 : decode cX12_inputsOf 37 = .ok (.iadd, 1) := by decide +kernel
theorem dX12_inputsOf_38 : decode cX12_inputsOf 38 = .ok (.istore_n 2, 1) := by decide +kernel
theorem dX12_inputsOf_39 : decode cX12_inputsOf 39 = .ok (.iinc 3 1, 3) := by decide +kernel
theorem dX12_inputsOf_42 : decode cX12_inputsOf 42 = .ok (.goto (-38), 3) := by decide +kernel
theorem dX12_inputsOf_45 : decode cX12_inputsOf 45 = .ok (.iload_n 2, 1) := by decide +kernel
theorem dX12_inputsOf_46 : decode cX12_inputsOf 46 = .ok (.ireturn, 1) := by decide +kernel
theorem dX12_trySet_0 : decode cX12_trySet 0 = .ok (.iconst 1, 1) := by decide +kernel
theorem dX12_trySet_1 : decode cX12_trySet 1 = .ok (.istore_n 3, 1) := by decide +kernel
theorem dX12_trySet_2 : decode cX12_trySet 2 = .ok (.iconst 0, 1) := by decide +kernel
theorem dX12_trySet_3 : decode cX12_trySet 3 = .ok (.istore 4, 2) := by decide +kernel
theorem dX12_trySet_5 : decode cX12_trySet 5 = .ok (.iload 4, 2) := by decide +kernel
theorem dX12_trySet_7 : decode cX12_trySet 7 = .ok (.bipush 16, 2) := by decide +kernel
theorem dX12_trySet_9 : decode cX12_trySet 9 = .ok (.if_icmp .ge 61, 3) := by decide +kernel
theorem dX12_trySet_12 : decode cX12_trySet 12 = .ok (.aload_n 0, 1) := by decide +kernel
theorem dX12_trySet_13 : decode cX12_trySet 13 = .ok (.getfield 95, 3) := by decide +kernel
theorem dX12_trySet_16 : decode cX12_trySet 16 = .ok (.iload 4, 2) := by decide +kernel
theorem dX12_trySet_18 : decode cX12_trySet 18 = .ok (.aload_n 0, 1) := by decide +kernel
theorem dX12_trySet_19 : decode cX12_trySet 19 = .ok (.aload_n 0, 1) := by decide +kernel
theorem dX12_trySet_20 : decode cX12_trySet 20 = .ok (.getfield 59, 3) := by decide +kernel
theorem dX12_trySet_23 : decode cX12_trySet 23 = .ok (.bipush 16, 2) := by decide +kernel
theorem dX12_trySet_25 : decode cX12_trySet 25 = .ok (.iload_n 1, 1) := by decide +kernel
theorem dX12_trySet_26 : decode cX12_trySet 26 = .ok (.imul, 1) := by decide +kernel
theorem dX12_trySet_27 : decode cX12_trySet 27 = .ok (.iload 4, 2) := by decide +kernel
theorem dX12_trySet_29 : decode cX12_trySet 29 = .ok (.iadd, 1) := by decide +kernel
theorem dX12_trySet_30 : decode cX12_trySet 30 = .ok (.iaload, 1) := by decide +kernel
theorem dX12_trySet_31 : decode cX12_trySet 31 = .ok (.iload_n 2, 1) := by decide +kernel
theorem dX12_trySet_32 : decode cX12_trySet 32 = .ok (.iload 4, 2) := by decide +kernel
theorem dX12_trySet_34 : decode cX12_trySet 34 = .ok (.invokevirtual 208, 3) := by decide +kernel
theorem dX12_trySet_37 : decode cX12_trySet 37 = .ok (.iastore, 1) := by decide +kernel
theorem dX12_trySet_38 : decode cX12_trySet 38 = .ok (.iload_n 3, 1) := by decide +kernel
theorem dX12_trySet_39 : decode cX12_trySet 39 = .ok (.ifCond .eq 23, 3) := by decide +kernel
theorem dX12_trySet_42 : decode cX12_trySet 42 = .ok (.aload_n 0, 1) := by decide +kernel
theorem dX12_trySet_43 : decode cX12_trySet 43 = .ok (.iload 4, 2) := by decide +kernel
theorem dX12_trySet_45 : decode cX12_trySet 45 = .ok (.aload_n 0, 1) := by decide +kernel
theorem dX12_trySet_46 : decode cX12_trySet 46 = .ok (.getfield 95, 3) := by decide +kernel
theorem dX12_trySet_49 : decode cX12_trySet 49 = .ok (.iload 4, 2) := by decide +kernel
end
section
theorem dX12_trySet_51 : decode cX12_trySet 51 = .ok (.iaload, 1) := by decide +kernel
theorem dX12_trySet_52 : decode cX12_trySet 52 = .ok (.invokevirtual 212, 3) := by decide +kernel
theorem dX12_trySet_55 : decode cX12_trySet 55 = .ok (.ifCond .eq 7, 3) := by decide +kernel
theorem dX12_trySet_58 : decode cX12_trySet 58 = .ok (.iconst 1, 1) := by decide +kernel
theorem dX12_trySet_59 : decode cX12_trySet 59 = .ok (.goto 4, 3) := by decide +kernel
theorem dX12_trySet_62 : decode cX12_trySet 62 = .ok (.iconst 0, 1) := by decide +kernel
theorem dX12_trySet_63 : decode cX12_trySet 63 = .ok (.istore_n 3, 1) := by decide +kernel
theorem dX12_trySet_64 : decode cX12_trySet 64 = .ok (.iinc 4 1, 3) := by decide +kernel
theorem dX12_trySet_67 : decode cX12_trySet 67 = .ok (.goto (-62), 3) := by decide +kernel
theorem dX12_trySet_70 : decode cX12_trySet 70 = .ok (.iconst 1, 1) := by decide +kernel
theorem dX12_trySet_71 : decode cX12_trySet 71 = .ok (.aload_n 0, 1) := by decide +kernel
theorem dX12_trySet_72 : decode cX12_trySet 72 = .ok (.iload_n 2, 1) := by decide +kernel
theorem dX12_trySet_73 : decode cX12_trySet 73 = .ok (.invokevirtual 266, 3) := by decide +kernel
theorem dX12_trySet_76 : decode cX12_trySet 76 = .ok (.ishl, 1) := by decide +kernel
theorem dX12_trySet_77 : decode cX12_trySet 77 = .ok (.istore 4, 2) := by decide +kernel
theorem dX12_trySet_79 : decode cX12_trySet 79 = .ok (.iconst 0, 1) := by decide +kernel
theorem dX12_trySet_80 : decode cX12_trySet 80 = .ok (.istore 5, 2) := by decide +kernel
theorem dX12_trySet_82 : decode cX12_trySet 82 = .ok (.iload 5, 2) := by decide +kernel
theorem dX12_trySet_84 : decode cX12_trySet 84 = .ok (.iload 4, 2) := by decide +kernel
theorem dX12_trySet_86 : decode cX12_trySet 86 = .ok (.if_icmp .ge 78, 3) := by decide +kernel
theorem dX12_trySet_89 : decode cX12_trySet 89 = .ok (.iload_n 3, 1) := by decide +kernel
theorem dX12_trySet_90 : decode cX12_trySet 90 = .ok (.ifCond .eq 74, 3) := by decide +kernel
theorem dX12_trySet_93 : decode cX12_trySet 93 = .ok (.aload_n 0, 1) := by decide +kernel
theorem dX12_trySet_94 : decode cX12_trySet 94 = .ok (.getfield 237, 3) := by decide +kernel
theorem dX12_trySet_97 : decode cX12_trySet 97 = .ok (.ifCond .ne 67, 3) := by decide +kernel
theorem dX12_trySet_100 : decode cX12_trySet 100 = .ok (.aload_n 0, 1) := by decide +kernel
theorem dX12_trySet_101 : decode cX12_trySet 101 = .ok (.aload_n 0, 1) := by decide +kernel
theorem dX12_trySet_102 : decode cX12_trySet 102 = .ok (.getfield 56, 3) := by decide +kernel
theorem dX12_trySet_105 : decode cX12_trySet 105 = .ok (.iload_n 1, 1) := by decide +kernel
theorem dX12_trySet_106 : decode cX12_trySet 106 = .ok (.iaload, 1) := by decide +kernel
theorem dX12_trySet_107 : decode cX12_trySet 107 = .ok (.iload_n 2, 1) := by decide +kernel
theorem dX12_trySet_108 : decode cX12_trySet 108 = .ok (.iload 5, 2) := by decide +kernel
theorem dX12_trySet_110 : decode cX12_trySet 110 = .ok (.invokevirtual 215, 3) := by decide +kernel
theorem dX12_trySet_113 : decode cX12_trySet 113 = .ok (.iconst 1, 1) := by decide +kernel
theorem dX12_trySet_114 : decode cX12_trySet 114 = .ok (.aload_n 0, 1) := by decide +kernel
theorem dX12_trySet_115 : decode cX12_trySet 115 = .ok (.aload_n 0, 1) := by decide +kernel
theorem dX12_trySet_116 : decode cX12_trySet 116 = .ok (.getfield 199, 3) := by decide +kernel
theorem dX12_trySet_119 : decode cX12_trySet 119 = .ok (.invokevirtual 205, 3) := by decide +kernel
theorem dX12_trySet_122 : decode cX12_trySet 122 = .ok (.ishl, 1) := by decide +kernel
theorem dX12_trySet_123 : decode cX12_trySet 123 = .ok (.istore 6, 2) := by decide +kernel
theorem dX12_trySet_125 : decode cX12_trySet 125 = .ok (.iconst 0, 1) := by decide +kernel
theorem dX12_trySet_126 : decode cX12_trySet 126 = .ok (.istore 7, 2) := by decide +kernel
theorem dX12_trySet_128 : decode cX12_trySet 128 = .ok (.iload 7, 2) := by decide +kernel
theorem dX12_trySet_130 : decode cX12_trySet 130 = .ok (.iload 6, 2) := by decide +kernel
theorem dX12_trySet_132 : decode cX12_trySet 132 = .ok (.if_icmp .ge 26, 3) := by decide +kernel
theorem dX12_trySet_135 : decode cX12_trySet 135 = .ok (.aload_n 0, 1) := by decide +kernel
theorem dX12_trySet_136 : decode cX12_trySet 136 = .ok (.getfield 237, 3) := by decide +kernel
theorem dX12_trySet_139 : decode cX12_trySet 139 = .ok (.ifCond .ne 19, 3) := by decide +kernel
theorem dX12_trySet_142 : decode cX12_trySet 142 = .ok (.aload_n 0, 1) := by decide +kernel
theorem dX12_trySet_143 : decode cX12_trySet 143 = .ok (.iload_n 1, 1) := by decide +kernel
theorem dX12_trySet_144 : decode cX12_trySet 144 = .ok (.iload_n 2, 1) := by decide +kernel
theorem dX12_trySet_145 : decode cX12_trySet 145 = .ok (.iload 5, 2) := by decide +kernel
theorem dX12_trySet_147 : decode cX12_trySet 147 = .ok (.iload 7, 2) := by decide +kernel
theorem dX12_trySet_149 : decode cX12_trySet 149 = .ok (.invokevirtual 269, 3) := by decide +kernel
theorem dX12_trySet_152 : decode cX12_trySet 152 = .ok (.iinc 7 1, 3) := by decide +kernel
theorem dX12_trySet_155 : decode cX12_trySet 155 = .ok (.goto (-27), 3) := by decide +kernel
theorem dX12_trySet_158 : decode cX12_trySet 158 = .ok (.iinc 5 1, 3) := by decide +kernel
theorem dX12_trySet_161 : decode cX12_trySet 161 = .ok (.goto (-79), 3) := by decide +kernel
theorem dX12_trySet_164 : decode cX12_trySet 164 = .ok (.return_, 1) := by decide +kernel
theorem dX12_clocksThere_0 : decode cX12_clocksThere 0 = .ok (.iconst 0, 1) := by decide +kernel
theorem dX12_clocksThere_1 : decode cX12_clocksThere 1 = .ok (.istore_n 1, 1) := by decide +kernel
theorem dX12_clocksThere_2 : decode cX12_clocksThere 2 = .ok (.iconst 0, 1) := by decide +kernel
theorem dX12_clocksThere_3 : decode cX12_clocksThere 3 = .ok (.istore_n 2, 1) := by decide +kernel
theorem dX12_clocksThere_4 : decode cX12_clocksThere 4 = .ok (.iload_n 2, 1) := by decide +kernel
theorem dX12_clocksThere_5 : decode cX12_clocksThere 5 = .ok (.aload_n 0, 1) := by decide +kernel
theorem dX12_clocksThere_6 : decode cX12_clocksThere 6 = .ok (.getfield 126, 3) := by decide +kernel
theorem dX12_clocksThere_9 : decode cX12_clocksThere 9 = .ok (.if_icmp .ge 34, 3) := by decide +kernel
theorem dX12_clocksThere_12 : decode cX12_clocksThere 12 = .ok (.iload_n 1, 1) := by decide +kernel
theorem dX12_clocksThere_13 : decode cX12_clocksThere 13 = .ok (.aload_n 0, 1) := by decide +kernel
theorem dX12_clocksThere_14 : decode cX12_clocksThere 14 = .ok (.getfield 7, 3) := by decide +kernel
theorem dX12_clocksThere_17 : decode cX12_clocksThere 17 = .ok (.iload_n 2, 1) := by decide +kernel
theorem dX12_clocksThere_18 : decode cX12_clocksThere 18 = .ok (.iaload, 1) := by decide +kernel
theorem dX12_clocksThere_19 : decode cX12_clocksThere 19 = .ok (.iconst 4, 1) := by decide +kernel
theorem dX12_clocksThere_20 : decode cX12_clocksThere 20 = .ok (.if_icmp .le 14, 3) := by decide +kernel
theorem dX12_clocksThere_23 : decode cX12_clocksThere 23 = .ok (.iconst 1, 1) := by decide +kernel
theorem dX12_clocksThere_24 : decode cX12_clocksThere 24 = .ok (.aload_n 0, 1) := by decide +kernel
theorem dX12_clocksThere_25 : decode cX12_clocksThere 25 = .ok (.getfield 13, 3) := by decide +kernel
theorem dX12_clocksThere_28 : decode cX12_clocksThere 28 = .ok (.iload_n 2, 1) := by decide +kernel
theorem dX12_clocksThere_29 : decode cX12_clocksThere 29 = .ok (.iaload, 1) := by decide +kernel
theorem dX12_clocksThere_30 : decode cX12_clocksThere 30 = .ok (.ishl, 1) := by decide +kernel
theorem dX12_clocksThere_31 : decode cX12_clocksThere 31 = .ok (.goto 4, 3) := by decide +kernel
theorem dX12_clocksThere_34 : decode cX12_clocksThere 34 = .ok (.iconst 0, 1) := by decide +kernel
theorem dX12_clocksThere_35 : decode cX12_clocksThere 35 = .ok (.ior, 1) := by decide +kernel
theorem dX12_clocksThere_36 : decode cX12_clocksThere 36 = .ok (.istore_n 1, 1) := by decide +kernel
theorem dX12_clocksThere_37 : decode cX12_clocksThere 37 = .ok (.iinc 2 1, 3) := by decide +kernel
theorem dX12_clocksThere_40 : decode cX12_clocksThere 40 = .ok (.goto (-36), 3) := by decide +kernel
theorem dX12_clocksThere_43 : decode cX12_clocksThere 43 = .ok (.iload_n 1, 1) := by decide +kernel
theorem dX12_clocksThere_44 : decode cX12_clocksThere 44 = .ok (.ireturn, 1) := by decide +kernel
theorem dX12_walk_0 : decode cX12_walk 0 = .ok (.aload_n 0, 1) := by decide +kernel
theorem dX12_walk_1 : decode cX12_walk 1 = .ok (.iconst 0, 1) := by decide +kernel
theorem dX12_walk_2 : decode cX12_walk 2 = .ok (.putfield 122, 3) := by decide +kernel
theorem dX12_walk_5 : decode cX12_walk 5 = .ok (.aload_n 0, 1) := by decide +kernel
theorem dX12_walk_6 : decode cX12_walk 6 = .ok (.getfield 160, 3) := by decide +kernel
theorem dX12_walk_9 : decode cX12_walk 9 = .ok (.ifCond .ne 6, 3) := by decide +kernel
theorem dX12_walk_12 : decode cX12_walk 12 = .ok (.bipush (-3), 2) := by decide +kernel
theorem dX12_walk_14 : decode cX12_walk 14 = .ok (.ireturn, 1) := by decide +kernel
theorem dX12_walk_15 : decode cX12_walk 15 = .ok (.aload_n 0, 1) := by decide +kernel
theorem dX12_walk_16 : decode cX12_walk 16 = .ok (.invokevirtual 151, 3) := by decide +kernel
theorem dX12_walk_19 : decode cX12_walk 19 = .ok (.aload_n 0, 1) := by decide +kernel
theorem dX12_walk_20 : decode cX12_walk 20 = .ok (.iconst 1, 1) := by decide +kernel
theorem dX12_walk_21 : decode cX12_walk 21 = .ok (.putfield 233, 3) := by decide +kernel
theorem dX12_walk_24 : decode cX12_walk 24 = .ok (.iconst 0, 1) := by decide +kernel
theorem dX12_walk_25 : decode cX12_walk 25 = .ok (.istore_n 1, 1) := by decide +kernel
theorem dX12_walk_26 : decode cX12_walk 26 = .ok (.iload_n 1, 1) := by decide +kernel
theorem dX12_walk_27 : decode cX12_walk 27 = .ok (.bipush 8, 2) := by decide +kernel
theorem dX12_walk_29 : decode cX12_walk 29 = .ok (.if_icmp .ge 16, 3) := by decide +kernel
theorem dX12_walk_32 : decode cX12_walk 32 = .ok (.aload_n 0, 1) := by decide +kernel
theorem dX12_walk_33 : decode cX12_walk 33 = .ok (.getfield 92, 3) := by decide +kernel
theorem dX12_walk_36 : decode cX12_walk 36 = .ok (.iload_n 1, 1) := by decide +kernel
theorem dX12_walk_37 : decode cX12_walk 37 = .ok (.iconst 0, 1) := by decide +kernel
theorem dX12_walk_38 : decode cX12_walk 38 = .ok (.bastore, 1) := by decide +kernel
theorem dX12_walk_39 : decode cX12_walk 39 = .ok (.iinc 1 1, 3) := by decide +kernel
theorem dX12_walk_42 : decode cX12_walk 42 = .ok (.goto (-16), 3) := by decide +kernel
theorem dX12_walk_45 : decode cX12_walk 45 = .ok (.iconst 0, 1) := by decide +kernel
theorem dX12_walk_46 : decode cX12_walk 46 = .ok (.istore_n 1, 1) := by decide +kernel
theorem dX12_walk_47 : decode cX12_walk 47 = .ok (.iload_n 1, 1) := by decide +kernel
theorem dX12_walk_48 : decode cX12_walk 48 = .ok (.bipush 16, 2) := by decide +kernel
theorem dX12_walk_50 : decode cX12_walk 50 = .ok (.if_icmp .ge 16, 3) := by decide +kernel
theorem dX12_walk_53 : decode cX12_walk 53 = .ok (.aload_n 0, 1) := by decide +kernel
theorem dX12_walk_54 : decode cX12_walk 54 = .ok (.getfield 95, 3) := by decide +kernel
theorem dX12_walk_57 : decode cX12_walk 57 = .ok (.iload_n 1, 1) := by decide +kernel
theorem dX12_walk_58 : decode cX12_walk 58 = .ok (.iconst 0, 1) := by decide +kernel
theorem dX12_walk_59 : decode cX12_walk 59 = .ok (.iastore, 1) := by decide +kernel
theorem dX12_walk_60 : decode cX12_walk 60 = .ok (.iinc 1 1, 3) := by decide +kernel
theorem dX12_walk_63 : decode cX12_walk 63 = .ok (.goto (-16), 3) := by decide +kernel
theorem dX12_walk_66 : decode cX12_walk 66 = .ok (.aload_n 0, 1) := by decide +kernel
theorem dX12_walk_67 : decode cX12_walk 67 = .ok (.invokevirtual 147, 3) := by decide +kernel
theorem dX12_walk_70 : decode cX12_walk 70 = .ok (.istore_n 1, 1) := by decide +kernel
theorem dX12_walk_71 : decode cX12_walk 71 = .ok (.aload_n 0, 1) := by decide +kernel
theorem dX12_walk_72 : decode cX12_walk 72 = .ok (.iload_n 1, 1) := by decide +kernel
theorem dX12_walk_73 : decode cX12_walk 73 = .ok (.iconst (-1), 1) := by decide +kernel
theorem dX12_walk_74 : decode cX12_walk 74 = .ok (.iconst 0, 1) := by decide +kernel
theorem dX12_walk_75 : decode cX12_walk 75 = .ok (.iconst 0, 1) := by decide +kernel
theorem dX12_walk_76 : decode cX12_walk 76 = .ok (.iconst 0, 1) := by decide +kernel
theorem dX12_walk_77 : decode cX12_walk 77 = .ok (.invokevirtual 255, 3) := by decide +kernel
theorem dX12_walk_80 : decode cX12_walk 80 = .ok (.aload_n 0, 1) := by decide +kernel
theorem dX12_walk_81 : decode cX12_walk 81 = .ok (.iconst 0, 1) := by decide +kernel
theorem dX12_walk_82 : decode cX12_walk 82 = .ok (.iload_n 1, 1) := by decide +kernel
theorem dX12_walk_83 : decode cX12_walk 83 = .ok (.iconst (-1), 1) := by decide +kernel
theorem dX12_walk_84 : decode cX12_walk 84 = .ok (.iconst 0, 1) := by decide +kernel
theorem dX12_walk_85 : decode cX12_walk 85 = .ok (.iconst 0, 1) := by decide +kernel
theorem dX12_walk_86 : decode cX12_walk 86 = .ok (.iconst 0, 1) := by decide +kernel
theorem dX12_walk_87 : decode cX12_walk 87 = .ok (.iconst 0, 1) := by decide +kernel
theorem dX12_walk_88 : decode cX12_walk 88 = .ok (.invokevirtual 262, 3) := by decide +kernel
theorem dX12_walk_91 : decode cX12_walk 91 = .ok (.aload_n 0, 1) := by decide +kernel
theorem dX12_walk_92 : decode cX12_walk 92 = .ok (.invokevirtual 273, 3) := by decide +kernel
theorem dX12_walk_95 : decode cX12_walk 95 = .ok (.istore_n 2, 1) := by decide +kernel
theorem dX12_walk_96 : decode cX12_walk 96 = .ok (.iconst 0, 1) := by decide +kernel
theorem dX12_walk_97 : decode cX12_walk 97 = .ok (.istore_n 3, 1) := by decide +kernel
theorem dX12_walk_98 : decode cX12_walk 98 = .ok (.iload_n 3, 1) := by decide +kernel
theorem dX12_walk_99 : decode cX12_walk 99 = .ok (.aload_n 0, 1) := by decide +kernel
theorem dX12_walk_100 : decode cX12_walk 100 = .ok (.getfield 240, 3) := by decide +kernel
theorem dX12_walk_103 : decode cX12_walk 103 = .ok (.if_icmp .ge 91, 3) := by decide +kernel
theorem dX12_walk_106 : decode cX12_walk 106 = .ok (.aload_n 0, 1) := by decide +kernel
theorem dX12_walk_107 : decode cX12_walk 107 = .ok (.getfield 237, 3) := by decide +kernel
theorem dX12_walk_110 : decode cX12_walk 110 = .ok (.ifCond .ne 84, 3) := by decide +kernel
theorem dX12_walk_113 : decode cX12_walk 113 = .ok (.aload_n 0, 1) := by decide +kernel
theorem dX12_walk_114 : decode cX12_walk 114 = .ok (.getfield 249, 3) := by decide +kernel
theorem dX12_walk_117 : decode cX12_walk 117 = .ok (.istore 4, 2) := by decide +kernel
theorem dX12_walk_119 : decode cX12_walk 119 = .ok (.iconst 1, 1) := by decide +kernel
theorem dX12_walk_120 : decode cX12_walk 120 = .ok (.istore 5, 2) := by decide +kernel
theorem dX12_walk_122 : decode cX12_walk 122 = .ok (.iload 5, 2) := by decide +kernel
theorem dX12_walk_124 : decode cX12_walk 124 = .ok (.bipush 16, 2) := by decide +kernel
theorem dX12_walk_126 : decode cX12_walk 126 = .ok (.if_icmp .ge 32, 3) := by decide +kernel
theorem dX12_walk_129 : decode cX12_walk 129 = .ok (.aload_n 0, 1) := by decide +kernel
theorem dX12_walk_130 : decode cX12_walk 130 = .ok (.getfield 237, 3) := by decide +kernel
theorem dX12_walk_133 : decode cX12_walk 133 = .ok (.ifCond .ne 25, 3) := by decide +kernel
theorem dX12_walk_136 : decode cX12_walk 136 = .ok (.iload 5, 2) := by decide +kernel
theorem dX12_walk_138 : decode cX12_walk 138 = .ok (.iload_n 2, 1) := by decide +kernel
theorem dX12_walk_139 : decode cX12_walk 139 = .ok (.iconst (-1), 1) := by decide +kernel
theorem dX12_walk_140 : decode cX12_walk 140 = .ok (.ixor, 1) := by decide +kernel
theorem dX12_walk_141 : decode cX12_walk 141 = .ok (.iand, 1) := by decide +kernel
theorem dX12_walk_142 : decode cX12_walk 142 = .ok (.ifCond .ne 10, 3) := by decide +kernel
theorem dX12_walk_145 : decode cX12_walk 145 = .ok (.aload_n 0, 1) := by decide +kernel
theorem dX12_walk_146 : decode cX12_walk 146 = .ok (.iload_n 3, 1) := by decide +kernel
theorem dX12_walk_147 : decode cX12_walk 147 = .ok (.iload 5, 2) := by decide +kernel
theorem dX12_walk_149 : decode cX12_walk 149 = .ok (.invokevirtual 276, 3) := by decide +kernel
theorem dX12_walk_152 : decode cX12_walk 152 = .ok (.iinc 5 1, 3) := by decide +kernel
theorem dX12_walk_155 : decode cX12_walk 155 = .ok (.goto (-33), 3) := by decide +kernel
theorem dX12_walk_158 : decode cX12_walk 158 = .ok (.aload_n 0, 1) := by decide +kernel
theorem dX12_walk_159 : decode cX12_walk 159 = .ok (.getfield 237, 3) := by decide +kernel
theorem dX12_walk_162 : decode cX12_walk 162 = .ok (.ifCond .ne 26, 3) := by decide +kernel
theorem dX12_walk_165 : decode cX12_walk 165 = .ok (.aload_n 0, 1) := by decide +kernel
theorem dX12_walk_166 : decode cX12_walk 166 = .ok (.getfield 77, 3) := by decide +kernel
theorem dX12_walk_169 : decode cX12_walk 169 = .ok (.iload_n 3, 1) := by decide +kernel
theorem dX12_walk_170 : decode cX12_walk 170 = .ok (.aload_n 0, 1) := by decide +kernel
theorem dX12_walk_171 : decode cX12_walk 171 = .ok (.getfield 249, 3) := by decide +kernel
theorem dX12_walk_174 : decode cX12_walk 174 = .ok (.iload 4, 2) := by decide +kernel
theorem dX12_walk_176 : decode cX12_walk 176 = .ok (.isub, 1) := by decide +kernel
theorem dX12_walk_177 : decode cX12_walk 177 = .ok (.iastore, 1) := by decide +kernel
theorem dX12_walk_178 : decode cX12_walk 178 = .ok (.aload_n 0, 1) := by decide +kernel
theorem dX12_walk_179 : decode cX12_walk 179 = .ok (.dup, 1) := by decide +kernel
theorem dX12_walk_180 : decode cX12_walk 180 = .ok (.getfield 243, 3) := by decide +kernel
theorem dX12_walk_183 : decode cX12_walk 183 = .ok (.iconst 1, 1) := by decide +kernel
theorem dX12_walk_184 : decode cX12_walk 184 = .ok (.iadd, 1) := by decide +kernel
theorem dX12_walk_185 : decode cX12_walk 185 = .ok (.putfield 243, 3) := by decide +kernel
theorem dX12_walk_188 : decode cX12_walk 188 = .ok (.iinc 3 1, 3) := by decide +kernel
theorem dX12_walk_191 : decode cX12_walk 191 = .ok (.goto (-93), 3) := by decide +kernel
theorem dX12_walk_194 : decode cX12_walk 194 = .ok (.aload_n 0, 1) := by decide +kernel
theorem dX12_walk_195 : decode cX12_walk 195 = .ok (.getfield 237, 3) := by decide +kernel
theorem dX12_walk_198 : decode cX12_walk 198 = .ok (.ifCond .eq 13, 3) := by decide +kernel
theorem dX12_walk_201 : decode cX12_walk 201 = .ok (.bipush (-2), 2) := by decide +kernel
theorem dX12_walk_203 : decode cX12_walk 203 = .ok (.aload_n 0, 1) := by decide +kernel
theorem dX12_walk_204 : decode cX12_walk 204 = .ok (.getfield 240, 3) := by decide +kernel
theorem dX12_walk_207 : decode cX12_walk 207 = .ok (.isub, 1) := by decide +kernel
theorem dX12_walk_208 : decode cX12_walk 208 = .ok (.goto 7, 3) := by decide +kernel
theorem dX12_walk_211 : decode cX12_walk 211 = .ok (.aload_n 0, 1) := by decide +kernel
theorem dX12_walk_212 : decode cX12_walk 212 = .ok (.getfield 240, 3) := by decide +kernel
theorem dX12_walk_215 : decode cX12_walk 215 = .ok (.ireturn, 1) := by decide +kernel
theorem dX12_isState_0 : decode cX12_isState 0 = .ok (.iload_n 1, 1) := by decide +kernel
theorem dX12_isState_1 : decode cX12_isState 1 = .ok (.ifCond .lt 15, 3) := by decide +kernel
theorem dX12_isState_4 : decode cX12_isState 4 = .ok (.iload_n 1, 1) := by decide +kernel
theorem dX12_isState_5 : decode cX12_isState 5 = .ok (.aload_n 0, 1) := by decide +kernel
theorem dX12_isState_6 : decode cX12_isState 6 = .ok (.getfield 240, 3) := by decide +kernel
theorem dX12_isState_9 : decode cX12_isState 9 = .ok (.if_icmp .ge 7, 3) := by decide +kernel
theorem dX12_isState_12 : decode cX12_isState 12 = .ok (.iconst 1, 1) := by decide +kernel
theorem dX12_isState_13 : decode cX12_isState 13 = .ok (.goto 4, 3) := by decide +kernel
theorem dX12_isState_16 : decode cX12_isState 16 = .ok (.iconst 0, 1) := by decide +kernel
theorem dX12_isState_17 : decode cX12_isState 17 = .ok (.ireturn, 1) := by decide +kernel
theorem dX12_bitsOf_0 : decode cX12_bitsOf 0 = .ok (.iconst 0, 1) := by decide +kernel
theorem dX12_bitsOf_1 : decode cX12_bitsOf 1 = .ok (.istore_n 2, 1) := by decide +kernel
theorem dX12_bitsOf_2 : decode cX12_bitsOf 2 = .ok (.iconst 0, 1) := by decide +kernel
theorem dX12_bitsOf_3 : decode cX12_bitsOf 3 = .ok (.istore_n 3, 1) := by decide +kernel
theorem dX12_bitsOf_4 : decode cX12_bitsOf 4 = .ok (.iconst 0, 1) := by decide +kernel
theorem dX12_bitsOf_5 : decode cX12_bitsOf 5 = .ok (.istore 4, 2) := by decide +kernel
theorem dX12_bitsOf_7 : decode cX12_bitsOf 7 = .ok (.iload 4, 2) := by decide +kernel
theorem dX12_bitsOf_9 : decode cX12_bitsOf 9 = .ok (.aload_n 0, 1) := by decide +kernel
theorem dX12_bitsOf_10 : decode cX12_bitsOf 10 = .ok (.getfield 126, 3) := by decide +kernel
theorem dX12_bitsOf_13 : decode cX12_bitsOf 13 = .ok (.if_icmp .ge 34, 3) := by decide +kernel
theorem dX12_bitsOf_16 : decode cX12_bitsOf 16 = .ok (.aload_n 0, 1) := by decide +kernel
theorem dX12_bitsOf_17 : decode cX12_bitsOf 17 = .ok (.getfield 7, 3) := by decide +kernel
theorem dX12_bitsOf_20 : decode cX12_bitsOf 20 = .ok (.iload 4, 2) := by decide +kernel
theorem dX12_bitsOf_22 : decode cX12_bitsOf 22 = .ok (.iaload, 1) := by decide +kernel
theorem dX12_bitsOf_23 : decode cX12_bitsOf 23 = .ok (.iconst 4, 1) := by decide +kernel
theorem dX12_bitsOf_24 : decode cX12_bitsOf 24 = .ok (.if_icmp .le 17, 3) := by decide +kernel
theorem dX12_bitsOf_27 : decode cX12_bitsOf 27 = .ok (.iload_n 2, 1) := by decide +kernel
theorem dX12_bitsOf_28 : decode cX12_bitsOf 28 = .ok (.iload_n 1, 1) := by decide +kernel
theorem dX12_bitsOf_29 : decode cX12_bitsOf 29 = .ok (.iload 4, 2) := by decide +kernel
theorem dX12_bitsOf_31 : decode cX12_bitsOf 31 = .ok (.invokestatic 133, 3) := by decide +kernel
theorem dX12_bitsOf_34 : decode cX12_bitsOf 34 = .ok (.iload_n 3, 1) := by decide +kernel
theorem dX12_bitsOf_35 : decode cX12_bitsOf 35 = .ok (.ishl, 1) := by decide +kernel
theorem dX12_bitsOf_36 : decode cX12_bitsOf 36 = .ok (.ior, 1) := by decide +kernel
theorem dX12_bitsOf_37 : decode cX12_bitsOf 37 = .ok (.istore_n 2, 1) := by decide +kernel
theorem dX12_bitsOf_38 : decode cX12_bitsOf 38 = .ok (.iinc 3 1, 3) := by decide +kernel
theorem dX12_bitsOf_41 : decode cX12_bitsOf 41 = .ok (.iinc 4 1, 3) := by decide +kernel
theorem dX12_bitsOf_44 : decode cX12_bitsOf 44 = .ok (.goto (-37), 3) := by decide +kernel
theorem dX12_bitsOf_47 : decode cX12_bitsOf 47 = .ok (.iload_n 2, 1) := by decide +kernel
theorem dX12_bitsOf_48 : decode cX12_bitsOf 48 = .ok (.ireturn, 1) := by decide +kernel
theorem dX12_state_0 : decode cX12_state 0 = .ok (.aload_n 0, 1) := by decide +kernel
theorem dX12_state_1 : decode cX12_state 1 = .ok (.iconst 0, 1) := by decide +kernel
theorem dX12_state_2 : decode cX12_state 2 = .ok (.putfield 122, 3) := by decide +kernel
theorem dX12_state_5 : decode cX12_state 5 = .ok (.aload_n 0, 1) := by decide +kernel
theorem dX12_state_6 : decode cX12_state 6 = .ok (.iload_n 1, 1) := by decide +kernel
theorem dX12_state_7 : decode cX12_state 7 = .ok (.invokevirtual 280, 3) := by decide +kernel
theorem dX12_state_10 : decode cX12_state 10 = .ok (.ifCond .eq 15, 3) := by decide +kernel
theorem dX12_state_13 : decode cX12_state 13 = .ok (.iload_n 2, 1) := by decide +kernel
theorem dX12_state_14 : decode cX12_state 14 = .ok (.i2l, 1) := by decide +kernel
theorem dX12_state_15 : decode cX12_state 15 = .ok (.lconst 0, 1) := by decide +kernel
theorem dX12_state_16 : decode cX12_state 16 = .ok (.ldc2_w 283, 3) := by decide +kernel
theorem dX12_state_19 : decode cX12_state 19 = .ok (.invokestatic 156, 3) := by decide +kernel
theorem dX12_state_22 : decode cX12_state 22 = .ok (.ifCond .ne 5, 3) := by decide +kernel
theorem dX12_state_25 : decode cX12_state 25 = .ok (.iconst (-1), 1) := by decide +kernel
theorem dX12_state_26 : decode cX12_state 26 = .ok (.ireturn, 1) := by decide +kernel
theorem dX12_state_27 : decode cX12_state 27 = .ok (.iload_n 2, 1) := by decide +kernel
theorem dX12_state_28 : decode cX12_state 28 = .ok (.tableswitch 100 0 5 #[40, 51, 72, 79, 86, 93], 40) := by decide +kernel
theorem dX12_state_68 : decode cX12_state 68 = .ok (.aload_n 0, 1) := by decide +kernel
theorem dX12_state_69 : decode cX12_state 69 = .ok (.aload_n 0, 1) := by decide +kernel
theorem dX12_state_70 : decode cX12_state 70 = .ok (.getfield 56, 3) := by decide +kernel
theorem dX12_state_73 : decode cX12_state 73 = .ok (.iload_n 1, 1) := by decide +kernel
theorem dX12_state_74 : decode cX12_state 74 = .ok (.iaload, 1) := by decide +kernel
theorem dX12_state_75 : decode cX12_state 75 = .ok (.invokevirtual 285, 3) := by decide +kernel
theorem dX12_state_78 : decode cX12_state 78 = .ok (.ireturn, 1) := by decide +kernel
theorem dX12_state_79 : decode cX12_state 79 = .ok (.aload_n 0, 1) := by decide +kernel
theorem dX12_state_80 : decode cX12_state 80 = .ok (.getfield 62, 3) := by decide +kernel
theorem dX12_state_83 : decode cX12_state 83 = .ok (.iload_n 1, 1) := by decide +kernel
theorem dX12_state_84 : decode cX12_state 84 = .ok (.iaload, 1) := by decide +kernel
theorem dX12_state_85 : decode cX12_state 85 = .ok (.ifCond .ge 8, 3) := by decide +kernel
theorem dX12_state_88 : decode cX12_state 88 = .ok (.bipush (-2), 2) := by decide +kernel
theorem dX12_state_90 : decode cX12_state 90 = .ok (.goto 9, 3) := by decide +kernel
theorem dX12_state_93 : decode cX12_state 93 = .ok (.aload_n 0, 1) := by decide +kernel
theorem dX12_state_94 : decode cX12_state 94 = .ok (.getfield 62, 3) := by decide +kernel
theorem dX12_state_97 : decode cX12_state 97 = .ok (.iload_n 1, 1) := by decide +kernel
theorem dX12_state_98 : decode cX12_state 98 = .ok (.iaload, 1) := by decide +kernel
theorem dX12_state_99 : decode cX12_state 99 = .ok (.ireturn, 1) := by decide +kernel
theorem dX12_state_100 : decode cX12_state 100 = .ok (.aload_n 0, 1) := by decide +kernel
theorem dX12_state_101 : decode cX12_state 101 = .ok (.getfield 65, 3) := by decide +kernel
theorem dX12_state_104 : decode cX12_state 104 = .ok (.iload_n 1, 1) := by decide +kernel
theorem dX12_state_105 : decode cX12_state 105 = .ok (.iaload, 1) := by decide +kernel
theorem dX12_state_106 : decode cX12_state 106 = .ok (.ireturn, 1) := by decide +kernel
theorem dX12_state_107 : decode cX12_state 107 = .ok (.aload_n 0, 1) := by decide +kernel
theorem dX12_state_108 : decode cX12_state 108 = .ok (.getfield 68, 3) := by decide +kernel
theorem dX12_state_111 : decode cX12_state 111 = .ok (.iload_n 1, 1) := by decide +kernel
theorem dX12_state_112 : decode cX12_state 112 = .ok (.iaload, 1) := by decide +kernel
theorem dX12_state_113 : decode cX12_state 113 = .ok (.ireturn, 1) := by decide +kernel
theorem dX12_state_114 : decode cX12_state 114 = .ok (.aload_n 0, 1) := by decide +kernel
theorem dX12_state_115 : decode cX12_state 115 = .ok (.getfield 71, 3) := by decide +kernel
theorem dX12_state_118 : decode cX12_state 118 = .ok (.iload_n 1, 1) := by decide +kernel
theorem dX12_state_119 : decode cX12_state 119 = .ok (.iaload, 1) := by decide +kernel
theorem dX12_state_120 : decode cX12_state 120 = .ok (.ireturn, 1) := by decide +kernel
theorem dX12_state_121 : decode cX12_state 121 = .ok (.aload_n 0, 1) := by decide +kernel
theorem dX12_state_122 : decode cX12_state 122 = .ok (.getfield 74, 3) := by decide +kernel
theorem dX12_state_125 : decode cX12_state 125 = .ok (.iload_n 1, 1) := by decide +kernel
theorem dX12_state_126 : decode cX12_state 126 = .ok (.iaload, 1) := by decide +kernel
theorem dX12_state_127 : decode cX12_state 127 = .ok (.ireturn, 1) := by decide +kernel
theorem dX12_state_128 : decode cX12_state 128 = .ok (.aload_n 0, 1) := by decide +kernel
theorem dX12_state_129 : decode cX12_state 129 = .ok (.getfield 77, 3) := by decide +kernel
theorem dX12_state_132 : decode cX12_state 132 = .ok (.iload_n 1, 1) := by decide +kernel
theorem dX12_state_133 : decode cX12_state 133 = .ok (.iaload, 1) := by decide +kernel
theorem dX12_state_134 : decode cX12_state 134 = .ok (.ireturn, 1) := by decide +kernel
theorem dX12_shown_0 : decode cX12_shown 0 = .ok (.aload_n 0, 1) := by decide +kernel
theorem dX12_shown_1 : decode cX12_shown 1 = .ok (.iconst 0, 1) := by decide +kernel
theorem dX12_shown_2 : decode cX12_shown 2 = .ok (.putfield 122, 3) := by decide +kernel
theorem dX12_shown_5 : decode cX12_shown 5 = .ok (.aload_n 0, 1) := by decide +kernel
theorem dX12_shown_6 : decode cX12_shown 6 = .ok (.iload_n 1, 1) := by decide +kernel
theorem dX12_shown_7 : decode cX12_shown 7 = .ok (.invokevirtual 280, 3) := by decide +kernel
theorem dX12_shown_10 : decode cX12_shown 10 = .ok (.ifCond .eq 24, 3) := by decide +kernel
theorem dX12_shown_13 : decode cX12_shown 13 = .ok (.aload_n 0, 1) := by decide +kernel
theorem dX12_shown_14 : decode cX12_shown 14 = .ok (.iload_n 2, 1) := by decide +kernel
theorem dX12_shown_15 : decode cX12_shown 15 = .ok (.invokevirtual 129, 3) := by decide +kernel
theorem dX12_shown_18 : decode cX12_shown 18 = .ok (.ifCond .eq 16, 3) := by decide +kernel
theorem dX12_shown_21 : decode cX12_shown 21 = .ok (.aload_n 0, 1) := by decide +kernel
theorem dX12_shown_22 : decode cX12_shown 22 = .ok (.getfield 56, 3) := by decide +kernel
theorem dX12_shown_25 : decode cX12_shown 25 = .ok (.iload_n 1, 1) := by decide +kernel
theorem dX12_shown_26 : decode cX12_shown 26 = .ok (.iaload, 1) := by decide +kernel
theorem dX12_shown_27 : decode cX12_shown 27 = .ok (.iload_n 2, 1) := by decide +kernel
theorem dX12_shown_28 : decode cX12_shown 28 = .ok (.invokestatic 133, 3) := by decide +kernel
theorem dX12_shown_31 : decode cX12_shown 31 = .ok (.goto 4, 3) := by decide +kernel
theorem dX12_shown_34 : decode cX12_shown 34 = .ok (.iconst (-1), 1) := by decide +kernel
theorem dX12_shown_35 : decode cX12_shown 35 = .ok (.ireturn, 1) := by decide +kernel
theorem dX12_never_0 : decode cX12_never 0 = .ok (.aload_n 0, 1) := by decide +kernel
theorem dX12_never_1 : decode cX12_never 1 = .ok (.iconst 0, 1) := by decide +kernel
theorem dX12_never_2 : decode cX12_never 2 = .ok (.putfield 122, 3) := by decide +kernel
theorem dX12_never_5 : decode cX12_never 5 = .ok (.iload_n 1, 1) := by decide +kernel
theorem dX12_never_6 : decode cX12_never 6 = .ok (.ifCond .lt 23, 3) := by decide +kernel
theorem dX12_never_9 : decode cX12_never 9 = .ok (.iload_n 1, 1) := by decide +kernel
theorem dX12_never_10 : decode cX12_never 10 = .ok (.aload_n 0, 1) := by decide +kernel
theorem dX12_never_11 : decode cX12_never 11 = .ok (.getfield 180, 3) := by decide +kernel
theorem dX12_never_14 : decode cX12_never 14 = .ok (.if_icmp .ge 15, 3) := by decide +kernel
theorem dX12_never_17 : decode cX12_never 17 = .ok (.iload_n 2, 1) := by decide +kernel
theorem dX12_never_18 : decode cX12_never 18 = .ok (.i2l, 1) := by decide +kernel
theorem dX12_never_19 : decode cX12_never 19 = .ok (.lconst 0, 1) := by decide +kernel
theorem dX12_never_20 : decode cX12_never 20 = .ok (.ldc2_w 170, 3) := by decide +kernel
theorem dX12_never_23 : decode cX12_never 23 = .ok (.invokestatic 156, 3) := by decide +kernel
theorem dX12_never_26 : decode cX12_never 26 = .ok (.ifCond .ne 5, 3) := by decide +kernel
theorem dX12_never_29 : decode cX12_never 29 = .ok (.iconst (-1), 1) := by decide +kernel
theorem dX12_never_30 : decode cX12_never 30 = .ok (.ireturn, 1) := by decide +kernel
theorem dX12_never_31 : decode cX12_never 31 = .ok (.aload_n 0, 1) := by decide +kernel
theorem dX12_never_32 : decode cX12_never 32 = .ok (.getfield 233, 3) := by decide +kernel
theorem dX12_never_35 : decode cX12_never 35 = .ok (.ifCond .eq 25, 3) := by decide +kernel
theorem dX12_never_38 : decode cX12_never 38 = .ok (.aload_n 0, 1) := by decide +kernel
theorem dX12_never_39 : decode cX12_never 39 = .ok (.getfield 92, 3) := by decide +kernel
theorem dX12_never_42 : decode cX12_never 42 = .ok (.iload_n 1, 1) := by decide +kernel
theorem dX12_never_43 : decode cX12_never 43 = .ok (.baload, 1) := by decide +kernel
theorem dX12_never_44 : decode cX12_never 44 = .ok (.ifCond .eq 16, 3) := by decide +kernel
theorem dX12_never_47 : decode cX12_never 47 = .ok (.aload_n 0, 1) := by decide +kernel
theorem dX12_never_48 : decode cX12_never 48 = .ok (.getfield 89, 3) := by decide +kernel
theorem dX12_never_51 : decode cX12_never 51 = .ok (.iconst 5, 1) := by decide +kernel
theorem dX12_never_52 : decode cX12_never 52 = .ok (.iload_n 1, 1) := by decide +kernel
theorem dX12_never_53 : decode cX12_never 53 = .ok (.imul, 1) := by decide +kernel
theorem dX12_never_54 : decode cX12_never 54 = .ok (.iload_n 2, 1) := by decide +kernel
theorem dX12_never_55 : decode cX12_never 55 = .ok (.iadd, 1) := by decide +kernel
theorem dX12_never_56 : decode cX12_never 56 = .ok (.iaload, 1) := by decide +kernel
theorem dX12_never_57 : decode cX12_never 57 = .ok (.goto 17, 3) := by decide +kernel
theorem dX12_never_60 : decode cX12_never 60 = .ok (.aload_n 0, 1) := by decide +kernel
theorem dX12_never_61 : decode cX12_never 61 = .ok (.getfield 233, 3) := by decide +kernel
theorem dX12_never_64 : decode cX12_never 64 = .ok (.ifCond .eq 8, 3) := by decide +kernel
theorem dX12_never_67 : decode cX12_never 67 = .ok (.bipush (-2), 2) := by decide +kernel
theorem dX12_never_69 : decode cX12_never 69 = .ok (.goto 5, 3) := by decide +kernel
theorem dX12_never_72 : decode cX12_never 72 = .ok (.bipush (-3), 2) := by decide +kernel
theorem dX12_never_74 : decode cX12_never 74 = .ok (.ireturn, 1) := by decide +kernel
theorem dX12_follow_0 : decode cX12_follow 0 = .ok (.aload_n 0, 1) := by decide +kernel
theorem dX12_follow_1 : decode cX12_follow 1 = .ok (.iconst 0, 1) := by decide +kernel
theorem dX12_follow_2 : decode cX12_follow 2 = .ok (.putfield 122, 3) := by decide +kernel
theorem dX12_follow_5 : decode cX12_follow 5 = .ok (.aload_n 0, 1) := by decide +kernel
theorem dX12_follow_6 : decode cX12_follow 6 = .ok (.iload_n 1, 1) := by decide +kernel
theorem dX12_follow_7 : decode cX12_follow 7 = .ok (.invokevirtual 280, 3) := by decide +kernel
theorem dX12_follow_10 : decode cX12_follow 10 = .ok (.ifCond .ne 5, 3) := by decide +kernel
theorem dX12_follow_13 : decode cX12_follow 13 = .ok (.iconst (-1), 1) := by decide +kernel
theorem dX12_follow_14 : decode cX12_follow 14 = .ok (.ireturn, 1) := by decide +kernel
theorem dX12_follow_15 : decode cX12_follow 15 = .ok (.aload_n 0, 1) := by decide +kernel
theorem dX12_follow_16 : decode cX12_follow 16 = .ok (.getfield 74, 3) := by decide +kernel
theorem dX12_follow_19 : decode cX12_follow 19 = .ok (.iload_n 1, 1) := by decide +kernel
theorem dX12_follow_20 : decode cX12_follow 20 = .ok (.iaload, 1) := by decide +kernel
theorem dX12_follow_21 : decode cX12_follow 21 = .ok (.bipush 60, 2) := by decide +kernel
theorem dX12_follow_23 : decode cX12_follow 23 = .ok (.if_icmp .le 6, 3) := by decide +kernel
theorem dX12_follow_26 : decode cX12_follow 26 = .ok (.bipush (-3), 2) := by decide +kernel
theorem dX12_follow_28 : decode cX12_follow 28 = .ok (.ireturn, 1) := by decide +kernel
theorem dX12_follow_29 : decode cX12_follow 29 = .ok (.aload_n 0, 1) := by decide +kernel
theorem dX12_follow_30 : decode cX12_follow 30 = .ok (.invokevirtual 119, 3) := by decide +kernel
theorem dX12_follow_33 : decode cX12_follow 33 = .ok (.iconst 1, 1) := by decide +kernel
theorem dX12_follow_34 : decode cX12_follow 34 = .ok (.istore_n 2, 1) := by decide +kernel
theorem dX12_follow_35 : decode cX12_follow 35 = .ok (.iload_n 2, 1) := by decide +kernel
theorem dX12_follow_36 : decode cX12_follow 36 = .ok (.aload_n 0, 1) := by decide +kernel
theorem dX12_follow_37 : decode cX12_follow 37 = .ok (.getfield 74, 3) := by decide +kernel
theorem dX12_follow_40 : decode cX12_follow 40 = .ok (.iload_n 1, 1) := by decide +kernel
theorem dX12_follow_41 : decode cX12_follow 41 = .ok (.iaload, 1) := by decide +kernel
theorem dX12_follow_42 : decode cX12_follow 42 = .ok (.if_icmp .gt 53, 3) := by decide +kernel
theorem dX12_follow_45 : decode cX12_follow 45 = .ok (.iload_n 1, 1) := by decide +kernel
theorem dX12_follow_46 : decode cX12_follow 46 = .ok (.istore_n 3, 1) := by decide +kernel
theorem dX12_follow_47 : decode cX12_follow 47 = .ok (.aload_n 0, 1) := by decide +kernel
theorem dX12_follow_48 : decode cX12_follow 48 = .ok (.getfield 74, 3) := by decide +kernel
theorem dX12_follow_51 : decode cX12_follow 51 = .ok (.iload_n 3, 1) := by decide +kernel
theorem dX12_follow_52 : decode cX12_follow 52 = .ok (.iaload, 1) := by decide +kernel
theorem dX12_follow_53 : decode cX12_follow 53 = .ok (.iload_n 2, 1) := by decide +kernel
theorem dX12_follow_54 : decode cX12_follow 54 = .ok (.if_icmp .le 13, 3) := by decide +kernel
theorem dX12_follow_57 : decode cX12_follow 57 = .ok (.aload_n 0, 1) := by decide +kernel
theorem dX12_follow_58 : decode cX12_follow 58 = .ok (.getfield 62, 3) := by decide +kernel
theorem dX12_follow_61 : decode cX12_follow 61 = .ok (.iload_n 3, 1) := by decide +kernel
theorem dX12_follow_62 : decode cX12_follow 62 = .ok (.iaload, 1) := by decide +kernel
theorem dX12_follow_63 : decode cX12_follow 63 = .ok (.istore_n 3, 1) := by decide +kernel
theorem dX12_follow_64 : decode cX12_follow 64 = .ok (.goto (-17), 3) := by decide +kernel
theorem dX12_follow_67 : decode cX12_follow 67 = .ok (.aload_n 0, 1) := by decide +kernel
theorem dX12_follow_68 : decode cX12_follow 68 = .ok (.aload_n 0, 1) := by decide +kernel
theorem dX12_follow_69 : decode cX12_follow 69 = .ok (.getfield 65, 3) := by decide +kernel
theorem dX12_follow_72 : decode cX12_follow 72 = .ok (.iload_n 3, 1) := by decide +kernel
theorem dX12_follow_73 : decode cX12_follow 73 = .ok (.iaload, 1) := by decide +kernel
theorem dX12_follow_74 : decode cX12_follow 74 = .ok (.aload_n 0, 1) := by decide +kernel
theorem dX12_follow_75 : decode cX12_follow 75 = .ok (.getfield 68, 3) := by decide +kernel
theorem dX12_follow_78 : decode cX12_follow 78 = .ok (.iload_n 3, 1) := by decide +kernel
theorem dX12_follow_79 : decode cX12_follow 79 = .ok (.iaload, 1) := by decide +kernel
theorem dX12_follow_80 : decode cX12_follow 80 = .ok (.aload_n 0, 1) := by decide +kernel
theorem dX12_follow_81 : decode cX12_follow 81 = .ok (.getfield 71, 3) := by decide +kernel
theorem dX12_follow_84 : decode cX12_follow 84 = .ok (.iload_n 3, 1) := by decide +kernel
theorem dX12_follow_85 : decode cX12_follow 85 = .ok (.iaload, 1) := by decide +kernel
theorem dX12_follow_86 : decode cX12_follow 86 = .ok (.invokevirtual 226, 3) := by decide +kernel
theorem dX12_follow_89 : decode cX12_follow 89 = .ok (.iinc 2 1, 3) := by decide +kernel
theorem dX12_follow_92 : decode cX12_follow 92 = .ok (.goto (-57), 3) := by decide +kernel
theorem dX12_follow_95 : decode cX12_follow 95 = .ok (.aload_n 0, 1) := by decide +kernel
theorem dX12_follow_96 : decode cX12_follow 96 = .ok (.getfield 74, 3) := by decide +kernel
theorem dX12_follow_99 : decode cX12_follow 99 = .ok (.iload_n 1, 1) := by decide +kernel
theorem dX12_follow_100 : decode cX12_follow 100 = .ok (.iaload, 1) := by decide +kernel
theorem dX12_follow_101 : decode cX12_follow 101 = .ok (.ireturn, 1) := by decide +kernel
theorem dX12_fewest_0 : decode cX12_fewest 0 = .ok (.aload_n 0, 1) := by decide +kernel
theorem dX12_fewest_1 : decode cX12_fewest 1 = .ok (.iconst 0, 1) := by decide +kernel
theorem dX12_fewest_2 : decode cX12_fewest 2 = .ok (.putfield 122, 3) := by decide +kernel
theorem dX12_fewest_5 : decode cX12_fewest 5 = .ok (.aload_n 0, 1) := by decide +kernel
theorem dX12_fewest_6 : decode cX12_fewest 6 = .ok (.iload_n 1, 1) := by decide +kernel
theorem dX12_fewest_7 : decode cX12_fewest 7 = .ok (.invokevirtual 280, 3) := by decide +kernel
theorem dX12_fewest_10 : decode cX12_fewest 10 = .ok (.ifCond .ne 5, 3) := by decide +kernel
theorem dX12_fewest_13 : decode cX12_fewest 13 = .ok (.iconst (-1), 1) := by decide +kernel
theorem dX12_fewest_14 : decode cX12_fewest 14 = .ok (.ireturn, 1) := by decide +kernel
theorem dX12_fewest_15 : decode cX12_fewest 15 = .ok (.iconst 0, 1) := by decide +kernel
theorem dX12_fewest_16 : decode cX12_fewest 16 = .ok (.istore_n 2, 1) := by decide +kernel
theorem dX12_fewest_17 : decode cX12_fewest 17 = .ok (.iload_n 2, 1) := by decide +kernel
theorem dX12_fewest_18 : decode cX12_fewest 18 = .ok (.aload_n 0, 1) := by decide +kernel
theorem dX12_fewest_19 : decode cX12_fewest 19 = .ok (.getfield 240, 3) := by decide +kernel
theorem dX12_fewest_22 : decode cX12_fewest 22 = .ok (.if_icmp .ge 26, 3) := by decide +kernel
theorem dX12_fewest_25 : decode cX12_fewest 25 = .ok (.aload_n 0, 1) := by decide +kernel
theorem dX12_fewest_26 : decode cX12_fewest 26 = .ok (.getfield 98, 3) := by decide +kernel
theorem dX12_fewest_29 : decode cX12_fewest 29 = .ok (.iload_n 2, 1) := by decide +kernel
theorem dX12_fewest_30 : decode cX12_fewest 30 = .ok (.iload_n 2, 1) := by decide +kernel
theorem dX12_fewest_31 : decode cX12_fewest 31 = .ok (.ifCond .ne 7, 3) := by decide +kernel
theorem dX12_fewest_34 : decode cX12_fewest 34 = .ok (.iconst 0, 1) := by decide +kernel
theorem dX12_fewest_35 : decode cX12_fewest 35 = .ok (.goto 6, 3) := by decide +kernel
theorem dX12_fewest_38 : decode cX12_fewest 38 = .ok (.ldc_w 288, 3) := by decide +kernel
theorem dX12_fewest_41 : decode cX12_fewest 41 = .ok (.iastore, 1) := by decide +kernel
theorem dX12_fewest_42 : decode cX12_fewest 42 = .ok (.iinc 2 1, 3) := by decide +kernel
theorem dX12_fewest_45 : decode cX12_fewest 45 = .ok (.goto (-28), 3) := by decide +kernel
theorem dX12_fewest_48 : decode cX12_fewest 48 = .ok (.iconst 1, 1) := by decide +kernel
theorem dX12_fewest_49 : decode cX12_fewest 49 = .ok (.istore_n 2, 1) := by decide +kernel
theorem dX12_fewest_50 : decode cX12_fewest 50 = .ok (.iload_n 2, 1) := by decide +kernel
theorem dX12_fewest_51 : decode cX12_fewest 51 = .ok (.ifCond .eq 89, 3) := by decide +kernel
theorem dX12_fewest_54 : decode cX12_fewest 54 = .ok (.iconst 0, 1) := by decide +kernel
theorem dX12_fewest_55 : decode cX12_fewest 55 = .ok (.istore_n 2, 1) := by decide +kernel
theorem dX12_fewest_56 : decode cX12_fewest 56 = .ok (.iconst 0, 1) := by decide +kernel
theorem dX12_fewest_57 : decode cX12_fewest 57 = .ok (.istore_n 3, 1) := by decide +kernel
theorem dX12_fewest_58 : decode cX12_fewest 58 = .ok (.iload_n 3, 1) := by decide +kernel
theorem dX12_fewest_59 : decode cX12_fewest 59 = .ok (.aload_n 0, 1) := by decide +kernel
theorem dX12_fewest_60 : decode cX12_fewest 60 = .ok (.getfield 249, 3) := by decide +kernel
theorem dX12_fewest_63 : decode cX12_fewest 63 = .ok (.if_icmp .ge 74, 3) := by decide +kernel
theorem dX12_fewest_66 : decode cX12_fewest 66 = .ok (.aload_n 0, 1) := by decide +kernel
theorem dX12_fewest_67 : decode cX12_fewest 67 = .ok (.getfield 98, 3) := by decide +kernel
theorem dX12_fewest_70 : decode cX12_fewest 70 = .ok (.aload_n 0, 1) := by decide +kernel
theorem dX12_fewest_71 : decode cX12_fewest 71 = .ok (.getfield 80, 3) := by decide +kernel
theorem dX12_fewest_74 : decode cX12_fewest 74 = .ok (.iload_n 3, 1) := by decide +kernel
theorem dX12_fewest_75 : decode cX12_fewest 75 = .ok (.iaload, 1) := by decide +kernel
theorem dX12_fewest_76 : decode cX12_fewest 76 = .ok (.iaload, 1) := by decide +kernel
theorem dX12_fewest_77 : decode cX12_fewest 77 = .ok (.aload_n 0, 1) := by decide +kernel
theorem dX12_fewest_78 : decode cX12_fewest 78 = .ok (.getfield 86, 3) := by decide +kernel
theorem dX12_fewest_81 : decode cX12_fewest 81 = .ok (.iload_n 3, 1) := by decide +kernel
theorem dX12_fewest_82 : decode cX12_fewest 82 = .ok (.iaload, 1) := by decide +kernel
theorem dX12_fewest_83 : decode cX12_fewest 83 = .ok (.iadd, 1) := by decide +kernel
theorem dX12_fewest_84 : decode cX12_fewest 84 = .ok (.istore 4, 2) := by decide +kernel
theorem dX12_fewest_86 : decode cX12_fewest 86 = .ok (.aload_n 0, 1) := by decide +kernel
theorem dX12_fewest_87 : decode cX12_fewest 87 = .ok (.getfield 77, 3) := by decide +kernel
theorem dX12_fewest_90 : decode cX12_fewest 90 = .ok (.aload_n 0, 1) := by decide +kernel
theorem dX12_fewest_91 : decode cX12_fewest 91 = .ok (.getfield 80, 3) := by decide +kernel
theorem dX12_fewest_94 : decode cX12_fewest 94 = .ok (.iload_n 3, 1) := by decide +kernel
theorem dX12_fewest_95 : decode cX12_fewest 95 = .ok (.iaload, 1) := by decide +kernel
theorem dX12_fewest_96 : decode cX12_fewest 96 = .ok (.iaload, 1) := by decide +kernel
theorem dX12_fewest_97 : decode cX12_fewest 97 = .ok (.ifCond .lt 34, 3) := by decide +kernel
theorem dX12_fewest_100 : decode cX12_fewest 100 = .ok (.iload 4, 2) := by decide +kernel
theorem dX12_fewest_102 : decode cX12_fewest 102 = .ok (.aload_n 0, 1) := by decide +kernel
theorem dX12_fewest_103 : decode cX12_fewest 103 = .ok (.getfield 98, 3) := by decide +kernel
theorem dX12_fewest_106 : decode cX12_fewest 106 = .ok (.aload_n 0, 1) := by decide +kernel
theorem dX12_fewest_107 : decode cX12_fewest 107 = .ok (.getfield 83, 3) := by decide +kernel
theorem dX12_fewest_110 : decode cX12_fewest 110 = .ok (.iload_n 3, 1) := by decide +kernel
theorem dX12_fewest_111 : decode cX12_fewest 111 = .ok (.iaload, 1) := by decide +kernel
theorem dX12_fewest_112 : decode cX12_fewest 112 = .ok (.iaload, 1) := by decide +kernel
theorem dX12_fewest_113 : decode cX12_fewest 113 = .ok (.if_icmp .ge 18, 3) := by decide +kernel
theorem dX12_fewest_116 : decode cX12_fewest 116 = .ok (.aload_n 0, 1) := by decide +kernel
theorem dX12_fewest_117 : decode cX12_fewest 117 = .ok (.getfield 98, 3) := by decide +kernel
theorem dX12_fewest_120 : decode cX12_fewest 120 = .ok (.aload_n 0, 1) := by decide +kernel
theorem dX12_fewest_121 : decode cX12_fewest 121 = .ok (.getfield 83, 3) := by decide +kernel
theorem dX12_fewest_124 : decode cX12_fewest 124 = .ok (.iload_n 3, 1) := by decide +kernel
theorem dX12_fewest_125 : decode cX12_fewest 125 = .ok (.iaload, 1) := by decide +kernel
theorem dX12_fewest_126 : decode cX12_fewest 126 = .ok (.iload 4, 2) := by decide +kernel
theorem dX12_fewest_128 : decode cX12_fewest 128 = .ok (.iastore, 1) := by decide +kernel
theorem dX12_fewest_129 : decode cX12_fewest 129 = .ok (.iconst 1, 1) := by decide +kernel
theorem dX12_fewest_130 : decode cX12_fewest 130 = .ok (.istore_n 2, 1) := by decide +kernel
theorem dX12_fewest_131 : decode cX12_fewest 131 = .ok (.iinc 3 1, 3) := by decide +kernel
theorem dX12_fewest_134 : decode cX12_fewest 134 = .ok (.goto (-76), 3) := by decide +kernel
theorem dX12_fewest_137 : decode cX12_fewest 137 = .ok (.goto (-87), 3) := by decide +kernel
theorem dX12_fewest_140 : decode cX12_fewest 140 = .ok (.aload_n 0, 1) := by decide +kernel
theorem dX12_fewest_141 : decode cX12_fewest 141 = .ok (.getfield 98, 3) := by decide +kernel
theorem dX12_fewest_144 : decode cX12_fewest 144 = .ok (.iload_n 1, 1) := by decide +kernel
theorem dX12_fewest_145 : decode cX12_fewest 145 = .ok (.iaload, 1) := by decide +kernel
theorem dX12_fewest_146 : decode cX12_fewest 146 = .ok (.ldc_w 288, 3) := by decide +kernel
theorem dX12_fewest_149 : decode cX12_fewest 149 = .ok (.if_icmp .ne 8, 3) := by decide +kernel
theorem dX12_fewest_152 : decode cX12_fewest 152 = .ok (.bipush (-2), 2) := by decide +kernel
theorem dX12_fewest_154 : decode cX12_fewest 154 = .ok (.goto 9, 3) := by decide +kernel
theorem dX12_fewest_157 : decode cX12_fewest 157 = .ok (.aload_n 0, 1) := by decide +kernel
theorem dX12_fewest_158 : decode cX12_fewest 158 = .ok (.getfield 98, 3) := by decide +kernel
theorem dX12_fewest_161 : decode cX12_fewest 161 = .ok (.iload_n 1, 1) := by decide +kernel
theorem dX12_fewest_162 : decode cX12_fewest 162 = .ok (.iaload, 1) := by decide +kernel
theorem dX12_fewest_163 : decode cX12_fewest 163 = .ok (.ireturn, 1) := by decide +kernel
theorem dX12_hangs_0 : decode cX12_hangs 0 = .ok (.iconst 1, 1) := by decide +kernel
theorem dX12_hangs_1 : decode cX12_hangs 1 = .ok (.iload_n 1, 1) := by decide +kernel
theorem dX12_hangs_2 : decode cX12_hangs 2 = .ok (.ishl, 1) := by decide +kernel
theorem dX12_hangs_3 : decode cX12_hangs 3 = .ok (.istore_n 2, 1) := by decide +kernel
theorem dX12_hangs_4 : decode cX12_hangs 4 = .ok (.aload_n 0, 1) := by decide +kernel
theorem dX12_hangs_5 : decode cX12_hangs 5 = .ok (.getfield 126, 3) := by decide +kernel
theorem dX12_hangs_8 : decode cX12_hangs 8 = .ok (.iconst 1, 1) := by decide +kernel
theorem dX12_hangs_9 : decode cX12_hangs 9 = .ok (.isub, 1) := by decide +kernel
theorem dX12_hangs_10 : decode cX12_hangs 10 = .ok (.istore_n 3, 1) := by decide +kernel
theorem dX12_hangs_11 : decode cX12_hangs 11 = .ok (.iload_n 3, 1) := by decide +kernel
theorem dX12_hangs_12 : decode cX12_hangs 12 = .ok (.ifCond .lt 83, 3) := by decide +kernel
theorem dX12_hangs_15 : decode cX12_hangs 15 = .ok (.iload_n 2, 1) := by decide +kernel
theorem dX12_hangs_16 : decode cX12_hangs 16 = .ok (.iload_n 3, 1) := by decide +kernel
theorem dX12_hangs_17 : decode cX12_hangs 17 = .ok (.ishr, 1) := by decide +kernel
theorem dX12_hangs_18 : decode cX12_hangs 18 = .ok (.iconst 1, 1) := by decide +kernel
theorem dX12_hangs_19 : decode cX12_hangs 19 = .ok (.iand, 1) := by decide +kernel
theorem dX12_hangs_20 : decode cX12_hangs 20 = .ok (.iconst 1, 1) := by decide +kernel
theorem dX12_hangs_21 : decode cX12_hangs 21 = .ok (.if_icmp .ne 68, 3) := by decide +kernel
theorem dX12_hangs_24 : decode cX12_hangs 24 = .ok (.aload_n 0, 1) := by decide +kernel
theorem dX12_hangs_25 : decode cX12_hangs 25 = .ok (.getfield 7, 3) := by decide +kernel
theorem dX12_hangs_28 : decode cX12_hangs 28 = .ok (.iload_n 3, 1) := by decide +kernel
theorem dX12_hangs_29 : decode cX12_hangs 29 = .ok (.iaload, 1) := by decide +kernel
theorem dX12_hangs_30 : decode cX12_hangs 30 = .ok (.iconst 5, 1) := by decide +kernel
theorem dX12_hangs_31 : decode cX12_hangs 31 = .ok (.if_icmp .ge 58, 3) := by decide +kernel
theorem dX12_hangs_34 : decode cX12_hangs 34 = .ok (.iload_n 2, 1) := by decide +kernel
theorem dX12_hangs_35 : decode cX12_hangs 35 = .ok (.iconst 1, 1) := by decide +kernel
theorem dX12_hangs_36 : decode cX12_hangs 36 = .ok (.aload_n 0, 1) := by decide +kernel
theorem dX12_hangs_37 : decode cX12_hangs 37 = .ok (.getfield 19, 3) := by decide +kernel
theorem dX12_hangs_40 : decode cX12_hangs 40 = .ok (.iload_n 3, 1) := by decide +kernel
theorem dX12_hangs_41 : decode cX12_hangs 41 = .ok (.iaload, 1) := by decide +kernel
theorem dX12_hangs_42 : decode cX12_hangs 42 = .ok (.ishl, 1) := by decide +kernel
theorem dX12_hangs_43 : decode cX12_hangs 43 = .ok (.aload_n 0, 1) := by decide +kernel
theorem dX12_hangs_44 : decode cX12_hangs 44 = .ok (.getfield 22, 3) := by decide +kernel
theorem dX12_hangs_47 : decode cX12_hangs 47 = .ok (.iload_n 3, 1) := by decide +kernel
theorem dX12_hangs_48 : decode cX12_hangs 48 = .ok (.iaload, 1) := by decide +kernel
theorem dX12_hangs_49 : decode cX12_hangs 49 = .ok (.ifCond .ge 7, 3) := by decide +kernel
theorem dX12_hangs_52 : decode cX12_hangs 52 = .ok (.iconst 0, 1) := by decide +kernel
theorem dX12_hangs_53 : decode cX12_hangs 53 = .ok (.goto 11, 3) := by decide +kernel
theorem dX12_hangs_56 : decode cX12_hangs 56 = .ok (.iconst 1, 1) := by decide +kernel
theorem dX12_hangs_57 : decode cX12_hangs 57 = .ok (.aload_n 0, 1) := by decide +kernel
theorem dX12_hangs_58 : decode cX12_hangs 58 = .ok (.getfield 22, 3) := by decide +kernel
theorem dX12_hangs_61 : decode cX12_hangs 61 = .ok (.iload_n 3, 1) := by decide +kernel
theorem dX12_hangs_62 : decode cX12_hangs 62 = .ok (.iaload, 1) := by decide +kernel
theorem dX12_hangs_63 : decode cX12_hangs 63 = .ok (.ishl, 1) := by decide +kernel
theorem dX12_hangs_64 : decode cX12_hangs 64 = .ok (.ior, 1) := by decide +kernel
theorem dX12_hangs_65 : decode cX12_hangs 65 = .ok (.aload_n 0, 1) := by decide +kernel
theorem dX12_hangs_66 : decode cX12_hangs 66 = .ok (.getfield 25, 3) := by decide +kernel
theorem dX12_hangs_69 : decode cX12_hangs 69 = .ok (.iload_n 3, 1) := by decide +kernel
theorem dX12_hangs_70 : decode cX12_hangs 70 = .ok (.iaload, 1) := by decide +kernel
theorem dX12_hangs_71 : decode cX12_hangs 71 = .ok (.ifCond .ge 7, 3) := by decide +kernel
theorem dX12_hangs_74 : decode cX12_hangs 74 = .ok (.iconst 0, 1) := by decide +kernel
theorem dX12_hangs_75 : decode cX12_hangs 75 = .ok (.goto 11, 3) := by decide +kernel
theorem dX12_hangs_78 : decode cX12_hangs 78 = .ok (.iconst 1, 1) := by decide +kernel
theorem dX12_hangs_79 : decode cX12_hangs 79 = .ok (.aload_n 0, 1) := by decide +kernel
theorem dX12_hangs_80 : decode cX12_hangs 80 = .ok (.getfield 25, 3) := by decide +kernel
theorem dX12_hangs_83 : decode cX12_hangs 83 = .ok (.iload_n 3, 1) := by decide +kernel
theorem dX12_hangs_84 : decode cX12_hangs 84 = .ok (.iaload, 1) := by decide +kernel
theorem dX12_hangs_85 : decode cX12_hangs 85 = .ok (.ishl, 1) := by decide +kernel
theorem dX12_hangs_86 : decode cX12_hangs 86 = .ok (.ior, 1) := by decide +kernel
theorem dX12_hangs_87 : decode cX12_hangs 87 = .ok (.ior, 1) := by decide +kernel
theorem dX12_hangs_88 : decode cX12_hangs 88 = .ok (.istore_n 2, 1) := by decide +kernel
theorem dX12_hangs_89 : decode cX12_hangs 89 = .ok (.iinc 3 (-1), 3) := by decide +kernel
theorem dX12_hangs_92 : decode cX12_hangs 92 = .ok (.goto (-81), 3) := by decide +kernel
theorem dX12_hangs_95 : decode cX12_hangs 95 = .ok (.iconst 0, 1) := by decide +kernel
theorem dX12_hangs_96 : decode cX12_hangs 96 = .ok (.istore_n 3, 1) := by decide +kernel
theorem dX12_hangs_97 : decode cX12_hangs 97 = .ok (.iconst 0, 1) := by decide +kernel
theorem dX12_hangs_98 : decode cX12_hangs 98 = .ok (.istore 4, 2) := by decide +kernel
theorem dX12_hangs_100 : decode cX12_hangs 100 = .ok (.iload 4, 2) := by decide +kernel
theorem dX12_hangs_102 : decode cX12_hangs 102 = .ok (.aload_n 0, 1) := by decide +kernel
theorem dX12_hangs_103 : decode cX12_hangs 103 = .ok (.getfield 126, 3) := by decide +kernel
theorem dX12_hangs_106 : decode cX12_hangs 106 = .ok (.if_icmp .ge 41, 3) := by decide +kernel
theorem dX12_hangs_109 : decode cX12_hangs 109 = .ok (.iload_n 3, 1) := by decide +kernel
theorem dX12_hangs_110 : decode cX12_hangs 110 = .ok (.iload_n 2, 1) := by decide +kernel
theorem dX12_hangs_111 : decode cX12_hangs 111 = .ok (.iload 4, 2) := by decide +kernel
theorem dX12_hangs_113 : decode cX12_hangs 113 = .ok (.ishr, 1) := by decide +kernel
theorem dX12_hangs_114 : decode cX12_hangs 114 = .ok (.iconst 1, 1) := by decide +kernel
theorem dX12_hangs_115 : decode cX12_hangs 115 = .ok (.iand, 1) := by decide +kernel
theorem dX12_hangs_116 : decode cX12_hangs 116 = .ok (.iconst 1, 1) := by decide +kernel
theorem dX12_hangs_117 : decode cX12_hangs 117 = .ok (.if_icmp .ne 21, 3) := by decide +kernel
theorem dX12_hangs_120 : decode cX12_hangs 120 = .ok (.aload_n 0, 1) := by decide +kernel
theorem dX12_hangs_121 : decode cX12_hangs 121 = .ok (.getfield 7, 3) := by decide +kernel
theorem dX12_hangs_124 : decode cX12_hangs 124 = .ok (.iload 4, 2) := by decide +kernel
theorem dX12_hangs_126 : decode cX12_hangs 126 = .ok (.iaload, 1) := by decide +kernel
theorem dX12_hangs_127 : decode cX12_hangs 127 = .ok (.iconst 4, 1) := by decide +kernel
theorem dX12_hangs_128 : decode cX12_hangs 128 = .ok (.if_icmp .le 10, 3) := by decide +kernel
theorem dX12_hangs_131 : decode cX12_hangs 131 = .ok (.iconst 1, 1) := by decide +kernel
theorem dX12_hangs_132 : decode cX12_hangs 132 = .ok (.iload 4, 2) := by decide +kernel
theorem dX12_hangs_134 : decode cX12_hangs 134 = .ok (.ishl, 1) := by decide +kernel
theorem dX12_hangs_135 : decode cX12_hangs 135 = .ok (.goto 4, 3) := by decide +kernel
theorem dX12_hangs_138 : decode cX12_hangs 138 = .ok (.iconst 0, 1) := by decide +kernel
theorem dX12_hangs_139 : decode cX12_hangs 139 = .ok (.ior, 1) := by decide +kernel
theorem dX12_hangs_140 : decode cX12_hangs 140 = .ok (.istore_n 3, 1) := by decide +kernel
theorem dX12_hangs_141 : decode cX12_hangs 141 = .ok (.iinc 4 1, 3) := by decide +kernel
theorem dX12_hangs_144 : decode cX12_hangs 144 = .ok (.goto (-44), 3) := by decide +kernel
theorem dX12_hangs_147 : decode cX12_hangs 147 = .ok (.iload_n 3, 1) := by decide +kernel
theorem dX12_hangs_148 : decode cX12_hangs 148 = .ok (.ireturn, 1) := by decide +kernel
theorem dX12_foreign_0 : decode cX12_foreign 0 = .ok (.aload_n 0, 1) := by decide +kernel
theorem dX12_foreign_1 : decode cX12_foreign 1 = .ok (.aload_n 0, 1) := by decide +kernel
theorem dX12_foreign_2 : decode cX12_foreign 2 = .ok (.getfield 19, 3) := by decide +kernel
theorem dX12_foreign_5 : decode cX12_foreign 5 = .ok (.iload_n 1, 1) := by decide +kernel
theorem dX12_foreign_6 : decode cX12_foreign 6 = .ok (.iaload, 1) := by decide +kernel
theorem dX12_foreign_7 : decode cX12_foreign 7 = .ok (.invokevirtual 289, 3) := by decide +kernel
theorem dX12_foreign_10 : decode cX12_foreign 10 = .ok (.istore_n 2, 1) := by decide +kernel
theorem dX12_foreign_11 : decode cX12_foreign 11 = .ok (.iconst 0, 1) := by decide +kernel
theorem dX12_foreign_12 : decode cX12_foreign 12 = .ok (.istore_n 3, 1) := by decide +kernel
theorem dX12_foreign_13 : decode cX12_foreign 13 = .ok (.iconst 0, 1) := by decide +kernel
theorem dX12_foreign_14 : decode cX12_foreign 14 = .ok (.istore 4, 2) := by decide +kernel
theorem dX12_foreign_16 : decode cX12_foreign 16 = .ok (.iload 4, 2) := by decide +kernel
theorem dX12_foreign_18 : decode cX12_foreign 18 = .ok (.aload_n 0, 1) := by decide +kernel
theorem dX12_foreign_19 : decode cX12_foreign 19 = .ok (.getfield 126, 3) := by decide +kernel
theorem dX12_foreign_22 : decode cX12_foreign 22 = .ok (.if_icmp .ge 46, 3) := by decide +kernel
theorem dX12_foreign_25 : decode cX12_foreign 25 = .ok (.iload_n 3, 1) := by decide +kernel
theorem dX12_foreign_26 : decode cX12_foreign 26 = .ok (.iload_n 2, 1) := by decide +kernel
theorem dX12_foreign_27 : decode cX12_foreign 27 = .ok (.iload 4, 2) := by decide +kernel
theorem dX12_foreign_29 : decode cX12_foreign 29 = .ok (.ishr, 1) := by decide +kernel
theorem dX12_foreign_30 : decode cX12_foreign 30 = .ok (.iconst 1, 1) := by decide +kernel
theorem dX12_foreign_31 : decode cX12_foreign 31 = .ok (.iand, 1) := by decide +kernel
theorem dX12_foreign_32 : decode cX12_foreign 32 = .ok (.iconst 1, 1) := by decide +kernel
theorem dX12_foreign_33 : decode cX12_foreign 33 = .ok (.if_icmp .ne 26, 3) := by decide +kernel
theorem dX12_foreign_36 : decode cX12_foreign 36 = .ok (.aload_n 0, 1) := by decide +kernel
theorem dX12_foreign_37 : decode cX12_foreign 37 = .ok (.getfield 13, 3) := by decide +kernel
theorem dX12_foreign_40 : decode cX12_foreign 40 = .ok (.iload 4, 2) := by decide +kernel
theorem dX12_foreign_42 : decode cX12_foreign 42 = .ok (.iaload, 1) := by decide +kernel
theorem dX12_foreign_43 : decode cX12_foreign 43 = .ok (.aload_n 0, 1) := by decide +kernel
theorem dX12_foreign_44 : decode cX12_foreign 44 = .ok (.getfield 13, 3) := by decide +kernel
theorem dX12_foreign_47 : decode cX12_foreign 47 = .ok (.iload_n 1, 1) := by decide +kernel
theorem dX12_foreign_48 : decode cX12_foreign 48 = .ok (.iaload, 1) := by decide +kernel
theorem dX12_foreign_49 : decode cX12_foreign 49 = .ok (.if_icmp .eq 10, 3) := by decide +kernel
theorem dX12_foreign_52 : decode cX12_foreign 52 = .ok (.iconst 1, 1) := by decide +kernel
theorem dX12_foreign_53 : decode cX12_foreign 53 = .ok (.iload 4, 2) := by decide +kernel
theorem dX12_foreign_55 : decode cX12_foreign 55 = .ok (.ishl, 1) := by decide +kernel
theorem dX12_foreign_56 : decode cX12_foreign 56 = .ok (.goto 4, 3) := by decide +kernel
theorem dX12_foreign_59 : decode cX12_foreign 59 = .ok (.iconst 0, 1) := by decide +kernel
theorem dX12_foreign_60 : decode cX12_foreign 60 = .ok (.ior, 1) := by decide +kernel
theorem dX12_foreign_61 : decode cX12_foreign 61 = .ok (.istore_n 3, 1) := by decide +kernel
theorem dX12_foreign_62 : decode cX12_foreign 62 = .ok (.iinc 4 1, 3) := by decide +kernel
theorem dX12_foreign_65 : decode cX12_foreign 65 = .ok (.goto (-49), 3) := by decide +kernel
theorem dX12_foreign_68 : decode cX12_foreign 68 = .ok (.iload_n 3, 1) := by decide +kernel
theorem dX12_foreign_69 : decode cX12_foreign 69 = .ok (.ireturn, 1) := by decide +kernel
theorem dX12_isCrossing_0 : decode cX12_isCrossing 0 = .ok (.aload_n 0, 1) := by decide +kernel
theorem dX12_isCrossing_1 : decode cX12_isCrossing 1 = .ok (.getfield 7, 3) := by decide +kernel
theorem dX12_isCrossing_4 : decode cX12_isCrossing 4 = .ok (.iload_n 1, 1) := by decide +kernel
theorem dX12_isCrossing_5 : decode cX12_isCrossing 5 = .ok (.iaload, 1) := by decide +kernel
theorem dX12_isCrossing_6 : decode cX12_isCrossing 6 = .ok (.bipush 6, 2) := by decide +kernel
theorem dX12_isCrossing_8 : decode cX12_isCrossing 8 = .ok (.if_icmp .ne 15, 3) := by decide +kernel
theorem dX12_isCrossing_11 : decode cX12_isCrossing 11 = .ok (.aload_n 0, 1) := by decide +kernel
theorem dX12_isCrossing_12 : decode cX12_isCrossing 12 = .ok (.iload_n 1, 1) := by decide +kernel
theorem dX12_isCrossing_13 : decode cX12_isCrossing 13 = .ok (.invokevirtual 292, 3) := by decide +kernel
theorem dX12_isCrossing_16 : decode cX12_isCrossing 16 = .ok (.ifCond .eq 7, 3) := by decide +kernel
theorem dX12_isCrossing_19 : decode cX12_isCrossing 19 = .ok (.iconst 1, 1) := by decide +kernel
theorem dX12_isCrossing_20 : decode cX12_isCrossing 20 = .ok (.goto 4, 3) := by decide +kernel
theorem dX12_isCrossing_23 : decode cX12_isCrossing 23 = .ok (.iconst 0, 1) := by decide +kernel
theorem dX12_isCrossing_24 : decode cX12_isCrossing 24 = .ok (.ireturn, 1) := by decide +kernel
theorem dX12_crossingAt_0 : decode cX12_crossingAt 0 = .ok (.iconst 0, 1) := by decide +kernel
theorem dX12_crossingAt_1 : decode cX12_crossingAt 1 = .ok (.istore_n 2, 1) := by decide +kernel
theorem dX12_crossingAt_2 : decode cX12_crossingAt 2 = .ok (.iconst 0, 1) := by decide +kernel
theorem dX12_crossingAt_3 : decode cX12_crossingAt 3 = .ok (.istore_n 3, 1) := by decide +kernel
theorem dX12_crossingAt_4 : decode cX12_crossingAt 4 = .ok (.iload_n 3, 1) := by decide +kernel
theorem dX12_crossingAt_5 : decode cX12_crossingAt 5 = .ok (.aload_n 0, 1) := by decide +kernel
theorem dX12_crossingAt_6 : decode cX12_crossingAt 6 = .ok (.getfield 126, 3) := by decide +kernel
theorem dX12_crossingAt_9 : decode cX12_crossingAt 9 = .ok (.if_icmp .ge 27, 3) := by decide +kernel
theorem dX12_crossingAt_12 : decode cX12_crossingAt 12 = .ok (.aload_n 0, 1) := by decide +kernel
theorem dX12_crossingAt_13 : decode cX12_crossingAt 13 = .ok (.iload_n 3, 1) := by decide +kernel
theorem dX12_crossingAt_14 : decode cX12_crossingAt 14 = .ok (.invokevirtual 295, 3) := by decide +kernel
theorem dX12_crossingAt_17 : decode cX12_crossingAt 17 = .ok (.ifCond .eq 13, 3) := by decide +kernel
theorem dX12_crossingAt_20 : decode cX12_crossingAt 20 = .ok (.iload_n 2, 1) := by decide +kernel
theorem dX12_crossingAt_21 : decode cX12_crossingAt 21 = .ok (.iload_n 1, 1) := by decide +kernel
theorem dX12_crossingAt_22 : decode cX12_crossingAt 22 = .ok (.if_icmp .ne 5, 3) := by decide +kernel
theorem dX12_crossingAt_25 : decode cX12_crossingAt 25 = .ok (.iload_n 3, 1) := by decide +kernel
theorem dX12_crossingAt_26 : decode cX12_crossingAt 26 = .ok (.ireturn, 1) := by decide +kernel
theorem dX12_crossingAt_27 : decode cX12_crossingAt 27 = .ok (.iinc 2 1, 3) := by decide +kernel
theorem dX12_crossingAt_30 : decode cX12_crossingAt 30 = .ok (.iinc 3 1, 3) := by decide +kernel
theorem dX12_crossingAt_33 : decode cX12_crossingAt 33 = .ok (.goto (-29), 3) := by decide +kernel
theorem dX12_crossingAt_36 : decode cX12_crossingAt 36 = .ok (.iconst (-1), 1) := by decide +kernel
theorem dX12_crossingAt_37 : decode cX12_crossingAt 37 = .ok (.ireturn, 1) := by decide +kernel
theorem dX12_isForeignBit_0 : decode cX12_isForeignBit 0 = .ok (.iload_n 1, 1) := by decide +kernel
theorem dX12_isForeignBit_1 : decode cX12_isForeignBit 1 = .ok (.ifCond .lt 32, 3) := by decide +kernel
theorem dX12_isForeignBit_4 : decode cX12_isForeignBit 4 = .ok (.aload_n 0, 1) := by decide +kernel
theorem dX12_isForeignBit_5 : decode cX12_isForeignBit 5 = .ok (.getfield 7, 3) := by decide +kernel
theorem dX12_isForeignBit_8 : decode cX12_isForeignBit 8 = .ok (.iload_n 1, 1) := by decide +kernel
theorem dX12_isForeignBit_9 : decode cX12_isForeignBit 9 = .ok (.iaload, 1) := by decide +kernel
theorem dX12_isForeignBit_10 : decode cX12_isForeignBit 10 = .ok (.iconst 4, 1) := by decide +kernel
theorem dX12_isForeignBit_11 : decode cX12_isForeignBit 11 = .ok (.if_icmp .le 22, 3) := by decide +kernel
theorem dX12_isForeignBit_14 : decode cX12_isForeignBit 14 = .ok (.aload_n 0, 1) := by decide +kernel
theorem dX12_isForeignBit_15 : decode cX12_isForeignBit 15 = .ok (.getfield 13, 3) := by decide +kernel
theorem dX12_isForeignBit_18 : decode cX12_isForeignBit 18 = .ok (.iload_n 1, 1) := by decide +kernel
theorem dX12_isForeignBit_19 : decode cX12_isForeignBit 19 = .ok (.iaload, 1) := by decide +kernel
theorem dX12_isForeignBit_20 : decode cX12_isForeignBit 20 = .ok (.aload_n 0, 1) := by decide +kernel
theorem dX12_isForeignBit_21 : decode cX12_isForeignBit 21 = .ok (.getfield 13, 3) := by decide +kernel
theorem dX12_isForeignBit_24 : decode cX12_isForeignBit 24 = .ok (.iload_n 2, 1) := by decide +kernel
theorem dX12_isForeignBit_25 : decode cX12_isForeignBit 25 = .ok (.iaload, 1) := by decide +kernel
theorem dX12_isForeignBit_26 : decode cX12_isForeignBit 26 = .ok (.if_icmp .eq 7, 3) := by decide +kernel
theorem dX12_isForeignBit_29 : decode cX12_isForeignBit 29 = .ok (.iconst 1, 1) := by decide +kernel
theorem dX12_isForeignBit_30 : decode cX12_isForeignBit 30 = .ok (.goto 4, 3) := by decide +kernel
theorem dX12_isForeignBit_33 : decode cX12_isForeignBit 33 = .ok (.iconst 0, 1) := by decide +kernel
theorem dX12_isForeignBit_34 : decode cX12_isForeignBit 34 = .ok (.ireturn, 1) := by decide +kernel
theorem dX12_isUsedOnce_0 : decode cX12_isUsedOnce 0 = .ok (.iconst 0, 1) := by decide +kernel
theorem dX12_isUsedOnce_1 : decode cX12_isUsedOnce 1 = .ok (.istore_n 2, 1) := by decide +kernel
theorem dX12_isUsedOnce_2 : decode cX12_isUsedOnce 2 = .ok (.iconst 1, 1) := by decide +kernel
theorem dX12_isUsedOnce_3 : decode cX12_isUsedOnce 3 = .ok (.istore_n 3, 1) := by decide +kernel
theorem dX12_isUsedOnce_4 : decode cX12_isUsedOnce 4 = .ok (.iconst 0, 1) := by decide +kernel
theorem dX12_isUsedOnce_5 : decode cX12_isUsedOnce 5 = .ok (.istore 4, 2) := by decide +kernel
theorem dX12_isUsedOnce_7 : decode cX12_isUsedOnce 7 = .ok (.iload 4, 2) := by decide +kernel
theorem dX12_isUsedOnce_9 : decode cX12_isUsedOnce 9 = .ok (.aload_n 0, 1) := by decide +kernel
theorem dX12_isUsedOnce_10 : decode cX12_isUsedOnce 10 = .ok (.getfield 126, 3) := by decide +kernel
theorem dX12_isUsedOnce_13 : decode cX12_isUsedOnce 13 = .ok (.if_icmp .ge 124, 3) := by decide +kernel
theorem dX12_isUsedOnce_16 : decode cX12_isUsedOnce 16 = .ok (.aload_n 0, 1) := by decide +kernel
theorem dX12_isUsedOnce_17 : decode cX12_isUsedOnce 17 = .ok (.getfield 7, 3) := by decide +kernel
theorem dX12_isUsedOnce_20 : decode cX12_isUsedOnce 20 = .ok (.iload 4, 2) := by decide +kernel
theorem dX12_isUsedOnce_22 : decode cX12_isUsedOnce 22 = .ok (.iaload, 1) := by decide +kernel
theorem dX12_isUsedOnce_23 : decode cX12_isUsedOnce 23 = .ok (.iconst 5, 1) := by decide +kernel
theorem dX12_isUsedOnce_24 : decode cX12_isUsedOnce 24 = .ok (.if_icmp .ge 49, 3) := by decide +kernel
theorem dX12_isUsedOnce_27 : decode cX12_isUsedOnce 27 = .ok (.iload_n 3, 1) := by decide +kernel
theorem dX12_isUsedOnce_28 : decode cX12_isUsedOnce 28 = .ok (.ifCond .eq 40, 3) := by decide +kernel
theorem dX12_isUsedOnce_31 : decode cX12_isUsedOnce 31 = .ok (.aload_n 0, 1) := by decide +kernel
theorem dX12_isUsedOnce_32 : decode cX12_isUsedOnce 32 = .ok (.getfield 19, 3) := by decide +kernel
theorem dX12_isUsedOnce_35 : decode cX12_isUsedOnce 35 = .ok (.iload 4, 2) := by decide +kernel
theorem dX12_isUsedOnce_37 : decode cX12_isUsedOnce 37 = .ok (.iaload, 1) := by decide +kernel
theorem dX12_isUsedOnce_38 : decode cX12_isUsedOnce 38 = .ok (.iload_n 1, 1) := by decide +kernel
theorem dX12_isUsedOnce_39 : decode cX12_isUsedOnce 39 = .ok (.if_icmp .eq 29, 3) := by decide +kernel
theorem dX12_isUsedOnce_42 : decode cX12_isUsedOnce 42 = .ok (.aload_n 0, 1) := by decide +kernel
theorem dX12_isUsedOnce_43 : decode cX12_isUsedOnce 43 = .ok (.getfield 22, 3) := by decide +kernel
theorem dX12_isUsedOnce_46 : decode cX12_isUsedOnce 46 = .ok (.iload 4, 2) := by decide +kernel
theorem dX12_isUsedOnce_48 : decode cX12_isUsedOnce 48 = .ok (.iaload, 1) := by decide +kernel
theorem dX12_isUsedOnce_49 : decode cX12_isUsedOnce 49 = .ok (.iload_n 1, 1) := by decide +kernel
theorem dX12_isUsedOnce_50 : decode cX12_isUsedOnce 50 = .ok (.if_icmp .eq 18, 3) := by decide +kernel
theorem dX12_isUsedOnce_53 : decode cX12_isUsedOnce 53 = .ok (.aload_n 0, 1) := by decide +kernel
theorem dX12_isUsedOnce_54 : decode cX12_isUsedOnce 54 = .ok (.getfield 25, 3) := by decide +kernel
theorem dX12_isUsedOnce_57 : decode cX12_isUsedOnce 57 = .ok (.iload 4, 2) := by decide +kernel
theorem dX12_isUsedOnce_59 : decode cX12_isUsedOnce 59 = .ok (.iaload, 1) := by decide +kernel
theorem dX12_isUsedOnce_60 : decode cX12_isUsedOnce 60 = .ok (.iload_n 1, 1) := by decide +kernel
theorem dX12_isUsedOnce_61 : decode cX12_isUsedOnce 61 = .ok (.if_icmp .eq 7, 3) := by decide +kernel
theorem dX12_isUsedOnce_64 : decode cX12_isUsedOnce 64 = .ok (.iconst 1, 1) := by decide +kernel
theorem dX12_isUsedOnce_65 : decode cX12_isUsedOnce 65 = .ok (.goto 4, 3) := by decide +kernel
theorem dX12_isUsedOnce_68 : decode cX12_isUsedOnce 68 = .ok (.iconst 0, 1) := by decide +kernel
theorem dX12_isUsedOnce_69 : decode cX12_isUsedOnce 69 = .ok (.istore_n 3, 1) := by decide +kernel
theorem dX12_isUsedOnce_70 : decode cX12_isUsedOnce 70 = .ok (.goto 61, 3) := by decide +kernel
theorem dX12_isUsedOnce_73 : decode cX12_isUsedOnce 73 = .ok (.aload_n 0, 1) := by decide +kernel
theorem dX12_isUsedOnce_74 : decode cX12_isUsedOnce 74 = .ok (.getfield 7, 3) := by decide +kernel
theorem dX12_isUsedOnce_77 : decode cX12_isUsedOnce 77 = .ok (.iload 4, 2) := by decide +kernel
theorem dX12_isUsedOnce_79 : decode cX12_isUsedOnce 79 = .ok (.iaload, 1) := by decide +kernel
theorem dX12_isUsedOnce_80 : decode cX12_isUsedOnce 80 = .ok (.bipush 6, 2) := by decide +kernel
theorem dX12_isUsedOnce_82 : decode cX12_isUsedOnce 82 = .ok (.if_icmp .ne 49, 3) := by decide +kernel
theorem dX12_isUsedOnce_85 : decode cX12_isUsedOnce 85 = .ok (.aload_n 0, 1) := by decide +kernel
theorem dX12_isUsedOnce_86 : decode cX12_isUsedOnce 86 = .ok (.getfield 19, 3) := by decide +kernel
theorem dX12_isUsedOnce_89 : decode cX12_isUsedOnce 89 = .ok (.iload 4, 2) := by decide +kernel
theorem dX12_isUsedOnce_91 : decode cX12_isUsedOnce 91 = .ok (.iaload, 1) := by decide +kernel
theorem dX12_isUsedOnce_92 : decode cX12_isUsedOnce 92 = .ok (.iload_n 1, 1) := by decide +kernel
theorem dX12_isUsedOnce_93 : decode cX12_isUsedOnce 93 = .ok (.if_icmp .ne 38, 3) := by decide +kernel
theorem dX12_isUsedOnce_96 : decode cX12_isUsedOnce 96 = .ok (.iinc 2 1, 3) := by decide +kernel
theorem dX12_isUsedOnce_99 : decode cX12_isUsedOnce 99 = .ok (.iload_n 3, 1) := by decide +kernel
theorem dX12_isUsedOnce_100 : decode cX12_isUsedOnce 100 = .ok (.ifCond .eq 29, 3) := by decide +kernel
theorem dX12_isUsedOnce_103 : decode cX12_isUsedOnce 103 = .ok (.iload 4, 2) := by decide +kernel
theorem dX12_isUsedOnce_105 : decode cX12_isUsedOnce 105 = .ok (.iload_n 1, 1) := by decide +kernel
theorem dX12_isUsedOnce_106 : decode cX12_isUsedOnce 106 = .ok (.if_icmp .eq 23, 3) := by decide +kernel
theorem dX12_isUsedOnce_109 : decode cX12_isUsedOnce 109 = .ok (.aload_n 0, 1) := by decide +kernel
theorem dX12_isUsedOnce_110 : decode cX12_isUsedOnce 110 = .ok (.getfield 13, 3) := by decide +kernel
theorem dX12_isUsedOnce_113 : decode cX12_isUsedOnce 113 = .ok (.iload 4, 2) := by decide +kernel
theorem dX12_isUsedOnce_115 : decode cX12_isUsedOnce 115 = .ok (.iaload, 1) := by decide +kernel
theorem dX12_isUsedOnce_116 : decode cX12_isUsedOnce 116 = .ok (.aload_n 0, 1) := by decide +kernel
theorem dX12_isUsedOnce_117 : decode cX12_isUsedOnce 117 = .ok (.getfield 13, 3) := by decide +kernel
theorem dX12_isUsedOnce_120 : decode cX12_isUsedOnce 120 = .ok (.iload_n 1, 1) := by decide +kernel
theorem dX12_isUsedOnce_121 : decode cX12_isUsedOnce 121 = .ok (.iaload, 1) := by decide +kernel
theorem dX12_isUsedOnce_122 : decode cX12_isUsedOnce 122 = .ok (.if_icmp .ne 7, 3) := by decide +kernel
theorem dX12_isUsedOnce_125 : decode cX12_isUsedOnce 125 = .ok (.iconst 1, 1) := by decide +kernel
theorem dX12_isUsedOnce_126 : decode cX12_isUsedOnce 126 = .ok (.goto 4, 3) := by decide +kernel
theorem dX12_isUsedOnce_129 : decode cX12_isUsedOnce 129 = .ok (.iconst 0, 1) := by decide +kernel
theorem dX12_isUsedOnce_130 : decode cX12_isUsedOnce 130 = .ok (.istore_n 3, 1) := by decide +kernel
theorem dX12_isUsedOnce_131 : decode cX12_isUsedOnce 131 = .ok (.iinc 4 1, 3) := by decide +kernel
theorem dX12_isUsedOnce_134 : decode cX12_isUsedOnce 134 = .ok (.goto (-127), 3) := by decide +kernel
theorem dX12_isUsedOnce_137 : decode cX12_isUsedOnce 137 = .ok (.iload_n 3, 1) := by decide +kernel
theorem dX12_isUsedOnce_138 : decode cX12_isUsedOnce 138 = .ok (.ifCond .eq 12, 3) := by decide +kernel
theorem dX12_isUsedOnce_141 : decode cX12_isUsedOnce 141 = .ok (.iload_n 2, 1) := by decide +kernel
theorem dX12_isUsedOnce_142 : decode cX12_isUsedOnce 142 = .ok (.iconst 1, 1) := by decide +kernel
theorem dX12_isUsedOnce_143 : decode cX12_isUsedOnce 143 = .ok (.if_icmp .ne 7, 3) := by decide +kernel
theorem dX12_isUsedOnce_146 : decode cX12_isUsedOnce 146 = .ok (.iconst 1, 1) := by decide +kernel
theorem dX12_isUsedOnce_147 : decode cX12_isUsedOnce 147 = .ok (.goto 4, 3) := by decide +kernel
theorem dX12_isUsedOnce_150 : decode cX12_isUsedOnce 150 = .ok (.iconst 0, 1) := by decide +kernel
theorem dX12_isUsedOnce_151 : decode cX12_isUsedOnce 151 = .ok (.ireturn, 1) := by decide +kernel
theorem dX12_allStill_0 : decode cX12_allStill 0 = .ok (.iconst 1, 1) := by decide +kernel
theorem dX12_allStill_1 : decode cX12_allStill 1 = .ok (.istore_n 2, 1) := by decide +kernel
theorem dX12_allStill_2 : decode cX12_allStill 2 = .ok (.iconst 0, 1) := by decide +kernel
theorem dX12_allStill_3 : decode cX12_allStill 3 = .ok (.istore_n 3, 1) := by decide +kernel
theorem dX12_allStill_4 : decode cX12_allStill 4 = .ok (.iload_n 3, 1) := by decide +kernel
theorem dX12_allStill_5 : decode cX12_allStill 5 = .ok (.aload_n 0, 1) := by decide +kernel
theorem dX12_allStill_6 : decode cX12_allStill 6 = .ok (.getfield 126, 3) := by decide +kernel
theorem dX12_allStill_9 : decode cX12_allStill 9 = .ok (.if_icmp .ge 36, 3) := by decide +kernel
theorem dX12_allStill_12 : decode cX12_allStill 12 = .ok (.iload_n 2, 1) := by decide +kernel
theorem dX12_allStill_13 : decode cX12_allStill 13 = .ok (.ifCond .eq 24, 3) := by decide +kernel
theorem dX12_allStill_16 : decode cX12_allStill 16 = .ok (.iload_n 1, 1) := by decide +kernel
theorem dX12_allStill_17 : decode cX12_allStill 17 = .ok (.iload_n 3, 1) := by decide +kernel
theorem dX12_allStill_18 : decode cX12_allStill 18 = .ok (.ishr, 1) := by decide +kernel
theorem dX12_allStill_19 : decode cX12_allStill 19 = .ok (.iconst 1, 1) := by decide +kernel
theorem dX12_allStill_20 : decode cX12_allStill 20 = .ok (.iand, 1) := by decide +kernel
theorem dX12_allStill_21 : decode cX12_allStill 21 = .ok (.ifCond .eq 12, 3) := by decide +kernel
theorem dX12_allStill_24 : decode cX12_allStill 24 = .ok (.aload_n 0, 1) := by decide +kernel
theorem dX12_allStill_25 : decode cX12_allStill 25 = .ok (.getfield 28, 3) := by decide +kernel
theorem dX12_allStill_28 : decode cX12_allStill 28 = .ok (.iload_n 3, 1) := by decide +kernel
theorem dX12_allStill_29 : decode cX12_allStill 29 = .ok (.baload, 1) := by decide +kernel
theorem dX12_allStill_30 : decode cX12_allStill 30 = .ok (.ifCond .eq 7, 3) := by decide +kernel
theorem dX12_allStill_33 : decode cX12_allStill 33 = .ok (.iconst 1, 1) := by decide +kernel
theorem dX12_allStill_34 : decode cX12_allStill 34 = .ok (.goto 4, 3) := by decide +kernel
theorem dX12_allStill_37 : decode cX12_allStill 37 = .ok (.iconst 0, 1) := by decide +kernel
theorem dX12_allStill_38 : decode cX12_allStill 38 = .ok (.istore_n 2, 1) := by decide +kernel
theorem dX12_allStill_39 : decode cX12_allStill 39 = .ok (.iinc 3 1, 3) := by decide +kernel
theorem dX12_allStill_42 : decode cX12_allStill 42 = .ok (.goto (-38), 3) := by decide +kernel
theorem dX12_allStill_45 : decode cX12_allStill 45 = .ok (.iload_n 2, 1) := by decide +kernel
theorem dX12_allStill_46 : decode cX12_allStill 46 = .ok (.ireturn, 1) := by decide +kernel
theorem dX12_isTwice_0 : decode cX12_isTwice 0 = .ok (.aload_n 0, 1) := by decide +kernel
theorem dX12_isTwice_1 : decode cX12_isTwice 1 = .ok (.iload_n 1, 1) := by decide +kernel
theorem dX12_isTwice_2 : decode cX12_isTwice 2 = .ok (.invokevirtual 295, 3) := by decide +kernel
theorem dX12_isTwice_5 : decode cX12_isTwice 5 = .ok (.ifCond .eq 41, 3) := by decide +kernel
theorem dX12_isTwice_8 : decode cX12_isTwice 8 = .ok (.aload_n 0, 1) := by decide +kernel
theorem dX12_isTwice_9 : decode cX12_isTwice 9 = .ok (.aload_n 0, 1) := by decide +kernel
theorem dX12_isTwice_10 : decode cX12_isTwice 10 = .ok (.iload_n 1, 1) := by decide +kernel
theorem dX12_isTwice_11 : decode cX12_isTwice 11 = .ok (.invokevirtual 292, 3) := by decide +kernel
theorem dX12_isTwice_14 : decode cX12_isTwice 14 = .ok (.invokevirtual 298, 3) := by decide +kernel
theorem dX12_isTwice_17 : decode cX12_isTwice 17 = .ok (.ifCond .ne 29, 3) := by decide +kernel
theorem dX12_isTwice_20 : decode cX12_isTwice 20 = .ok (.aload_n 0, 1) := by decide +kernel
theorem dX12_isTwice_21 : decode cX12_isTwice 21 = .ok (.aload_n 0, 1) := by decide +kernel
theorem dX12_isTwice_22 : decode cX12_isTwice 22 = .ok (.getfield 19, 3) := by decide +kernel
theorem dX12_isTwice_25 : decode cX12_isTwice 25 = .ok (.iload_n 1, 1) := by decide +kernel
theorem dX12_isTwice_26 : decode cX12_isTwice 26 = .ok (.iaload, 1) := by decide +kernel
theorem dX12_isTwice_27 : decode cX12_isTwice 27 = .ok (.iload_n 1, 1) := by decide +kernel
theorem dX12_isTwice_28 : decode cX12_isTwice 28 = .ok (.invokevirtual 301, 3) := by decide +kernel
theorem dX12_isTwice_31 : decode cX12_isTwice 31 = .ok (.ifCond .eq 15, 3) := by decide +kernel
theorem dX12_isTwice_34 : decode cX12_isTwice 34 = .ok (.aload_n 0, 1) := by decide +kernel
theorem dX12_isTwice_35 : decode cX12_isTwice 35 = .ok (.iload_n 1, 1) := by decide +kernel
theorem dX12_isTwice_36 : decode cX12_isTwice 36 = .ok (.invokevirtual 304, 3) := by decide +kernel
theorem dX12_isTwice_39 : decode cX12_isTwice 39 = .ok (.ifCond .eq 7, 3) := by decide +kernel
theorem dX12_isTwice_42 : decode cX12_isTwice 42 = .ok (.iconst 1, 1) := by decide +kernel
theorem dX12_isTwice_43 : decode cX12_isTwice 43 = .ok (.goto 4, 3) := by decide +kernel
theorem dX12_isTwice_46 : decode cX12_isTwice 46 = .ok (.iconst 0, 1) := by decide +kernel
theorem dX12_isTwice_47 : decode cX12_isTwice 47 = .ok (.ireturn, 1) := by decide +kernel
theorem dX12_isHeldOne_0 : decode cX12_isHeldOne 0 = .ok (.aload_n 0, 1) := by decide +kernel
theorem dX12_isHeldOne_1 : decode cX12_isHeldOne 1 = .ok (.getfield 19, 3) := by decide +kernel
theorem dX12_isHeldOne_4 : decode cX12_isHeldOne 4 = .ok (.iload_n 1, 1) := by decide +kernel
theorem dX12_isHeldOne_5 : decode cX12_isHeldOne 5 = .ok (.iaload, 1) := by decide +kernel
theorem dX12_isHeldOne_6 : decode cX12_isHeldOne 6 = .ok (.istore_n 2, 1) := by decide +kernel
theorem dX12_isHeldOne_7 : decode cX12_isHeldOne 7 = .ok (.aload_n 0, 1) := by decide +kernel
theorem dX12_isHeldOne_8 : decode cX12_isHeldOne 8 = .ok (.getfield 7, 3) := by decide +kernel
theorem dX12_isHeldOne_11 : decode cX12_isHeldOne 11 = .ok (.iload_n 2, 1) := by decide +kernel
theorem dX12_isHeldOne_12 : decode cX12_isHeldOne 12 = .ok (.iaload, 1) := by decide +kernel
theorem dX12_isHeldOne_13 : decode cX12_isHeldOne 13 = .ok (.iconst 4, 1) := by decide +kernel
theorem dX12_isHeldOne_14 : decode cX12_isHeldOne 14 = .ok (.if_icmp .ne 27, 3) := by decide +kernel
theorem dX12_isHeldOne_17 : decode cX12_isHeldOne 17 = .ok (.aload_n 0, 1) := by decide +kernel
theorem dX12_isHeldOne_18 : decode cX12_isHeldOne 18 = .ok (.aload_n 0, 1) := by decide +kernel
theorem dX12_isHeldOne_19 : decode cX12_isHeldOne 19 = .ok (.getfield 22, 3) := by decide +kernel
theorem dX12_isHeldOne_22 : decode cX12_isHeldOne 22 = .ok (.iload_n 2, 1) := by decide +kernel
theorem dX12_isHeldOne_23 : decode cX12_isHeldOne 23 = .ok (.iaload, 1) := by decide +kernel
theorem dX12_isHeldOne_24 : decode cX12_isHeldOne 24 = .ok (.iload_n 1, 1) := by decide +kernel
theorem dX12_isHeldOne_25 : decode cX12_isHeldOne 25 = .ok (.invokevirtual 301, 3) := by decide +kernel
theorem dX12_isHeldOne_28 : decode cX12_isHeldOne 28 = .ok (.ifCond .eq 13, 3) := by decide +kernel
theorem dX12_isHeldOne_31 : decode cX12_isHeldOne 31 = .ok (.aload_n 0, 1) := by decide +kernel
theorem dX12_isHeldOne_32 : decode cX12_isHeldOne 32 = .ok (.getfield 25, 3) := by decide +kernel
theorem dX12_isHeldOne_35 : decode cX12_isHeldOne 35 = .ok (.iload_n 2, 1) := by decide +kernel
theorem dX12_isHeldOne_36 : decode cX12_isHeldOne 36 = .ok (.iaload, 1) := by decide +kernel
theorem dX12_isHeldOne_37 : decode cX12_isHeldOne 37 = .ok (.iload_n 1, 1) := by decide +kernel
theorem dX12_isHeldOne_38 : decode cX12_isHeldOne 38 = .ok (.if_icmp .eq 5, 3) := by decide +kernel
theorem dX12_isHeldOne_41 : decode cX12_isHeldOne 41 = .ok (.iconst 0, 1) := by decide +kernel
theorem dX12_isHeldOne_42 : decode cX12_isHeldOne 42 = .ok (.ireturn, 1) := by decide +kernel
theorem dX12_isHeldOne_43 : decode cX12_isHeldOne 43 = .ok (.aload_n 0, 1) := by decide +kernel
theorem dX12_isHeldOne_44 : decode cX12_isHeldOne 44 = .ok (.getfield 19, 3) := by decide +kernel
theorem dX12_isHeldOne_47 : decode cX12_isHeldOne 47 = .ok (.iload_n 2, 1) := by decide +kernel
theorem dX12_isHeldOne_48 : decode cX12_isHeldOne 48 = .ok (.iaload, 1) := by decide +kernel
theorem dX12_isHeldOne_49 : decode cX12_isHeldOne 49 = .ok (.istore_n 3, 1) := by decide +kernel
theorem dX12_isHeldOne_50 : decode cX12_isHeldOne 50 = .ok (.aload_n 0, 1) := by decide +kernel
theorem dX12_isHeldOne_51 : decode cX12_isHeldOne 51 = .ok (.getfield 7, 3) := by decide +kernel
theorem dX12_isHeldOne_54 : decode cX12_isHeldOne 54 = .ok (.iload_n 3, 1) := by decide +kernel
theorem dX12_isHeldOne_55 : decode cX12_isHeldOne 55 = .ok (.iaload, 1) := by decide +kernel
theorem dX12_isHeldOne_56 : decode cX12_isHeldOne 56 = .ok (.bipush 6, 2) := by decide +kernel
theorem dX12_isHeldOne_58 : decode cX12_isHeldOne 58 = .ok (.if_icmp .ne 51, 3) := by decide +kernel
theorem dX12_isHeldOne_61 : decode cX12_isHeldOne 61 = .ok (.aload_n 0, 1) := by decide +kernel
theorem dX12_isHeldOne_62 : decode cX12_isHeldOne 62 = .ok (.getfield 13, 3) := by decide +kernel
theorem dX12_isHeldOne_65 : decode cX12_isHeldOne 65 = .ok (.iload_n 3, 1) := by decide +kernel
theorem dX12_isHeldOne_66 : decode cX12_isHeldOne 66 = .ok (.iaload, 1) := by decide +kernel
theorem dX12_isHeldOne_67 : decode cX12_isHeldOne 67 = .ok (.aload_n 0, 1) := by decide +kernel
theorem dX12_isHeldOne_68 : decode cX12_isHeldOne 68 = .ok (.getfield 13, 3) := by decide +kernel
theorem dX12_isHeldOne_71 : decode cX12_isHeldOne 71 = .ok (.iload_n 1, 1) := by decide +kernel
theorem dX12_isHeldOne_72 : decode cX12_isHeldOne 72 = .ok (.iaload, 1) := by decide +kernel
theorem dX12_isHeldOne_73 : decode cX12_isHeldOne 73 = .ok (.if_icmp .ne 36, 3) := by decide +kernel
theorem dX12_isHeldOne_76 : decode cX12_isHeldOne 76 = .ok (.aload_n 0, 1) := by decide +kernel
theorem dX12_isHeldOne_77 : decode cX12_isHeldOne 77 = .ok (.getfield 7, 3) := by decide +kernel
theorem dX12_isHeldOne_80 : decode cX12_isHeldOne 80 = .ok (.aload_n 0, 1) := by decide +kernel
theorem dX12_isHeldOne_81 : decode cX12_isHeldOne 81 = .ok (.getfield 19, 3) := by decide +kernel
theorem dX12_isHeldOne_84 : decode cX12_isHeldOne 84 = .ok (.iload_n 3, 1) := by decide +kernel
theorem dX12_isHeldOne_85 : decode cX12_isHeldOne 85 = .ok (.iaload, 1) := by decide +kernel
theorem dX12_isHeldOne_86 : decode cX12_isHeldOne 86 = .ok (.iaload, 1) := by decide +kernel
theorem dX12_isHeldOne_87 : decode cX12_isHeldOne 87 = .ok (.bipush 6, 2) := by decide +kernel
theorem dX12_isHeldOne_89 : decode cX12_isHeldOne 89 = .ok (.if_icmp .ne 20, 3) := by decide +kernel
theorem dX12_isHeldOne_92 : decode cX12_isHeldOne 92 = .ok (.aload_n 0, 1) := by decide +kernel
theorem dX12_isHeldOne_93 : decode cX12_isHeldOne 93 = .ok (.aload_n 0, 1) := by decide +kernel
theorem dX12_isHeldOne_94 : decode cX12_isHeldOne 94 = .ok (.getfield 19, 3) := by decide +kernel
theorem dX12_isHeldOne_97 : decode cX12_isHeldOne 97 = .ok (.iload_n 3, 1) := by decide +kernel
theorem dX12_isHeldOne_98 : decode cX12_isHeldOne 98 = .ok (.iaload, 1) := by decide +kernel
theorem dX12_isHeldOne_99 : decode cX12_isHeldOne 99 = .ok (.invokevirtual 307, 3) := by decide +kernel
theorem dX12_isHeldOne_102 : decode cX12_isHeldOne 102 = .ok (.ifCond .eq 7, 3) := by decide +kernel
theorem dX12_isHeldOne_105 : decode cX12_isHeldOne 105 = .ok (.iconst 1, 1) := by decide +kernel
theorem dX12_isHeldOne_106 : decode cX12_isHeldOne 106 = .ok (.goto 4, 3) := by decide +kernel
theorem dX12_isHeldOne_109 : decode cX12_isHeldOne 109 = .ok (.iconst 0, 1) := by decide +kernel
theorem dX12_isHeldOne_110 : decode cX12_isHeldOne 110 = .ok (.ireturn, 1) := by decide +kernel
theorem dX12_kindOf_0 : decode cX12_kindOf 0 = .ok (.aload_n 0, 1) := by decide +kernel
theorem dX12_kindOf_1 : decode cX12_kindOf 1 = .ok (.aload_n 0, 1) := by decide +kernel
theorem dX12_kindOf_2 : decode cX12_kindOf 2 = .ok (.iload_n 1, 1) := by decide +kernel
theorem dX12_kindOf_3 : decode cX12_kindOf 3 = .ok (.invokevirtual 292, 3) := by decide +kernel
theorem dX12_kindOf_6 : decode cX12_kindOf 6 = .ok (.invokevirtual 298, 3) := by decide +kernel
theorem dX12_kindOf_9 : decode cX12_kindOf 9 = .ok (.ifCond .eq 7, 3) := by decide +kernel
theorem dX12_kindOf_12 : decode cX12_kindOf 12 = .ok (.iconst 0, 1) := by decide +kernel
theorem dX12_kindOf_13 : decode cX12_kindOf 13 = .ok (.goto 46, 3) := by decide +kernel
theorem dX12_kindOf_16 : decode cX12_kindOf 16 = .ok (.aload_n 0, 1) := by decide +kernel
theorem dX12_kindOf_17 : decode cX12_kindOf 17 = .ok (.iload_n 1, 1) := by decide +kernel
theorem dX12_kindOf_18 : decode cX12_kindOf 18 = .ok (.invokevirtual 307, 3) := by decide +kernel
theorem dX12_kindOf_21 : decode cX12_kindOf 21 = .ok (.ifCond .eq 7, 3) := by decide +kernel
theorem dX12_kindOf_24 : decode cX12_kindOf 24 = .ok (.iconst 1, 1) := by decide +kernel
theorem dX12_kindOf_25 : decode cX12_kindOf 25 = .ok (.goto 34, 3) := by decide +kernel
theorem dX12_kindOf_28 : decode cX12_kindOf 28 = .ok (.aload_n 0, 1) := by decide +kernel
theorem dX12_kindOf_29 : decode cX12_kindOf 29 = .ok (.iload_n 1, 1) := by decide +kernel
theorem dX12_kindOf_30 : decode cX12_kindOf 30 = .ok (.invokevirtual 310, 3) := by decide +kernel
theorem dX12_kindOf_33 : decode cX12_kindOf 33 = .ok (.ifCond .eq 7, 3) := by decide +kernel
theorem dX12_kindOf_36 : decode cX12_kindOf 36 = .ok (.iconst 2, 1) := by decide +kernel
theorem dX12_kindOf_37 : decode cX12_kindOf 37 = .ok (.goto 22, 3) := by decide +kernel
theorem dX12_kindOf_40 : decode cX12_kindOf 40 = .ok (.aload_n 0, 1) := by decide +kernel
theorem dX12_kindOf_41 : decode cX12_kindOf 41 = .ok (.aload_n 0, 1) := by decide +kernel
theorem dX12_kindOf_42 : decode cX12_kindOf 42 = .ok (.getfield 19, 3) := by decide +kernel
theorem dX12_kindOf_45 : decode cX12_kindOf 45 = .ok (.iload_n 1, 1) := by decide +kernel
theorem dX12_kindOf_46 : decode cX12_kindOf 46 = .ok (.iaload, 1) := by decide +kernel
theorem dX12_kindOf_47 : decode cX12_kindOf 47 = .ok (.iload_n 1, 1) := by decide +kernel
theorem dX12_kindOf_48 : decode cX12_kindOf 48 = .ok (.invokevirtual 301, 3) := by decide +kernel
theorem dX12_kindOf_51 : decode cX12_kindOf 51 = .ok (.ifCond .eq 7, 3) := by decide +kernel
theorem dX12_kindOf_54 : decode cX12_kindOf 54 = .ok (.iconst 3, 1) := by decide +kernel
theorem dX12_kindOf_55 : decode cX12_kindOf 55 = .ok (.goto 4, 3) := by decide +kernel
theorem dX12_kindOf_58 : decode cX12_kindOf 58 = .ok (.iconst 4, 1) := by decide +kernel
theorem dX12_kindOf_59 : decode cX12_kindOf 59 = .ok (.ireturn, 1) := by decide +kernel
theorem dX12_meets_0 : decode cX12_meets 0 = .ok (.iconst 0, 1) := by decide +kernel
theorem dX12_meets_1 : decode cX12_meets 1 = .ok (.istore_n 2, 1) := by decide +kernel
theorem dX12_meets_2 : decode cX12_meets 2 = .ok (.iconst 0, 1) := by decide +kernel
theorem dX12_meets_3 : decode cX12_meets 3 = .ok (.istore_n 3, 1) := by decide +kernel
theorem dX12_meets_4 : decode cX12_meets 4 = .ok (.iload_n 3, 1) := by decide +kernel
theorem dX12_meets_5 : decode cX12_meets 5 = .ok (.aload_n 0, 1) := by decide +kernel
theorem dX12_meets_6 : decode cX12_meets 6 = .ok (.getfield 126, 3) := by decide +kernel
theorem dX12_meets_9 : decode cX12_meets 9 = .ok (.if_icmp .ge 70, 3) := by decide +kernel
theorem dX12_meets_12 : decode cX12_meets 12 = .ok (.iload_n 2, 1) := by decide +kernel
theorem dX12_meets_13 : decode cX12_meets 13 = .ok (.ifCond .ne 54, 3) := by decide +kernel
theorem dX12_meets_16 : decode cX12_meets 16 = .ok (.iload_n 3, 1) := by decide +kernel
theorem dX12_meets_17 : decode cX12_meets 17 = .ok (.iload_n 1, 1) := by decide +kernel
theorem dX12_meets_18 : decode cX12_meets 18 = .ok (.if_icmp .eq 53, 3) := by decide +kernel
theorem dX12_meets_21 : decode cX12_meets 21 = .ok (.aload_n 0, 1) := by decide +kernel
theorem dX12_meets_22 : decode cX12_meets 22 = .ok (.iload_n 1, 1) := by decide +kernel
theorem dX12_meets_23 : decode cX12_meets 23 = .ok (.invokevirtual 307, 3) := by decide +kernel
theorem dX12_meets_26 : decode cX12_meets 26 = .ok (.ifCond .eq 45, 3) := by decide +kernel
theorem dX12_meets_29 : decode cX12_meets 29 = .ok (.aload_n 0, 1) := by decide +kernel
theorem dX12_meets_30 : decode cX12_meets 30 = .ok (.iload_n 3, 1) := by decide +kernel
theorem dX12_meets_31 : decode cX12_meets 31 = .ok (.invokevirtual 307, 3) := by decide +kernel
theorem dX12_meets_34 : decode cX12_meets 34 = .ok (.ifCond .eq 37, 3) := by decide +kernel
theorem dX12_meets_37 : decode cX12_meets 37 = .ok (.aload_n 0, 1) := by decide +kernel
theorem dX12_meets_38 : decode cX12_meets 38 = .ok (.getfield 13, 3) := by decide +kernel
theorem dX12_meets_41 : decode cX12_meets 41 = .ok (.iload_n 3, 1) := by decide +kernel
theorem dX12_meets_42 : decode cX12_meets 42 = .ok (.iaload, 1) := by decide +kernel
theorem dX12_meets_43 : decode cX12_meets 43 = .ok (.aload_n 0, 1) := by decide +kernel
theorem dX12_meets_44 : decode cX12_meets 44 = .ok (.getfield 13, 3) := by decide +kernel
theorem dX12_meets_47 : decode cX12_meets 47 = .ok (.iload_n 1, 1) := by decide +kernel
theorem dX12_meets_48 : decode cX12_meets 48 = .ok (.iaload, 1) := by decide +kernel
theorem dX12_meets_49 : decode cX12_meets 49 = .ok (.if_icmp .ne 22, 3) := by decide +kernel
theorem dX12_meets_52 : decode cX12_meets 52 = .ok (.aload_n 0, 1) := by decide +kernel
theorem dX12_meets_53 : decode cX12_meets 53 = .ok (.getfield 19, 3) := by decide +kernel
theorem dX12_meets_56 : decode cX12_meets 56 = .ok (.iload_n 3, 1) := by decide +kernel
theorem dX12_meets_57 : decode cX12_meets 57 = .ok (.iaload, 1) := by decide +kernel
theorem dX12_meets_58 : decode cX12_meets 58 = .ok (.aload_n 0, 1) := by decide +kernel
theorem dX12_meets_59 : decode cX12_meets 59 = .ok (.getfield 19, 3) := by decide +kernel
theorem dX12_meets_62 : decode cX12_meets 62 = .ok (.iload_n 1, 1) := by decide +kernel
theorem dX12_meets_63 : decode cX12_meets 63 = .ok (.iaload, 1) := by decide +kernel
theorem dX12_meets_64 : decode cX12_meets 64 = .ok (.if_icmp .ne 7, 3) := by decide +kernel
theorem dX12_meets_67 : decode cX12_meets 67 = .ok (.iconst 1, 1) := by decide +kernel
theorem dX12_meets_68 : decode cX12_meets 68 = .ok (.goto 4, 3) := by decide +kernel
theorem dX12_meets_71 : decode cX12_meets 71 = .ok (.iconst 0, 1) := by decide +kernel
theorem dX12_meets_72 : decode cX12_meets 72 = .ok (.istore_n 2, 1) := by decide +kernel
theorem dX12_meets_73 : decode cX12_meets 73 = .ok (.iinc 3 1, 3) := by decide +kernel
theorem dX12_meets_76 : decode cX12_meets 76 = .ok (.goto (-72), 3) := by decide +kernel
theorem dX12_meets_79 : decode cX12_meets 79 = .ok (.iload_n 2, 1) := by decide +kernel
theorem dX12_meets_80 : decode cX12_meets 80 = .ok (.ireturn, 1) := by decide +kernel
theorem dX12_crossings_0 : decode cX12_crossings 0 = .ok (.aload_n 0, 1) := by decide +kernel
theorem dX12_crossings_1 : decode cX12_crossings 1 = .ok (.iconst 0, 1) := by decide +kernel
theorem dX12_crossings_2 : decode cX12_crossings 2 = .ok (.putfield 122, 3) := by decide +kernel
theorem dX12_crossings_5 : decode cX12_crossings 5 = .ok (.iconst 0, 1) := by decide +kernel
theorem dX12_crossings_6 : decode cX12_crossings 6 = .ok (.istore_n 1, 1) := by decide +kernel
theorem dX12_crossings_7 : decode cX12_crossings 7 = .ok (.iconst 0, 1) := by decide +kernel
theorem dX12_crossings_8 : decode cX12_crossings 8 = .ok (.istore_n 2, 1) := by decide +kernel
theorem dX12_crossings_9 : decode cX12_crossings 9 = .ok (.iload_n 2, 1) := by decide +kernel
theorem dX12_crossings_10 : decode cX12_crossings 10 = .ok (.aload_n 0, 1) := by decide +kernel
theorem dX12_crossings_11 : decode cX12_crossings 11 = .ok (.getfield 126, 3) := by decide +kernel
theorem dX12_crossings_14 : decode cX12_crossings 14 = .ok (.if_icmp .ge 25, 3) := by decide +kernel
theorem dX12_crossings_17 : decode cX12_crossings 17 = .ok (.iload_n 1, 1) := by decide +kernel
theorem dX12_crossings_18 : decode cX12_crossings 18 = .ok (.aload_n 0, 1) := by decide +kernel
theorem dX12_crossings_19 : decode cX12_crossings 19 = .ok (.iload_n 2, 1) := by decide +kernel
theorem dX12_crossings_20 : decode cX12_crossings 20 = .ok (.invokevirtual 295, 3) := by decide +kernel
theorem dX12_crossings_23 : decode cX12_crossings 23 = .ok (.ifCond .eq 7, 3) := by decide +kernel
theorem dX12_crossings_26 : decode cX12_crossings 26 = .ok (.iconst 1, 1) := by decide +kernel
theorem dX12_crossings_27 : decode cX12_crossings 27 = .ok (.goto 4, 3) := by decide +kernel
theorem dX12_crossings_30 : decode cX12_crossings 30 = .ok (.iconst 0, 1) := by decide +kernel
theorem dX12_crossings_31 : decode cX12_crossings 31 = .ok (.iadd, 1) := by decide +kernel
theorem dX12_crossings_32 : decode cX12_crossings 32 = .ok (.istore_n 1, 1) := by decide +kernel
theorem dX12_crossings_33 : decode cX12_crossings 33 = .ok (.iinc 2 1, 3) := by decide +kernel
theorem dX12_crossings_36 : decode cX12_crossings 36 = .ok (.goto (-27), 3) := by decide +kernel
theorem dX12_crossings_39 : decode cX12_crossings 39 = .ok (.iload_n 1, 1) := by decide +kernel
theorem dX12_crossings_40 : decode cX12_crossings 40 = .ok (.ireturn, 1) := by decide +kernel
theorem dX12_crossing_0 : decode cX12_crossing 0 = .ok (.aload_n 0, 1) := by decide +kernel
theorem dX12_crossing_1 : decode cX12_crossing 1 = .ok (.iconst 0, 1) := by decide +kernel
theorem dX12_crossing_2 : decode cX12_crossing 2 = .ok (.putfield 122, 3) := by decide +kernel
theorem dX12_crossing_5 : decode cX12_crossing 5 = .ok (.iload_n 1, 1) := by decide +kernel
theorem dX12_crossing_6 : decode cX12_crossing 6 = .ok (.ifCond .ge 7, 3) := by decide +kernel
theorem dX12_crossing_9 : decode cX12_crossing 9 = .ok (.iconst (-1), 1) := by decide +kernel
theorem dX12_crossing_10 : decode cX12_crossing 10 = .ok (.goto 8, 3) := by decide +kernel
theorem dX12_crossing_13 : decode cX12_crossing 13 = .ok (.aload_n 0, 1) := by decide +kernel
theorem dX12_crossing_14 : decode cX12_crossing 14 = .ok (.iload_n 1, 1) := by decide +kernel
theorem dX12_crossing_15 : decode cX12_crossing 15 = .ok (.invokevirtual 313, 3) := by decide +kernel
theorem dX12_crossing_18 : decode cX12_crossing 18 = .ok (.istore_n 3, 1) := by decide +kernel
theorem dX12_crossing_19 : decode cX12_crossing 19 = .ok (.iload_n 3, 1) := by decide +kernel
theorem dX12_crossing_20 : decode cX12_crossing 20 = .ok (.ifCond .lt 15, 3) := by decide +kernel
theorem dX12_crossing_23 : decode cX12_crossing 23 = .ok (.iload_n 2, 1) := by decide +kernel
theorem dX12_crossing_24 : decode cX12_crossing 24 = .ok (.i2l, 1) := by decide +kernel
theorem dX12_crossing_25 : decode cX12_crossing 25 = .ok (.lconst 0, 1) := by decide +kernel
theorem dX12_crossing_26 : decode cX12_crossing 26 = .ok (.ldc2_w 170, 3) := by decide +kernel
theorem dX12_crossing_29 : decode cX12_crossing 29 = .ok (.invokestatic 156, 3) := by decide +kernel
theorem dX12_crossing_32 : decode cX12_crossing 32 = .ok (.ifCond .ne 5, 3) := by decide +kernel
theorem dX12_crossing_35 : decode cX12_crossing 35 = .ok (.iconst (-1), 1) := by decide +kernel
theorem dX12_crossing_36 : decode cX12_crossing 36 = .ok (.ireturn, 1) := by decide +kernel
theorem dX12_crossing_37 : decode cX12_crossing 37 = .ok (.iload_n 2, 1) := by decide +kernel
theorem dX12_crossing_38 : decode cX12_crossing 38 = .ok (.tableswitch 75 0 3 #[30, 32, 38, 52], 30) := by decide +kernel
theorem dX12_crossing_68 : decode cX12_crossing 68 = .ok (.iload_n 3, 1) := by decide +kernel
theorem dX12_crossing_69 : decode cX12_crossing 69 = .ok (.ireturn, 1) := by decide +kernel
theorem dX12_crossing_70 : decode cX12_crossing 70 = .ok (.aload_n 0, 1) := by decide +kernel
theorem dX12_crossing_71 : decode cX12_crossing 71 = .ok (.iload_n 3, 1) := by decide +kernel
theorem dX12_crossing_72 : decode cX12_crossing 72 = .ok (.invokevirtual 316, 3) := by decide +kernel
theorem dX12_crossing_75 : decode cX12_crossing 75 = .ok (.ireturn, 1) := by decide +kernel
theorem dX12_crossing_76 : decode cX12_crossing 76 = .ok (.aload_n 0, 1) := by decide +kernel
theorem dX12_crossing_77 : decode cX12_crossing 77 = .ok (.iload_n 3, 1) := by decide +kernel
theorem dX12_crossing_78 : decode cX12_crossing 78 = .ok (.invokevirtual 319, 3) := by decide +kernel
theorem dX12_crossing_81 : decode cX12_crossing 81 = .ok (.ifCond .eq 7, 3) := by decide +kernel
theorem dX12_crossing_84 : decode cX12_crossing 84 = .ok (.iconst 1, 1) := by decide +kernel
theorem dX12_crossing_85 : decode cX12_crossing 85 = .ok (.goto 4, 3) := by decide +kernel
theorem dX12_crossing_88 : decode cX12_crossing 88 = .ok (.iconst 0, 1) := by decide +kernel
theorem dX12_crossing_89 : decode cX12_crossing 89 = .ok (.ireturn, 1) := by decide +kernel
theorem dX12_crossing_90 : decode cX12_crossing 90 = .ok (.aload_n 0, 1) := by decide +kernel
theorem dX12_crossing_91 : decode cX12_crossing 91 = .ok (.iload_n 3, 1) := by decide +kernel
theorem dX12_crossing_92 : decode cX12_crossing 92 = .ok (.invokevirtual 316, 3) := by decide +kernel
theorem dX12_crossing_95 : decode cX12_crossing 95 = .ok (.iconst 2, 1) := by decide +kernel
theorem dX12_crossing_96 : decode cX12_crossing 96 = .ok (.if_icmp .gt 11, 3) := by decide +kernel
theorem dX12_crossing_99 : decode cX12_crossing 99 = .ok (.aload_n 0, 1) := by decide +kernel
theorem dX12_crossing_100 : decode cX12_crossing 100 = .ok (.iload_n 3, 1) := by decide +kernel
theorem dX12_crossing_101 : decode cX12_crossing 101 = .ok (.invokevirtual 319, 3) := by decide +kernel
theorem dX12_crossing_104 : decode cX12_crossing 104 = .ok (.ifCond .eq 7, 3) := by decide +kernel
theorem dX12_crossing_107 : decode cX12_crossing 107 = .ok (.iconst 1, 1) := by decide +kernel
theorem dX12_crossing_108 : decode cX12_crossing 108 = .ok (.goto 4, 3) := by decide +kernel
theorem dX12_crossing_111 : decode cX12_crossing 111 = .ok (.iconst 0, 1) := by decide +kernel
theorem dX12_crossing_112 : decode cX12_crossing 112 = .ok (.ireturn, 1) := by decide +kernel
theorem dX12_crossing_113 : decode cX12_crossing 113 = .ok (.aload_n 0, 1) := by decide +kernel
theorem dX12_crossing_114 : decode cX12_crossing 114 = .ok (.iload_n 3, 1) := by decide +kernel
theorem dX12_crossing_115 : decode cX12_crossing 115 = .ok (.invokevirtual 292, 3) := by decide +kernel
theorem dX12_crossing_118 : decode cX12_crossing 118 = .ok (.ireturn, 1) := by decide +kernel
theorem dX12_mend_0 : decode cX12_mend 0 = .ok (.aload_n 0, 1) := by decide +kernel
theorem dX12_mend_1 : decode cX12_mend 1 = .ok (.iconst 0, 1) := by decide +kernel
theorem dX12_mend_2 : decode cX12_mend 2 = .ok (.putfield 122, 3) := by decide +kernel
theorem dX12_mend_5 : decode cX12_mend 5 = .ok (.iload_n 1, 1) := by decide +kernel
theorem dX12_mend_6 : decode cX12_mend 6 = .ok (.ifCond .ge 7, 3) := by decide +kernel
theorem dX12_mend_9 : decode cX12_mend 9 = .ok (.iconst (-1), 1) := by decide +kernel
theorem dX12_mend_10 : decode cX12_mend 10 = .ok (.goto 8, 3) := by decide +kernel
theorem dX12_mend_13 : decode cX12_mend 13 = .ok (.aload_n 0, 1) := by decide +kernel
theorem dX12_mend_14 : decode cX12_mend 14 = .ok (.iload_n 1, 1) := by decide +kernel
theorem dX12_mend_15 : decode cX12_mend 15 = .ok (.invokevirtual 313, 3) := by decide +kernel
theorem dX12_mend_18 : decode cX12_mend 18 = .ok (.istore_n 2, 1) := by decide +kernel
theorem dX12_mend_19 : decode cX12_mend 19 = .ok (.iload_n 2, 1) := by decide +kernel
theorem dX12_mend_20 : decode cX12_mend 20 = .ok (.ifCond .ge 5, 3) := by decide +kernel
theorem dX12_mend_23 : decode cX12_mend 23 = .ok (.iconst (-1), 1) := by decide +kernel
theorem dX12_mend_24 : decode cX12_mend 24 = .ok (.ireturn, 1) := by decide +kernel
end
section
theorem dX12_mend_25 : decode cX12_mend 25 = .ok (.aload_n 0, 1) := by decide +kernel
theorem dX12_mend_26 : decode cX12_mend 26 = .ok (.getfield 126, 3) := by decide +kernel
theorem dX12_mend_29 : decode cX12_mend 29 = .ok (.bipush 24, 2) := by decide +kernel
theorem dX12_mend_31 : decode cX12_mend 31 = .ok (.if_icmp .eq 12, 3) := by decide +kernel
theorem dX12_mend_34 : decode cX12_mend 34 = .ok (.aload_n 0, 1) := by decide +kernel
theorem dX12_mend_35 : decode cX12_mend 35 = .ok (.getfield 160, 3) := by decide +kernel
theorem dX12_mend_38 : decode cX12_mend 38 = .ok (.bipush 10, 2) := by decide +kernel
theorem dX12_mend_40 : decode cX12_mend 40 = .ok (.if_icmp .ne 6, 3) := by decide +kernel
theorem dX12_mend_43 : decode cX12_mend 43 = .ok (.bipush (-2), 2) := by decide +kernel
theorem dX12_mend_45 : decode cX12_mend 45 = .ok (.ireturn, 1) := by decide +kernel
theorem dX12_mend_46 : decode cX12_mend 46 = .ok (.aload_n 0, 1) := by decide +kernel
theorem dX12_mend_47 : decode cX12_mend 47 = .ok (.iload_n 2, 1) := by decide +kernel
theorem dX12_mend_48 : decode cX12_mend 48 = .ok (.invokevirtual 316, 3) := by decide +kernel
theorem dX12_mend_51 : decode cX12_mend 51 = .ok (.iconst 3, 1) := by decide +kernel
theorem dX12_mend_52 : decode cX12_mend 52 = .ok (.if_icmp .eq 6, 3) := by decide +kernel
theorem dX12_mend_55 : decode cX12_mend 55 = .ok (.bipush (-3), 2) := by decide +kernel
theorem dX12_mend_57 : decode cX12_mend 57 = .ok (.ireturn, 1) := by decide +kernel
theorem dX12_mend_58 : decode cX12_mend 58 = .ok (.aload_n 0, 1) := by decide +kernel
theorem dX12_mend_59 : decode cX12_mend 59 = .ok (.getfield 126, 3) := by decide +kernel
theorem dX12_mend_62 : decode cX12_mend 62 = .ok (.istore_n 3, 1) := by decide +kernel
theorem dX12_mend_63 : decode cX12_mend 63 = .ok (.iconst 0, 1) := by decide +kernel
theorem dX12_mend_64 : decode cX12_mend 64 = .ok (.istore 4, 2) := by decide +kernel
theorem dX12_mend_66 : decode cX12_mend 66 = .ok (.iload 4, 2) := by decide +kernel
theorem dX12_mend_68 : decode cX12_mend 68 = .ok (.iload_n 3, 1) := by decide +kernel
theorem dX12_mend_69 : decode cX12_mend 69 = .ok (.if_icmp .ge 125, 3) := by decide +kernel
theorem dX12_mend_72 : decode cX12_mend 72 = .ok (.aload_n 0, 1) := by decide +kernel
theorem dX12_mend_73 : decode cX12_mend 73 = .ok (.getfield 7, 3) := by decide +kernel
theorem dX12_mend_76 : decode cX12_mend 76 = .ok (.iload 4, 2) := by decide +kernel
theorem dX12_mend_78 : decode cX12_mend 78 = .ok (.iaload, 1) := by decide +kernel
theorem dX12_mend_79 : decode cX12_mend 79 = .ok (.iconst 5, 1) := by decide +kernel
theorem dX12_mend_80 : decode cX12_mend 80 = .ok (.if_icmp .lt 21, 3) := by decide +kernel
theorem dX12_mend_83 : decode cX12_mend 83 = .ok (.aload_n 0, 1) := by decide +kernel
theorem dX12_mend_84 : decode cX12_mend 84 = .ok (.getfield 7, 3) := by decide +kernel
theorem dX12_mend_87 : decode cX12_mend 87 = .ok (.iload 4, 2) := by decide +kernel
theorem dX12_mend_89 : decode cX12_mend 89 = .ok (.iaload, 1) := by decide +kernel
theorem dX12_mend_90 : decode cX12_mend 90 = .ok (.bipush 6, 2) := by decide +kernel
theorem dX12_mend_92 : decode cX12_mend 92 = .ok (.if_icmp .ne 96, 3) := by decide +kernel
theorem dX12_mend_95 : decode cX12_mend 95 = .ok (.iload 4, 2) := by decide +kernel
theorem dX12_mend_97 : decode cX12_mend 97 = .ok (.iload_n 2, 1) := by decide +kernel
theorem dX12_mend_98 : decode cX12_mend 98 = .ok (.if_icmp .eq 90, 3) := by decide +kernel
theorem dX12_mend_101 : decode cX12_mend 101 = .ok (.aload_n 0, 1) := by decide +kernel
theorem dX12_mend_102 : decode cX12_mend 102 = .ok (.getfield 19, 3) := by decide +kernel
theorem dX12_mend_105 : decode cX12_mend 105 = .ok (.iload 4, 2) := by decide +kernel
theorem dX12_mend_107 : decode cX12_mend 107 = .ok (.aload_n 0, 1) := by decide +kernel
theorem dX12_mend_108 : decode cX12_mend 108 = .ok (.getfield 19, 3) := by decide +kernel
theorem dX12_mend_111 : decode cX12_mend 111 = .ok (.iload 4, 2) := by decide +kernel
theorem dX12_mend_113 : decode cX12_mend 113 = .ok (.iaload, 1) := by decide +kernel
theorem dX12_mend_114 : decode cX12_mend 114 = .ok (.iload_n 2, 1) := by decide +kernel
theorem dX12_mend_115 : decode cX12_mend 115 = .ok (.if_icmp .ne 7, 3) := by decide +kernel
theorem dX12_mend_118 : decode cX12_mend 118 = .ok (.iload_n 3, 1) := by decide +kernel
theorem dX12_mend_119 : decode cX12_mend 119 = .ok (.goto 10, 3) := by decide +kernel
theorem dX12_mend_122 : decode cX12_mend 122 = .ok (.aload_n 0, 1) := by decide +kernel
theorem dX12_mend_123 : decode cX12_mend 123 = .ok (.getfield 19, 3) := by decide +kernel
theorem dX12_mend_126 : decode cX12_mend 126 = .ok (.iload 4, 2) := by decide +kernel
theorem dX12_mend_128 : decode cX12_mend 128 = .ok (.iaload, 1) := by decide +kernel
theorem dX12_mend_129 : decode cX12_mend 129 = .ok (.iastore, 1) := by decide +kernel
theorem dX12_mend_130 : decode cX12_mend 130 = .ok (.aload_n 0, 1) := by decide +kernel
theorem dX12_mend_131 : decode cX12_mend 131 = .ok (.getfield 22, 3) := by decide +kernel
theorem dX12_mend_134 : decode cX12_mend 134 = .ok (.iload 4, 2) := by decide +kernel
theorem dX12_mend_136 : decode cX12_mend 136 = .ok (.aload_n 0, 1) := by decide +kernel
theorem dX12_mend_137 : decode cX12_mend 137 = .ok (.getfield 22, 3) := by decide +kernel
theorem dX12_mend_140 : decode cX12_mend 140 = .ok (.iload 4, 2) := by decide +kernel
theorem dX12_mend_142 : decode cX12_mend 142 = .ok (.iaload, 1) := by decide +kernel
theorem dX12_mend_143 : decode cX12_mend 143 = .ok (.iload_n 2, 1) := by decide +kernel
theorem dX12_mend_144 : decode cX12_mend 144 = .ok (.if_icmp .ne 7, 3) := by decide +kernel
theorem dX12_mend_147 : decode cX12_mend 147 = .ok (.iload_n 3, 1) := by decide +kernel
theorem dX12_mend_148 : decode cX12_mend 148 = .ok (.goto 10, 3) := by decide +kernel
theorem dX12_mend_151 : decode cX12_mend 151 = .ok (.aload_n 0, 1) := by decide +kernel
theorem dX12_mend_152 : decode cX12_mend 152 = .ok (.getfield 22, 3) := by decide +kernel
theorem dX12_mend_155 : decode cX12_mend 155 = .ok (.iload 4, 2) := by decide +kernel
theorem dX12_mend_157 : decode cX12_mend 157 = .ok (.iaload, 1) := by decide +kernel
theorem dX12_mend_158 : decode cX12_mend 158 = .ok (.iastore, 1) := by decide +kernel
theorem dX12_mend_159 : decode cX12_mend 159 = .ok (.aload_n 0, 1) := by decide +kernel
theorem dX12_mend_160 : decode cX12_mend 160 = .ok (.getfield 25, 3) := by decide +kernel
theorem dX12_mend_163 : decode cX12_mend 163 = .ok (.iload 4, 2) := by decide +kernel
theorem dX12_mend_165 : decode cX12_mend 165 = .ok (.aload_n 0, 1) := by decide +kernel
theorem dX12_mend_166 : decode cX12_mend 166 = .ok (.getfield 25, 3) := by decide +kernel
theorem dX12_mend_169 : decode cX12_mend 169 = .ok (.iload 4, 2) := by decide +kernel
theorem dX12_mend_171 : decode cX12_mend 171 = .ok (.iaload, 1) := by decide +kernel
theorem dX12_mend_172 : decode cX12_mend 172 = .ok (.iload_n 2, 1) := by decide +kernel
theorem dX12_mend_173 : decode cX12_mend 173 = .ok (.if_icmp .ne 7, 3) := by decide +kernel
theorem dX12_mend_176 : decode cX12_mend 176 = .ok (.iload_n 3, 1) := by decide +kernel
theorem dX12_mend_177 : decode cX12_mend 177 = .ok (.goto 10, 3) := by decide +kernel
theorem dX12_mend_180 : decode cX12_mend 180 = .ok (.aload_n 0, 1) := by decide +kernel
theorem dX12_mend_181 : decode cX12_mend 181 = .ok (.getfield 25, 3) := by decide +kernel
theorem dX12_mend_184 : decode cX12_mend 184 = .ok (.iload 4, 2) := by decide +kernel
theorem dX12_mend_186 : decode cX12_mend 186 = .ok (.iaload, 1) := by decide +kernel
theorem dX12_mend_187 : decode cX12_mend 187 = .ok (.iastore, 1) := by decide +kernel
theorem dX12_mend_188 : decode cX12_mend 188 = .ok (.iinc 4 1, 3) := by decide +kernel
theorem dX12_mend_191 : decode cX12_mend 191 = .ok (.goto (-125), 3) := by decide +kernel
theorem dX12_mend_194 : decode cX12_mend 194 = .ok (.aload_n 0, 1) := by decide +kernel
theorem dX12_mend_195 : decode cX12_mend 195 = .ok (.bipush 6, 2) := by decide +kernel
theorem dX12_mend_197 : decode cX12_mend 197 = .ok (.aload_n 0, 1) := by decide +kernel
theorem dX12_mend_198 : decode cX12_mend 198 = .ok (.getfield 13, 3) := by decide +kernel
theorem dX12_mend_201 : decode cX12_mend 201 = .ok (.iload_n 2, 1) := by decide +kernel
theorem dX12_mend_202 : decode cX12_mend 202 = .ok (.iaload, 1) := by decide +kernel
theorem dX12_mend_203 : decode cX12_mend 203 = .ok (.aload_n 0, 1) := by decide +kernel
theorem dX12_mend_204 : decode cX12_mend 204 = .ok (.getfield 16, 3) := by decide +kernel
theorem dX12_mend_207 : decode cX12_mend 207 = .ok (.iload_n 2, 1) := by decide +kernel
theorem dX12_mend_208 : decode cX12_mend 208 = .ok (.iaload, 1) := by decide +kernel
theorem dX12_mend_209 : decode cX12_mend 209 = .ok (.invokevirtual 163, 3) := by decide +kernel
theorem dX12_mend_212 : decode cX12_mend 212 = .ok (.aload_n 0, 1) := by decide +kernel
theorem dX12_mend_213 : decode cX12_mend 213 = .ok (.getfield 19, 3) := by decide +kernel
theorem dX12_mend_216 : decode cX12_mend 216 = .ok (.iload_n 3, 1) := by decide +kernel
theorem dX12_mend_217 : decode cX12_mend 217 = .ok (.iload_n 2, 1) := by decide +kernel
theorem dX12_mend_218 : decode cX12_mend 218 = .ok (.iastore, 1) := by decide +kernel
theorem dX12_mend_219 : decode cX12_mend 219 = .ok (.aload_n 0, 1) := by decide +kernel
theorem dX12_mend_220 : decode cX12_mend 220 = .ok (.invokevirtual 167, 3) := by decide +kernel
theorem dX12_mend_223 : decode cX12_mend 223 = .ok (.iload_n 3, 1) := by decide +kernel
theorem dX12_mend_224 : decode cX12_mend 224 = .ok (.ireturn, 1) := by decide +kernel
theorem dX12_count_0 : decode cX12_count 0 = .ok (.aload_n 0, 1) := by decide +kernel
theorem dX12_count_1 : decode cX12_count 1 = .ok (.iconst 0, 1) := by decide +kernel
theorem dX12_count_2 : decode cX12_count 2 = .ok (.putfield 122, 3) := by decide +kernel
theorem dX12_count_5 : decode cX12_count 5 = .ok (.iload_n 1, 1) := by decide +kernel
theorem dX12_count_6 : decode cX12_count 6 = .ok (.tableswitch 91 0 7 #[46, 51, 56, 66, 71, 76, 81, 86], 46) := by decide +kernel
theorem dX12_count_52 : decode cX12_count 52 = .ok (.aload_n 0, 1) := by decide +kernel
theorem dX12_count_53 : decode cX12_count 53 = .ok (.getfield 126, 3) := by decide +kernel
theorem dX12_count_56 : decode cX12_count 56 = .ok (.ireturn, 1) := by decide +kernel
theorem dX12_count_57 : decode cX12_count 57 = .ok (.aload_n 0, 1) := by decide +kernel
theorem dX12_count_58 : decode cX12_count 58 = .ok (.getfield 160, 3) := by decide +kernel
theorem dX12_count_61 : decode cX12_count 61 = .ok (.ireturn, 1) := by decide +kernel
theorem dX12_count_62 : decode cX12_count 62 = .ok (.aload_n 0, 1) := by decide +kernel
theorem dX12_count_63 : decode cX12_count 63 = .ok (.getfield 126, 3) := by decide +kernel
theorem dX12_count_66 : decode cX12_count 66 = .ok (.aload_n 0, 1) := by decide +kernel
theorem dX12_count_67 : decode cX12_count 67 = .ok (.getfield 160, 3) := by decide +kernel
theorem dX12_count_70 : decode cX12_count 70 = .ok (.isub, 1) := by decide +kernel
theorem dX12_count_71 : decode cX12_count 71 = .ok (.ireturn, 1) := by decide +kernel
theorem dX12_count_72 : decode cX12_count 72 = .ok (.aload_n 0, 1) := by decide +kernel
theorem dX12_count_73 : decode cX12_count 73 = .ok (.getfield 180, 3) := by decide +kernel
theorem dX12_count_76 : decode cX12_count 76 = .ok (.ireturn, 1) := by decide +kernel
theorem dX12_count_77 : decode cX12_count 77 = .ok (.aload_n 0, 1) := by decide +kernel
theorem dX12_count_78 : decode cX12_count 78 = .ok (.getfield 141, 3) := by decide +kernel
theorem dX12_count_81 : decode cX12_count 81 = .ok (.ireturn, 1) := by decide +kernel
theorem dX12_count_82 : decode cX12_count 82 = .ok (.aload_n 0, 1) := by decide +kernel
theorem dX12_count_83 : decode cX12_count 83 = .ok (.getfield 240, 3) := by decide +kernel
theorem dX12_count_86 : decode cX12_count 86 = .ok (.ireturn, 1) := by decide +kernel
theorem dX12_count_87 : decode cX12_count 87 = .ok (.aload_n 0, 1) := by decide +kernel
theorem dX12_count_88 : decode cX12_count 88 = .ok (.getfield 243, 3) := by decide +kernel
theorem dX12_count_91 : decode cX12_count 91 = .ok (.ireturn, 1) := by decide +kernel
theorem dX12_count_92 : decode cX12_count 92 = .ok (.aload_n 0, 1) := by decide +kernel
theorem dX12_count_93 : decode cX12_count 93 = .ok (.getfield 246, 3) := by decide +kernel
theorem dX12_count_96 : decode cX12_count 96 = .ok (.ireturn, 1) := by decide +kernel
theorem dX12_count_97 : decode cX12_count 97 = .ok (.iconst (-1), 1) := by decide +kernel
theorem dX12_count_98 : decode cX12_count 98 = .ok (.ireturn, 1) := by decide +kernel
theorem dX12_look__0 : decode cX12_look_ 0 = .ok (.aload_n 0, 1) := by decide +kernel
theorem dX12_look__1 : decode cX12_look_ 1 = .ok (.iconst 0, 1) := by decide +kernel
theorem dX12_look__2 : decode cX12_look_ 2 = .ok (.putfield 122, 3) := by decide +kernel
theorem dX12_look__5 : decode cX12_look_ 5 = .ok (.aload_n 0, 1) := by decide +kernel
theorem dX12_look__6 : decode cX12_look_ 6 = .ok (.iload_n 1, 1) := by decide +kernel
theorem dX12_look__7 : decode cX12_look_ 7 = .ok (.invokevirtual 129, 3) := by decide +kernel
theorem dX12_look__10 : decode cX12_look_ 10 = .ok (.ifCond .eq 15, 3) := by decide +kernel
theorem dX12_look__13 : decode cX12_look_ 13 = .ok (.iload_n 2, 1) := by decide +kernel
theorem dX12_look__14 : decode cX12_look_ 14 = .ok (.i2l, 1) := by decide +kernel
theorem dX12_look__15 : decode cX12_look_ 15 = .ok (.lconst 0, 1) := by decide +kernel
theorem dX12_look__16 : decode cX12_look_ 16 = .ok (.ldc2_w 170, 3) := by decide +kernel
theorem dX12_look__19 : decode cX12_look_ 19 = .ok (.invokestatic 156, 3) := by decide +kernel
theorem dX12_look__22 : decode cX12_look_ 22 = .ok (.ifCond .ne 5, 3) := by decide +kernel
theorem dX12_look__25 : decode cX12_look_ 25 = .ok (.iconst (-1), 1) := by decide +kernel
theorem dX12_look__26 : decode cX12_look_ 26 = .ok (.ireturn, 1) := by decide +kernel
theorem dX12_look__27 : decode cX12_look_ 27 = .ok (.iload_n 2, 1) := by decide +kernel
theorem dX12_look__28 : decode cX12_look_ 28 = .ok (.tableswitch 90 0 3 #[32, 39, 61, 83], 32) := by decide +kernel
theorem dX12_look__60 : decode cX12_look_ 60 = .ok (.aload_n 0, 1) := by decide +kernel
theorem dX12_look__61 : decode cX12_look_ 61 = .ok (.getfield 7, 3) := by decide +kernel
theorem dX12_look__64 : decode cX12_look_ 64 = .ok (.iload_n 1, 1) := by decide +kernel
theorem dX12_look__65 : decode cX12_look_ 65 = .ok (.iaload, 1) := by decide +kernel
theorem dX12_look__66 : decode cX12_look_ 66 = .ok (.ireturn, 1) := by decide +kernel
theorem dX12_look__67 : decode cX12_look_ 67 = .ok (.aload_n 0, 1) := by decide +kernel
theorem dX12_look__68 : decode cX12_look_ 68 = .ok (.getfield 7, 3) := by decide +kernel
theorem dX12_look__71 : decode cX12_look_ 71 = .ok (.iload_n 1, 1) := by decide +kernel
theorem dX12_look__72 : decode cX12_look_ 72 = .ok (.iaload, 1) := by decide +kernel
theorem dX12_look__73 : decode cX12_look_ 73 = .ok (.iconst 4, 1) := by decide +kernel
theorem dX12_look__74 : decode cX12_look_ 74 = .ok (.if_icmp .le 12, 3) := by decide +kernel
theorem dX12_look__77 : decode cX12_look_ 77 = .ok (.aload_n 0, 1) := by decide +kernel
theorem dX12_look__78 : decode cX12_look_ 78 = .ok (.getfield 13, 3) := by decide +kernel
theorem dX12_look__81 : decode cX12_look_ 81 = .ok (.iload_n 1, 1) := by decide +kernel
theorem dX12_look__82 : decode cX12_look_ 82 = .ok (.iaload, 1) := by decide +kernel
theorem dX12_look__83 : decode cX12_look_ 83 = .ok (.goto 5, 3) := by decide +kernel
theorem dX12_look__86 : decode cX12_look_ 86 = .ok (.bipush (-2), 2) := by decide +kernel
theorem dX12_look__88 : decode cX12_look_ 88 = .ok (.ireturn, 1) := by decide +kernel
theorem dX12_look__89 : decode cX12_look_ 89 = .ok (.aload_n 0, 1) := by decide +kernel
theorem dX12_look__90 : decode cX12_look_ 90 = .ok (.getfield 7, 3) := by decide +kernel
theorem dX12_look__93 : decode cX12_look_ 93 = .ok (.iload_n 1, 1) := by decide +kernel
theorem dX12_look__94 : decode cX12_look_ 94 = .ok (.iaload, 1) := by decide +kernel
theorem dX12_look__95 : decode cX12_look_ 95 = .ok (.iconst 5, 1) := by decide +kernel
theorem dX12_look__96 : decode cX12_look_ 96 = .ok (.if_icmp .ne 8, 3) := by decide +kernel
theorem dX12_look__99 : decode cX12_look_ 99 = .ok (.bipush (-2), 2) := by decide +kernel
theorem dX12_look__101 : decode cX12_look_ 101 = .ok (.goto 9, 3) := by decide +kernel
theorem dX12_look__104 : decode cX12_look_ 104 = .ok (.aload_n 0, 1) := by decide +kernel
theorem dX12_look__105 : decode cX12_look_ 105 = .ok (.getfield 19, 3) := by decide +kernel
theorem dX12_look__108 : decode cX12_look_ 108 = .ok (.iload_n 1, 1) := by decide +kernel
theorem dX12_look__109 : decode cX12_look_ 109 = .ok (.iaload, 1) := by decide +kernel
theorem dX12_look__110 : decode cX12_look_ 110 = .ok (.ireturn, 1) := by decide +kernel
theorem dX12_look__111 : decode cX12_look_ 111 = .ok (.aload_n 0, 1) := by decide +kernel
theorem dX12_look__112 : decode cX12_look_ 112 = .ok (.getfield 22, 3) := by decide +kernel
theorem dX12_look__115 : decode cX12_look_ 115 = .ok (.iload_n 1, 1) := by decide +kernel
theorem dX12_look__116 : decode cX12_look_ 116 = .ok (.iaload, 1) := by decide +kernel
theorem dX12_look__117 : decode cX12_look_ 117 = .ok (.ireturn, 1) := by decide +kernel
theorem dX12_look__118 : decode cX12_look_ 118 = .ok (.aload_n 0, 1) := by decide +kernel
theorem dX12_look__119 : decode cX12_look_ 119 = .ok (.getfield 25, 3) := by decide +kernel
theorem dX12_look__122 : decode cX12_look_ 122 = .ok (.iload_n 1, 1) := by decide +kernel
theorem dX12_look__123 : decode cX12_look_ 123 = .ok (.iaload, 1) := by decide +kernel
theorem dX12_look__124 : decode cX12_look_ 124 = .ok (.ireturn, 1) := by decide +kernel
theorem dX12_isShelf_0 : decode cX12_isShelf 0 = .ok (.iload_n 0, 1) := by decide +kernel
theorem dX12_isShelf_1 : decode cX12_isShelf 1 = .ok (.ifCond .lt 13, 3) := by decide +kernel
theorem dX12_isShelf_4 : decode cX12_isShelf 4 = .ok (.iload_n 0, 1) := by decide +kernel
theorem dX12_isShelf_5 : decode cX12_isShelf 5 = .ok (.bipush 8, 2) := by decide +kernel
theorem dX12_isShelf_7 : decode cX12_isShelf 7 = .ok (.if_icmp .ge 7, 3) := by decide +kernel
theorem dX12_isShelf_10 : decode cX12_isShelf 10 = .ok (.iconst 1, 1) := by decide +kernel
theorem dX12_isShelf_11 : decode cX12_isShelf 11 = .ok (.goto 4, 3) := by decide +kernel
theorem dX12_isShelf_14 : decode cX12_isShelf 14 = .ok (.iconst 0, 1) := by decide +kernel
theorem dX12_isShelf_15 : decode cX12_isShelf 15 = .ok (.ireturn, 1) := by decide +kernel
theorem dX12_keep_0 : decode cX12_keep 0 = .ok (.aload_n 0, 1) := by decide +kernel
theorem dX12_keep_1 : decode cX12_keep 1 = .ok (.iconst 0, 1) := by decide +kernel
theorem dX12_keep_2 : decode cX12_keep 2 = .ok (.putfield 122, 3) := by decide +kernel
theorem dX12_keep_5 : decode cX12_keep 5 = .ok (.iload_n 1, 1) := by decide +kernel
theorem dX12_keep_6 : decode cX12_keep 6 = .ok (.invokestatic 322, 3) := by decide +kernel
theorem dX12_keep_9 : decode cX12_keep 9 = .ok (.ifCond .eq 34, 3) := by decide +kernel
theorem dX12_keep_12 : decode cX12_keep 12 = .ok (.iload_n 2, 1) := by decide +kernel
theorem dX12_keep_13 : decode cX12_keep 13 = .ok (.ifCond .eq 26, 3) := by decide +kernel
theorem dX12_keep_16 : decode cX12_keep 16 = .ok (.iload_n 2, 1) := by decide +kernel
theorem dX12_keep_17 : decode cX12_keep 17 = .ok (.iconst 1, 1) := by decide +kernel
theorem dX12_keep_18 : decode cX12_keep 18 = .ok (.if_icmp .ne 11, 3) := by decide +kernel
theorem dX12_keep_21 : decode cX12_keep 21 = .ok (.aload_n 0, 1) := by decide +kernel
theorem dX12_keep_22 : decode cX12_keep 22 = .ok (.iload_n 3, 1) := by decide +kernel
theorem dX12_keep_23 : decode cX12_keep 23 = .ok (.invokevirtual 129, 3) := by decide +kernel
theorem dX12_keep_26 : decode cX12_keep 26 = .ok (.ifCond .ne 13, 3) := by decide +kernel
theorem dX12_keep_29 : decode cX12_keep 29 = .ok (.iload_n 2, 1) := by decide +kernel
theorem dX12_keep_30 : decode cX12_keep 30 = .ok (.iconst 3, 1) := by decide +kernel
theorem dX12_keep_31 : decode cX12_keep 31 = .ok (.if_icmp .eq 8, 3) := by decide +kernel
theorem dX12_keep_34 : decode cX12_keep 34 = .ok (.iload_n 2, 1) := by decide +kernel
theorem dX12_keep_35 : decode cX12_keep 35 = .ok (.iconst 4, 1) := by decide +kernel
theorem dX12_keep_36 : decode cX12_keep 36 = .ok (.if_icmp .ne 7, 3) := by decide +kernel
theorem dX12_keep_39 : decode cX12_keep 39 = .ok (.iconst 1, 1) := by decide +kernel
theorem dX12_keep_40 : decode cX12_keep 40 = .ok (.goto 4, 3) := by decide +kernel
theorem dX12_keep_43 : decode cX12_keep 43 = .ok (.iconst 0, 1) := by decide +kernel
theorem dX12_keep_44 : decode cX12_keep 44 = .ok (.istore 4, 2) := by decide +kernel
theorem dX12_keep_46 : decode cX12_keep 46 = .ok (.iload 4, 2) := by decide +kernel
theorem dX12_keep_48 : decode cX12_keep 48 = .ok (.ifCond .ne 5, 3) := by decide +kernel
theorem dX12_keep_51 : decode cX12_keep 51 = .ok (.iconst (-1), 1) := by decide +kernel
theorem dX12_keep_52 : decode cX12_keep 52 = .ok (.ireturn, 1) := by decide +kernel
theorem dX12_keep_53 : decode cX12_keep 53 = .ok (.aload_n 0, 1) := by decide +kernel
theorem dX12_keep_54 : decode cX12_keep 54 = .ok (.getfield 101, 3) := by decide +kernel
theorem dX12_keep_57 : decode cX12_keep 57 = .ok (.iload_n 1, 1) := by decide +kernel
theorem dX12_keep_58 : decode cX12_keep 58 = .ok (.iload_n 2, 1) := by decide +kernel
theorem dX12_keep_59 : decode cX12_keep 59 = .ok (.iastore, 1) := by decide +kernel
theorem dX12_keep_60 : decode cX12_keep 60 = .ok (.aload_n 0, 1) := by decide +kernel
theorem dX12_keep_61 : decode cX12_keep 61 = .ok (.getfield 104, 3) := by decide +kernel
theorem dX12_keep_64 : decode cX12_keep 64 = .ok (.iload_n 1, 1) := by decide +kernel
theorem dX12_keep_65 : decode cX12_keep 65 = .ok (.iload_n 2, 1) := by decide +kernel
theorem dX12_keep_66 : decode cX12_keep 66 = .ok (.iconst 3, 1) := by decide +kernel
theorem dX12_keep_67 : decode cX12_keep 67 = .ok (.if_icmp .ne 10, 3) := by decide +kernel
theorem dX12_keep_70 : decode cX12_keep 70 = .ok (.aload_n 0, 1) := by decide +kernel
theorem dX12_keep_71 : decode cX12_keep 71 = .ok (.getfield 126, 3) := by decide +kernel
theorem dX12_keep_74 : decode cX12_keep 74 = .ok (.goto 16, 3) := by decide +kernel
theorem dX12_keep_77 : decode cX12_keep 77 = .ok (.iload_n 2, 1) := by decide +kernel
theorem dX12_keep_78 : decode cX12_keep 78 = .ok (.iconst 4, 1) := by decide +kernel
theorem dX12_keep_79 : decode cX12_keep 79 = .ok (.if_icmp .ne 10, 3) := by decide +kernel
theorem dX12_keep_82 : decode cX12_keep 82 = .ok (.aload_n 0, 1) := by decide +kernel
theorem dX12_keep_83 : decode cX12_keep 83 = .ok (.getfield 141, 3) := by decide +kernel
theorem dX12_keep_86 : decode cX12_keep 86 = .ok (.goto 4, 3) := by decide +kernel
theorem dX12_keep_89 : decode cX12_keep 89 = .ok (.iconst 0, 1) := by decide +kernel
theorem dX12_keep_90 : decode cX12_keep 90 = .ok (.iastore, 1) := by decide +kernel
theorem dX12_keep_91 : decode cX12_keep 91 = .ok (.iload_n 2, 1) := by decide +kernel
theorem dX12_keep_92 : decode cX12_keep 92 = .ok (.iconst 1, 1) := by decide +kernel
theorem dX12_keep_93 : decode cX12_keep 93 = .ok (.if_icmp .ne 109, 3) := by decide +kernel
theorem dX12_keep_96 : decode cX12_keep 96 = .ok (.iload_n 3, 1) := by decide +kernel
theorem dX12_keep_97 : decode cX12_keep 97 = .ok (.iconst 1, 1) := by decide +kernel
theorem dX12_keep_98 : decode cX12_keep 98 = .ok (.iadd, 1) := by decide +kernel
theorem dX12_keep_99 : decode cX12_keep 99 = .ok (.istore 5, 2) := by decide +kernel
theorem dX12_keep_101 : decode cX12_keep 101 = .ok (.aload_n 0, 1) := by decide +kernel
theorem dX12_keep_102 : decode cX12_keep 102 = .ok (.getfield 107, 3) := by decide +kernel
theorem dX12_keep_105 : decode cX12_keep 105 = .ok (.iload_n 1, 1) := by decide +kernel
theorem dX12_keep_106 : decode cX12_keep 106 = .ok (.aload_n 0, 1) := by decide +kernel
theorem dX12_keep_107 : decode cX12_keep 107 = .ok (.getfield 7, 3) := by decide +kernel
theorem dX12_keep_110 : decode cX12_keep 110 = .ok (.iload_n 3, 1) := by decide +kernel
theorem dX12_keep_111 : decode cX12_keep 111 = .ok (.iaload, 1) := by decide +kernel
theorem dX12_keep_112 : decode cX12_keep 112 = .ok (.iconst 4, 1) := by decide +kernel
theorem dX12_keep_113 : decode cX12_keep 113 = .ok (.if_icmp .ne 13, 3) := by decide +kernel
theorem dX12_keep_116 : decode cX12_keep 116 = .ok (.iconst 3, 1) := by decide +kernel
theorem dX12_keep_117 : decode cX12_keep 117 = .ok (.iload 5, 2) := by decide +kernel
theorem dX12_keep_119 : decode cX12_keep 119 = .ok (.bipush 10, 2) := by decide +kernel
theorem dX12_keep_121 : decode cX12_keep 121 = .ok (.iadd, 1) := by decide +kernel
theorem dX12_keep_122 : decode cX12_keep 122 = .ok (.imul, 1) := by decide +kernel
theorem dX12_keep_123 : decode cX12_keep 123 = .ok (.goto 51, 3) := by decide +kernel
theorem dX12_keep_126 : decode cX12_keep 126 = .ok (.aload_n 0, 1) := by decide +kernel
theorem dX12_keep_127 : decode cX12_keep 127 = .ok (.getfield 7, 3) := by decide +kernel
theorem dX12_keep_130 : decode cX12_keep 130 = .ok (.iload_n 3, 1) := by decide +kernel
theorem dX12_keep_131 : decode cX12_keep 131 = .ok (.iaload, 1) := by decide +kernel
theorem dX12_keep_132 : decode cX12_keep 132 = .ok (.iconst 4, 1) := by decide +kernel
theorem dX12_keep_133 : decode cX12_keep 133 = .ok (.if_icmp .ge 11, 3) := by decide +kernel
theorem dX12_keep_136 : decode cX12_keep 136 = .ok (.iload 5, 2) := by decide +kernel
theorem dX12_keep_138 : decode cX12_keep 138 = .ok (.bipush 10, 2) := by decide +kernel
theorem dX12_keep_140 : decode cX12_keep 140 = .ok (.iadd, 1) := by decide +kernel
theorem dX12_keep_141 : decode cX12_keep 141 = .ok (.goto 33, 3) := by decide +kernel
theorem dX12_keep_144 : decode cX12_keep 144 = .ok (.aload_n 0, 1) := by decide +kernel
theorem dX12_keep_145 : decode cX12_keep 145 = .ok (.getfield 7, 3) := by decide +kernel
theorem dX12_keep_148 : decode cX12_keep 148 = .ok (.iload_n 3, 1) := by decide +kernel
theorem dX12_keep_149 : decode cX12_keep 149 = .ok (.iaload, 1) := by decide +kernel
theorem dX12_keep_150 : decode cX12_keep 150 = .ok (.iconst 5, 1) := by decide +kernel
theorem dX12_keep_151 : decode cX12_keep 151 = .ok (.if_icmp .ne 11, 3) := by decide +kernel
theorem dX12_keep_154 : decode cX12_keep 154 = .ok (.iload 5, 2) := by decide +kernel
theorem dX12_keep_156 : decode cX12_keep 156 = .ok (.bipush 100, 2) := by decide +kernel
theorem dX12_keep_158 : decode cX12_keep 158 = .ok (.iadd, 1) := by decide +kernel
theorem dX12_keep_159 : decode cX12_keep 159 = .ok (.goto 15, 3) := by decide +kernel
theorem dX12_keep_162 : decode cX12_keep 162 = .ok (.iload 5, 2) := by decide +kernel
theorem dX12_keep_164 : decode cX12_keep 164 = .ok (.bipush 105, 2) := by decide +kernel
theorem dX12_keep_166 : decode cX12_keep 166 = .ok (.iadd, 1) := by decide +kernel
theorem dX12_keep_167 : decode cX12_keep 167 = .ok (.aload_n 0, 1) := by decide +kernel
theorem dX12_keep_168 : decode cX12_keep 168 = .ok (.getfield 19, 3) := by decide +kernel
theorem dX12_keep_171 : decode cX12_keep 171 = .ok (.iload_n 3, 1) := by decide +kernel
theorem dX12_keep_172 : decode cX12_keep 172 = .ok (.iaload, 1) := by decide +kernel
theorem dX12_keep_173 : decode cX12_keep 173 = .ok (.iadd, 1) := by decide +kernel
theorem dX12_keep_174 : decode cX12_keep 174 = .ok (.iastore, 1) := by decide +kernel
theorem dX12_keep_175 : decode cX12_keep 175 = .ok (.aload_n 0, 1) := by decide +kernel
theorem dX12_keep_176 : decode cX12_keep 176 = .ok (.getfield 110, 3) := by decide +kernel
theorem dX12_keep_179 : decode cX12_keep 179 = .ok (.iload_n 1, 1) := by decide +kernel
theorem dX12_keep_180 : decode cX12_keep 180 = .ok (.aload_n 0, 1) := by decide +kernel
theorem dX12_keep_181 : decode cX12_keep 181 = .ok (.getfield 7, 3) := by decide +kernel
theorem dX12_keep_184 : decode cX12_keep 184 = .ok (.iload_n 3, 1) := by decide +kernel
theorem dX12_keep_185 : decode cX12_keep 185 = .ok (.iaload, 1) := by decide +kernel
theorem dX12_keep_186 : decode cX12_keep 186 = .ok (.iconst 4, 1) := by decide +kernel
theorem dX12_keep_187 : decode cX12_keep 187 = .ok (.if_icmp .le 12, 3) := by decide +kernel
theorem dX12_keep_190 : decode cX12_keep 190 = .ok (.aload_n 0, 1) := by decide +kernel
theorem dX12_keep_191 : decode cX12_keep 191 = .ok (.getfield 13, 3) := by decide +kernel
theorem dX12_keep_194 : decode cX12_keep 194 = .ok (.iload_n 3, 1) := by decide +kernel
theorem dX12_keep_195 : decode cX12_keep 195 = .ok (.iaload, 1) := by decide +kernel
theorem dX12_keep_196 : decode cX12_keep 196 = .ok (.goto 5, 3) := by decide +kernel
theorem dX12_keep_199 : decode cX12_keep 199 = .ok (.bipush (-15), 2) := by decide +kernel
theorem dX12_keep_201 : decode cX12_keep 201 = .ok (.iastore, 1) := by decide +kernel
theorem dX12_keep_202 : decode cX12_keep 202 = .ok (.iconst 0, 1) := by decide +kernel
theorem dX12_keep_203 : decode cX12_keep 203 = .ok (.istore 5, 2) := by decide +kernel
theorem dX12_keep_205 : decode cX12_keep 205 = .ok (.iload 5, 2) := by decide +kernel
theorem dX12_keep_207 : decode cX12_keep 207 = .ok (.aload_n 0, 1) := by decide +kernel
theorem dX12_keep_208 : decode cX12_keep 208 = .ok (.getfield 104, 3) := by decide +kernel
theorem dX12_keep_211 : decode cX12_keep 211 = .ok (.iload_n 1, 1) := by decide +kernel
theorem dX12_keep_212 : decode cX12_keep 212 = .ok (.iaload, 1) := by decide +kernel
theorem dX12_keep_213 : decode cX12_keep 213 = .ok (.if_icmp .ge 50, 3) := by decide +kernel
theorem dX12_keep_216 : decode cX12_keep 216 = .ok (.aload_n 0, 1) := by decide +kernel
theorem dX12_keep_217 : decode cX12_keep 217 = .ok (.getfield 113, 3) := by decide +kernel
theorem dX12_keep_220 : decode cX12_keep 220 = .ok (.bipush 60, 2) := by decide +kernel
theorem dX12_keep_222 : decode cX12_keep 222 = .ok (.iload_n 1, 1) := by decide +kernel
theorem dX12_keep_223 : decode cX12_keep 223 = .ok (.imul, 1) := by decide +kernel
theorem dX12_keep_224 : decode cX12_keep 224 = .ok (.iload 5, 2) := by decide +kernel
theorem dX12_keep_226 : decode cX12_keep 226 = .ok (.iadd, 1) := by decide +kernel
theorem dX12_keep_227 : decode cX12_keep 227 = .ok (.iload_n 2, 1) := by decide +kernel
theorem dX12_keep_228 : decode cX12_keep 228 = .ok (.iconst 3, 1) := by decide +kernel
theorem dX12_keep_229 : decode cX12_keep 229 = .ok (.if_icmp .ne 20, 3) := by decide +kernel
theorem dX12_keep_232 : decode cX12_keep 232 = .ok (.aload_n 0, 1) := by decide +kernel
theorem dX12_keep_233 : decode cX12_keep 233 = .ok (.getfield 44, 3) := by decide +kernel
theorem dX12_keep_236 : decode cX12_keep 236 = .ok (.aload_n 0, 1) := by decide +kernel
theorem dX12_keep_237 : decode cX12_keep 237 = .ok (.getfield 141, 3) := by decide +kernel
theorem dX12_keep_240 : decode cX12_keep 240 = .ok (.iaload, 1) := by decide +kernel
theorem dX12_keep_241 : decode cX12_keep 241 = .ok (.iload 5, 2) := by decide +kernel
theorem dX12_keep_243 : decode cX12_keep 243 = .ok (.invokestatic 133, 3) := by decide +kernel
theorem dX12_keep_246 : decode cX12_keep 246 = .ok (.goto 10, 3) := by decide +kernel
theorem dX12_keep_249 : decode cX12_keep 249 = .ok (.aload_n 0, 1) := by decide +kernel
theorem dX12_keep_250 : decode cX12_keep 250 = .ok (.getfield 47, 3) := by decide +kernel
theorem dX12_keep_253 : decode cX12_keep 253 = .ok (.iload 5, 2) := by decide +kernel
theorem dX12_keep_255 : decode cX12_keep 255 = .ok (.iaload, 1) := by decide +kernel
theorem dX12_keep_256 : decode cX12_keep 256 = .ok (.iastore, 1) := by decide +kernel
theorem dX12_keep_257 : decode cX12_keep 257 = .ok (.iinc 5 1, 3) := by decide +kernel
theorem dX12_keep_260 : decode cX12_keep 260 = .ok (.goto (-55), 3) := by decide +kernel
theorem dX12_keep_263 : decode cX12_keep 263 = .ok (.iconst 0, 1) := by decide +kernel
theorem dX12_keep_264 : decode cX12_keep 264 = .ok (.ireturn, 1) := by decide +kernel
theorem dX12_make_0 : decode cX12_make 0 = .ok (.aload_n 0, 1) := by decide +kernel
theorem dX12_make_1 : decode cX12_make 1 = .ok (.iconst 0, 1) := by decide +kernel
theorem dX12_make_2 : decode cX12_make 2 = .ok (.putfield 122, 3) := by decide +kernel
theorem dX12_make_5 : decode cX12_make 5 = .ok (.iload_n 1, 1) := by decide +kernel
theorem dX12_make_6 : decode cX12_make 6 = .ok (.invokestatic 322, 3) := by decide +kernel
theorem dX12_make_9 : decode cX12_make 9 = .ok (.ifCond .eq 23, 3) := by decide +kernel
theorem dX12_make_12 : decode cX12_make 12 = .ok (.iload_n 2, 1) := by decide +kernel
theorem dX12_make_13 : decode cX12_make 13 = .ok (.i2l, 1) := by decide +kernel
theorem dX12_make_14 : decode cX12_make 14 = .ok (.ldc2_w 154, 3) := by decide +kernel
theorem dX12_make_17 : decode cX12_make 17 = .ok (.ldc2_w 170, 3) := by decide +kernel
theorem dX12_make_20 : decode cX12_make 20 = .ok (.invokestatic 156, 3) := by decide +kernel
theorem dX12_make_23 : decode cX12_make 23 = .ok (.ifCond .eq 9, 3) := by decide +kernel
theorem dX12_make_26 : decode cX12_make 26 = .ok (.iload_n 3, 1) := by decide +kernel
theorem dX12_make_27 : decode cX12_make 27 = .ok (.bipush 60, 2) := by decide +kernel
theorem dX12_make_29 : decode cX12_make 29 = .ok (.if_icmp .le 5, 3) := by decide +kernel
theorem dX12_make_32 : decode cX12_make 32 = .ok (.iconst (-1), 1) := by decide +kernel
theorem dX12_make_33 : decode cX12_make 33 = .ok (.ireturn, 1) := by decide +kernel
theorem dX12_make_34 : decode cX12_make 34 = .ok (.iload_n 3, 1) := by decide +kernel
theorem dX12_make_35 : decode cX12_make 35 = .ok (.ifCond .ge 6, 3) := by decide +kernel
theorem dX12_make_38 : decode cX12_make 38 = .ok (.bipush (-14), 2) := by decide +kernel
theorem dX12_make_40 : decode cX12_make 40 = .ok (.ireturn, 1) := by decide +kernel
theorem dX12_make_41 : decode cX12_make 41 = .ok (.aload_n 0, 1) := by decide +kernel
theorem dX12_make_42 : decode cX12_make 42 = .ok (.getfield 101, 3) := by decide +kernel
theorem dX12_make_45 : decode cX12_make 45 = .ok (.iload_n 1, 1) := by decide +kernel
theorem dX12_make_46 : decode cX12_make 46 = .ok (.iload_n 2, 1) := by decide +kernel
theorem dX12_make_47 : decode cX12_make 47 = .ok (.iastore, 1) := by decide +kernel
theorem dX12_make_48 : decode cX12_make 48 = .ok (.aload_n 0, 1) := by decide +kernel
theorem dX12_make_49 : decode cX12_make 49 = .ok (.getfield 104, 3) := by decide +kernel
theorem dX12_make_52 : decode cX12_make 52 = .ok (.iload_n 1, 1) := by decide +kernel
theorem dX12_make_53 : decode cX12_make 53 = .ok (.iload_n 3, 1) := by decide +kernel
theorem dX12_make_54 : decode cX12_make 54 = .ok (.iastore, 1) := by decide +kernel
theorem dX12_make_55 : decode cX12_make 55 = .ok (.iconst 0, 1) := by decide +kernel
theorem dX12_make_56 : decode cX12_make 56 = .ok (.istore 4, 2) := by decide +kernel
theorem dX12_make_58 : decode cX12_make 58 = .ok (.iload 4, 2) := by decide +kernel
theorem dX12_make_60 : decode cX12_make 60 = .ok (.iload_n 3, 1) := by decide +kernel
theorem dX12_make_61 : decode cX12_make 61 = .ok (.if_icmp .ge 22, 3) := by decide +kernel
theorem dX12_make_64 : decode cX12_make 64 = .ok (.aload_n 0, 1) := by decide +kernel
theorem dX12_make_65 : decode cX12_make 65 = .ok (.getfield 113, 3) := by decide +kernel
theorem dX12_make_68 : decode cX12_make 68 = .ok (.bipush 60, 2) := by decide +kernel
theorem dX12_make_70 : decode cX12_make 70 = .ok (.iload_n 1, 1) := by decide +kernel
theorem dX12_make_71 : decode cX12_make 71 = .ok (.imul, 1) := by decide +kernel
theorem dX12_make_72 : decode cX12_make 72 = .ok (.iload 4, 2) := by decide +kernel
theorem dX12_make_74 : decode cX12_make 74 = .ok (.iadd, 1) := by decide +kernel
theorem dX12_make_75 : decode cX12_make 75 = .ok (.iconst 0, 1) := by decide +kernel
theorem dX12_make_76 : decode cX12_make 76 = .ok (.iastore, 1) := by decide +kernel
theorem dX12_make_77 : decode cX12_make 77 = .ok (.iinc 4 1, 3) := by decide +kernel
theorem dX12_make_80 : decode cX12_make 80 = .ok (.goto (-22), 3) := by decide +kernel
theorem dX12_make_83 : decode cX12_make 83 = .ok (.iconst 0, 1) := by decide +kernel
theorem dX12_make_84 : decode cX12_make 84 = .ok (.ireturn, 1) := by decide +kernel
theorem dX12_element_0 : decode cX12_element 0 = .ok (.iload_n 1, 1) := by decide +kernel
theorem dX12_element_1 : decode cX12_element 1 = .ok (.invokestatic 322, 3) := by decide +kernel
theorem dX12_element_4 : decode cX12_element 4 = .ok (.ifCond .eq 35, 3) := by decide +kernel
theorem dX12_element_7 : decode cX12_element 7 = .ok (.aload_n 0, 1) := by decide +kernel
theorem dX12_element_8 : decode cX12_element 8 = .ok (.getfield 101, 3) := by decide +kernel
theorem dX12_element_11 : decode cX12_element 11 = .ok (.iload_n 1, 1) := by decide +kernel
theorem dX12_element_12 : decode cX12_element 12 = .ok (.iaload, 1) := by decide +kernel
theorem dX12_element_13 : decode cX12_element 13 = .ok (.iconst 2, 1) := by decide +kernel
theorem dX12_element_14 : decode cX12_element 14 = .ok (.if_icmp .le 25, 3) := by decide +kernel
theorem dX12_element_17 : decode cX12_element 17 = .ok (.iload_n 2, 1) := by decide +kernel
theorem dX12_element_18 : decode cX12_element 18 = .ok (.i2l, 1) := by decide +kernel
theorem dX12_element_19 : decode cX12_element 19 = .ok (.lconst 0, 1) := by decide +kernel
theorem dX12_element_20 : decode cX12_element 20 = .ok (.aload_n 0, 1) := by decide +kernel
theorem dX12_element_21 : decode cX12_element 21 = .ok (.getfield 104, 3) := by decide +kernel
theorem dX12_element_24 : decode cX12_element 24 = .ok (.iload_n 1, 1) := by decide +kernel
theorem dX12_element_25 : decode cX12_element 25 = .ok (.iaload, 1) := by decide +kernel
theorem dX12_element_26 : decode cX12_element 26 = .ok (.iconst 1, 1) := by decide +kernel
theorem dX12_element_27 : decode cX12_element 27 = .ok (.isub, 1) := by decide +kernel
theorem dX12_element_28 : decode cX12_element 28 = .ok (.i2l, 1) := by decide +kernel
theorem dX12_element_29 : decode cX12_element 29 = .ok (.invokestatic 156, 3) := by decide +kernel
theorem dX12_element_32 : decode cX12_element 32 = .ok (.ifCond .eq 7, 3) := by decide +kernel
theorem dX12_element_35 : decode cX12_element 35 = .ok (.iconst 1, 1) := by decide +kernel
theorem dX12_element_36 : decode cX12_element 36 = .ok (.goto 4, 3) := by decide +kernel
theorem dX12_element_39 : decode cX12_element 39 = .ok (.iconst 0, 1) := by decide +kernel
theorem dX12_element_40 : decode cX12_element 40 = .ok (.istore_n 3, 1) := by decide +kernel
theorem dX12_element_41 : decode cX12_element 41 = .ok (.aload_n 0, 1) := by decide +kernel
theorem dX12_element_42 : decode cX12_element 42 = .ok (.iload_n 1, 1) := by decide +kernel
theorem dX12_element_43 : decode cX12_element 43 = .ok (.invokestatic 322, 3) := by decide +kernel
theorem dX12_element_46 : decode cX12_element 46 = .ok (.ifCond .ne 7, 3) := by decide +kernel
theorem dX12_element_49 : decode cX12_element 49 = .ok (.iconst 1, 1) := by decide +kernel
theorem dX12_element_50 : decode cX12_element 50 = .ok (.goto 12, 3) := by decide +kernel
theorem dX12_element_53 : decode cX12_element 53 = .ok (.iload_n 3, 1) := by decide +kernel
theorem dX12_element_54 : decode cX12_element 54 = .ok (.ifCond .eq 7, 3) := by decide +kernel
theorem dX12_element_57 : decode cX12_element 57 = .ok (.iconst 0, 1) := by decide +kernel
theorem dX12_element_58 : decode cX12_element 58 = .ok (.goto 4, 3) := by decide +kernel
theorem dX12_element_61 : decode cX12_element 61 = .ok (.iconst 2, 1) := by decide +kernel
theorem dX12_element_62 : decode cX12_element 62 = .ok (.putfield 122, 3) := by decide +kernel
theorem dX12_element_65 : decode cX12_element 65 = .ok (.iload_n 3, 1) := by decide +kernel
theorem dX12_element_66 : decode cX12_element 66 = .ok (.ifCond .eq 18, 3) := by decide +kernel
theorem dX12_element_69 : decode cX12_element 69 = .ok (.aload_n 0, 1) := by decide +kernel
theorem dX12_element_70 : decode cX12_element 70 = .ok (.getfield 113, 3) := by decide +kernel
theorem dX12_element_73 : decode cX12_element 73 = .ok (.bipush 60, 2) := by decide +kernel
theorem dX12_element_75 : decode cX12_element 75 = .ok (.iload_n 1, 1) := by decide +kernel
theorem dX12_element_76 : decode cX12_element 76 = .ok (.imul, 1) := by decide +kernel
theorem dX12_element_77 : decode cX12_element 77 = .ok (.iload_n 2, 1) := by decide +kernel
theorem dX12_element_78 : decode cX12_element 78 = .ok (.iadd, 1) := by decide +kernel
theorem dX12_element_79 : decode cX12_element 79 = .ok (.iaload, 1) := by decide +kernel
theorem dX12_element_80 : decode cX12_element 80 = .ok (.i2l, 1) := by decide +kernel
theorem dX12_element_81 : decode cX12_element 81 = .ok (.goto 4, 3) := by decide +kernel
theorem dX12_element_84 : decode cX12_element 84 = .ok (.lconst 0, 1) := by decide +kernel
theorem dX12_element_85 : decode cX12_element 85 = .ok (.lreturn, 1) := by decide +kernel
theorem dX12_hasPlaces_0 : decode cX12_hasPlaces 0 = .ok (.iload_n 3, 1) := by decide +kernel
theorem dX12_hasPlaces_1 : decode cX12_hasPlaces 1 = .ok (.ifCond .lt 33, 3) := by decide +kernel
theorem dX12_hasPlaces_4 : decode cX12_hasPlaces 4 = .ok (.iload_n 2, 1) := by decide +kernel
theorem dX12_hasPlaces_5 : decode cX12_hasPlaces 5 = .ok (.ifCond .lt 29, 3) := by decide +kernel
theorem dX12_hasPlaces_8 : decode cX12_hasPlaces 8 = .ok (.iload_n 2, 1) := by decide +kernel
theorem dX12_hasPlaces_9 : decode cX12_hasPlaces 9 = .ok (.aload_n 0, 1) := by decide +kernel
theorem dX12_hasPlaces_10 : decode cX12_hasPlaces 10 = .ok (.getfield 104, 3) := by decide +kernel
theorem dX12_hasPlaces_13 : decode cX12_hasPlaces 13 = .ok (.iload_n 1, 1) := by decide +kernel
theorem dX12_hasPlaces_14 : decode cX12_hasPlaces 14 = .ok (.iaload, 1) := by decide +kernel
theorem dX12_hasPlaces_15 : decode cX12_hasPlaces 15 = .ok (.if_icmp .gt 19, 3) := by decide +kernel
theorem dX12_hasPlaces_18 : decode cX12_hasPlaces 18 = .ok (.iload_n 3, 1) := by decide +kernel
theorem dX12_hasPlaces_19 : decode cX12_hasPlaces 19 = .ok (.aload_n 0, 1) := by decide +kernel
theorem dX12_hasPlaces_20 : decode cX12_hasPlaces 20 = .ok (.getfield 104, 3) := by decide +kernel
theorem dX12_hasPlaces_23 : decode cX12_hasPlaces 23 = .ok (.iload_n 1, 1) := by decide +kernel
theorem dX12_hasPlaces_24 : decode cX12_hasPlaces 24 = .ok (.iaload, 1) := by decide +kernel
theorem dX12_hasPlaces_25 : decode cX12_hasPlaces 25 = .ok (.iload_n 2, 1) := by decide +kernel
theorem dX12_hasPlaces_26 : decode cX12_hasPlaces 26 = .ok (.isub, 1) := by decide +kernel
theorem dX12_hasPlaces_27 : decode cX12_hasPlaces 27 = .ok (.if_icmp .gt 7, 3) := by decide +kernel
theorem dX12_hasPlaces_30 : decode cX12_hasPlaces 30 = .ok (.iconst 1, 1) := by decide +kernel
theorem dX12_hasPlaces_31 : decode cX12_hasPlaces 31 = .ok (.goto 4, 3) := by decide +kernel
theorem dX12_hasPlaces_34 : decode cX12_hasPlaces 34 = .ok (.iconst 0, 1) := by decide +kernel
theorem dX12_hasPlaces_35 : decode cX12_hasPlaces 35 = .ok (.ireturn, 1) := by decide +kernel
theorem dX12_copy_0 : decode cX12_copy 0 = .ok (.aload_n 0, 1) := by decide +kernel
theorem dX12_copy_1 : decode cX12_copy 1 = .ok (.iconst 0, 1) := by decide +kernel
theorem dX12_copy_2 : decode cX12_copy 2 = .ok (.putfield 122, 3) := by decide +kernel
theorem dX12_copy_5 : decode cX12_copy 5 = .ok (.iload_n 1, 1) := by decide +kernel
theorem dX12_copy_6 : decode cX12_copy 6 = .ok (.invokestatic 322, 3) := by decide +kernel
theorem dX12_copy_9 : decode cX12_copy 9 = .ok (.ifCond .eq 10, 3) := by decide +kernel
theorem dX12_copy_12 : decode cX12_copy 12 = .ok (.iload_n 3, 1) := by decide +kernel
theorem dX12_copy_13 : decode cX12_copy 13 = .ok (.invokestatic 322, 3) := by decide +kernel
theorem dX12_copy_16 : decode cX12_copy 16 = .ok (.ifCond .ne 5, 3) := by decide +kernel
theorem dX12_copy_19 : decode cX12_copy 19 = .ok (.iconst (-1), 1) := by decide +kernel
theorem dX12_copy_20 : decode cX12_copy 20 = .ok (.ireturn, 1) := by decide +kernel
theorem dX12_copy_21 : decode cX12_copy 21 = .ok (.aload_n 0, 1) := by decide +kernel
theorem dX12_copy_22 : decode cX12_copy 22 = .ok (.getfield 101, 3) := by decide +kernel
theorem dX12_copy_25 : decode cX12_copy 25 = .ok (.iload_n 1, 1) := by decide +kernel
theorem dX12_copy_26 : decode cX12_copy 26 = .ok (.iaload, 1) := by decide +kernel
theorem dX12_copy_27 : decode cX12_copy 27 = .ok (.ifCond .eq 12, 3) := by decide +kernel
theorem dX12_copy_30 : decode cX12_copy 30 = .ok (.aload_n 0, 1) := by decide +kernel
theorem dX12_copy_31 : decode cX12_copy 31 = .ok (.getfield 101, 3) := by decide +kernel
theorem dX12_copy_34 : decode cX12_copy 34 = .ok (.iload_n 3, 1) := by decide +kernel
theorem dX12_copy_35 : decode cX12_copy 35 = .ok (.iaload, 1) := by decide +kernel
theorem dX12_copy_36 : decode cX12_copy 36 = .ok (.ifCond .ne 6, 3) := by decide +kernel
theorem dX12_copy_39 : decode cX12_copy 39 = .ok (.bipush (-11), 2) := by decide +kernel
theorem dX12_copy_41 : decode cX12_copy 41 = .ok (.ireturn, 1) := by decide +kernel
theorem dX12_copy_42 : decode cX12_copy 42 = .ok (.aload_n 0, 1) := by decide +kernel
theorem dX12_copy_43 : decode cX12_copy 43 = .ok (.getfield 101, 3) := by decide +kernel
theorem dX12_copy_46 : decode cX12_copy 46 = .ok (.iload_n 1, 1) := by decide +kernel
theorem dX12_copy_47 : decode cX12_copy 47 = .ok (.iaload, 1) := by decide +kernel
theorem dX12_copy_48 : decode cX12_copy 48 = .ok (.iconst 3, 1) := by decide +kernel
theorem dX12_copy_49 : decode cX12_copy 49 = .ok (.if_icmp .lt 18, 3) := by decide +kernel
theorem dX12_copy_52 : decode cX12_copy 52 = .ok (.aload_n 0, 1) := by decide +kernel
theorem dX12_copy_53 : decode cX12_copy 53 = .ok (.getfield 101, 3) := by decide +kernel
theorem dX12_copy_56 : decode cX12_copy 56 = .ok (.iload_n 1, 1) := by decide +kernel
theorem dX12_copy_57 : decode cX12_copy 57 = .ok (.iaload, 1) := by decide +kernel
theorem dX12_copy_58 : decode cX12_copy 58 = .ok (.aload_n 0, 1) := by decide +kernel
theorem dX12_copy_59 : decode cX12_copy 59 = .ok (.getfield 101, 3) := by decide +kernel
theorem dX12_copy_62 : decode cX12_copy 62 = .ok (.iload_n 3, 1) := by decide +kernel
theorem dX12_copy_63 : decode cX12_copy 63 = .ok (.iaload, 1) := by decide +kernel
theorem dX12_copy_64 : decode cX12_copy 64 = .ok (.if_icmp .eq 6, 3) := by decide +kernel
theorem dX12_copy_67 : decode cX12_copy 67 = .ok (.bipush (-12), 2) := by decide +kernel
theorem dX12_copy_69 : decode cX12_copy 69 = .ok (.ireturn, 1) := by decide +kernel
theorem dX12_copy_70 : decode cX12_copy 70 = .ok (.aload_n 0, 1) := by decide +kernel
theorem dX12_copy_71 : decode cX12_copy 71 = .ok (.iload_n 1, 1) := by decide +kernel
theorem dX12_copy_72 : decode cX12_copy 72 = .ok (.iload_n 2, 1) := by decide +kernel
theorem dX12_copy_73 : decode cX12_copy 73 = .ok (.iload 5, 2) := by decide +kernel
theorem dX12_copy_75 : decode cX12_copy 75 = .ok (.invokevirtual 325, 3) := by decide +kernel
theorem dX12_copy_78 : decode cX12_copy 78 = .ok (.ifCond .eq 15, 3) := by decide +kernel
theorem dX12_copy_81 : decode cX12_copy 81 = .ok (.aload_n 0, 1) := by decide +kernel
theorem dX12_copy_82 : decode cX12_copy 82 = .ok (.iload_n 3, 1) := by decide +kernel
theorem dX12_copy_83 : decode cX12_copy 83 = .ok (.iload 4, 2) := by decide +kernel
theorem dX12_copy_85 : decode cX12_copy 85 = .ok (.iload 5, 2) := by decide +kernel
theorem dX12_copy_87 : decode cX12_copy 87 = .ok (.invokevirtual 325, 3) := by decide +kernel
theorem dX12_copy_90 : decode cX12_copy 90 = .ok (.ifCond .ne 6, 3) := by decide +kernel
theorem dX12_copy_93 : decode cX12_copy 93 = .ok (.bipush (-13), 2) := by decide +kernel
theorem dX12_copy_95 : decode cX12_copy 95 = .ok (.ireturn, 1) := by decide +kernel
theorem dX12_copy_96 : decode cX12_copy 96 = .ok (.iconst 0, 1) := by decide +kernel
theorem dX12_copy_97 : decode cX12_copy 97 = .ok (.istore 6, 2) := by decide +kernel
theorem dX12_copy_99 : decode cX12_copy 99 = .ok (.iload 6, 2) := by decide +kernel
theorem dX12_copy_101 : decode cX12_copy 101 = .ok (.iload 5, 2) := by decide +kernel
theorem dX12_copy_103 : decode cX12_copy 103 = .ok (.if_icmp .ge 30, 3) := by decide +kernel
theorem dX12_copy_106 : decode cX12_copy 106 = .ok (.aload_n 0, 1) := by decide +kernel
theorem dX12_copy_107 : decode cX12_copy 107 = .ok (.getfield 116, 3) := by decide +kernel
theorem dX12_copy_110 : decode cX12_copy 110 = .ok (.iload 6, 2) := by decide +kernel
theorem dX12_copy_112 : decode cX12_copy 112 = .ok (.aload_n 0, 1) := by decide +kernel
theorem dX12_copy_113 : decode cX12_copy 113 = .ok (.getfield 113, 3) := by decide +kernel
theorem dX12_copy_116 : decode cX12_copy 116 = .ok (.bipush 60, 2) := by decide +kernel
theorem dX12_copy_118 : decode cX12_copy 118 = .ok (.iload_n 1, 1) := by decide +kernel
theorem dX12_copy_119 : decode cX12_copy 119 = .ok (.imul, 1) := by decide +kernel
theorem dX12_copy_120 : decode cX12_copy 120 = .ok (.iload_n 2, 1) := by decide +kernel
theorem dX12_copy_121 : decode cX12_copy 121 = .ok (.iadd, 1) := by decide +kernel
theorem dX12_copy_122 : decode cX12_copy 122 = .ok (.iload 6, 2) := by decide +kernel
theorem dX12_copy_124 : decode cX12_copy 124 = .ok (.iadd, 1) := by decide +kernel
theorem dX12_copy_125 : decode cX12_copy 125 = .ok (.iaload, 1) := by decide +kernel
theorem dX12_copy_126 : decode cX12_copy 126 = .ok (.iastore, 1) := by decide +kernel
theorem dX12_copy_127 : decode cX12_copy 127 = .ok (.iinc 6 1, 3) := by decide +kernel
theorem dX12_copy_130 : decode cX12_copy 130 = .ok (.goto (-31), 3) := by decide +kernel
theorem dX12_copy_133 : decode cX12_copy 133 = .ok (.iconst 0, 1) := by decide +kernel
theorem dX12_copy_134 : decode cX12_copy 134 = .ok (.istore 6, 2) := by decide +kernel
theorem dX12_copy_136 : decode cX12_copy 136 = .ok (.iload 6, 2) := by decide +kernel
theorem dX12_copy_138 : decode cX12_copy 138 = .ok (.iload 5, 2) := by decide +kernel
theorem dX12_copy_140 : decode cX12_copy 140 = .ok (.if_icmp .ge 31, 3) := by decide +kernel
theorem dX12_copy_143 : decode cX12_copy 143 = .ok (.aload_n 0, 1) := by decide +kernel
theorem dX12_copy_144 : decode cX12_copy 144 = .ok (.getfield 113, 3) := by decide +kernel
theorem dX12_copy_147 : decode cX12_copy 147 = .ok (.bipush 60, 2) := by decide +kernel
theorem dX12_copy_149 : decode cX12_copy 149 = .ok (.iload_n 3, 1) := by decide +kernel
theorem dX12_copy_150 : decode cX12_copy 150 = .ok (.imul, 1) := by decide +kernel
theorem dX12_copy_151 : decode cX12_copy 151 = .ok (.iload 4, 2) := by decide +kernel
theorem dX12_copy_153 : decode cX12_copy 153 = .ok (.iadd, 1) := by decide +kernel
theorem dX12_copy_154 : decode cX12_copy 154 = .ok (.iload 6, 2) := by decide +kernel
theorem dX12_copy_156 : decode cX12_copy 156 = .ok (.iadd, 1) := by decide +kernel
theorem dX12_copy_157 : decode cX12_copy 157 = .ok (.aload_n 0, 1) := by decide +kernel
theorem dX12_copy_158 : decode cX12_copy 158 = .ok (.getfield 116, 3) := by decide +kernel
theorem dX12_copy_161 : decode cX12_copy 161 = .ok (.iload 6, 2) := by decide +kernel
theorem dX12_copy_163 : decode cX12_copy 163 = .ok (.iaload, 1) := by decide +kernel
theorem dX12_copy_164 : decode cX12_copy 164 = .ok (.iastore, 1) := by decide +kernel
theorem dX12_copy_165 : decode cX12_copy 165 = .ok (.iinc 6 1, 3) := by decide +kernel
theorem dX12_copy_168 : decode cX12_copy 168 = .ok (.goto (-32), 3) := by decide +kernel
theorem dX12_copy_171 : decode cX12_copy 171 = .ok (.iload 5, 2) := by decide +kernel
theorem dX12_copy_173 : decode cX12_copy 173 = .ok (.ireturn, 1) := by decide +kernel
theorem dX12_denied_0 : decode cX12_denied 0 = .ok (.iload_n 1, 1) := by decide +kernel
theorem dX12_denied_1 : decode cX12_denied 1 = .ok (.invokestatic 322, 3) := by decide +kernel
theorem dX12_denied_4 : decode cX12_denied 4 = .ok (.ifCond .ne 7, 3) := by decide +kernel
theorem dX12_denied_7 : decode cX12_denied 7 = .ok (.iconst (-1), 1) := by decide +kernel
theorem dX12_denied_8 : decode cX12_denied 8 = .ok (.goto 33, 3) := by decide +kernel
theorem dX12_denied_11 : decode cX12_denied 11 = .ok (.aload_n 0, 1) := by decide +kernel
theorem dX12_denied_12 : decode cX12_denied 12 = .ok (.getfield 101, 3) := by decide +kernel
theorem dX12_denied_15 : decode cX12_denied 15 = .ok (.iload_n 1, 1) := by decide +kernel
theorem dX12_denied_16 : decode cX12_denied 16 = .ok (.iaload, 1) := by decide +kernel
theorem dX12_denied_17 : decode cX12_denied 17 = .ok (.ifCond .ne 8, 3) := by decide +kernel
theorem dX12_denied_20 : decode cX12_denied 20 = .ok (.bipush (-11), 2) := by decide +kernel
theorem dX12_denied_22 : decode cX12_denied 22 = .ok (.goto 19, 3) := by decide +kernel
theorem dX12_denied_25 : decode cX12_denied 25 = .ok (.aload_n 0, 1) := by decide +kernel
theorem dX12_denied_26 : decode cX12_denied 26 = .ok (.getfield 101, 3) := by decide +kernel
theorem dX12_denied_29 : decode cX12_denied 29 = .ok (.iload_n 1, 1) := by decide +kernel
theorem dX12_denied_30 : decode cX12_denied 30 = .ok (.iaload, 1) := by decide +kernel
theorem dX12_denied_31 : decode cX12_denied 31 = .ok (.iconst 1, 1) := by decide +kernel
theorem dX12_denied_32 : decode cX12_denied 32 = .ok (.if_icmp .le 8, 3) := by decide +kernel
theorem dX12_denied_35 : decode cX12_denied 35 = .ok (.bipush (-12), 2) := by decide +kernel
theorem dX12_denied_37 : decode cX12_denied 37 = .ok (.goto 4, 3) := by decide +kernel
theorem dX12_denied_40 : decode cX12_denied 40 = .ok (.iconst 0, 1) := by decide +kernel
theorem dX12_denied_41 : decode cX12_denied 41 = .ok (.ireturn, 1) := by decide +kernel
theorem dX12_weight_0 : decode cX12_weight 0 = .ok (.aload_n 0, 1) := by decide +kernel
theorem dX12_weight_1 : decode cX12_weight 1 = .ok (.iconst 0, 1) := by decide +kernel
theorem dX12_weight_2 : decode cX12_weight 2 = .ok (.putfield 122, 3) := by decide +kernel
theorem dX12_weight_5 : decode cX12_weight 5 = .ok (.aload_n 0, 1) := by decide +kernel
theorem dX12_weight_6 : decode cX12_weight 6 = .ok (.iload_n 1, 1) := by decide +kernel
theorem dX12_weight_7 : decode cX12_weight 7 = .ok (.invokevirtual 329, 3) := by decide +kernel
theorem dX12_weight_10 : decode cX12_weight 10 = .ok (.istore_n 2, 1) := by decide +kernel
theorem dX12_weight_11 : decode cX12_weight 11 = .ok (.iload_n 2, 1) := by decide +kernel
theorem dX12_weight_12 : decode cX12_weight 12 = .ok (.ifCond .ge 7, 3) := by decide +kernel
theorem dX12_weight_15 : decode cX12_weight 15 = .ok (.iload_n 2, 1) := by decide +kernel
theorem dX12_weight_16 : decode cX12_weight 16 = .ok (.goto 9, 3) := by decide +kernel
theorem dX12_weight_19 : decode cX12_weight 19 = .ok (.aload_n 0, 1) := by decide +kernel
theorem dX12_weight_20 : decode cX12_weight 20 = .ok (.getfield 107, 3) := by decide +kernel
theorem dX12_weight_23 : decode cX12_weight 23 = .ok (.iload_n 1, 1) := by decide +kernel
theorem dX12_weight_24 : decode cX12_weight 24 = .ok (.iaload, 1) := by decide +kernel
theorem dX12_weight_25 : decode cX12_weight 25 = .ok (.ireturn, 1) := by decide +kernel
theorem dX12_toss_0 : decode cX12_toss 0 = .ok (.aload_n 0, 1) := by decide +kernel
theorem dX12_toss_1 : decode cX12_toss 1 = .ok (.iconst 0, 1) := by decide +kernel
theorem dX12_toss_2 : decode cX12_toss 2 = .ok (.putfield 122, 3) := by decide +kernel
theorem dX12_toss_5 : decode cX12_toss 5 = .ok (.aload_n 0, 1) := by decide +kernel
theorem dX12_toss_6 : decode cX12_toss 6 = .ok (.iload_n 1, 1) := by decide +kernel
theorem dX12_toss_7 : decode cX12_toss 7 = .ok (.invokevirtual 329, 3) := by decide +kernel
theorem dX12_toss_10 : decode cX12_toss 10 = .ok (.istore_n 2, 1) := by decide +kernel
theorem dX12_toss_11 : decode cX12_toss 11 = .ok (.iload_n 2, 1) := by decide +kernel
theorem dX12_toss_12 : decode cX12_toss 12 = .ok (.ifCond .ge 7, 3) := by decide +kernel
theorem dX12_toss_15 : decode cX12_toss 15 = .ok (.iload_n 2, 1) := by decide +kernel
theorem dX12_toss_16 : decode cX12_toss 16 = .ok (.goto 9, 3) := by decide +kernel
theorem dX12_toss_19 : decode cX12_toss 19 = .ok (.aload_n 0, 1) := by decide +kernel
theorem dX12_toss_20 : decode cX12_toss 20 = .ok (.getfield 110, 3) := by decide +kernel
theorem dX12_toss_23 : decode cX12_toss 23 = .ok (.iload_n 1, 1) := by decide +kernel
theorem dX12_toss_24 : decode cX12_toss 24 = .ok (.iaload, 1) := by decide +kernel
theorem dX12_toss_25 : decode cX12_toss 25 = .ok (.ireturn, 1) := by decide +kernel
theorem dJ6_bitCount_0f7a4_0 : decode cJ6_bitCount_0f7a4 0 = .ok (.iload_n 0, 1) := by decide +kernel
theorem dJ6_bitCount_0f7a4_1 : decode cJ6_bitCount_0f7a4 1 = .ok (.iload_n 0, 1) := by decide +kernel
theorem dJ6_bitCount_0f7a4_2 : decode cJ6_bitCount_0f7a4 2 = .ok (.iconst 1, 1) := by decide +kernel
theorem dJ6_bitCount_0f7a4_3 : decode cJ6_bitCount_0f7a4 3 = .ok (.iushr, 1) := by decide +kernel
theorem dJ6_bitCount_0f7a4_4 : decode cJ6_bitCount_0f7a4 4 = .ok (.ldc_w 265, 3) := by decide +kernel
theorem dJ6_bitCount_0f7a4_7 : decode cJ6_bitCount_0f7a4 7 = .ok (.iand, 1) := by decide +kernel
theorem dJ6_bitCount_0f7a4_8 : decode cJ6_bitCount_0f7a4 8 = .ok (.isub, 1) := by decide +kernel
theorem dJ6_bitCount_0f7a4_9 : decode cJ6_bitCount_0f7a4 9 = .ok (.istore_n 0, 1) := by decide +kernel
theorem dJ6_bitCount_0f7a4_10 : decode cJ6_bitCount_0f7a4 10 = .ok (.iload_n 0, 1) := by decide +kernel
theorem dJ6_bitCount_0f7a4_11 : decode cJ6_bitCount_0f7a4 11 = .ok (.ldc_w 266, 3) := by decide +kernel
theorem dJ6_bitCount_0f7a4_14 : decode cJ6_bitCount_0f7a4 14 = .ok (.iand, 1) := by decide +kernel
theorem dJ6_bitCount_0f7a4_15 : decode cJ6_bitCount_0f7a4 15 = .ok (.iload_n 0, 1) := by decide +kernel
theorem dJ6_bitCount_0f7a4_16 : decode cJ6_bitCount_0f7a4 16 = .ok (.iconst 2, 1) := by decide +kernel
theorem dJ6_bitCount_0f7a4_17 : decode cJ6_bitCount_0f7a4 17 = .ok (.iushr, 1) := by decide +kernel
theorem dJ6_bitCount_0f7a4_18 : decode cJ6_bitCount_0f7a4 18 = .ok (.ldc_w 266, 3) := by decide +kernel
theorem dJ6_bitCount_0f7a4_21 : decode cJ6_bitCount_0f7a4 21 = .ok (.iand, 1) := by decide +kernel
theorem dJ6_bitCount_0f7a4_22 : decode cJ6_bitCount_0f7a4 22 = .ok (.iadd, 1) := by decide +kernel
theorem dJ6_bitCount_0f7a4_23 : decode cJ6_bitCount_0f7a4 23 = .ok (.istore_n 0, 1) := by decide +kernel
theorem dJ6_bitCount_0f7a4_24 : decode cJ6_bitCount_0f7a4 24 = .ok (.iload_n 0, 1) := by decide +kernel
theorem dJ6_bitCount_0f7a4_25 : decode cJ6_bitCount_0f7a4 25 = .ok (.iload_n 0, 1) := by decide +kernel
theorem dJ6_bitCount_0f7a4_26 : decode cJ6_bitCount_0f7a4 26 = .ok (.iconst 4, 1) := by decide +kernel
theorem dJ6_bitCount_0f7a4_27 : decode cJ6_bitCount_0f7a4 27 = .ok (.iushr, 1) := by decide +kernel
theorem dJ6_bitCount_0f7a4_28 : decode cJ6_bitCount_0f7a4 28 = .ok (.iadd, 1) := by decide +kernel
theorem dJ6_bitCount_0f7a4_29 : decode cJ6_bitCount_0f7a4 29 = .ok (.ldc_w 267, 3) := by decide +kernel
theorem dJ6_bitCount_0f7a4_32 : decode cJ6_bitCount_0f7a4 32 = .ok (.iand, 1) := by decide +kernel
theorem dJ6_bitCount_0f7a4_33 : decode cJ6_bitCount_0f7a4 33 = .ok (.istore_n 0, 1) := by decide +kernel
theorem dJ6_bitCount_0f7a4_34 : decode cJ6_bitCount_0f7a4 34 = .ok (.iload_n 0, 1) := by decide +kernel
theorem dJ6_bitCount_0f7a4_35 : decode cJ6_bitCount_0f7a4 35 = .ok (.iload_n 0, 1) := by decide +kernel
theorem dJ6_bitCount_0f7a4_36 : decode cJ6_bitCount_0f7a4 36 = .ok (.bipush 8, 2) := by decide +kernel
theorem dJ6_bitCount_0f7a4_38 : decode cJ6_bitCount_0f7a4 38 = .ok (.iushr, 1) := by decide +kernel
theorem dJ6_bitCount_0f7a4_39 : decode cJ6_bitCount_0f7a4 39 = .ok (.iadd, 1) := by decide +kernel
theorem dJ6_bitCount_0f7a4_40 : decode cJ6_bitCount_0f7a4 40 = .ok (.istore_n 0, 1) := by decide +kernel
theorem dJ6_bitCount_0f7a4_41 : decode cJ6_bitCount_0f7a4 41 = .ok (.iload_n 0, 1) := by decide +kernel
theorem dJ6_bitCount_0f7a4_42 : decode cJ6_bitCount_0f7a4 42 = .ok (.iload_n 0, 1) := by decide +kernel
theorem dJ6_bitCount_0f7a4_43 : decode cJ6_bitCount_0f7a4 43 = .ok (.bipush 16, 2) := by decide +kernel
theorem dJ6_bitCount_0f7a4_45 : decode cJ6_bitCount_0f7a4 45 = .ok (.iushr, 1) := by decide +kernel
theorem dJ6_bitCount_0f7a4_46 : decode cJ6_bitCount_0f7a4 46 = .ok (.iadd, 1) := by decide +kernel
theorem dJ6_bitCount_0f7a4_47 : decode cJ6_bitCount_0f7a4 47 = .ok (.istore_n 0, 1) := by decide +kernel
theorem dJ6_bitCount_0f7a4_48 : decode cJ6_bitCount_0f7a4 48 = .ok (.iload_n 0, 1) := by decide +kernel
theorem dJ6_bitCount_0f7a4_49 : decode cJ6_bitCount_0f7a4 49 = .ok (.bipush 63, 2) := by decide +kernel
theorem dJ6_bitCount_0f7a4_51 : decode cJ6_bitCount_0f7a4 51 = .ok (.iand, 1) := by decide +kernel
theorem dJ6_bitCount_0f7a4_52 : decode cJ6_bitCount_0f7a4 52 = .ok (.ireturn, 1) := by decide +kernel
theorem dJ7_fill_d0a16_0 : decode cJ7_fill_d0a16 0 = .ok (.iconst 0, 1) := by decide +kernel
theorem dJ7_fill_d0a16_1 : decode cJ7_fill_d0a16 1 = .ok (.istore_n 3, 1) := by decide +kernel
theorem dJ7_fill_d0a16_2 : decode cJ7_fill_d0a16 2 = .ok (.aload_n 0, 1) := by decide +kernel
theorem dJ7_fill_d0a16_3 : decode cJ7_fill_d0a16 3 = .ok (.arraylength, 1) := by decide +kernel
theorem dJ7_fill_d0a16_4 : decode cJ7_fill_d0a16 4 = .ok (.istore 4, 2) := by decide +kernel
theorem dJ7_fill_d0a16_6 : decode cJ7_fill_d0a16 6 = .ok (.iload_n 3, 1) := by decide +kernel
theorem dJ7_fill_d0a16_7 : decode cJ7_fill_d0a16 7 = .ok (.iload 4, 2) := by decide +kernel
theorem dJ7_fill_d0a16_9 : decode cJ7_fill_d0a16 9 = .ok (.if_icmp .ge 13, 3) := by decide +kernel
theorem dJ7_fill_d0a16_12 : decode cJ7_fill_d0a16 12 = .ok (.aload_n 0, 1) := by decide +kernel
theorem dJ7_fill_d0a16_13 : decode cJ7_fill_d0a16 13 = .ok (.iload_n 3, 1) := by decide +kernel
theorem dJ7_fill_d0a16_14 : decode cJ7_fill_d0a16 14 = .ok (.lload_n 1, 1) := by decide +kernel
theorem dJ7_fill_d0a16_15 : decode cJ7_fill_d0a16 15 = .ok (.lastore, 1) := by decide +kernel
theorem dJ7_fill_d0a16_16 : decode cJ7_fill_d0a16 16 = .ok (.iinc 3 1, 3) := by decide +kernel
theorem dJ7_fill_d0a16_19 : decode cJ7_fill_d0a16 19 = .ok (.goto (-13), 3) := by decide +kernel
theorem dJ7_fill_d0a16_22 : decode cJ7_fill_d0a16 22 = .ok (.return_, 1) := by decide +kernel
theorem dJ7_fill_53178_0 : decode cJ7_fill_53178 0 = .ok (.iconst 0, 1) := by decide +kernel
theorem dJ7_fill_53178_1 : decode cJ7_fill_53178 1 = .ok (.istore_n 2, 1) := by decide +kernel
theorem dJ7_fill_53178_2 : decode cJ7_fill_53178 2 = .ok (.aload_n 0, 1) := by decide +kernel
theorem dJ7_fill_53178_3 : decode cJ7_fill_53178 3 = .ok (.arraylength, 1) := by decide +kernel
theorem dJ7_fill_53178_4 : decode cJ7_fill_53178 4 = .ok (.istore_n 3, 1) := by decide +kernel
theorem dJ7_fill_53178_5 : decode cJ7_fill_53178 5 = .ok (.iload_n 2, 1) := by decide +kernel
theorem dJ7_fill_53178_6 : decode cJ7_fill_53178 6 = .ok (.iload_n 3, 1) := by decide +kernel
theorem dJ7_fill_53178_7 : decode cJ7_fill_53178 7 = .ok (.if_icmp .ge 13, 3) := by decide +kernel
theorem dJ7_fill_53178_10 : decode cJ7_fill_53178 10 = .ok (.aload_n 0, 1) := by decide +kernel
theorem dJ7_fill_53178_11 : decode cJ7_fill_53178 11 = .ok (.iload_n 2, 1) := by decide +kernel
theorem dJ7_fill_53178_12 : decode cJ7_fill_53178 12 = .ok (.iload_n 1, 1) := by decide +kernel
theorem dJ7_fill_53178_13 : decode cJ7_fill_53178 13 = .ok (.iastore, 1) := by decide +kernel
theorem dJ7_fill_53178_14 : decode cJ7_fill_53178 14 = .ok (.iinc 2 1, 3) := by decide +kernel
theorem dJ7_fill_53178_17 : decode cJ7_fill_53178 17 = .ok (.goto (-12), 3) := by decide +kernel
theorem dJ7_fill_53178_20 : decode cJ7_fill_53178 20 = .ok (.return_, 1) := by decide +kernel
theorem dL_element_0 : decode cL_element 0 = .ok (.aload_n 3, 1) := by decide +kernel
theorem dL_element_1 : decode cL_element 1 = .ok (.iconst 0, 1) := by decide +kernel
theorem dL_element_2 : decode cL_element 2 = .ok (.aload_n 0, 1) := by decide +kernel
theorem dL_element_3 : decode cL_element 3 = .ok (.iload_n 1, 1) := by decide +kernel
theorem dL_element_4 : decode cL_element 4 = .ok (.iload_n 2, 1) := by decide +kernel
theorem dL_element_5 : decode cL_element 5 = .ok (.invokevirtual 7, 3) := by decide +kernel
theorem dL_element_8 : decode cL_element 8 = .ok (.lastore, 1) := by decide +kernel
theorem dL_element_9 : decode cL_element 9 = .ok (.goto 11, 3) := by decide +kernel
theorem dL_element_12 : decode cL_element 12 = .ok (.astore 4, 2) := by decide +kernel
theorem dL_element_14 : decode cL_element 14 = .ok (.iconst 1, 1) := by decide +kernel
theorem dL_element_15 : decode cL_element 15 = .ok (.ireturn, 1) := by decide +kernel
theorem dL_element_16 : decode cL_element 16 = .ok (.astore 4, 2) := by decide +kernel
theorem dL_element_18 : decode cL_element 18 = .ok (.iconst 2, 1) := by decide +kernel
theorem dL_element_19 : decode cL_element 19 = .ok (.ireturn, 1) := by decide +kernel
theorem dL_element_20 : decode cL_element 20 = .ok (.iconst 0, 1) := by decide +kernel
theorem dL_element_21 : decode cL_element 21 = .ok (.ireturn, 1) := by decide +kernel
theorem dL_law_0 : decode cL_law 0 = .ok (.new 8, 3) := by decide +kernel
theorem dL_law_3 : decode cL_law 3 = .ok (.dup, 1) := by decide +kernel
theorem dL_law_4 : decode cL_law 4 = .ok (.invokespecial 17, 3) := by decide +kernel
theorem dL_law_7 : decode cL_law 7 = .ok (.astore_n 1, 1) := by decide +kernel
theorem dL_law_8 : decode cL_law 8 = .ok (.new 18, 3) := by decide +kernel
theorem dL_law_11 : decode cL_law 11 = .ok (.dup, 1) := by decide +kernel
theorem dL_law_12 : decode cL_law 12 = .ok (.invokespecial 20, 3) := by decide +kernel
theorem dL_law_15 : decode cL_law 15 = .ok (.astore_n 2, 1) := by decide +kernel
theorem dL_law_16 : decode cL_law 16 = .ok (.iconst 1, 1) := by decide +kernel
theorem dL_law_17 : decode cL_law 17 = .ok (.newarray .long, 2) := by decide +kernel
theorem dL_law_19 : decode cL_law 19 = .ok (.astore_n 3, 1) := by decide +kernel
theorem dL_law_20 : decode cL_law 20 = .ok (.iconst 0, 1) := by decide +kernel
theorem dL_law_21 : decode cL_law 21 = .ok (.istore 4, 2) := by decide +kernel
theorem dL_law_23 : decode cL_law 23 = .ok (.iload 4, 2) := by decide +kernel
theorem dL_law_25 : decode cL_law 25 = .ok (.aload_n 0, 1) := by decide +kernel
theorem dL_law_26 : decode cL_law 26 = .ok (.arraylength, 1) := by decide +kernel
theorem dL_law_27 : decode cL_law 27 = .ok (.bipush 6, 2) := by decide +kernel
theorem dL_law_29 : decode cL_law 29 = .ok (.isub, 1) := by decide +kernel
theorem dL_law_30 : decode cL_law 30 = .ok (.if_icmp .gt 1236, 3) := by decide +kernel
theorem dL_law_33 : decode cL_law 33 = .ok (.aload_n 0, 1) := by decide +kernel
theorem dL_law_34 : decode cL_law 34 = .ok (.iload 4, 2) := by decide +kernel
theorem dL_law_36 : decode cL_law 36 = .ok (.iaload, 1) := by decide +kernel
theorem dL_law_37 : decode cL_law 37 = .ok (.bipush 31, 2) := by decide +kernel
theorem dL_law_39 : decode cL_law 39 = .ok (.iand, 1) := by decide +kernel
theorem dL_law_40 : decode cL_law 40 = .ok (.tableswitch 1220 0 29 #[136, 161, 198, 259, 296, 345, 398, 447, 460, 509, 534, 559, 596, 621, 634, 671, 708, 745, 770, 795, 808, 845, 870, 895, 932, 981, 1030, 1097, 1170, 1195], 136) := by decide +kernel
theorem dL_law_176 : decode cL_law 176 = .ok (.aload_n 1, 1) := by decide +kernel
theorem dL_law_177 : decode cL_law 177 = .ok (.aload_n 0, 1) := by decide +kernel
theorem dL_law_178 : decode cL_law 178 = .ok (.iload 4, 2) := by decide +kernel
theorem dL_law_180 : decode cL_law 180 = .ok (.iconst 1, 1) := by decide +kernel
theorem dL_law_181 : decode cL_law 181 = .ok (.iadd, 1) := by decide +kernel
theorem dL_law_182 : decode cL_law 182 = .ok (.iaload, 1) := by decide +kernel
theorem dL_law_183 : decode cL_law 183 = .ok (.invokevirtual 21, 3) := by decide +kernel
theorem dL_law_186 : decode cL_law 186 = .ok (.aload_n 2, 1) := by decide +kernel
theorem dL_law_187 : decode cL_law 187 = .ok (.aload_n 0, 1) := by decide +kernel
theorem dL_law_188 : decode cL_law 188 = .ok (.iload 4, 2) := by decide +kernel
theorem dL_law_190 : decode cL_law 190 = .ok (.iconst 1, 1) := by decide +kernel
theorem dL_law_191 : decode cL_law 191 = .ok (.iadd, 1) := by decide +kernel
theorem dL_law_192 : decode cL_law 192 = .ok (.iaload, 1) := by decide +kernel
theorem dL_law_193 : decode cL_law 193 = .ok (.invokevirtual 25, 3) := by decide +kernel
theorem dL_law_196 : decode cL_law 196 = .ok (.if_icmp .eq 1064, 3) := by decide +kernel
theorem dL_law_199 : decode cL_law 199 = .ok (.iconst 0, 1) := by decide +kernel
theorem dL_law_200 : decode cL_law 200 = .ok (.ireturn, 1) := by decide +kernel
theorem dL_law_201 : decode cL_law 201 = .ok (.aload_n 1, 1) := by decide +kernel
theorem dL_law_202 : decode cL_law 202 = .ok (.aload_n 0, 1) := by decide +kernel
theorem dL_law_203 : decode cL_law 203 = .ok (.iload 4, 2) := by decide +kernel
theorem dL_law_205 : decode cL_law 205 = .ok (.iconst 1, 1) := by decide +kernel
theorem dL_law_206 : decode cL_law 206 = .ok (.iadd, 1) := by decide +kernel
theorem dL_law_207 : decode cL_law 207 = .ok (.iaload, 1) := by decide +kernel
theorem dL_law_208 : decode cL_law 208 = .ok (.aload_n 0, 1) := by decide +kernel
theorem dL_law_209 : decode cL_law 209 = .ok (.iload 4, 2) := by decide +kernel
theorem dL_law_211 : decode cL_law 211 = .ok (.iconst 2, 1) := by decide +kernel
theorem dL_law_212 : decode cL_law 212 = .ok (.iadd, 1) := by decide +kernel
theorem dL_law_213 : decode cL_law 213 = .ok (.iaload, 1) := by decide +kernel
theorem dL_law_214 : decode cL_law 214 = .ok (.invokevirtual 26, 3) := by decide +kernel
theorem dL_law_217 : decode cL_law 217 = .ok (.aload_n 2, 1) := by decide +kernel
theorem dL_law_218 : decode cL_law 218 = .ok (.aload_n 0, 1) := by decide +kernel
theorem dL_law_219 : decode cL_law 219 = .ok (.iload 4, 2) := by decide +kernel
theorem dL_law_221 : decode cL_law 221 = .ok (.iconst 1, 1) := by decide +kernel
theorem dL_law_222 : decode cL_law 222 = .ok (.iadd, 1) := by decide +kernel
theorem dL_law_223 : decode cL_law 223 = .ok (.iaload, 1) := by decide +kernel
theorem dL_law_224 : decode cL_law 224 = .ok (.aload_n 0, 1) := by decide +kernel
theorem dL_law_225 : decode cL_law 225 = .ok (.iload 4, 2) := by decide +kernel
theorem dL_law_227 : decode cL_law 227 = .ok (.iconst 2, 1) := by decide +kernel
theorem dL_law_228 : decode cL_law 228 = .ok (.iadd, 1) := by decide +kernel
theorem dL_law_229 : decode cL_law 229 = .ok (.iaload, 1) := by decide +kernel
theorem dL_law_230 : decode cL_law 230 = .ok (.invokevirtual 30, 3) := by decide +kernel
theorem dL_law_233 : decode cL_law 233 = .ok (.if_icmp .eq 1027, 3) := by decide +kernel
theorem dL_law_236 : decode cL_law 236 = .ok (.iconst 0, 1) := by decide +kernel
theorem dL_law_237 : decode cL_law 237 = .ok (.ireturn, 1) := by decide +kernel
theorem dL_law_238 : decode cL_law 238 = .ok (.aload_n 1, 1) := by decide +kernel
theorem dL_law_239 : decode cL_law 239 = .ok (.aload_n 0, 1) := by decide +kernel
theorem dL_law_240 : decode cL_law 240 = .ok (.iload 4, 2) := by decide +kernel
theorem dL_law_242 : decode cL_law 242 = .ok (.iconst 1, 1) := by decide +kernel
theorem dL_law_243 : decode cL_law 243 = .ok (.iadd, 1) := by decide +kernel
theorem dL_law_244 : decode cL_law 244 = .ok (.iaload, 1) := by decide +kernel
theorem dL_law_245 : decode cL_law 245 = .ok (.aload_n 0, 1) := by decide +kernel
theorem dL_law_246 : decode cL_law 246 = .ok (.iload 4, 2) := by decide +kernel
theorem dL_law_248 : decode cL_law 248 = .ok (.iconst 2, 1) := by decide +kernel
theorem dL_law_249 : decode cL_law 249 = .ok (.iadd, 1) := by decide +kernel
theorem dL_law_250 : decode cL_law 250 = .ok (.iaload, 1) := by decide +kernel
theorem dL_law_251 : decode cL_law 251 = .ok (.aload_n 0, 1) := by decide +kernel
theorem dL_law_252 : decode cL_law 252 = .ok (.iload 4, 2) := by decide +kernel
theorem dL_law_254 : decode cL_law 254 = .ok (.iconst 3, 1) := by decide +kernel
theorem dL_law_255 : decode cL_law 255 = .ok (.iadd, 1) := by decide +kernel
theorem dL_law_256 : decode cL_law 256 = .ok (.iaload, 1) := by decide +kernel
theorem dL_law_257 : decode cL_law 257 = .ok (.aload_n 0, 1) := by decide +kernel
theorem dL_law_258 : decode cL_law 258 = .ok (.iload 4, 2) := by decide +kernel
theorem dL_law_260 : decode cL_law 260 = .ok (.iconst 4, 1) := by decide +kernel
theorem dL_law_261 : decode cL_law 261 = .ok (.iadd, 1) := by decide +kernel
theorem dL_law_262 : decode cL_law 262 = .ok (.iaload, 1) := by decide +kernel
theorem dL_law_263 : decode cL_law 263 = .ok (.invokevirtual 31, 3) := by decide +kernel
theorem dL_law_266 : decode cL_law 266 = .ok (.aload_n 2, 1) := by decide +kernel
theorem dL_law_267 : decode cL_law 267 = .ok (.aload_n 0, 1) := by decide +kernel
theorem dL_law_268 : decode cL_law 268 = .ok (.iload 4, 2) := by decide +kernel
theorem dL_law_270 : decode cL_law 270 = .ok (.iconst 1, 1) := by decide +kernel
theorem dL_law_271 : decode cL_law 271 = .ok (.iadd, 1) := by decide +kernel
theorem dL_law_272 : decode cL_law 272 = .ok (.iaload, 1) := by decide +kernel
theorem dL_law_273 : decode cL_law 273 = .ok (.aload_n 0, 1) := by decide +kernel
theorem dL_law_274 : decode cL_law 274 = .ok (.iload 4, 2) := by decide +kernel
theorem dL_law_276 : decode cL_law 276 = .ok (.iconst 2, 1) := by decide +kernel
theorem dL_law_277 : decode cL_law 277 = .ok (.iadd, 1) := by decide +kernel
theorem dL_law_278 : decode cL_law 278 = .ok (.iaload, 1) := by decide +kernel
theorem dL_law_279 : decode cL_law 279 = .ok (.aload_n 0, 1) := by decide +kernel
theorem dL_law_280 : decode cL_law 280 = .ok (.iload 4, 2) := by decide +kernel
theorem dL_law_282 : decode cL_law 282 = .ok (.iconst 3, 1) := by decide +kernel
theorem dL_law_283 : decode cL_law 283 = .ok (.iadd, 1) := by decide +kernel
theorem dL_law_284 : decode cL_law 284 = .ok (.iaload, 1) := by decide +kernel
theorem dL_law_285 : decode cL_law 285 = .ok (.aload_n 0, 1) := by decide +kernel
theorem dL_law_286 : decode cL_law 286 = .ok (.iload 4, 2) := by decide +kernel
theorem dL_law_288 : decode cL_law 288 = .ok (.iconst 4, 1) := by decide +kernel
theorem dL_law_289 : decode cL_law 289 = .ok (.iadd, 1) := by decide +kernel
theorem dL_law_290 : decode cL_law 290 = .ok (.iaload, 1) := by decide +kernel
theorem dL_law_291 : decode cL_law 291 = .ok (.invokevirtual 35, 3) := by decide +kernel
theorem dL_law_294 : decode cL_law 294 = .ok (.if_icmp .eq 966, 3) := by decide +kernel
theorem dL_law_297 : decode cL_law 297 = .ok (.iconst 0, 1) := by decide +kernel
theorem dL_law_298 : decode cL_law 298 = .ok (.ireturn, 1) := by decide +kernel
theorem dL_law_299 : decode cL_law 299 = .ok (.aload_n 1, 1) := by decide +kernel
theorem dL_law_300 : decode cL_law 300 = .ok (.aload_n 0, 1) := by decide +kernel
theorem dL_law_301 : decode cL_law 301 = .ok (.iload 4, 2) := by decide +kernel
theorem dL_law_303 : decode cL_law 303 = .ok (.iconst 1, 1) := by decide +kernel
theorem dL_law_304 : decode cL_law 304 = .ok (.iadd, 1) := by decide +kernel
theorem dL_law_305 : decode cL_law 305 = .ok (.iaload, 1) := by decide +kernel
theorem dL_law_306 : decode cL_law 306 = .ok (.aload_n 0, 1) := by decide +kernel
theorem dL_law_307 : decode cL_law 307 = .ok (.iload 4, 2) := by decide +kernel
theorem dL_law_309 : decode cL_law 309 = .ok (.iconst 2, 1) := by decide +kernel
theorem dL_law_310 : decode cL_law 310 = .ok (.iadd, 1) := by decide +kernel
theorem dL_law_311 : decode cL_law 311 = .ok (.iaload, 1) := by decide +kernel
theorem dL_law_312 : decode cL_law 312 = .ok (.invokevirtual 36, 3) := by decide +kernel
theorem dL_law_315 : decode cL_law 315 = .ok (.aload_n 2, 1) := by decide +kernel
theorem dL_law_316 : decode cL_law 316 = .ok (.aload_n 0, 1) := by decide +kernel
theorem dL_law_317 : decode cL_law 317 = .ok (.iload 4, 2) := by decide +kernel
theorem dL_law_319 : decode cL_law 319 = .ok (.iconst 1, 1) := by decide +kernel
theorem dL_law_320 : decode cL_law 320 = .ok (.iadd, 1) := by decide +kernel
theorem dL_law_321 : decode cL_law 321 = .ok (.iaload, 1) := by decide +kernel
theorem dL_law_322 : decode cL_law 322 = .ok (.aload_n 0, 1) := by decide +kernel
theorem dL_law_323 : decode cL_law 323 = .ok (.iload 4, 2) := by decide +kernel
theorem dL_law_325 : decode cL_law 325 = .ok (.iconst 2, 1) := by decide +kernel
theorem dL_law_326 : decode cL_law 326 = .ok (.iadd, 1) := by decide +kernel
theorem dL_law_327 : decode cL_law 327 = .ok (.iaload, 1) := by decide +kernel
theorem dL_law_328 : decode cL_law 328 = .ok (.invokevirtual 39, 3) := by decide +kernel
theorem dL_law_331 : decode cL_law 331 = .ok (.if_icmp .eq 929, 3) := by decide +kernel
theorem dL_law_334 : decode cL_law 334 = .ok (.iconst 0, 1) := by decide +kernel
theorem dL_law_335 : decode cL_law 335 = .ok (.ireturn, 1) := by decide +kernel
theorem dL_law_336 : decode cL_law 336 = .ok (.aload_n 1, 1) := by decide +kernel
theorem dL_law_337 : decode cL_law 337 = .ok (.aload_n 0, 1) := by decide +kernel
theorem dL_law_338 : decode cL_law 338 = .ok (.iload 4, 2) := by decide +kernel
theorem dL_law_340 : decode cL_law 340 = .ok (.iconst 1, 1) := by decide +kernel
theorem dL_law_341 : decode cL_law 341 = .ok (.iadd, 1) := by decide +kernel
theorem dL_law_342 : decode cL_law 342 = .ok (.iaload, 1) := by decide +kernel
theorem dL_law_343 : decode cL_law 343 = .ok (.aload_n 0, 1) := by decide +kernel
theorem dL_law_344 : decode cL_law 344 = .ok (.iload 4, 2) := by decide +kernel
theorem dL_law_346 : decode cL_law 346 = .ok (.iconst 2, 1) := by decide +kernel
theorem dL_law_347 : decode cL_law 347 = .ok (.iadd, 1) := by decide +kernel
theorem dL_law_348 : decode cL_law 348 = .ok (.iaload, 1) := by decide +kernel
theorem dL_law_349 : decode cL_law 349 = .ok (.aload_n 0, 1) := by decide +kernel
theorem dL_law_350 : decode cL_law 350 = .ok (.iload 4, 2) := by decide +kernel
theorem dL_law_352 : decode cL_law 352 = .ok (.iconst 3, 1) := by decide +kernel
theorem dL_law_353 : decode cL_law 353 = .ok (.iadd, 1) := by decide +kernel
theorem dL_law_354 : decode cL_law 354 = .ok (.iaload, 1) := by decide +kernel
theorem dL_law_355 : decode cL_law 355 = .ok (.invokevirtual 40, 3) := by decide +kernel
theorem dL_law_358 : decode cL_law 358 = .ok (.aload_n 2, 1) := by decide +kernel
theorem dL_law_359 : decode cL_law 359 = .ok (.aload_n 0, 1) := by decide +kernel
theorem dL_law_360 : decode cL_law 360 = .ok (.iload 4, 2) := by decide +kernel
theorem dL_law_362 : decode cL_law 362 = .ok (.iconst 1, 1) := by decide +kernel
theorem dL_law_363 : decode cL_law 363 = .ok (.iadd, 1) := by decide +kernel
theorem dL_law_364 : decode cL_law 364 = .ok (.iaload, 1) := by decide +kernel
theorem dL_law_365 : decode cL_law 365 = .ok (.aload_n 0, 1) := by decide +kernel
theorem dL_law_366 : decode cL_law 366 = .ok (.iload 4, 2) := by decide +kernel
theorem dL_law_368 : decode cL_law 368 = .ok (.iconst 2, 1) := by decide +kernel
theorem dL_law_369 : decode cL_law 369 = .ok (.iadd, 1) := by decide +kernel
theorem dL_law_370 : decode cL_law 370 = .ok (.iaload, 1) := by decide +kernel
theorem dL_law_371 : decode cL_law 371 = .ok (.aload_n 0, 1) := by decide +kernel
theorem dL_law_372 : decode cL_law 372 = .ok (.iload 4, 2) := by decide +kernel
theorem dL_law_374 : decode cL_law 374 = .ok (.iconst 3, 1) := by decide +kernel
theorem dL_law_375 : decode cL_law 375 = .ok (.iadd, 1) := by decide +kernel
theorem dL_law_376 : decode cL_law 376 = .ok (.iaload, 1) := by decide +kernel
theorem dL_law_377 : decode cL_law 377 = .ok (.invokevirtual 44, 3) := by decide +kernel
theorem dL_law_380 : decode cL_law 380 = .ok (.if_icmp .eq 880, 3) := by decide +kernel
theorem dL_law_383 : decode cL_law 383 = .ok (.iconst 0, 1) := by decide +kernel
theorem dL_law_384 : decode cL_law 384 = .ok (.ireturn, 1) := by decide +kernel
theorem dL_law_385 : decode cL_law 385 = .ok (.aload_n 1, 1) := by decide +kernel
theorem dL_law_386 : decode cL_law 386 = .ok (.aload_n 0, 1) := by decide +kernel
theorem dL_law_387 : decode cL_law 387 = .ok (.iload 4, 2) := by decide +kernel
theorem dL_law_389 : decode cL_law 389 = .ok (.iconst 1, 1) := by decide +kernel
theorem dL_law_390 : decode cL_law 390 = .ok (.iadd, 1) := by decide +kernel
theorem dL_law_391 : decode cL_law 391 = .ok (.iaload, 1) := by decide +kernel
theorem dL_law_392 : decode cL_law 392 = .ok (.aload_n 0, 1) := by decide +kernel
theorem dL_law_393 : decode cL_law 393 = .ok (.iload 4, 2) := by decide +kernel
theorem dL_law_395 : decode cL_law 395 = .ok (.iconst 2, 1) := by decide +kernel
theorem dL_law_396 : decode cL_law 396 = .ok (.iadd, 1) := by decide +kernel
theorem dL_law_397 : decode cL_law 397 = .ok (.iaload, 1) := by decide +kernel
theorem dL_law_398 : decode cL_law 398 = .ok (.ifCond .eq 7, 3) := by decide +kernel
theorem dL_law_401 : decode cL_law 401 = .ok (.iconst 1, 1) := by decide +kernel
theorem dL_law_402 : decode cL_law 402 = .ok (.goto 4, 3) := by decide +kernel
theorem dL_law_405 : decode cL_law 405 = .ok (.iconst 0, 1) := by decide +kernel
theorem dL_law_406 : decode cL_law 406 = .ok (.invokevirtual 45, 3) := by decide +kernel
theorem dL_law_409 : decode cL_law 409 = .ok (.aload_n 2, 1) := by decide +kernel
theorem dL_law_410 : decode cL_law 410 = .ok (.aload_n 0, 1) := by decide +kernel
theorem dL_law_411 : decode cL_law 411 = .ok (.iload 4, 2) := by decide +kernel
theorem dL_law_413 : decode cL_law 413 = .ok (.iconst 1, 1) := by decide +kernel
theorem dL_law_414 : decode cL_law 414 = .ok (.iadd, 1) := by decide +kernel
theorem dL_law_415 : decode cL_law 415 = .ok (.iaload, 1) := by decide +kernel
theorem dL_law_416 : decode cL_law 416 = .ok (.aload_n 0, 1) := by decide +kernel
theorem dL_law_417 : decode cL_law 417 = .ok (.iload 4, 2) := by decide +kernel
theorem dL_law_419 : decode cL_law 419 = .ok (.iconst 2, 1) := by decide +kernel
theorem dL_law_420 : decode cL_law 420 = .ok (.iadd, 1) := by decide +kernel
theorem dL_law_421 : decode cL_law 421 = .ok (.iaload, 1) := by decide +kernel
theorem dL_law_422 : decode cL_law 422 = .ok (.ifCond .eq 7, 3) := by decide +kernel
theorem dL_law_425 : decode cL_law 425 = .ok (.iconst 1, 1) := by decide +kernel
theorem dL_law_426 : decode cL_law 426 = .ok (.goto 4, 3) := by decide +kernel
theorem dL_law_429 : decode cL_law 429 = .ok (.iconst 0, 1) := by decide +kernel
theorem dL_law_430 : decode cL_law 430 = .ok (.invokevirtual 49, 3) := by decide +kernel
theorem dL_law_433 : decode cL_law 433 = .ok (.if_icmp .eq 827, 3) := by decide +kernel
theorem dL_law_436 : decode cL_law 436 = .ok (.iconst 0, 1) := by decide +kernel
theorem dL_law_437 : decode cL_law 437 = .ok (.ireturn, 1) := by decide +kernel
theorem dL_law_438 : decode cL_law 438 = .ok (.aload_n 1, 1) := by decide +kernel
theorem dL_law_439 : decode cL_law 439 = .ok (.aload_n 0, 1) := by decide +kernel
theorem dL_law_440 : decode cL_law 440 = .ok (.iload 4, 2) := by decide +kernel
theorem dL_law_442 : decode cL_law 442 = .ok (.iconst 1, 1) := by decide +kernel
theorem dL_law_443 : decode cL_law 443 = .ok (.iadd, 1) := by decide +kernel
theorem dL_law_444 : decode cL_law 444 = .ok (.iaload, 1) := by decide +kernel
theorem dL_law_445 : decode cL_law 445 = .ok (.aload_n 0, 1) := by decide +kernel
theorem dL_law_446 : decode cL_law 446 = .ok (.iload 4, 2) := by decide +kernel
theorem dL_law_448 : decode cL_law 448 = .ok (.iconst 2, 1) := by decide +kernel
theorem dL_law_449 : decode cL_law 449 = .ok (.iadd, 1) := by decide +kernel
theorem dL_law_450 : decode cL_law 450 = .ok (.iaload, 1) := by decide +kernel
theorem dL_law_451 : decode cL_law 451 = .ok (.aload_n 0, 1) := by decide +kernel
theorem dL_law_452 : decode cL_law 452 = .ok (.iload 4, 2) := by decide +kernel
theorem dL_law_454 : decode cL_law 454 = .ok (.iconst 3, 1) := by decide +kernel
theorem dL_law_455 : decode cL_law 455 = .ok (.iadd, 1) := by decide +kernel
theorem dL_law_456 : decode cL_law 456 = .ok (.iaload, 1) := by decide +kernel
theorem dL_law_457 : decode cL_law 457 = .ok (.invokevirtual 50, 3) := by decide +kernel
theorem dL_law_460 : decode cL_law 460 = .ok (.aload_n 2, 1) := by decide +kernel
theorem dL_law_461 : decode cL_law 461 = .ok (.aload_n 0, 1) := by decide +kernel
theorem dL_law_462 : decode cL_law 462 = .ok (.iload 4, 2) := by decide +kernel
theorem dL_law_464 : decode cL_law 464 = .ok (.iconst 1, 1) := by decide +kernel
theorem dL_law_465 : decode cL_law 465 = .ok (.iadd, 1) := by decide +kernel
theorem dL_law_466 : decode cL_law 466 = .ok (.iaload, 1) := by decide +kernel
theorem dL_law_467 : decode cL_law 467 = .ok (.aload_n 0, 1) := by decide +kernel
theorem dL_law_468 : decode cL_law 468 = .ok (.iload 4, 2) := by decide +kernel
theorem dL_law_470 : decode cL_law 470 = .ok (.iconst 2, 1) := by decide +kernel
theorem dL_law_471 : decode cL_law 471 = .ok (.iadd, 1) := by decide +kernel
theorem dL_law_472 : decode cL_law 472 = .ok (.iaload, 1) := by decide +kernel
theorem dL_law_473 : decode cL_law 473 = .ok (.aload_n 0, 1) := by decide +kernel
theorem dL_law_474 : decode cL_law 474 = .ok (.iload 4, 2) := by decide +kernel
theorem dL_law_476 : decode cL_law 476 = .ok (.iconst 3, 1) := by decide +kernel
theorem dL_law_477 : decode cL_law 477 = .ok (.iadd, 1) := by decide +kernel
theorem dL_law_478 : decode cL_law 478 = .ok (.iaload, 1) := by decide +kernel
theorem dL_law_479 : decode cL_law 479 = .ok (.invokevirtual 53, 3) := by decide +kernel
theorem dL_law_482 : decode cL_law 482 = .ok (.if_icmp .eq 778, 3) := by decide +kernel
theorem dL_law_485 : decode cL_law 485 = .ok (.iconst 0, 1) := by decide +kernel
theorem dL_law_486 : decode cL_law 486 = .ok (.ireturn, 1) := by decide +kernel
theorem dL_law_487 : decode cL_law 487 = .ok (.aload_n 1, 1) := by decide +kernel
theorem dL_law_488 : decode cL_law 488 = .ok (.invokevirtual 54, 3) := by decide +kernel
theorem dL_law_491 : decode cL_law 491 = .ok (.aload_n 2, 1) := by decide +kernel
theorem dL_law_492 : decode cL_law 492 = .ok (.invokevirtual 58, 3) := by decide +kernel
theorem dL_law_495 : decode cL_law 495 = .ok (.if_icmp .eq 765, 3) := by decide +kernel
theorem dL_law_498 : decode cL_law 498 = .ok (.iconst 0, 1) := by decide +kernel
theorem dL_law_499 : decode cL_law 499 = .ok (.ireturn, 1) := by decide +kernel
theorem dL_law_500 : decode cL_law 500 = .ok (.aload_n 1, 1) := by decide +kernel
theorem dL_law_501 : decode cL_law 501 = .ok (.aload_n 0, 1) := by decide +kernel
theorem dL_law_502 : decode cL_law 502 = .ok (.iload 4, 2) := by decide +kernel
theorem dL_law_504 : decode cL_law 504 = .ok (.iconst 1, 1) := by decide +kernel
theorem dL_law_505 : decode cL_law 505 = .ok (.iadd, 1) := by decide +kernel
theorem dL_law_506 : decode cL_law 506 = .ok (.iaload, 1) := by decide +kernel
theorem dL_law_507 : decode cL_law 507 = .ok (.aload_n 0, 1) := by decide +kernel
theorem dL_law_508 : decode cL_law 508 = .ok (.iload 4, 2) := by decide +kernel
theorem dL_law_510 : decode cL_law 510 = .ok (.iconst 2, 1) := by decide +kernel
theorem dL_law_511 : decode cL_law 511 = .ok (.iadd, 1) := by decide +kernel
theorem dL_law_512 : decode cL_law 512 = .ok (.iaload, 1) := by decide +kernel
theorem dL_law_513 : decode cL_law 513 = .ok (.aload_n 0, 1) := by decide +kernel
theorem dL_law_514 : decode cL_law 514 = .ok (.iload 4, 2) := by decide +kernel
theorem dL_law_516 : decode cL_law 516 = .ok (.iconst 3, 1) := by decide +kernel
theorem dL_law_517 : decode cL_law 517 = .ok (.iadd, 1) := by decide +kernel
theorem dL_law_518 : decode cL_law 518 = .ok (.iaload, 1) := by decide +kernel
theorem dL_law_519 : decode cL_law 519 = .ok (.invokevirtual 59, 3) := by decide +kernel
theorem dL_law_522 : decode cL_law 522 = .ok (.aload_n 2, 1) := by decide +kernel
theorem dL_law_523 : decode cL_law 523 = .ok (.aload_n 0, 1) := by decide +kernel
theorem dL_law_524 : decode cL_law 524 = .ok (.iload 4, 2) := by decide +kernel
theorem dL_law_526 : decode cL_law 526 = .ok (.iconst 1, 1) := by decide +kernel
theorem dL_law_527 : decode cL_law 527 = .ok (.iadd, 1) := by decide +kernel
theorem dL_law_528 : decode cL_law 528 = .ok (.iaload, 1) := by decide +kernel
theorem dL_law_529 : decode cL_law 529 = .ok (.aload_n 0, 1) := by decide +kernel
theorem dL_law_530 : decode cL_law 530 = .ok (.iload 4, 2) := by decide +kernel
theorem dL_law_532 : decode cL_law 532 = .ok (.iconst 2, 1) := by decide +kernel
theorem dL_law_533 : decode cL_law 533 = .ok (.iadd, 1) := by decide +kernel
theorem dL_law_534 : decode cL_law 534 = .ok (.iaload, 1) := by decide +kernel
theorem dL_law_535 : decode cL_law 535 = .ok (.aload_n 0, 1) := by decide +kernel
theorem dL_law_536 : decode cL_law 536 = .ok (.iload 4, 2) := by decide +kernel
theorem dL_law_538 : decode cL_law 538 = .ok (.iconst 3, 1) := by decide +kernel
theorem dL_law_539 : decode cL_law 539 = .ok (.iadd, 1) := by decide +kernel
theorem dL_law_540 : decode cL_law 540 = .ok (.iaload, 1) := by decide +kernel
theorem dL_law_541 : decode cL_law 541 = .ok (.invokevirtual 62, 3) := by decide +kernel
theorem dL_law_544 : decode cL_law 544 = .ok (.if_icmp .eq 716, 3) := by decide +kernel
theorem dL_law_547 : decode cL_law 547 = .ok (.iconst 0, 1) := by decide +kernel
theorem dL_law_548 : decode cL_law 548 = .ok (.ireturn, 1) := by decide +kernel
theorem dL_law_549 : decode cL_law 549 = .ok (.aload_n 1, 1) := by decide +kernel
theorem dL_law_550 : decode cL_law 550 = .ok (.aload_n 0, 1) := by decide +kernel
theorem dL_law_551 : decode cL_law 551 = .ok (.iload 4, 2) := by decide +kernel
theorem dL_law_553 : decode cL_law 553 = .ok (.iconst 1, 1) := by decide +kernel
theorem dL_law_554 : decode cL_law 554 = .ok (.iadd, 1) := by decide +kernel
theorem dL_law_555 : decode cL_law 555 = .ok (.iaload, 1) := by decide +kernel
theorem dL_law_556 : decode cL_law 556 = .ok (.invokevirtual 63, 3) := by decide +kernel
theorem dL_law_559 : decode cL_law 559 = .ok (.aload_n 2, 1) := by decide +kernel
theorem dL_law_560 : decode cL_law 560 = .ok (.aload_n 0, 1) := by decide +kernel
theorem dL_law_561 : decode cL_law 561 = .ok (.iload 4, 2) := by decide +kernel
theorem dL_law_563 : decode cL_law 563 = .ok (.iconst 1, 1) := by decide +kernel
theorem dL_law_564 : decode cL_law 564 = .ok (.iadd, 1) := by decide +kernel
theorem dL_law_565 : decode cL_law 565 = .ok (.iaload, 1) := by decide +kernel
theorem dL_law_566 : decode cL_law 566 = .ok (.invokevirtual 66, 3) := by decide +kernel
theorem dL_law_569 : decode cL_law 569 = .ok (.if_icmp .eq 691, 3) := by decide +kernel
theorem dL_law_572 : decode cL_law 572 = .ok (.iconst 0, 1) := by decide +kernel
theorem dL_law_573 : decode cL_law 573 = .ok (.ireturn, 1) := by decide +kernel
theorem dL_law_574 : decode cL_law 574 = .ok (.aload_n 1, 1) := by decide +kernel
theorem dL_law_575 : decode cL_law 575 = .ok (.aload_n 0, 1) := by decide +kernel
theorem dL_law_576 : decode cL_law 576 = .ok (.iload 4, 2) := by decide +kernel
theorem dL_law_578 : decode cL_law 578 = .ok (.iconst 1, 1) := by decide +kernel
theorem dL_law_579 : decode cL_law 579 = .ok (.iadd, 1) := by decide +kernel
theorem dL_law_580 : decode cL_law 580 = .ok (.iaload, 1) := by decide +kernel
theorem dL_law_581 : decode cL_law 581 = .ok (.invokevirtual 67, 3) := by decide +kernel
theorem dL_law_584 : decode cL_law 584 = .ok (.aload_n 2, 1) := by decide +kernel
theorem dL_law_585 : decode cL_law 585 = .ok (.aload_n 0, 1) := by decide +kernel
theorem dL_law_586 : decode cL_law 586 = .ok (.iload 4, 2) := by decide +kernel
theorem dL_law_588 : decode cL_law 588 = .ok (.iconst 1, 1) := by decide +kernel
theorem dL_law_589 : decode cL_law 589 = .ok (.iadd, 1) := by decide +kernel
theorem dL_law_590 : decode cL_law 590 = .ok (.iaload, 1) := by decide +kernel
theorem dL_law_591 : decode cL_law 591 = .ok (.invokevirtual 70, 3) := by decide +kernel
theorem dL_law_594 : decode cL_law 594 = .ok (.if_icmp .eq 666, 3) := by decide +kernel
theorem dL_law_597 : decode cL_law 597 = .ok (.iconst 0, 1) := by decide +kernel
theorem dL_law_598 : decode cL_law 598 = .ok (.ireturn, 1) := by decide +kernel
theorem dL_law_599 : decode cL_law 599 = .ok (.aload_n 1, 1) := by decide +kernel
theorem dL_law_600 : decode cL_law 600 = .ok (.aload_n 0, 1) := by decide +kernel
theorem dL_law_601 : decode cL_law 601 = .ok (.iload 4, 2) := by decide +kernel
theorem dL_law_603 : decode cL_law 603 = .ok (.iconst 1, 1) := by decide +kernel
theorem dL_law_604 : decode cL_law 604 = .ok (.iadd, 1) := by decide +kernel
theorem dL_law_605 : decode cL_law 605 = .ok (.iaload, 1) := by decide +kernel
theorem dL_law_606 : decode cL_law 606 = .ok (.aload_n 0, 1) := by decide +kernel
theorem dL_law_607 : decode cL_law 607 = .ok (.iload 4, 2) := by decide +kernel
theorem dL_law_609 : decode cL_law 609 = .ok (.iconst 2, 1) := by decide +kernel
theorem dL_law_610 : decode cL_law 610 = .ok (.iadd, 1) := by decide +kernel
theorem dL_law_611 : decode cL_law 611 = .ok (.iaload, 1) := by decide +kernel
theorem dL_law_612 : decode cL_law 612 = .ok (.invokevirtual 71, 3) := by decide +kernel
theorem dL_law_615 : decode cL_law 615 = .ok (.aload_n 2, 1) := by decide +kernel
theorem dL_law_616 : decode cL_law 616 = .ok (.aload_n 0, 1) := by decide +kernel
theorem dL_law_617 : decode cL_law 617 = .ok (.iload 4, 2) := by decide +kernel
theorem dL_law_619 : decode cL_law 619 = .ok (.iconst 1, 1) := by decide +kernel
theorem dL_law_620 : decode cL_law 620 = .ok (.iadd, 1) := by decide +kernel
theorem dL_law_621 : decode cL_law 621 = .ok (.iaload, 1) := by decide +kernel
theorem dL_law_622 : decode cL_law 622 = .ok (.aload_n 0, 1) := by decide +kernel
theorem dL_law_623 : decode cL_law 623 = .ok (.iload 4, 2) := by decide +kernel
theorem dL_law_625 : decode cL_law 625 = .ok (.iconst 2, 1) := by decide +kernel
theorem dL_law_626 : decode cL_law 626 = .ok (.iadd, 1) := by decide +kernel
theorem dL_law_627 : decode cL_law 627 = .ok (.iaload, 1) := by decide +kernel
theorem dL_law_628 : decode cL_law 628 = .ok (.invokevirtual 74, 3) := by decide +kernel
theorem dL_law_631 : decode cL_law 631 = .ok (.if_icmp .eq 629, 3) := by decide +kernel
theorem dL_law_634 : decode cL_law 634 = .ok (.iconst 0, 1) := by decide +kernel
theorem dL_law_635 : decode cL_law 635 = .ok (.ireturn, 1) := by decide +kernel
theorem dL_law_636 : decode cL_law 636 = .ok (.aload_n 1, 1) := by decide +kernel
theorem dL_law_637 : decode cL_law 637 = .ok (.aload_n 0, 1) := by decide +kernel
theorem dL_law_638 : decode cL_law 638 = .ok (.iload 4, 2) := by decide +kernel
theorem dL_law_640 : decode cL_law 640 = .ok (.iconst 1, 1) := by decide +kernel
theorem dL_law_641 : decode cL_law 641 = .ok (.iadd, 1) := by decide +kernel
theorem dL_law_642 : decode cL_law 642 = .ok (.iaload, 1) := by decide +kernel
theorem dL_law_643 : decode cL_law 643 = .ok (.invokevirtual 75, 3) := by decide +kernel
theorem dL_law_646 : decode cL_law 646 = .ok (.aload_n 2, 1) := by decide +kernel
theorem dL_law_647 : decode cL_law 647 = .ok (.aload_n 0, 1) := by decide +kernel
theorem dL_law_648 : decode cL_law 648 = .ok (.iload 4, 2) := by decide +kernel
theorem dL_law_650 : decode cL_law 650 = .ok (.iconst 1, 1) := by decide +kernel
theorem dL_law_651 : decode cL_law 651 = .ok (.iadd, 1) := by decide +kernel
theorem dL_law_652 : decode cL_law 652 = .ok (.iaload, 1) := by decide +kernel
theorem dL_law_653 : decode cL_law 653 = .ok (.invokevirtual 78, 3) := by decide +kernel
theorem dL_law_656 : decode cL_law 656 = .ok (.if_icmp .eq 604, 3) := by decide +kernel
theorem dL_law_659 : decode cL_law 659 = .ok (.iconst 0, 1) := by decide +kernel
theorem dL_law_660 : decode cL_law 660 = .ok (.ireturn, 1) := by decide +kernel
end
section
theorem dL_law_661 : decode cL_law 661 = .ok (.aload_n 1, 1) := by decide +kernel
theorem dL_law_662 : decode cL_law 662 = .ok (.invokevirtual 79, 3) := by decide +kernel
theorem dL_law_665 : decode cL_law 665 = .ok (.aload_n 2, 1) := by decide +kernel
theorem dL_law_666 : decode cL_law 666 = .ok (.invokevirtual 82, 3) := by decide +kernel
theorem dL_law_669 : decode cL_law 669 = .ok (.if_icmp .eq 591, 3) := by decide +kernel
theorem dL_law_672 : decode cL_law 672 = .ok (.iconst 0, 1) := by decide +kernel
theorem dL_law_673 : decode cL_law 673 = .ok (.ireturn, 1) := by decide +kernel
theorem dL_law_674 : decode cL_law 674 = .ok (.aload_n 1, 1) := by decide +kernel
theorem dL_law_675 : decode cL_law 675 = .ok (.aload_n 0, 1) := by decide +kernel
theorem dL_law_676 : decode cL_law 676 = .ok (.iload 4, 2) := by decide +kernel
theorem dL_law_678 : decode cL_law 678 = .ok (.iconst 1, 1) := by decide +kernel
theorem dL_law_679 : decode cL_law 679 = .ok (.iadd, 1) := by decide +kernel
theorem dL_law_680 : decode cL_law 680 = .ok (.iaload, 1) := by decide +kernel
theorem dL_law_681 : decode cL_law 681 = .ok (.aload_n 0, 1) := by decide +kernel
theorem dL_law_682 : decode cL_law 682 = .ok (.iload 4, 2) := by decide +kernel
theorem dL_law_684 : decode cL_law 684 = .ok (.iconst 2, 1) := by decide +kernel
theorem dL_law_685 : decode cL_law 685 = .ok (.iadd, 1) := by decide +kernel
theorem dL_law_686 : decode cL_law 686 = .ok (.iaload, 1) := by decide +kernel
theorem dL_law_687 : decode cL_law 687 = .ok (.invokevirtual 83, 3) := by decide +kernel
theorem dL_law_690 : decode cL_law 690 = .ok (.aload_n 2, 1) := by decide +kernel
theorem dL_law_691 : decode cL_law 691 = .ok (.aload_n 0, 1) := by decide +kernel
theorem dL_law_692 : decode cL_law 692 = .ok (.iload 4, 2) := by decide +kernel
theorem dL_law_694 : decode cL_law 694 = .ok (.iconst 1, 1) := by decide +kernel
theorem dL_law_695 : decode cL_law 695 = .ok (.iadd, 1) := by decide +kernel
theorem dL_law_696 : decode cL_law 696 = .ok (.iaload, 1) := by decide +kernel
theorem dL_law_697 : decode cL_law 697 = .ok (.aload_n 0, 1) := by decide +kernel
theorem dL_law_698 : decode cL_law 698 = .ok (.iload 4, 2) := by decide +kernel
theorem dL_law_700 : decode cL_law 700 = .ok (.iconst 2, 1) := by decide +kernel
theorem dL_law_701 : decode cL_law 701 = .ok (.iadd, 1) := by decide +kernel
theorem dL_law_702 : decode cL_law 702 = .ok (.iaload, 1) := by decide +kernel
theorem dL_law_703 : decode cL_law 703 = .ok (.invokevirtual 86, 3) := by decide +kernel
theorem dL_law_706 : decode cL_law 706 = .ok (.if_icmp .eq 554, 3) := by decide +kernel
theorem dL_law_709 : decode cL_law 709 = .ok (.iconst 0, 1) := by decide +kernel
theorem dL_law_710 : decode cL_law 710 = .ok (.ireturn, 1) := by decide +kernel
theorem dL_law_711 : decode cL_law 711 = .ok (.aload_n 1, 1) := by decide +kernel
theorem dL_law_712 : decode cL_law 712 = .ok (.aload_n 0, 1) := by decide +kernel
theorem dL_law_713 : decode cL_law 713 = .ok (.iload 4, 2) := by decide +kernel
theorem dL_law_715 : decode cL_law 715 = .ok (.iconst 1, 1) := by decide +kernel
theorem dL_law_716 : decode cL_law 716 = .ok (.iadd, 1) := by decide +kernel
theorem dL_law_717 : decode cL_law 717 = .ok (.iaload, 1) := by decide +kernel
theorem dL_law_718 : decode cL_law 718 = .ok (.aload_n 0, 1) := by decide +kernel
theorem dL_law_719 : decode cL_law 719 = .ok (.iload 4, 2) := by decide +kernel
theorem dL_law_721 : decode cL_law 721 = .ok (.iconst 2, 1) := by decide +kernel
theorem dL_law_722 : decode cL_law 722 = .ok (.iadd, 1) := by decide +kernel
theorem dL_law_723 : decode cL_law 723 = .ok (.iaload, 1) := by decide +kernel
theorem dL_law_724 : decode cL_law 724 = .ok (.invokevirtual 87, 3) := by decide +kernel
theorem dL_law_727 : decode cL_law 727 = .ok (.aload_n 2, 1) := by decide +kernel
theorem dL_law_728 : decode cL_law 728 = .ok (.aload_n 0, 1) := by decide +kernel
theorem dL_law_729 : decode cL_law 729 = .ok (.iload 4, 2) := by decide +kernel
theorem dL_law_731 : decode cL_law 731 = .ok (.iconst 1, 1) := by decide +kernel
theorem dL_law_732 : decode cL_law 732 = .ok (.iadd, 1) := by decide +kernel
theorem dL_law_733 : decode cL_law 733 = .ok (.iaload, 1) := by decide +kernel
theorem dL_law_734 : decode cL_law 734 = .ok (.aload_n 0, 1) := by decide +kernel
theorem dL_law_735 : decode cL_law 735 = .ok (.iload 4, 2) := by decide +kernel
theorem dL_law_737 : decode cL_law 737 = .ok (.iconst 2, 1) := by decide +kernel
theorem dL_law_738 : decode cL_law 738 = .ok (.iadd, 1) := by decide +kernel
theorem dL_law_739 : decode cL_law 739 = .ok (.iaload, 1) := by decide +kernel
theorem dL_law_740 : decode cL_law 740 = .ok (.invokevirtual 90, 3) := by decide +kernel
theorem dL_law_743 : decode cL_law 743 = .ok (.if_icmp .eq 517, 3) := by decide +kernel
theorem dL_law_746 : decode cL_law 746 = .ok (.iconst 0, 1) := by decide +kernel
theorem dL_law_747 : decode cL_law 747 = .ok (.ireturn, 1) := by decide +kernel
theorem dL_law_748 : decode cL_law 748 = .ok (.aload_n 1, 1) := by decide +kernel
theorem dL_law_749 : decode cL_law 749 = .ok (.aload_n 0, 1) := by decide +kernel
theorem dL_law_750 : decode cL_law 750 = .ok (.iload 4, 2) := by decide +kernel
theorem dL_law_752 : decode cL_law 752 = .ok (.iconst 1, 1) := by decide +kernel
theorem dL_law_753 : decode cL_law 753 = .ok (.iadd, 1) := by decide +kernel
theorem dL_law_754 : decode cL_law 754 = .ok (.iaload, 1) := by decide +kernel
theorem dL_law_755 : decode cL_law 755 = .ok (.aload_n 0, 1) := by decide +kernel
theorem dL_law_756 : decode cL_law 756 = .ok (.iload 4, 2) := by decide +kernel
theorem dL_law_758 : decode cL_law 758 = .ok (.iconst 2, 1) := by decide +kernel
theorem dL_law_759 : decode cL_law 759 = .ok (.iadd, 1) := by decide +kernel
theorem dL_law_760 : decode cL_law 760 = .ok (.iaload, 1) := by decide +kernel
theorem dL_law_761 : decode cL_law 761 = .ok (.invokevirtual 91, 3) := by decide +kernel
theorem dL_law_764 : decode cL_law 764 = .ok (.aload_n 2, 1) := by decide +kernel
theorem dL_law_765 : decode cL_law 765 = .ok (.aload_n 0, 1) := by decide +kernel
theorem dL_law_766 : decode cL_law 766 = .ok (.iload 4, 2) := by decide +kernel
theorem dL_law_768 : decode cL_law 768 = .ok (.iconst 1, 1) := by decide +kernel
theorem dL_law_769 : decode cL_law 769 = .ok (.iadd, 1) := by decide +kernel
theorem dL_law_770 : decode cL_law 770 = .ok (.iaload, 1) := by decide +kernel
theorem dL_law_771 : decode cL_law 771 = .ok (.aload_n 0, 1) := by decide +kernel
theorem dL_law_772 : decode cL_law 772 = .ok (.iload 4, 2) := by decide +kernel
theorem dL_law_774 : decode cL_law 774 = .ok (.iconst 2, 1) := by decide +kernel
theorem dL_law_775 : decode cL_law 775 = .ok (.iadd, 1) := by decide +kernel
theorem dL_law_776 : decode cL_law 776 = .ok (.iaload, 1) := by decide +kernel
theorem dL_law_777 : decode cL_law 777 = .ok (.invokevirtual 94, 3) := by decide +kernel
theorem dL_law_780 : decode cL_law 780 = .ok (.if_icmp .eq 480, 3) := by decide +kernel
theorem dL_law_783 : decode cL_law 783 = .ok (.iconst 0, 1) := by decide +kernel
theorem dL_law_784 : decode cL_law 784 = .ok (.ireturn, 1) := by decide +kernel
theorem dL_law_785 : decode cL_law 785 = .ok (.aload_n 1, 1) := by decide +kernel
theorem dL_law_786 : decode cL_law 786 = .ok (.aload_n 0, 1) := by decide +kernel
theorem dL_law_787 : decode cL_law 787 = .ok (.iload 4, 2) := by decide +kernel
theorem dL_law_789 : decode cL_law 789 = .ok (.iconst 1, 1) := by decide +kernel
theorem dL_law_790 : decode cL_law 790 = .ok (.iadd, 1) := by decide +kernel
theorem dL_law_791 : decode cL_law 791 = .ok (.iaload, 1) := by decide +kernel
theorem dL_law_792 : decode cL_law 792 = .ok (.invokevirtual 95, 3) := by decide +kernel
theorem dL_law_795 : decode cL_law 795 = .ok (.aload_n 2, 1) := by decide +kernel
theorem dL_law_796 : decode cL_law 796 = .ok (.aload_n 0, 1) := by decide +kernel
theorem dL_law_797 : decode cL_law 797 = .ok (.iload 4, 2) := by decide +kernel
theorem dL_law_799 : decode cL_law 799 = .ok (.iconst 1, 1) := by decide +kernel
theorem dL_law_800 : decode cL_law 800 = .ok (.iadd, 1) := by decide +kernel
theorem dL_law_801 : decode cL_law 801 = .ok (.iaload, 1) := by decide +kernel
theorem dL_law_802 : decode cL_law 802 = .ok (.invokevirtual 98, 3) := by decide +kernel
theorem dL_law_805 : decode cL_law 805 = .ok (.if_icmp .eq 455, 3) := by decide +kernel
theorem dL_law_808 : decode cL_law 808 = .ok (.iconst 0, 1) := by decide +kernel
theorem dL_law_809 : decode cL_law 809 = .ok (.ireturn, 1) := by decide +kernel
theorem dL_law_810 : decode cL_law 810 = .ok (.aload_n 1, 1) := by decide +kernel
theorem dL_law_811 : decode cL_law 811 = .ok (.aload_n 0, 1) := by decide +kernel
theorem dL_law_812 : decode cL_law 812 = .ok (.iload 4, 2) := by decide +kernel
theorem dL_law_814 : decode cL_law 814 = .ok (.iconst 1, 1) := by decide +kernel
theorem dL_law_815 : decode cL_law 815 = .ok (.iadd, 1) := by decide +kernel
theorem dL_law_816 : decode cL_law 816 = .ok (.iaload, 1) := by decide +kernel
theorem dL_law_817 : decode cL_law 817 = .ok (.invokevirtual 99, 3) := by decide +kernel
theorem dL_law_820 : decode cL_law 820 = .ok (.aload_n 2, 1) := by decide +kernel
theorem dL_law_821 : decode cL_law 821 = .ok (.aload_n 0, 1) := by decide +kernel
theorem dL_law_822 : decode cL_law 822 = .ok (.iload 4, 2) := by decide +kernel
theorem dL_law_824 : decode cL_law 824 = .ok (.iconst 1, 1) := by decide +kernel
theorem dL_law_825 : decode cL_law 825 = .ok (.iadd, 1) := by decide +kernel
theorem dL_law_826 : decode cL_law 826 = .ok (.iaload, 1) := by decide +kernel
theorem dL_law_827 : decode cL_law 827 = .ok (.invokevirtual 102, 3) := by decide +kernel
theorem dL_law_830 : decode cL_law 830 = .ok (.if_icmp .eq 430, 3) := by decide +kernel
theorem dL_law_833 : decode cL_law 833 = .ok (.iconst 0, 1) := by decide +kernel
theorem dL_law_834 : decode cL_law 834 = .ok (.ireturn, 1) := by decide +kernel
theorem dL_law_835 : decode cL_law 835 = .ok (.aload_n 1, 1) := by decide +kernel
theorem dL_law_836 : decode cL_law 836 = .ok (.invokevirtual 103, 3) := by decide +kernel
theorem dL_law_839 : decode cL_law 839 = .ok (.aload_n 2, 1) := by decide +kernel
theorem dL_law_840 : decode cL_law 840 = .ok (.invokevirtual 106, 3) := by decide +kernel
theorem dL_law_843 : decode cL_law 843 = .ok (.if_icmp .eq 417, 3) := by decide +kernel
theorem dL_law_846 : decode cL_law 846 = .ok (.iconst 0, 1) := by decide +kernel
theorem dL_law_847 : decode cL_law 847 = .ok (.ireturn, 1) := by decide +kernel
theorem dL_law_848 : decode cL_law 848 = .ok (.aload_n 1, 1) := by decide +kernel
theorem dL_law_849 : decode cL_law 849 = .ok (.aload_n 0, 1) := by decide +kernel
theorem dL_law_850 : decode cL_law 850 = .ok (.iload 4, 2) := by decide +kernel
theorem dL_law_852 : decode cL_law 852 = .ok (.iconst 1, 1) := by decide +kernel
theorem dL_law_853 : decode cL_law 853 = .ok (.iadd, 1) := by decide +kernel
theorem dL_law_854 : decode cL_law 854 = .ok (.iaload, 1) := by decide +kernel
theorem dL_law_855 : decode cL_law 855 = .ok (.aload_n 0, 1) := by decide +kernel
theorem dL_law_856 : decode cL_law 856 = .ok (.iload 4, 2) := by decide +kernel
theorem dL_law_858 : decode cL_law 858 = .ok (.iconst 2, 1) := by decide +kernel
theorem dL_law_859 : decode cL_law 859 = .ok (.iadd, 1) := by decide +kernel
theorem dL_law_860 : decode cL_law 860 = .ok (.iaload, 1) := by decide +kernel
theorem dL_law_861 : decode cL_law 861 = .ok (.invokevirtual 107, 3) := by decide +kernel
theorem dL_law_864 : decode cL_law 864 = .ok (.aload_n 2, 1) := by decide +kernel
theorem dL_law_865 : decode cL_law 865 = .ok (.aload_n 0, 1) := by decide +kernel
theorem dL_law_866 : decode cL_law 866 = .ok (.iload 4, 2) := by decide +kernel
theorem dL_law_868 : decode cL_law 868 = .ok (.iconst 1, 1) := by decide +kernel
theorem dL_law_869 : decode cL_law 869 = .ok (.iadd, 1) := by decide +kernel
theorem dL_law_870 : decode cL_law 870 = .ok (.iaload, 1) := by decide +kernel
theorem dL_law_871 : decode cL_law 871 = .ok (.aload_n 0, 1) := by decide +kernel
theorem dL_law_872 : decode cL_law 872 = .ok (.iload 4, 2) := by decide +kernel
theorem dL_law_874 : decode cL_law 874 = .ok (.iconst 2, 1) := by decide +kernel
theorem dL_law_875 : decode cL_law 875 = .ok (.iadd, 1) := by decide +kernel
theorem dL_law_876 : decode cL_law 876 = .ok (.iaload, 1) := by decide +kernel
theorem dL_law_877 : decode cL_law 877 = .ok (.invokevirtual 110, 3) := by decide +kernel
theorem dL_law_880 : decode cL_law 880 = .ok (.if_icmp .eq 380, 3) := by decide +kernel
theorem dL_law_883 : decode cL_law 883 = .ok (.iconst 0, 1) := by decide +kernel
theorem dL_law_884 : decode cL_law 884 = .ok (.ireturn, 1) := by decide +kernel
theorem dL_law_885 : decode cL_law 885 = .ok (.aload_n 1, 1) := by decide +kernel
theorem dL_law_886 : decode cL_law 886 = .ok (.aload_n 0, 1) := by decide +kernel
theorem dL_law_887 : decode cL_law 887 = .ok (.iload 4, 2) := by decide +kernel
theorem dL_law_889 : decode cL_law 889 = .ok (.iconst 1, 1) := by decide +kernel
theorem dL_law_890 : decode cL_law 890 = .ok (.iadd, 1) := by decide +kernel
theorem dL_law_891 : decode cL_law 891 = .ok (.iaload, 1) := by decide +kernel
theorem dL_law_892 : decode cL_law 892 = .ok (.invokevirtual 111, 3) := by decide +kernel
theorem dL_law_895 : decode cL_law 895 = .ok (.aload_n 2, 1) := by decide +kernel
theorem dL_law_896 : decode cL_law 896 = .ok (.aload_n 0, 1) := by decide +kernel
theorem dL_law_897 : decode cL_law 897 = .ok (.iload 4, 2) := by decide +kernel
theorem dL_law_899 : decode cL_law 899 = .ok (.iconst 1, 1) := by decide +kernel
theorem dL_law_900 : decode cL_law 900 = .ok (.iadd, 1) := by decide +kernel
theorem dL_law_901 : decode cL_law 901 = .ok (.iaload, 1) := by decide +kernel
theorem dL_law_902 : decode cL_law 902 = .ok (.invokevirtual 114, 3) := by decide +kernel
theorem dL_law_905 : decode cL_law 905 = .ok (.if_icmp .eq 355, 3) := by decide +kernel
theorem dL_law_908 : decode cL_law 908 = .ok (.iconst 0, 1) := by decide +kernel
theorem dL_law_909 : decode cL_law 909 = .ok (.ireturn, 1) := by decide +kernel
theorem dL_law_910 : decode cL_law 910 = .ok (.aload_n 1, 1) := by decide +kernel
theorem dL_law_911 : decode cL_law 911 = .ok (.aload_n 0, 1) := by decide +kernel
theorem dL_law_912 : decode cL_law 912 = .ok (.iload 4, 2) := by decide +kernel
theorem dL_law_914 : decode cL_law 914 = .ok (.iconst 1, 1) := by decide +kernel
theorem dL_law_915 : decode cL_law 915 = .ok (.iadd, 1) := by decide +kernel
theorem dL_law_916 : decode cL_law 916 = .ok (.iaload, 1) := by decide +kernel
theorem dL_law_917 : decode cL_law 917 = .ok (.invokevirtual 115, 3) := by decide +kernel
theorem dL_law_920 : decode cL_law 920 = .ok (.aload_n 2, 1) := by decide +kernel
theorem dL_law_921 : decode cL_law 921 = .ok (.aload_n 0, 1) := by decide +kernel
theorem dL_law_922 : decode cL_law 922 = .ok (.iload 4, 2) := by decide +kernel
theorem dL_law_924 : decode cL_law 924 = .ok (.iconst 1, 1) := by decide +kernel
theorem dL_law_925 : decode cL_law 925 = .ok (.iadd, 1) := by decide +kernel
theorem dL_law_926 : decode cL_law 926 = .ok (.iaload, 1) := by decide +kernel
theorem dL_law_927 : decode cL_law 927 = .ok (.invokevirtual 118, 3) := by decide +kernel
theorem dL_law_930 : decode cL_law 930 = .ok (.if_icmp .eq 330, 3) := by decide +kernel
theorem dL_law_933 : decode cL_law 933 = .ok (.iconst 0, 1) := by decide +kernel
theorem dL_law_934 : decode cL_law 934 = .ok (.ireturn, 1) := by decide +kernel
theorem dL_law_935 : decode cL_law 935 = .ok (.aload_n 1, 1) := by decide +kernel
theorem dL_law_936 : decode cL_law 936 = .ok (.aload_n 0, 1) := by decide +kernel
theorem dL_law_937 : decode cL_law 937 = .ok (.iload 4, 2) := by decide +kernel
theorem dL_law_939 : decode cL_law 939 = .ok (.iconst 1, 1) := by decide +kernel
theorem dL_law_940 : decode cL_law 940 = .ok (.iadd, 1) := by decide +kernel
theorem dL_law_941 : decode cL_law 941 = .ok (.iaload, 1) := by decide +kernel
theorem dL_law_942 : decode cL_law 942 = .ok (.aload_n 0, 1) := by decide +kernel
theorem dL_law_943 : decode cL_law 943 = .ok (.iload 4, 2) := by decide +kernel
theorem dL_law_945 : decode cL_law 945 = .ok (.iconst 2, 1) := by decide +kernel
theorem dL_law_946 : decode cL_law 946 = .ok (.iadd, 1) := by decide +kernel
theorem dL_law_947 : decode cL_law 947 = .ok (.iaload, 1) := by decide +kernel
theorem dL_law_948 : decode cL_law 948 = .ok (.invokevirtual 119, 3) := by decide +kernel
theorem dL_law_951 : decode cL_law 951 = .ok (.aload_n 2, 1) := by decide +kernel
theorem dL_law_952 : decode cL_law 952 = .ok (.aload_n 0, 1) := by decide +kernel
theorem dL_law_953 : decode cL_law 953 = .ok (.iload 4, 2) := by decide +kernel
theorem dL_law_955 : decode cL_law 955 = .ok (.iconst 1, 1) := by decide +kernel
theorem dL_law_956 : decode cL_law 956 = .ok (.iadd, 1) := by decide +kernel
theorem dL_law_957 : decode cL_law 957 = .ok (.iaload, 1) := by decide +kernel
theorem dL_law_958 : decode cL_law 958 = .ok (.aload_n 0, 1) := by decide +kernel
theorem dL_law_959 : decode cL_law 959 = .ok (.iload 4, 2) := by decide +kernel
theorem dL_law_961 : decode cL_law 961 = .ok (.iconst 2, 1) := by decide +kernel
theorem dL_law_962 : decode cL_law 962 = .ok (.iadd, 1) := by decide +kernel
theorem dL_law_963 : decode cL_law 963 = .ok (.iaload, 1) := by decide +kernel
theorem dL_law_964 : decode cL_law 964 = .ok (.invokevirtual 122, 3) := by decide +kernel
theorem dL_law_967 : decode cL_law 967 = .ok (.if_icmp .eq 293, 3) := by decide +kernel
theorem dL_law_970 : decode cL_law 970 = .ok (.iconst 0, 1) := by decide +kernel
theorem dL_law_971 : decode cL_law 971 = .ok (.ireturn, 1) := by decide +kernel
theorem dL_law_972 : decode cL_law 972 = .ok (.aload_n 1, 1) := by decide +kernel
theorem dL_law_973 : decode cL_law 973 = .ok (.aload_n 0, 1) := by decide +kernel
theorem dL_law_974 : decode cL_law 974 = .ok (.iload 4, 2) := by decide +kernel
theorem dL_law_976 : decode cL_law 976 = .ok (.iconst 1, 1) := by decide +kernel
theorem dL_law_977 : decode cL_law 977 = .ok (.iadd, 1) := by decide +kernel
theorem dL_law_978 : decode cL_law 978 = .ok (.iaload, 1) := by decide +kernel
theorem dL_law_979 : decode cL_law 979 = .ok (.aload_n 0, 1) := by decide +kernel
theorem dL_law_980 : decode cL_law 980 = .ok (.iload 4, 2) := by decide +kernel
theorem dL_law_982 : decode cL_law 982 = .ok (.iconst 2, 1) := by decide +kernel
theorem dL_law_983 : decode cL_law 983 = .ok (.iadd, 1) := by decide +kernel
theorem dL_law_984 : decode cL_law 984 = .ok (.iaload, 1) := by decide +kernel
theorem dL_law_985 : decode cL_law 985 = .ok (.aload_n 0, 1) := by decide +kernel
theorem dL_law_986 : decode cL_law 986 = .ok (.iload 4, 2) := by decide +kernel
theorem dL_law_988 : decode cL_law 988 = .ok (.iconst 3, 1) := by decide +kernel
theorem dL_law_989 : decode cL_law 989 = .ok (.iadd, 1) := by decide +kernel
theorem dL_law_990 : decode cL_law 990 = .ok (.iaload, 1) := by decide +kernel
theorem dL_law_991 : decode cL_law 991 = .ok (.invokevirtual 123, 3) := by decide +kernel
theorem dL_law_994 : decode cL_law 994 = .ok (.aload_n 2, 1) := by decide +kernel
theorem dL_law_995 : decode cL_law 995 = .ok (.aload_n 0, 1) := by decide +kernel
theorem dL_law_996 : decode cL_law 996 = .ok (.iload 4, 2) := by decide +kernel
theorem dL_law_998 : decode cL_law 998 = .ok (.iconst 1, 1) := by decide +kernel
theorem dL_law_999 : decode cL_law 999 = .ok (.iadd, 1) := by decide +kernel
theorem dL_law_1000 : decode cL_law 1000 = .ok (.iaload, 1) := by decide +kernel
theorem dL_law_1001 : decode cL_law 1001 = .ok (.aload_n 0, 1) := by decide +kernel
theorem dL_law_1002 : decode cL_law 1002 = .ok (.iload 4, 2) := by decide +kernel
theorem dL_law_1004 : decode cL_law 1004 = .ok (.iconst 2, 1) := by decide +kernel
theorem dL_law_1005 : decode cL_law 1005 = .ok (.iadd, 1) := by decide +kernel
theorem dL_law_1006 : decode cL_law 1006 = .ok (.iaload, 1) := by decide +kernel
theorem dL_law_1007 : decode cL_law 1007 = .ok (.aload_n 0, 1) := by decide +kernel
theorem dL_law_1008 : decode cL_law 1008 = .ok (.iload 4, 2) := by decide +kernel
theorem dL_law_1010 : decode cL_law 1010 = .ok (.iconst 3, 1) := by decide +kernel
theorem dL_law_1011 : decode cL_law 1011 = .ok (.iadd, 1) := by decide +kernel
theorem dL_law_1012 : decode cL_law 1012 = .ok (.iaload, 1) := by decide +kernel
theorem dL_law_1013 : decode cL_law 1013 = .ok (.invokevirtual 126, 3) := by decide +kernel
theorem dL_law_1016 : decode cL_law 1016 = .ok (.if_icmp .eq 244, 3) := by decide +kernel
theorem dL_law_1019 : decode cL_law 1019 = .ok (.iconst 0, 1) := by decide +kernel
theorem dL_law_1020 : decode cL_law 1020 = .ok (.ireturn, 1) := by decide +kernel
theorem dL_law_1021 : decode cL_law 1021 = .ok (.aload_n 1, 1) := by decide +kernel
theorem dL_law_1022 : decode cL_law 1022 = .ok (.aload_n 0, 1) := by decide +kernel
theorem dL_law_1023 : decode cL_law 1023 = .ok (.iload 4, 2) := by decide +kernel
theorem dL_law_1025 : decode cL_law 1025 = .ok (.iconst 1, 1) := by decide +kernel
theorem dL_law_1026 : decode cL_law 1026 = .ok (.iadd, 1) := by decide +kernel
theorem dL_law_1027 : decode cL_law 1027 = .ok (.iaload, 1) := by decide +kernel
theorem dL_law_1028 : decode cL_law 1028 = .ok (.aload_n 0, 1) := by decide +kernel
theorem dL_law_1029 : decode cL_law 1029 = .ok (.iload 4, 2) := by decide +kernel
theorem dL_law_1031 : decode cL_law 1031 = .ok (.iconst 2, 1) := by decide +kernel
theorem dL_law_1032 : decode cL_law 1032 = .ok (.iadd, 1) := by decide +kernel
theorem dL_law_1033 : decode cL_law 1033 = .ok (.iaload, 1) := by decide +kernel
theorem dL_law_1034 : decode cL_law 1034 = .ok (.aload_n 0, 1) := by decide +kernel
theorem dL_law_1035 : decode cL_law 1035 = .ok (.iload 4, 2) := by decide +kernel
theorem dL_law_1037 : decode cL_law 1037 = .ok (.iconst 3, 1) := by decide +kernel
theorem dL_law_1038 : decode cL_law 1038 = .ok (.iadd, 1) := by decide +kernel
theorem dL_law_1039 : decode cL_law 1039 = .ok (.iaload, 1) := by decide +kernel
theorem dL_law_1040 : decode cL_law 1040 = .ok (.invokevirtual 127, 3) := by decide +kernel
theorem dL_law_1043 : decode cL_law 1043 = .ok (.aload_n 2, 1) := by decide +kernel
theorem dL_law_1044 : decode cL_law 1044 = .ok (.aload_n 0, 1) := by decide +kernel
theorem dL_law_1045 : decode cL_law 1045 = .ok (.iload 4, 2) := by decide +kernel
theorem dL_law_1047 : decode cL_law 1047 = .ok (.iconst 1, 1) := by decide +kernel
theorem dL_law_1048 : decode cL_law 1048 = .ok (.iadd, 1) := by decide +kernel
theorem dL_law_1049 : decode cL_law 1049 = .ok (.iaload, 1) := by decide +kernel
theorem dL_law_1050 : decode cL_law 1050 = .ok (.aload_n 0, 1) := by decide +kernel
theorem dL_law_1051 : decode cL_law 1051 = .ok (.iload 4, 2) := by decide +kernel
theorem dL_law_1053 : decode cL_law 1053 = .ok (.iconst 2, 1) := by decide +kernel
theorem dL_law_1054 : decode cL_law 1054 = .ok (.iadd, 1) := by decide +kernel
theorem dL_law_1055 : decode cL_law 1055 = .ok (.iaload, 1) := by decide +kernel
theorem dL_law_1056 : decode cL_law 1056 = .ok (.aload_n 0, 1) := by decide +kernel
theorem dL_law_1057 : decode cL_law 1057 = .ok (.iload 4, 2) := by decide +kernel
theorem dL_law_1059 : decode cL_law 1059 = .ok (.iconst 3, 1) := by decide +kernel
theorem dL_law_1060 : decode cL_law 1060 = .ok (.iadd, 1) := by decide +kernel
theorem dL_law_1061 : decode cL_law 1061 = .ok (.iaload, 1) := by decide +kernel
theorem dL_law_1062 : decode cL_law 1062 = .ok (.invokevirtual 130, 3) := by decide +kernel
theorem dL_law_1065 : decode cL_law 1065 = .ok (.if_icmp .eq 195, 3) := by decide +kernel
theorem dL_law_1068 : decode cL_law 1068 = .ok (.iconst 0, 1) := by decide +kernel
theorem dL_law_1069 : decode cL_law 1069 = .ok (.ireturn, 1) := by decide +kernel
theorem dL_law_1070 : decode cL_law 1070 = .ok (.aload_n 1, 1) := by decide +kernel
theorem dL_law_1071 : decode cL_law 1071 = .ok (.aload_n 0, 1) := by decide +kernel
theorem dL_law_1072 : decode cL_law 1072 = .ok (.iload 4, 2) := by decide +kernel
theorem dL_law_1074 : decode cL_law 1074 = .ok (.iconst 1, 1) := by decide +kernel
theorem dL_law_1075 : decode cL_law 1075 = .ok (.iadd, 1) := by decide +kernel
theorem dL_law_1076 : decode cL_law 1076 = .ok (.iaload, 1) := by decide +kernel
theorem dL_law_1077 : decode cL_law 1077 = .ok (.aload_n 0, 1) := by decide +kernel
theorem dL_law_1078 : decode cL_law 1078 = .ok (.iload 4, 2) := by decide +kernel
theorem dL_law_1080 : decode cL_law 1080 = .ok (.iconst 2, 1) := by decide +kernel
theorem dL_law_1081 : decode cL_law 1081 = .ok (.iadd, 1) := by decide +kernel
theorem dL_law_1082 : decode cL_law 1082 = .ok (.iaload, 1) := by decide +kernel
theorem dL_law_1083 : decode cL_law 1083 = .ok (.aload_n 3, 1) := by decide +kernel
theorem dL_law_1084 : decode cL_law 1084 = .ok (.invokestatic 131, 3) := by decide +kernel
theorem dL_law_1087 : decode cL_law 1087 = .ok (.istore 5, 2) := by decide +kernel
theorem dL_law_1089 : decode cL_law 1089 = .ok (.aload_n 2, 1) := by decide +kernel
theorem dL_law_1090 : decode cL_law 1090 = .ok (.aload_n 0, 1) := by decide +kernel
theorem dL_law_1091 : decode cL_law 1091 = .ok (.iload 4, 2) := by decide +kernel
theorem dL_law_1093 : decode cL_law 1093 = .ok (.iconst 1, 1) := by decide +kernel
theorem dL_law_1094 : decode cL_law 1094 = .ok (.iadd, 1) := by decide +kernel
theorem dL_law_1095 : decode cL_law 1095 = .ok (.iaload, 1) := by decide +kernel
theorem dL_law_1096 : decode cL_law 1096 = .ok (.aload_n 0, 1) := by decide +kernel
theorem dL_law_1097 : decode cL_law 1097 = .ok (.iload 4, 2) := by decide +kernel
theorem dL_law_1099 : decode cL_law 1099 = .ok (.iconst 2, 1) := by decide +kernel
theorem dL_law_1100 : decode cL_law 1100 = .ok (.iadd, 1) := by decide +kernel
theorem dL_law_1101 : decode cL_law 1101 = .ok (.iaload, 1) := by decide +kernel
theorem dL_law_1102 : decode cL_law 1102 = .ok (.invokevirtual 136, 3) := by decide +kernel
theorem dL_law_1105 : decode cL_law 1105 = .ok (.lstore 6, 2) := by decide +kernel
theorem dL_law_1107 : decode cL_law 1107 = .ok (.aload_n 2, 1) := by decide +kernel
theorem dL_law_1108 : decode cL_law 1108 = .ok (.invokevirtual 137, 3) := by decide +kernel
theorem dL_law_1111 : decode cL_law 1111 = .ok (.iload 5, 2) := by decide +kernel
theorem dL_law_1113 : decode cL_law 1113 = .ok (.if_icmp .eq 5, 3) := by decide +kernel
theorem dL_law_1116 : decode cL_law 1116 = .ok (.iconst 0, 1) := by decide +kernel
theorem dL_law_1117 : decode cL_law 1117 = .ok (.ireturn, 1) := by decide +kernel
theorem dL_law_1118 : decode cL_law 1118 = .ok (.iload 5, 2) := by decide +kernel
theorem dL_law_1120 : decode cL_law 1120 = .ok (.ifCond .ne 14, 3) := by decide +kernel
theorem dL_law_1123 : decode cL_law 1123 = .ok (.aload_n 3, 1) := by decide +kernel
theorem dL_law_1124 : decode cL_law 1124 = .ok (.iconst 0, 1) := by decide +kernel
theorem dL_law_1125 : decode cL_law 1125 = .ok (.laload, 1) := by decide +kernel
theorem dL_law_1126 : decode cL_law 1126 = .ok (.lload 6, 2) := by decide +kernel
theorem dL_law_1128 : decode cL_law 1128 = .ok (.lcmp, 1) := by decide +kernel
theorem dL_law_1129 : decode cL_law 1129 = .ok (.ifCond .eq 5, 3) := by decide +kernel
theorem dL_law_1132 : decode cL_law 1132 = .ok (.iconst 0, 1) := by decide +kernel
theorem dL_law_1133 : decode cL_law 1133 = .ok (.ireturn, 1) := by decide +kernel
theorem dL_law_1134 : decode cL_law 1134 = .ok (.goto 126, 3) := by decide +kernel
theorem dL_law_1137 : decode cL_law 1137 = .ok (.aload_n 1, 1) := by decide +kernel
theorem dL_law_1138 : decode cL_law 1138 = .ok (.aload_n 0, 1) := by decide +kernel
theorem dL_law_1139 : decode cL_law 1139 = .ok (.iload 4, 2) := by decide +kernel
theorem dL_law_1141 : decode cL_law 1141 = .ok (.iconst 1, 1) := by decide +kernel
theorem dL_law_1142 : decode cL_law 1142 = .ok (.iadd, 1) := by decide +kernel
theorem dL_law_1143 : decode cL_law 1143 = .ok (.iaload, 1) := by decide +kernel
theorem dL_law_1144 : decode cL_law 1144 = .ok (.aload_n 0, 1) := by decide +kernel
theorem dL_law_1145 : decode cL_law 1145 = .ok (.iload 4, 2) := by decide +kernel
theorem dL_law_1147 : decode cL_law 1147 = .ok (.iconst 2, 1) := by decide +kernel
theorem dL_law_1148 : decode cL_law 1148 = .ok (.iadd, 1) := by decide +kernel
theorem dL_law_1149 : decode cL_law 1149 = .ok (.iaload, 1) := by decide +kernel
theorem dL_law_1150 : decode cL_law 1150 = .ok (.aload_n 0, 1) := by decide +kernel
theorem dL_law_1151 : decode cL_law 1151 = .ok (.iload 4, 2) := by decide +kernel
theorem dL_law_1153 : decode cL_law 1153 = .ok (.iconst 3, 1) := by decide +kernel
theorem dL_law_1154 : decode cL_law 1154 = .ok (.iadd, 1) := by decide +kernel
theorem dL_law_1155 : decode cL_law 1155 = .ok (.iaload, 1) := by decide +kernel
theorem dL_law_1156 : decode cL_law 1156 = .ok (.aload_n 0, 1) := by decide +kernel
theorem dL_law_1157 : decode cL_law 1157 = .ok (.iload 4, 2) := by decide +kernel
theorem dL_law_1159 : decode cL_law 1159 = .ok (.iconst 4, 1) := by decide +kernel
theorem dL_law_1160 : decode cL_law 1160 = .ok (.iadd, 1) := by decide +kernel
theorem dL_law_1161 : decode cL_law 1161 = .ok (.iaload, 1) := by decide +kernel
theorem dL_law_1162 : decode cL_law 1162 = .ok (.aload_n 0, 1) := by decide +kernel
theorem dL_law_1163 : decode cL_law 1163 = .ok (.iload 4, 2) := by decide +kernel
theorem dL_law_1165 : decode cL_law 1165 = .ok (.iconst 5, 1) := by decide +kernel
theorem dL_law_1166 : decode cL_law 1166 = .ok (.iadd, 1) := by decide +kernel
theorem dL_law_1167 : decode cL_law 1167 = .ok (.iaload, 1) := by decide +kernel
theorem dL_law_1168 : decode cL_law 1168 = .ok (.invokevirtual 140, 3) := by decide +kernel
theorem dL_law_1171 : decode cL_law 1171 = .ok (.aload_n 2, 1) := by decide +kernel
theorem dL_law_1172 : decode cL_law 1172 = .ok (.aload_n 0, 1) := by decide +kernel
theorem dL_law_1173 : decode cL_law 1173 = .ok (.iload 4, 2) := by decide +kernel
theorem dL_law_1175 : decode cL_law 1175 = .ok (.iconst 1, 1) := by decide +kernel
theorem dL_law_1176 : decode cL_law 1176 = .ok (.iadd, 1) := by decide +kernel
theorem dL_law_1177 : decode cL_law 1177 = .ok (.iaload, 1) := by decide +kernel
theorem dL_law_1178 : decode cL_law 1178 = .ok (.aload_n 0, 1) := by decide +kernel
theorem dL_law_1179 : decode cL_law 1179 = .ok (.iload 4, 2) := by decide +kernel
theorem dL_law_1181 : decode cL_law 1181 = .ok (.iconst 2, 1) := by decide +kernel
theorem dL_law_1182 : decode cL_law 1182 = .ok (.iadd, 1) := by decide +kernel
theorem dL_law_1183 : decode cL_law 1183 = .ok (.iaload, 1) := by decide +kernel
theorem dL_law_1184 : decode cL_law 1184 = .ok (.aload_n 0, 1) := by decide +kernel
theorem dL_law_1185 : decode cL_law 1185 = .ok (.iload 4, 2) := by decide +kernel
theorem dL_law_1187 : decode cL_law 1187 = .ok (.iconst 3, 1) := by decide +kernel
theorem dL_law_1188 : decode cL_law 1188 = .ok (.iadd, 1) := by decide +kernel
theorem dL_law_1189 : decode cL_law 1189 = .ok (.iaload, 1) := by decide +kernel
theorem dL_law_1190 : decode cL_law 1190 = .ok (.aload_n 0, 1) := by decide +kernel
theorem dL_law_1191 : decode cL_law 1191 = .ok (.iload 4, 2) := by decide +kernel
theorem dL_law_1193 : decode cL_law 1193 = .ok (.iconst 4, 1) := by decide +kernel
theorem dL_law_1194 : decode cL_law 1194 = .ok (.iadd, 1) := by decide +kernel
theorem dL_law_1195 : decode cL_law 1195 = .ok (.iaload, 1) := by decide +kernel
theorem dL_law_1196 : decode cL_law 1196 = .ok (.aload_n 0, 1) := by decide +kernel
theorem dL_law_1197 : decode cL_law 1197 = .ok (.iload 4, 2) := by decide +kernel
theorem dL_law_1199 : decode cL_law 1199 = .ok (.iconst 5, 1) := by decide +kernel
theorem dL_law_1200 : decode cL_law 1200 = .ok (.iadd, 1) := by decide +kernel
theorem dL_law_1201 : decode cL_law 1201 = .ok (.iaload, 1) := by decide +kernel
theorem dL_law_1202 : decode cL_law 1202 = .ok (.invokevirtual 144, 3) := by decide +kernel
theorem dL_law_1205 : decode cL_law 1205 = .ok (.if_icmp .eq 55, 3) := by decide +kernel
theorem dL_law_1208 : decode cL_law 1208 = .ok (.iconst 0, 1) := by decide +kernel
theorem dL_law_1209 : decode cL_law 1209 = .ok (.ireturn, 1) := by decide +kernel
theorem dL_law_1210 : decode cL_law 1210 = .ok (.aload_n 1, 1) := by decide +kernel
theorem dL_law_1211 : decode cL_law 1211 = .ok (.aload_n 0, 1) := by decide +kernel
theorem dL_law_1212 : decode cL_law 1212 = .ok (.iload 4, 2) := by decide +kernel
theorem dL_law_1214 : decode cL_law 1214 = .ok (.iconst 1, 1) := by decide +kernel
theorem dL_law_1215 : decode cL_law 1215 = .ok (.iadd, 1) := by decide +kernel
theorem dL_law_1216 : decode cL_law 1216 = .ok (.iaload, 1) := by decide +kernel
theorem dL_law_1217 : decode cL_law 1217 = .ok (.invokevirtual 145, 3) := by decide +kernel
theorem dL_law_1220 : decode cL_law 1220 = .ok (.aload_n 2, 1) := by decide +kernel
theorem dL_law_1221 : decode cL_law 1221 = .ok (.aload_n 0, 1) := by decide +kernel
theorem dL_law_1222 : decode cL_law 1222 = .ok (.iload 4, 2) := by decide +kernel
theorem dL_law_1224 : decode cL_law 1224 = .ok (.iconst 1, 1) := by decide +kernel
theorem dL_law_1225 : decode cL_law 1225 = .ok (.iadd, 1) := by decide +kernel
theorem dL_law_1226 : decode cL_law 1226 = .ok (.iaload, 1) := by decide +kernel
theorem dL_law_1227 : decode cL_law 1227 = .ok (.invokevirtual 148, 3) := by decide +kernel
theorem dL_law_1230 : decode cL_law 1230 = .ok (.if_icmp .eq 30, 3) := by decide +kernel
theorem dL_law_1233 : decode cL_law 1233 = .ok (.iconst 0, 1) := by decide +kernel
theorem dL_law_1234 : decode cL_law 1234 = .ok (.ireturn, 1) := by decide +kernel
theorem dL_law_1235 : decode cL_law 1235 = .ok (.aload_n 1, 1) := by decide +kernel
theorem dL_law_1236 : decode cL_law 1236 = .ok (.aload_n 0, 1) := by decide +kernel
theorem dL_law_1237 : decode cL_law 1237 = .ok (.iload 4, 2) := by decide +kernel
theorem dL_law_1239 : decode cL_law 1239 = .ok (.iconst 1, 1) := by decide +kernel
theorem dL_law_1240 : decode cL_law 1240 = .ok (.iadd, 1) := by decide +kernel
theorem dL_law_1241 : decode cL_law 1241 = .ok (.iaload, 1) := by decide +kernel
theorem dL_law_1242 : decode cL_law 1242 = .ok (.invokevirtual 149, 3) := by decide +kernel
theorem dL_law_1245 : decode cL_law 1245 = .ok (.aload_n 2, 1) := by decide +kernel
theorem dL_law_1246 : decode cL_law 1246 = .ok (.aload_n 0, 1) := by decide +kernel
theorem dL_law_1247 : decode cL_law 1247 = .ok (.iload 4, 2) := by decide +kernel
theorem dL_law_1249 : decode cL_law 1249 = .ok (.iconst 1, 1) := by decide +kernel
theorem dL_law_1250 : decode cL_law 1250 = .ok (.iadd, 1) := by decide +kernel
theorem dL_law_1251 : decode cL_law 1251 = .ok (.iaload, 1) := by decide +kernel
theorem dL_law_1252 : decode cL_law 1252 = .ok (.invokevirtual 152, 3) := by decide +kernel
theorem dL_law_1255 : decode cL_law 1255 = .ok (.if_icmp .eq 5, 3) := by decide +kernel
theorem dL_law_1258 : decode cL_law 1258 = .ok (.iconst 0, 1) := by decide +kernel
theorem dL_law_1259 : decode cL_law 1259 = .ok (.ireturn, 1) := by decide +kernel
theorem dL_law_1260 : decode cL_law 1260 = .ok (.iinc 4 6, 3) := by decide +kernel
theorem dL_law_1263 : decode cL_law 1263 = .ok (.goto (-1240), 3) := by decide +kernel
theorem dL_law_1266 : decode cL_law 1266 = .ok (.iconst 1, 1) := by decide +kernel
theorem dL_law_1267 : decode cL_law 1267 = .ok (.ireturn, 1) := by decide +kernel
end
section
def gA0 : List Cond := [.code yX0_init cX0_init 1 none, .methodLink RX0 3 objectInit, .instanceMethod objectInit, .code objectInit ⟨#[0xb1]⟩ 1 none, .arrayClass .int, .fieldLink RX0 11 "ClockCourt$Bounds" "limits" "[I", .code yX0_limitOf cX0_limitOf 3 (some .int), .code yX0_limit cX0_limit 4 none, .code yX0_ticksOf cX0_ticksOf 4 (some .int), .code yX0_behind cX0_behind 9 (some .long), .constantLong RX0 15 (15), .constantLong RX0 17 (-1), .methodLink RX0 19 yX0_ticksOf, .static yX0_ticksOf, .initialized RX0, .code yX4_isCell cX4_isCell 2 (some .boolean), .fieldLink RX4 9 "ClockCourt$Net" "cells" "I", .code yX4_isKeeper cX4_isKeeper 2 (some .boolean), .fieldLink RX4 27 "ClockCourt$Net" "kind" "[I", .methodLink RX4 59 yX4_isCell, .instanceMethod yX4_isCell, .selects RX4 yX4_isCell yX4_isCell, .initialized RX4, .code yX4_foreignBits cX4_foreignBits 2 (some .int), .fieldLink RX4 52 "ClockCourt$Net" "hangsOn" "[I", .fieldLink RX4 34 "ClockCourt$Net" "x" "[I", .fieldLink RX4 49 "ClockCourt$Net" "bitsOfClock" "[I", .fieldLink RX4 31 "ClockCourt$Net" "clock" "[I", .code yX1_crosses cX1_crosses 2 (some .boolean), .methodLink RX1 49 yX4_isKeeper, .instanceMethod yX4_isKeeper, .selects RX4 yX4_isKeeper yX4_isKeeper]
def gA1 : List Cond := [.methodLink RX1 52 yX4_foreignBits, .instanceMethod yX4_foreignBits, .selects RX4 yX4_foreignBits yX4_foreignBits, .code yX1_size cX1_size 3 (some .int), .fieldLink RX1 9 "ClockCourt$Net" "cells" "I", .methodLink RX1 15 yX1_crosses, .static yX1_crosses, .initialized RX1, .code yX1_keeperOf cX1_keeperOf 4 (some .int), .code yX1_isStill cX1_isStill 2 (some .boolean), .fieldLink RX1 56 "ClockCourt$Net" "stillBits" "I", .code yX4_isBit cX4_isBit 2 (some .boolean), .code yX1_isPassedOn cX1_isPassedOn 4 (some .boolean), .fieldLink RX1 21 "ClockCourt$Net" "x" "[I", .fieldLink RX1 62 "ClockCourt$Net" "y" "[I", .fieldLink RX1 65 "ClockCourt$Net" "z" "[I", .fieldLink RX1 39 "ClockCourt$Net" "clock" "[I", .methodLink RX1 25 yX1_isStill, .static yX1_isStill, .methodLink RX1 35 yX4_isBit, .instanceMethod yX4_isBit, .selects RX4 yX4_isBit yX4_isBit, .methodLink RX1 59 yX1_isPassedOn, .static yX1_isPassedOn, .code yX1_isTwice cX1_isTwice 2 (some .boolean), .fieldLink RX1 68 "ClockCourt$Net" "kind" "[I", .methodLink RX1 28 yX1_isTwice, .static yX1_isTwice, .code yX1_isHeld cX1_isHeld 5 (some .boolean), .methodLink RX1 31 yX1_isHeld, .static yX1_isHeld, .code yX1_kindOf cX1_kindOf 3 (some .int)]
def gA2 : List Cond := [.code yX1_meets cX1_meets 3 (some .boolean), .methodLink RX1 42 yX1_kindOf, .static yX1_kindOf, .methodLink RX1 46 yX1_meets, .static yX1_meets, .code yX1_isBad cX1_isBad 2 (some .boolean), .code yX2_init cX2_init 1 none, .methodLink RX2 1 objectInit, .code yX3_init cX3_init 3 none, .fieldLink RX3 9 "ClockCourt$HeldCell" "number" "I", .fieldLink RX3 15 "ClockCourt$Net" "kind" "[I", .fieldLink RX3 21 "ClockCourt$HeldCell" "kind" "I", .fieldLink RX3 23 "ClockCourt$Net" "clock" "[I", .fieldLink RX3 26 "ClockCourt$HeldCell" "clock" "I", .fieldLink RX3 28 "ClockCourt$Net" "x" "[I", .fieldLink RX3 31 "ClockCourt$HeldCell" "source" "I", .instanceMethod yX2_init, .initialized RX2, .code yX3_weigh cX3_weigh 1 (some .int), .code yX3_fail cX3_fail 1 none, .classLink RX3 37 "java/lang/IllegalStateException", .initialized "java/lang/IllegalStateException", .methodLink RX3 34 yX3_fail, .instanceMethod yX3_fail, .selects RX3 yX3_fail yX3_fail, .initialized RX3, .code yX4_init cX4_init 1 none, .methodLink RX4 3 objectInit, .fieldLink RX4 15 "ClockCourt$Net" "bits" "I", .fieldLink RX4 18 "ClockCourt$Net" "firstBits" "I", .fieldLink RX4 21 "ClockCourt$Net" "stillBits" "I", .fieldLink RX4 24 "ClockCourt$Net" "keeperBits" "I"]
def gA3 : List Cond := [.fieldLink RX4 37 "ClockCourt$Net" "y" "[I", .fieldLink RX4 40 "ClockCourt$Net" "z" "[I", .fieldLink RX4 43 "ClockCourt$Net" "bitOf" "[I", .fieldLink RX4 46 "ClockCourt$Net" "cellOf" "[I", .arrayClass .long, .fieldLink RX4 55 "ClockCourt$Net" "table" "[J", .code yX4_takesNoBit cX4_takesNoBit 1 (some .boolean), .code yX4_put cX4_put 6 none, .code yX4_wordOfBit cX4_wordOfBit 2 (some .long), .fieldLink RX4 79 "ClockCourt$Net" "LOW_BITS" "[J", .constantLong RX4 82 (-1), .code yX4_addBit cX4_addBit 7 (some .int), .methodLink RX4 63 yX4_put, .instanceMethod yX4_put, .selects RX4 yX4_put yX4_put, .methodLink RX4 67 yX4_wordOfBit, .static yX4_wordOfBit, .code yX4_wordOfGate cX4_wordOfGate 7 (some .long), .code yX4_workOut cX4_workOut 6 none, .methodLink RX4 84 yX4_wordOfGate, .static yX4_wordOfGate, .code yX4_addGate cX4_addGate 6 (some .int), .methodLink RX4 71 yX4_workOut, .instanceMethod yX4_workOut, .selects RX4 yX4_workOut yX4_workOut, .methodLink RX4 75 yX4_addBit, .instanceMethod yX4_addBit, .selects RX4 yX4_addBit yX4_addBit, .code yX4_addBehind cX4_addBehind 4 (some .int), .code yX4_valueOf cX4_valueOf 3 (some .int), .code yX4_hasBothValues cX4_hasBothValues 16 (some .boolean), .code yX4_bitsOfSet cX4_bitsOfSet 4 (some .int)]
def gA4 : List Cond := [.code yX4_clocksInUse cX4_clocksInUse 3 (some .int), .code yX4_bitsBetween cX4_bitsBetween 5 (some .int), .code yX4_asCells cX4_asCells 4 (some .int), .code yX5_init cX5_init 2 none, .methodLink RX5 3 objectInit, .fieldLink RX5 9 "ClockCourt$Promises" "size" "I", .fieldLink RX5 15 "ClockCourt$Promises" "kind" "[I", .fieldLink RX5 19 "ClockCourt$Promises" "x" "[I", .fieldLink RX5 22 "ClockCourt$Promises" "y" "[I", .fieldLink RX5 25 "ClockCourt$Promises" "span" "[I", .fieldLink RX5 28 "ClockCourt$Promises" "net" "LClockCourt$Net;", .code yX5_has cX5_has 2 (some .boolean), .code yX5_add cX5_add 5 (some .int), .methodLink RX5 32 yX4_bitsBetween, .instanceMethod yX4_bitsBetween, .selects RX4 yX4_bitsBetween yX4_bitsBetween, .code yJ6_bitCount_0f7a4 cJ6_bitCount_0f7a4 1 (some .int), .constant RJ6 265 (1431655765), .constant RJ6 266 (858993459), .constant RJ6 267 (252645135), .code yX5_holds cX5_holds 4 (some .boolean), .methodLink RX5 38 yX4_valueOf, .instanceMethod yX4_valueOf, .selects RX4 yX4_valueOf yX4_valueOf, .methodLink RX5 41 yJ6_bitCount_0f7a4, .static yJ6_bitCount_0f7a4, .initialized RJ6, .code yX6_init cX6_init 3 none, .fieldLink RX6 9 "ClockCourt$Row" "of" "I", .fieldLink RX6 15 "ClockCourt$Row" "elements" "[I", .code yX6_hasSpan cX6_hasSpan 3 (some .boolean), .code yX6_weigh cX6_weigh 1 (some .int)]
def gA5 : List Cond := [.code yX6_clockOfFailure cX6_clockOfFailure 1 (some .int), .code yX7_init cX7_init 4 none, .methodLink RX7 3 objectInit, .fieldLink RX7 9 "ClockCourt$Run" "moments" "I", .fieldLink RX7 15 "ClockCourt$Run" "eithers" "I", .fieldLink RX7 18 "ClockCourt$Run" "ticks" "J", .fieldLink RX7 22 "ClockCourt$Run" "bits" "[I", .fieldLink RX7 26 "ClockCourt$Run" "clocks" "[I", .fieldLink RX7 29 "ClockCourt$Run" "net" "LClockCourt$Net;", .fieldLink RX7 33 "ClockCourt$Run" "bounds" "LClockCourt$Bounds;", .fieldLink RX7 37 "ClockCourt$Run" "step" "LClockCourt$Step;", .code yX7_begin cX7_begin 1 none, .fieldLink RX7 41 "ClockCourt$Net" "firstBits" "I", .code yX7_bitsNow cX7_bitsNow 1 (some .int), .code yX8_tick cX8_tick 5 none, .fieldLink RX8 9 "ClockCourt$Step" "old" "I", .fieldLink RX8 30 "ClockCourt$Step" "net" "LClockCourt$Net;", .fieldLink RX8 40 "ClockCourt$Net" "keeperBits" "I", .fieldLink RX8 15 "ClockCourt$Step" "ticking" "I", .fieldLink RX8 24 "ClockCourt$Step" "inputBits" "I", .fieldLink RX8 18 "ClockCourt$Step" "sampled" "I", .fieldLink RX8 43 "ClockCourt$Net" "bits" "I", .fieldLink RX8 46 "ClockCourt$Net" "x" "[I", .fieldLink RX8 50 "ClockCourt$Net" "cellOf" "[I", .methodLink RX8 34 yX4_bitsOfSet, .instanceMethod yX4_bitsOfSet, .selects RX4 yX4_bitsOfSet yX4_bitsOfSet, .methodLink RX8 53 yX4_valueOf, .code yX8_spread cX8_spread 5 (some .int), .code yX8_isEither cX8_isEither 4 (some .boolean), .methodLink RX8 64 yX4_foreignBits, .methodLink RX8 67 yX4_hasBothValues]
def gA6 : List Cond := [.instanceMethod yX4_hasBothValues, .selects RX4 yX4_hasBothValues yX4_hasBothValues, .fieldLink RX8 21 "ClockCourt$Step" "plain" "I", .fieldLink RX8 27 "ClockCourt$Step" "eithers" "I", .methodLink RX8 57 yX8_spread, .static yX8_spread, .initialized RX8, .methodLink RX8 60 yX8_isEither, .instanceMethod yX8_isEither, .selects RX8 yX8_isEither yX8_isEither, .code yX8_choose cX8_choose 4 none, .code yX8_behind cX8_behind 2 (some .int), .constantLong RX7 52 (-1), .fieldLink RX7 67 "ClockCourt$Step" "eithers" "I", .methodLink RX7 46 yX0_behind, .instanceMethod yX0_behind, .selects RX0 yX0_behind yX0_behind, .methodLink RX7 54 yX8_tick, .instanceMethod yX8_tick, .selects RX8 yX8_tick yX8_tick, .methodLink RX7 60 yX8_choose, .instanceMethod yX8_choose, .selects RX8 yX8_choose yX8_choose, .methodLink RX7 64 yX8_behind, .instanceMethod yX8_behind, .selects RX8 yX8_behind yX8_behind, .methodLink RX7 68 yJ6_bitCount_0f7a4, .code yX7_go cX7_go 6 (some .int), .code yX8_init cX8_init 2 none, .methodLink RX8 3 objectInit, .code yX10_init cX10_init 1 none, .methodLink RX10 3 objectInit]
def gA7 : List Cond := [.fieldLink RX10 11 "ClockCourt$Ways" "ends" "[J", .fieldLink RX10 15 "ClockCourt$Ways" "closes" "[I", .fieldLink RX10 19 "ClockCourt$Ways" "least" "[I", .arrayClass .boolean, .fieldLink RX10 22 "ClockCourt$Ways" "settled" "[Z", .fieldLink RX10 26 "ClockCourt$Ways" "measured" "Z", .methodLink RX9 3 objectInit, .classLink RX9 9 RX10, .instantiable RX10 5, .initialized RX10, .fieldLink RX9 12 "ClockCourt$Walk" "ways" "LClockCourt$Ways;", .fieldLink RX9 18 "ClockCourt$Walk" "states" "I", .fieldLink RX9 22 "ClockCourt$Walk" "looked" "I", .fieldLink RX9 25 "ClockCourt$Walk" "moments" "I", .fieldLink RX9 28 "ClockCourt$Walk" "spent" "Z", .fieldLink RX9 32 "ClockCourt$Walk" "bits" "[I", .fieldLink RX9 36 "ClockCourt$Walk" "ticks" "[J", .fieldLink RX9 40 "ClockCourt$Walk" "depth" "[I", .fieldLink RX9 43 "ClockCourt$Walk" "follows" "[I", .fieldLink RX9 46 "ClockCourt$Walk" "bringing" "[I", .fieldLink RX9 49 "ClockCourt$Walk" "breaking" "[I", .fieldLink RX9 52 "ClockCourt$Walk" "slots" "[I", .fieldLink RX9 55 "ClockCourt$Walk" "way" "[I", .fieldLink RX9 58 "ClockCourt$Walk" "net" "LClockCourt$Net;", .fieldLink RX9 62 "ClockCourt$Walk" "bounds" "LClockCourt$Bounds;", .fieldLink RX9 66 "ClockCourt$Walk" "promises" "LClockCourt$Promises;", .fieldLink RX9 70 "ClockCourt$Walk" "step" "LClockCourt$Step;", .instanceMethod yX10_init, .code yX9_init cX9_init 5 none, .code yX9_hasState cX9_hasState 2 (some .boolean), .code yX9_breaks cX9_breaks 2 (some .boolean), .code yX9_forget cX9_forget 1 none]
def gA8 : List Cond := [.code yJ7_fill_d0a16 cJ7_fill_d0a16 5 none, .code yX10_clear cX10_clear 1 none, .methodLink RX10 30 yJ7_fill_d0a16, .static yJ7_fill_d0a16, .initialized RJ7, .code yJ7_fill_53178 cJ7_fill_53178 4 none, .code yX9_slotOf cX9_slotOf 9 (some .int), .constantLong RX9 177 (-7046029254386353131), .constantLong RX9 179 (-2960836687051489901), .code yX9_addState cX9_addState 6 none, .code yX9_tell cX9_tell 8 none, .fieldLink RX9 164 "ClockCourt$Promises" "size" "I", .methodLink RX9 169 yX9_breaks, .instanceMethod yX9_breaks, .selects RX9 yX9_breaks yX9_breaks, .initialized RX9, .methodLink RX9 173 yX5_holds, .instanceMethod yX5_holds, .selects RX5 yX5_holds yX5_holds, .initialized RX5, .methodLink RX9 99 yX9_tell, .static yX9_tell, .code yX9_judge cX9_judge 8 none, .fieldLink RX9 86 "ClockCourt$Net" "firstBits" "I", .methodLink RX9 74 yX9_forget, .instanceMethod yX9_forget, .selects RX9 yX9_forget yX9_forget, .methodLink RX9 77 yX10_clear, .instanceMethod yX10_clear, .selects RX10 yX10_clear yX10_clear, .methodLink RX9 80 yJ7_fill_53178, .static yJ7_fill_53178]
def gA9 : List Cond := [.methodLink RX9 91 yX9_slotOf, .instanceMethod yX9_slotOf, .selects RX9 yX9_slotOf yX9_slotOf, .methodLink RX9 95 yX9_addState, .instanceMethod yX9_addState, .selects RX9 yX9_addState yX9_addState, .methodLink RX9 103 yX9_judge, .instanceMethod yX9_judge, .selects RX9 yX9_judge yX9_judge, .code yX9_begin cX9_begin 2 none, .code yX9_goesOn cX9_goesOn 2 (some .boolean), .methodLink RX9 107 yX7_go, .instanceMethod yX7_go, .selects RX7 yX7_go yX7_go, .initialized RX7, .code yX9_lead cX9_lead 7 none, .code yX10_add cX10_add 4 none, .methodLink RX9 158 yX8_behind, .methodLink RX9 141 yJ6_bitCount_0f7a4, .methodLink RX9 160 yX10_add, .instanceMethod yX10_add, .selects RX10 yX10_add yX10_add, .code yX9_arrive cX9_arrive 11 none, .fieldLink RX9 138 "ClockCourt$Step" "inputBits" "I", .fieldLink RX9 151 "ClockCourt$Step" "eithers" "I", .methodLink RX9 133 yX8_tick, .methodLink RX9 147 yX8_choose, .methodLink RX9 154 yX9_arrive, .instanceMethod yX9_arrive, .selects RX9 yX9_arrive yX9_arrive, .code yX9_lookAtSet cX9_lookAtSet 9 none, .code yX10_close cX10_close 3 none]
def gA10 : List Cond := [.constantLong RX9 119 (-1), .methodLink RX9 113 yX4_clocksInUse, .instanceMethod yX4_clocksInUse, .selects RX4 yX4_clocksInUse yX4_clocksInUse, .methodLink RX9 121 yX0_behind, .methodLink RX9 125 yX9_lookAtSet, .instanceMethod yX9_lookAtSet, .selects RX9 yX9_lookAtSet yX9_lookAtSet, .methodLink RX9 129 yX10_close, .instanceMethod yX10_close, .selects RX10 yX10_close yX10_close, .code yX9_lookAt cX9_lookAt 7 none, .code yX10_nearest cX10_nearest 5 (some .int), .constant RX10 40 (1048576), .code yX10_goOnFrom cX10_goOnFrom 7 none, .code yX10_measure cX10_measure 5 none, .methodLink RX10 41 yX10_nearest, .instanceMethod yX10_nearest, .selects RX10 yX10_nearest yX10_nearest, .methodLink RX10 45 yX10_goOnFrom, .instanceMethod yX10_goOnFrom, .selects RX10 yX10_goOnFrom yX10_goOnFrom, .code yX10_fewestTo cX10_fewestTo 4 (some .int), .methodLink RX10 36 yX10_measure, .instanceMethod yX10_measure, .selects RX10 yX10_measure yX10_measure, .methodLink RX11 3 objectInit, .classLink RX11 9 RX4, .instantiable RX4 15, .fieldLink RX11 12 "ClockCourt" "net" "LClockCourt$Net;", .classLink RX11 16 RX0, .instantiable RX0 1]
def gA11 : List Cond := [.fieldLink RX11 19 "ClockCourt" "bounds" "LClockCourt$Bounds;", .classLink RX11 23 RX5, .instantiable RX5 6, .fieldLink RX11 28 "ClockCourt" "promises" "LClockCourt$Promises;", .classLink RX11 32 RX8, .instantiable RX8 7, .classLink RX11 35 RX7, .instantiable RX7 8, .fieldLink RX11 40 "ClockCourt" "run" "LClockCourt$Run;", .classLink RX11 44 RX9, .instantiable RX9 17, .fieldLink RX11 49 "ClockCourt" "walked" "LClockCourt$Walk;", .classLink RX11 53 RX2, .fieldLink RX11 55 "ClockCourt" "shelves" "[LClockCourt$Held;", .instanceMethod yX4_init, .instanceMethod yX0_init, .methodLink RX11 25 yX5_init, .instanceMethod yX5_init, .methodLink RX11 34 yX8_init, .instanceMethod yX8_init, .methodLink RX11 37 yX7_init, .instanceMethod yX7_init, .methodLink RX11 46 yX9_init, .instanceMethod yX9_init, .code yX11_init cX11_init 2 none, .code yX11_isClock cX11_isClock 1 (some .boolean), .code yX11_beginAnew cX11_beginAnew 1 none, .methodLink RX11 117 yX7_begin, .instanceMethod yX7_begin, .selects RX7 yX7_begin yX7_begin, .methodLink RX11 108 yX9_forget, .methodLink RX11 232 yX4_takesNoBit]
def gA12 : List Cond := [.instanceMethod yX4_takesNoBit, .selects RX4 yX4_takesNoBit yX4_takesNoBit, .methodLink RX11 308 yX4_addBit, .methodLink RX11 78 yX11_beginAnew, .instanceMethod yX11_beginAnew, .selects RX11 yX11_beginAnew yX11_beginAnew, .initialized RX11, .code yX11_addBit cX11_addBit 5 (some .int), .methodLink RX11 59 yX11_isClock, .static yX11_isClock, .methodLink RX11 63 yX11_addBit, .instanceMethod yX11_addBit, .selects RX11 yX11_addBit yX11_addBit, .code yX11_input cX11_input 2 (some .int), .code yX11_keeper cX11_keeper 3 (some .int), .fieldLink RX11 70 "ClockCourt$Net" "cells" "I", .methodLink RX11 67 yX4_isCell, .methodLink RX11 74 yX4_addGate, .instanceMethod yX4_addGate, .selects RX4 yX4_addGate yX4_addGate, .code yX11_gate cX11_gate 8 (some .int), .fieldLink RX11 84 "ClockCourt$Net" "x" "[I", .methodLink RX11 81 yX4_isKeeper, .code yX11_connect cX11_connect 4 (some .int), .methodLink RX11 88 yX0_limitOf, .instanceMethod yX0_limitOf, .selects RX0 yX0_limitOf yX0_limitOf, .methodLink RX11 92 yX0_limit, .instanceMethod yX0_limit, .selects RX0 yX0_limit yX0_limit, .code yX11_bound cX11_bound 5 (some .int), .code yX11_still cX11_still 5 (some .int)]
def gA13 : List Cond := [.fieldLink RX11 99 "ClockCourt$Net" "bitOf" "[I", .fieldLink RX11 102 "ClockCourt$Net" "stillBits" "I", .methodLink RX11 96 yX4_isBit, .fieldLink RX11 105 "ClockCourt$Promises" "size" "I", .methodLink RX11 111 yX5_add, .instanceMethod yX5_add, .selects RX5 yX5_add yX5_add, .code yX11_promise cX11_promise 5 (some .int), .code yX11_start cX11_start 2 (some .int), .fieldLink RX11 114 "ClockCourt$Run" "moments" "I", .methodLink RX11 120 yX7_go, .code yX11_moment cX11_moment 4 (some .int), .code yX11_value cX11_value 2 (some .int), .methodLink RX11 123 yX7_bitsNow, .instanceMethod yX7_bitsNow, .selects RX7 yX7_bitsNow yX7_bitsNow, .methodLink RX11 127 yX4_valueOf, .code yX11_either cX11_either 4 (some .int), .fieldLink RX11 130 "ClockCourt$Net" "bits" "I", .fieldLink RX11 133 "ClockCourt$Run" "eithers" "I", .fieldLink RX11 136 "ClockCourt$Net" "cellOf" "[I", .code yX11_ticks cX11_ticks 3 (some .int), .fieldLink RX11 139 "ClockCourt$Run" "ticks" "J", .methodLink RX11 143 yX0_ticksOf, .fieldLink RX11 150 "ClockCourt$Run" "bits" "[I", .methodLink RX11 147 yX5_has, .instanceMethod yX5_has, .selects RX5 yX5_has yX5_has, .methodLink RX11 152 yX5_holds, .code yX11_broken cX11_broken 4 (some .int), .fieldLink RX11 156 "ClockCourt$Walk" "states" "I", .fieldLink RX11 167 "ClockCourt$Walk" "spent" "Z"]
def gA14 : List Cond := [.methodLink RX11 159 yX9_begin, .instanceMethod yX9_begin, .selects RX9 yX9_begin yX9_begin, .methodLink RX11 160 yX9_goesOn, .instanceMethod yX9_goesOn, .selects RX9 yX9_goesOn yX9_goesOn, .methodLink RX11 163 yX9_lookAt, .instanceMethod yX9_lookAt, .selects RX9 yX9_lookAt yX9_lookAt, .code yX11_walk cX11_walk 2 (some .int), .code yX11_state cX11_state 3 (some .int), .fieldLink RX11 174 "ClockCourt$Walk" "bits" "[I", .fieldLink RX11 175 "ClockCourt$Walk" "depth" "[I", .fieldLink RX11 178 "ClockCourt$Walk" "follows" "[I", .fieldLink RX11 181 "ClockCourt$Walk" "bringing" "[I", .methodLink RX11 171 yX9_hasState, .instanceMethod yX9_hasState, .selects RX9 yX9_hasState yX9_hasState, .code yX11_shown cX11_shown 3 (some .int), .code yX11_never cX11_never 3 (some .int), .fieldLink RX11 187 "ClockCourt$Walk" "breaking" "[I", .methodLink RX11 184 yX9_breaks, .methodLink RX11 190 yX9_lead, .instanceMethod yX9_lead, .selects RX9 yX9_lead yX9_lead, .code yX11_follow cX11_follow 2 (some .int), .fieldLink RX11 194 "ClockCourt$Walk" "ways" "LClockCourt$Ways;", .fieldLink RX11 198 "ClockCourt$Walk" "looked" "I", .methodLink RX11 201 yX10_fewestTo, .instanceMethod yX10_fewestTo, .selects RX10 yX10_fewestTo yX10_fewestTo, .code yX11_fewest cX11_fewest 2 (some .int)]
def gA15 : List Cond := [.methodLink RX11 206 yX1_size, .static yX1_size, .code yX11_crossings cX11_crossings 1 (some .int), .methodLink RX11 211 yX1_keeperOf, .static yX1_keeperOf, .methodLink RX11 215 yX1_kindOf, .methodLink RX11 218 yX1_meets, .methodLink RX11 222 yX1_isBad, .static yX1_isBad, .methodLink RX11 225 yX4_foreignBits, .methodLink RX11 229 yX4_asCells, .instanceMethod yX4_asCells, .selects RX4 yX4_asCells yX4_asCells, .code yX11_crossing cX11_crossing 4 (some .int), .methodLink RX11 236 yX4_addBehind, .instanceMethod yX4_addBehind, .selects RX4 yX4_addBehind yX4_addBehind, .code yX11_mend cX11_mend 4 (some .int), .code yX11_count cX11_count 2 (some .int), .fieldLink RX11 239 "ClockCourt$Walk" "moments" "I", .code yX11_look cX11_look 3 (some .int), .fieldLink RX11 240 "ClockCourt$Net" "kind" "[I", .fieldLink RX11 243 "ClockCourt$Net" "clock" "[I", .fieldLink RX11 246 "ClockCourt$Net" "y" "[I", .fieldLink RX11 249 "ClockCourt$Net" "z" "[I", .code yX11_isShelf cX11_isShelf 1 (some .boolean), .classLink RX11 267 RX6, .instantiable RX6 2, .initialized RX6, .fieldLink RX11 279 "ClockCourt$Row" "elements" "[I", .methodLink RX11 269 yX6_init, .instanceMethod yX6_init]
def gA16 : List Cond := [.code yX11_rowOfValues cX11_rowOfValues 3 (some (.object "ClockCourt$Row")), .code yX11_rowOfClocks cX11_rowOfClocks 2 (some (.object "ClockCourt$Row")), .fieldLink RX11 309 "ClockCourt$Run" "clocks" "[I", .methodLink RX11 296 arraycopyName, .native arraycopyName, .static arraycopyName, .initialized "java/lang/System", .classLink RX11 255 RX3, .instantiable RX3 4, .methodLink RX11 252 yX11_isShelf, .static yX11_isShelf, .methodLink RX11 257 yX3_init, .instanceMethod yX3_init, .methodLink RX11 260 yX11_rowOfValues, .instanceMethod yX11_rowOfValues, .selects RX11 yX11_rowOfValues yX11_rowOfValues, .methodLink RX11 264 yX11_rowOfClocks, .instanceMethod yX11_rowOfClocks, .selects RX11 yX11_rowOfClocks yX11_rowOfClocks, .code yX11_keep cX11_keep 4 (some .int), .code yX11_make cX11_make 4 (some .int), .code yX11_element cX11_element 5 (some .long), .classLink RX11 272 "java/lang/IllegalArgumentException", .initialized "java/lang/IllegalArgumentException", .classLink RX11 282 "java/lang/IllegalStateException", .classLink RX11 267 "ClockCourt$Row", .code yX11_copy cX11_copy 9 (some .int), .fieldLink RX11 289 "ClockCourt$Row" "of" "I", .methodLink RX11 292 yX6_hasSpan, .instanceMethod yX6_hasSpan, .selects RX6 yX6_hasSpan yX6_hasSpan, .code yX11_weight cX11_weight 3 (some .int)]
def gA17 : List Cond := [.methodLink RX11 302 ⟨"ClockCourt$Held", "weigh", "()I"⟩, .sameMethod "ClockCourt$Held" "ClockCourt$Held" "weigh" "()I", .selects RX3 ⟨"ClockCourt$Held", "weigh", "()I"⟩ yX3_weigh, .instanceMethod yX3_weigh, .selects RX6 ⟨"ClockCourt$Held", "weigh", "()I"⟩ yX6_weigh, .instanceMethod yX6_weigh, .code yX11_toss cX11_toss 3 (some .int), .methodLink RX11 305 ⟨"ClockCourt$Held", "clockOfFailure", "()I"⟩, .sameMethod "ClockCourt$Held" "ClockCourt$Held" "clockOfFailure" "()I", .selects RX3 ⟨"ClockCourt$Held", "clockOfFailure", "()I"⟩ yX3_clockOfFailure, .instanceMethod yX3_clockOfFailure, .selects RX6 ⟨"ClockCourt$Held", "clockOfFailure", "()I"⟩ yX6_clockOfFailure, .instanceMethod yX6_clockOfFailure, .code yX12_bitOf cX12_bitOf 2 (some .int), .code yX12_settle cX12_settle 7 (some .int), .fieldLink RX12 126 "ClockCourtModel" "cells" "I", .fieldLink RX12 7 "ClockCourtModel" "kind" "[I", .fieldLink RX12 19 "ClockCourtModel" "x" "[I", .fieldLink RX12 22 "ClockCourtModel" "y" "[I", .fieldLink RX12 25 "ClockCourtModel" "z" "[I", .methodLink RX12 133 yX12_bitOf, .static yX12_bitOf, .initialized RX12, .code yX12_beginning cX12_beginning 3 (some .int), .fieldLink RX12 16 "ClockCourtModel" "first" "[I", .methodLink RX12 137 yX12_settle, .instanceMethod yX12_settle, .selects RX12 yX12_settle yX12_settle, .code yX12_begin cX12_begin 2 none, .fieldLink RX12 141 "ClockCourtModel" "moments" "I", .fieldLink RX12 144 "ClockCourtModel" "eithers" "I", .fieldLink RX12 44 "ClockCourtModel" "shown" "[I"]
def gA18 : List Cond := [.fieldLink RX12 50 "ClockCourtModel" "since" "[I", .methodLink RX12 147 yX12_beginning, .instanceMethod yX12_beginning, .selects RX12 yX12_beginning yX12_beginning, .methodLink RX12 1 objectInit, .fieldLink RX12 13 "ClockCourtModel" "clock" "[I", .fieldLink RX12 28 "ClockCourtModel" "isStill" "[Z", .fieldLink RX12 32 "ClockCourtModel" "bound" "[I", .fieldLink RX12 35 "ClockCourtModel" "pKind" "[I", .fieldLink RX12 38 "ClockCourtModel" "pX" "[I", .fieldLink RX12 41 "ClockCourtModel" "pY" "[I", .fieldLink RX12 47 "ClockCourtModel" "runClocks" "[I", .fieldLink RX12 53 "ClockCourtModel" "eitherCells" "[I", .fieldLink RX12 56 "ClockCourtModel" "stateValue" "[I", .fieldLink RX12 59 "ClockCourtModel" "stateSince" "[I", .fieldLink RX12 62 "ClockCourtModel" "cameFrom" "[I", .fieldLink RX12 65 "ClockCourtModel" "cameClocks" "[I", .fieldLink RX12 68 "ClockCourtModel" "cameInputs" "[I", .fieldLink RX12 71 "ClockCourtModel" "cameOthers" "[I", .fieldLink RX12 74 "ClockCourtModel" "deep" "[I", .fieldLink RX12 77 "ClockCourtModel" "follows" "[I", .fieldLink RX12 80 "ClockCourtModel" "moveFrom" "[I", .fieldLink RX12 83 "ClockCourtModel" "moveTo" "[I", .fieldLink RX12 86 "ClockCourtModel" "moveTurned" "[I", .fieldLink RX12 89 "ClockCourtModel" "never" "[I", .fieldLink RX12 92 "ClockCourtModel" "isNever" "[Z", .fieldLink RX12 95 "ClockCourtModel" "next" "[I", .fieldLink RX12 98 "ClockCourtModel" "cost" "[I", .fieldLink RX12 101 "ClockCourtModel" "shelf" "[I", .fieldLink RX12 104 "ClockCourtModel" "shelfSize" "[I", .fieldLink RX12 107 "ClockCourtModel" "shelfWeight" "[I", .fieldLink RX12 110 "ClockCourtModel" "shelfClock" "[I"]
def gA19 : List Cond := [.fieldLink RX12 113 "ClockCourtModel" "shelfRow" "[I", .fieldLink RX12 116 "ClockCourtModel" "between" "[I", .methodLink RX12 119 yX12_begin, .instanceMethod yX12_begin, .selects RX12 yX12_begin yX12_begin, .code yX12_init cX12_init 1 none, .code yX12_thrown cX12_thrown 1 (some .int), .fieldLink RX12 122 "ClockCourtModel" "thrown" "I", .code yX12_isIn cX12_isIn 6 (some .boolean), .code yX12_isCell cX12_isCell 2 (some .boolean), .code yX12_isBit cX12_isBit 2 (some .boolean), .methodLink RX12 129 yX12_isCell, .instanceMethod yX12_isCell, .selects RX12 yX12_isCell yX12_isCell, .code yX12_isKeeper cX12_isKeeper 2 (some .boolean), .code yX12_unwalk cX12_unwalk 1 none, .fieldLink RX12 233 "ClockCourtModel" "walked" "Z", .fieldLink RX12 237 "ClockCourtModel" "spent" "Z", .fieldLink RX12 240 "ClockCourtModel" "states" "I", .fieldLink RX12 243 "ClockCourtModel" "looked" "I", .fieldLink RX12 246 "ClockCourtModel" "tried" "I", .fieldLink RX12 249 "ClockCourtModel" "moves" "I", .methodLink RX12 151 yX12_unwalk, .instanceMethod yX12_unwalk, .selects RX12 yX12_unwalk yX12_unwalk, .code yX12_changed cX12_changed 1 none, .fieldLink RX12 160 "ClockCourtModel" "bits" "I", .methodLink RX12 167 yX12_changed, .instanceMethod yX12_changed, .selects RX12 yX12_changed yX12_changed, .code yX12_add cX12_add 4 none, .constantLong RX12 154 (3)]
def gA20 : List Cond := [.methodLink RX12 156 yX12_isIn, .static yX12_isIn, .methodLink RX12 163 yX12_add, .instanceMethod yX12_add, .selects RX12 yX12_add yX12_add, .code yX12_input cX12_input 2 (some .int), .code yX12_keeper cX12_keeper 3 (some .int), .constantLong RX12 170 (4), .code yX12_gate cX12_gate 5 (some .int), .methodLink RX12 172 yX12_isKeeper, .instanceMethod yX12_isKeeper, .selects RX12 yX12_isKeeper yX12_isKeeper, .code yX12_connect cX12_connect 4 (some .int), .constantLong RX12 175 (9), .code yX12_bound cX12_bound 5 (some .int), .code yX12_still cX12_still 4 (some .int), .methodLink RX12 177 yX12_isBit, .instanceMethod yX12_isBit, .selects RX12 yX12_isBit yX12_isBit, .fieldLink RX12 180 "ClockCourtModel" "promises" "I", .code yX12_promise cX12_promise 4 (some .int), .code yX12_isTicking cX12_isTicking 3 (some .boolean), .code yX12_then cX12_then 4 (some .int), .code yX12_fits cX12_fits 3 (some .boolean), .code yX12_mixed cX12_mixed 2 (some .int), .fieldLink RX12 183 "ClockCourtModel" "ahead" "I", .fieldLink RX12 186 "ClockCourtModel" "plain" "I", .code yX12_isEither cX12_isEither 5 (some .boolean), .fieldLink RX12 189 "ClockCourtModel" "changing" "I", .methodLink RX12 192 yX12_mixed, .instanceMethod yX12_mixed, .selects RX12 yX12_mixed yX12_mixed]
def gA21 : List Cond := [.fieldLink RX12 199 "ClockCourtModel" "either" "I", .methodLink RX12 195 yX12_isTicking, .instanceMethod yX12_isTicking, .selects RX12 yX12_isTicking yX12_isTicking, .methodLink RX12 202 yX12_isEither, .instanceMethod yX12_isEither, .selects RX12 yX12_isEither yX12_isEither, .code yX12_look cX12_look 7 none, .code yX12_countBits cX12_countBits 4 (some .int), .code yX12_behind cX12_behind 5 (some .int), .code yX12_turned cX12_turned 4 (some .int), .methodLink RX12 205 yX12_countBits, .instanceMethod yX12_countBits, .selects RX12 yX12_countBits yX12_countBits, .code yX12_isKept cX12_isKept 8 (some .boolean), .code yX12_start cX12_start 2 (some .int), .code yX12_canBe cX12_canBe 4 (some .boolean), .methodLink RX12 208 yX12_then, .instanceMethod yX12_then, .selects RX12 yX12_then yX12_then, .methodLink RX12 212 yX12_fits, .instanceMethod yX12_fits, .selects RX12 yX12_fits yX12_fits, .methodLink RX12 215 yX12_look, .instanceMethod yX12_look, .selects RX12 yX12_look yX12_look, .methodLink RX12 218 yX12_behind, .instanceMethod yX12_behind, .selects RX12 yX12_behind yX12_behind, .code yX12_go cX12_go 5 none, .constantLong RX12 221 (15), .methodLink RX12 223 yX12_canBe]
def gA22 : List Cond := [.instanceMethod yX12_canBe, .selects RX12 yX12_canBe yX12_canBe, .methodLink RX12 226 yX12_go, .instanceMethod yX12_go, .selects RX12 yX12_go yX12_go, .code yX12_moment cX12_moment 4 (some .int), .code yX12_value cX12_value 2 (some .int), .code yX12_either cX12_either 2 (some .int), .code yX12_ticks cX12_ticks 3 (some .int), .code yX12_broken cX12_broken 3 (some .int), .methodLink RX12 229 yX12_isKept, .instanceMethod yX12_isKept, .selects RX12 yX12_isKept yX12_isKept, .code yX12_stateOf cX12_stateOf 5 (some .int), .code yX12_addState cX12_addState 7 none, .code yX12_lookAtPromises cX12_lookAtPromises 9 none, .methodLink RX12 252 yX12_stateOf, .instanceMethod yX12_stateOf, .selects RX12 yX12_stateOf yX12_stateOf, .methodLink RX12 255 yX12_addState, .instanceMethod yX12_addState, .selects RX12 yX12_addState yX12_addState, .methodLink RX12 259 yX12_turned, .instanceMethod yX12_turned, .selects RX12 yX12_turned yX12_turned, .methodLink RX12 262 yX12_lookAtPromises, .instanceMethod yX12_lookAtPromises, .selects RX12 yX12_lookAtPromises yX12_lookAtPromises, .code yX12_tryMove cX12_tryMove 7 none, .code yX12_inputsOf cX12_inputsOf 4 (some .int), .methodLink RX12 266 yX12_inputsOf, .instanceMethod yX12_inputsOf]
def gA23 : List Cond := [.selects RX12 yX12_inputsOf yX12_inputsOf, .methodLink RX12 269 yX12_tryMove, .instanceMethod yX12_tryMove, .selects RX12 yX12_tryMove yX12_tryMove, .code yX12_trySet cX12_trySet 8 none, .code yX12_clocksThere cX12_clocksThere 3 (some .int), .methodLink RX12 273 yX12_clocksThere, .instanceMethod yX12_clocksThere, .selects RX12 yX12_clocksThere yX12_clocksThere, .methodLink RX12 276 yX12_trySet, .instanceMethod yX12_trySet, .selects RX12 yX12_trySet yX12_trySet, .code yX12_walk cX12_walk 6 (some .int), .code yX12_isState cX12_isState 2 (some .boolean), .code yX12_bitsOf cX12_bitsOf 5 (some .int), .constantLong RX12 283 (6), .methodLink RX12 280 yX12_isState, .instanceMethod yX12_isState, .selects RX12 yX12_isState yX12_isState, .methodLink RX12 285 yX12_bitsOf, .instanceMethod yX12_bitsOf, .selects RX12 yX12_bitsOf yX12_bitsOf, .code yX12_state cX12_state 3 (some .int), .code yX12_shown cX12_shown 3 (some .int), .code yX12_never cX12_never 3 (some .int), .code yX12_follow cX12_follow 4 (some .int), .code yX12_fewest cX12_fewest 5 (some .int), .constant RX12 288 (1000000), .code yX12_hangs cX12_hangs 5 (some .int), .code yX12_foreign cX12_foreign 5 (some .int), .methodLink RX12 289 yX12_hangs, .instanceMethod yX12_hangs]
def gA24 : List Cond := [.selects RX12 yX12_hangs yX12_hangs, .code yX12_isCrossing cX12_isCrossing 2 (some .boolean), .methodLink RX12 292 yX12_foreign, .instanceMethod yX12_foreign, .selects RX12 yX12_foreign yX12_foreign, .code yX12_crossingAt cX12_crossingAt 4 (some .int), .methodLink RX12 295 yX12_isCrossing, .instanceMethod yX12_isCrossing, .selects RX12 yX12_isCrossing yX12_isCrossing, .code yX12_isForeignBit cX12_isForeignBit 3 (some .boolean), .code yX12_isUsedOnce cX12_isUsedOnce 5 (some .boolean), .code yX12_allStill cX12_allStill 4 (some .boolean), .methodLink RX12 298 yX12_allStill, .instanceMethod yX12_allStill, .selects RX12 yX12_allStill yX12_allStill, .methodLink RX12 301 yX12_isForeignBit, .instanceMethod yX12_isForeignBit, .selects RX12 yX12_isForeignBit yX12_isForeignBit, .methodLink RX12 304 yX12_isUsedOnce, .instanceMethod yX12_isUsedOnce, .selects RX12 yX12_isUsedOnce yX12_isUsedOnce, .code yX12_isTwice cX12_isTwice 2 (some .boolean), .methodLink RX12 307 yX12_isTwice, .instanceMethod yX12_isTwice, .selects RX12 yX12_isTwice yX12_isTwice, .code yX12_isHeldOne cX12_isHeldOne 4 (some .boolean), .methodLink RX12 310 yX12_isHeldOne, .instanceMethod yX12_isHeldOne, .selects RX12 yX12_isHeldOne yX12_isHeldOne, .code yX12_kindOf cX12_kindOf 2 (some .int), .code yX12_meets cX12_meets 4 (some .boolean), .code yX12_crossings cX12_crossings 3 (some .int)]
def gA25 : List Cond := [.methodLink RX12 313 yX12_crossingAt, .instanceMethod yX12_crossingAt, .selects RX12 yX12_crossingAt yX12_crossingAt, .methodLink RX12 316 yX12_kindOf, .instanceMethod yX12_kindOf, .selects RX12 yX12_kindOf yX12_kindOf, .methodLink RX12 319 yX12_meets, .instanceMethod yX12_meets, .selects RX12 yX12_meets yX12_meets, .code yX12_crossing cX12_crossing 4 (some .int), .code yX12_mend cX12_mend 5 (some .int), .code yX12_count cX12_count 2 (some .int), .code yX12_look_ cX12_look_ 3 (some .int), .code yX12_isShelf cX12_isShelf 1 (some .boolean), .code yX12_keep cX12_keep 6 (some .int), .methodLink RX12 322 yX12_isShelf, .static yX12_isShelf, .code yX12_make cX12_make 5 (some .int), .code yX12_element cX12_element 4 (some .long), .code yX12_hasPlaces cX12_hasPlaces 4 (some .boolean), .code yX12_copy cX12_copy 7 (some .int), .methodLink RX12 325 yX12_hasPlaces, .instanceMethod yX12_hasPlaces, .selects RX12 yX12_hasPlaces yX12_hasPlaces, .code yX12_denied cX12_denied 2 (some .int), .code yX12_weight cX12_weight 3 (some .int), .methodLink RX12 329 yX12_denied, .instanceMethod yX12_denied, .selects RX12 yX12_denied yX12_denied, .code yX12_toss cX12_toss 3 (some .int), .classLink RL 13 "java/lang/IllegalArgumentException", .classLink RL 15 "java/lang/IllegalStateException"]
def gA26 : List Cond := [.methodLink RL 7 yX11_element, .instanceMethod yX11_element, .selects RX11 yX11_element yX11_element, .classLink RL 8 RX11, .instantiable RX11 6, .classLink RL 18 RX12, .instantiable RX12 52, .methodLink RL 17 yX11_init, .instanceMethod yX11_init, .methodLink RL 20 yX12_init, .instanceMethod yX12_init, .methodLink RL 21 yX11_input, .instanceMethod yX11_input, .selects RX11 yX11_input yX11_input, .methodLink RL 25 yX12_input, .instanceMethod yX12_input, .selects RX12 yX12_input yX12_input, .methodLink RL 26 yX11_keeper, .instanceMethod yX11_keeper, .selects RX11 yX11_keeper yX11_keeper, .methodLink RL 30 yX12_keeper, .instanceMethod yX12_keeper, .selects RX12 yX12_keeper yX12_keeper, .methodLink RL 31 yX11_gate, .instanceMethod yX11_gate, .selects RX11 yX11_gate yX11_gate, .methodLink RL 35 yX12_gate, .instanceMethod yX12_gate, .selects RX12 yX12_gate yX12_gate, .methodLink RL 36 yX11_connect, .instanceMethod yX11_connect, .selects RX11 yX11_connect yX11_connect]
def gA27 : List Cond := [.methodLink RL 39 yX12_connect, .instanceMethod yX12_connect, .selects RX12 yX12_connect yX12_connect, .methodLink RL 40 yX11_bound, .instanceMethod yX11_bound, .selects RX11 yX11_bound yX11_bound, .methodLink RL 44 yX12_bound, .instanceMethod yX12_bound, .selects RX12 yX12_bound yX12_bound, .methodLink RL 45 yX11_still, .instanceMethod yX11_still, .selects RX11 yX11_still yX11_still, .methodLink RL 49 yX12_still, .instanceMethod yX12_still, .selects RX12 yX12_still yX12_still, .methodLink RL 50 yX11_promise, .instanceMethod yX11_promise, .selects RX11 yX11_promise yX11_promise, .methodLink RL 53 yX12_promise, .instanceMethod yX12_promise, .selects RX12 yX12_promise yX12_promise, .methodLink RL 54 yX11_start, .instanceMethod yX11_start, .selects RX11 yX11_start yX11_start, .methodLink RL 58 yX12_start, .instanceMethod yX12_start, .selects RX12 yX12_start yX12_start, .methodLink RL 59 yX11_moment, .instanceMethod yX11_moment, .selects RX11 yX11_moment yX11_moment, .methodLink RL 62 yX12_moment, .instanceMethod yX12_moment]
def gA28 : List Cond := [.selects RX12 yX12_moment yX12_moment, .methodLink RL 63 yX11_value, .instanceMethod yX11_value, .selects RX11 yX11_value yX11_value, .methodLink RL 66 yX12_value, .instanceMethod yX12_value, .selects RX12 yX12_value yX12_value, .methodLink RL 67 yX11_either, .instanceMethod yX11_either, .selects RX11 yX11_either yX11_either, .methodLink RL 70 yX12_either, .instanceMethod yX12_either, .selects RX12 yX12_either yX12_either, .methodLink RL 71 yX11_ticks, .instanceMethod yX11_ticks, .selects RX11 yX11_ticks yX11_ticks, .methodLink RL 74 yX12_ticks, .instanceMethod yX12_ticks, .selects RX12 yX12_ticks yX12_ticks, .methodLink RL 75 yX11_broken, .instanceMethod yX11_broken, .selects RX11 yX11_broken yX11_broken, .methodLink RL 78 yX12_broken, .instanceMethod yX12_broken, .selects RX12 yX12_broken yX12_broken, .methodLink RL 79 yX11_walk, .instanceMethod yX11_walk, .selects RX11 yX11_walk yX11_walk, .methodLink RL 82 yX12_walk, .instanceMethod yX12_walk, .selects RX12 yX12_walk yX12_walk, .methodLink RL 83 yX11_state]
def gA29 : List Cond := [.instanceMethod yX11_state, .selects RX11 yX11_state yX11_state, .methodLink RL 86 yX12_state, .instanceMethod yX12_state, .selects RX12 yX12_state yX12_state, .methodLink RL 87 yX11_shown, .instanceMethod yX11_shown, .selects RX11 yX11_shown yX11_shown, .methodLink RL 90 yX12_shown, .instanceMethod yX12_shown, .selects RX12 yX12_shown yX12_shown, .methodLink RL 91 yX11_never, .instanceMethod yX11_never, .selects RX11 yX11_never yX11_never, .methodLink RL 94 yX12_never, .instanceMethod yX12_never, .selects RX12 yX12_never yX12_never, .methodLink RL 95 yX11_follow, .instanceMethod yX11_follow, .selects RX11 yX11_follow yX11_follow, .methodLink RL 98 yX12_follow, .instanceMethod yX12_follow, .selects RX12 yX12_follow yX12_follow, .methodLink RL 99 yX11_fewest, .instanceMethod yX11_fewest, .selects RX11 yX11_fewest yX11_fewest, .methodLink RL 102 yX12_fewest, .instanceMethod yX12_fewest, .selects RX12 yX12_fewest yX12_fewest, .methodLink RL 103 yX11_crossings, .instanceMethod yX11_crossings, .selects RX11 yX11_crossings yX11_crossings]
def gA30 : List Cond := [.methodLink RL 106 yX12_crossings, .instanceMethod yX12_crossings, .selects RX12 yX12_crossings yX12_crossings, .methodLink RL 107 yX11_crossing, .instanceMethod yX11_crossing, .selects RX11 yX11_crossing yX11_crossing, .methodLink RL 110 yX12_crossing, .instanceMethod yX12_crossing, .selects RX12 yX12_crossing yX12_crossing, .methodLink RL 111 yX11_mend, .instanceMethod yX11_mend, .selects RX11 yX11_mend yX11_mend, .methodLink RL 114 yX12_mend, .instanceMethod yX12_mend, .selects RX12 yX12_mend yX12_mend, .methodLink RL 115 yX11_count, .instanceMethod yX11_count, .selects RX11 yX11_count yX11_count, .methodLink RL 118 yX12_count, .instanceMethod yX12_count, .selects RX12 yX12_count yX12_count, .methodLink RL 119 yX11_look, .instanceMethod yX11_look, .selects RX11 yX11_look yX11_look, .methodLink RL 122 yX12_look_, .instanceMethod yX12_look_, .selects RX12 yX12_look_ yX12_look_, .methodLink RL 123 yX11_keep, .instanceMethod yX11_keep, .selects RX11 yX11_keep yX11_keep, .methodLink RL 126 yX12_keep, .instanceMethod yX12_keep]
def gA31 : List Cond := [.selects RX12 yX12_keep yX12_keep, .methodLink RL 127 yX11_make, .instanceMethod yX11_make, .selects RX11 yX11_make yX11_make, .methodLink RL 130 yX12_make, .instanceMethod yX12_make, .selects RX12 yX12_make yX12_make, .methodLink RL 131 yL_element, .static yL_element, .initialized RL, .methodLink RL 136 yX12_element, .instanceMethod yX12_element, .selects RX12 yX12_element yX12_element, .methodLink RL 137 yX12_thrown, .instanceMethod yX12_thrown, .selects RX12 yX12_thrown yX12_thrown, .methodLink RL 140 yX11_copy, .instanceMethod yX11_copy, .selects RX11 yX11_copy yX11_copy, .methodLink RL 144 yX12_copy, .instanceMethod yX12_copy, .selects RX12 yX12_copy yX12_copy, .methodLink RL 145 yX11_weight, .instanceMethod yX11_weight, .selects RX11 yX11_weight yX11_weight, .methodLink RL 148 yX12_weight, .instanceMethod yX12_weight, .selects RX12 yX12_weight yX12_weight, .methodLink RL 149 yX11_toss, .instanceMethod yX11_toss, .selects RX11 yX11_toss yX11_toss, .methodLink RL 152 yX12_toss]
def gA32 : List Cond := [.instanceMethod yX12_toss, .selects RX12 yX12_toss yX12_toss]
def gB43 : List Cond := wsX120
def gB42 : List Cond := wsX110 ++ gB43
def gB41 : List Cond := wsX100 ++ gB42
def gB40 : List Cond := wsX90 ++ gB41
def gB39 : List Cond := wsX80 ++ gB40
def gB38 : List Cond := wsX70 ++ gB39
def gB37 : List Cond := wsX60 ++ gB38
def gB36 : List Cond := wsX50 ++ gB37
def gB35 : List Cond := wsX40 ++ gB36
def gB34 : List Cond := wsX30 ++ gB35
def gB33 : List Cond := wsX00 ++ gB34
def gB32 : List Cond := gA32 ++ gB33
def gB31 : List Cond := gA31 ++ gB32
def gB30 : List Cond := gA30 ++ gB31
def gB29 : List Cond := gA29 ++ gB30
def gB28 : List Cond := gA28 ++ gB29
def gB27 : List Cond := gA27 ++ gB28
def gB26 : List Cond := gA26 ++ gB27
def gB25 : List Cond := gA25 ++ gB26
def gB24 : List Cond := gA24 ++ gB25
def gB23 : List Cond := gA23 ++ gB24
def gB22 : List Cond := gA22 ++ gB23
def gB21 : List Cond := gA21 ++ gB22
def gB20 : List Cond := gA20 ++ gB21
def gB19 : List Cond := gA19 ++ gB20
def gB18 : List Cond := gA18 ++ gB19
def gB17 : List Cond := gA17 ++ gB18
def gB16 : List Cond := gA16 ++ gB17
def gB15 : List Cond := gA15 ++ gB16
def gB14 : List Cond := gA14 ++ gB15
def gB13 : List Cond := gA13 ++ gB14
def gB12 : List Cond := gA12 ++ gB13
def gB11 : List Cond := gA11 ++ gB12
def gB10 : List Cond := gA10 ++ gB11
def gB9 : List Cond := gA9 ++ gB10
def gB8 : List Cond := gA8 ++ gB9
def gB7 : List Cond := gA7 ++ gB8
def gB6 : List Cond := gA6 ++ gB7
def gB5 : List Cond := gA5 ++ gB6
def gB4 : List Cond := gA4 ++ gB5
def gB3 : List Cond := gA3 ++ gB4
def gB2 : List Cond := gA2 ++ gB3
def gB1 : List Cond := gA1 ++ gB2
def gB0 : List Cond := gA0 ++ gB1
abbrev gAll : List Cond := gB0
theorem gS0 : ∀ w ∈ gB0, w ∈ gAll := fun _ h => h
theorem gS1 : ∀ w ∈ gB1, w ∈ gAll := fun w h => gS0 w (List.mem_append_right _ h)
theorem gS2 : ∀ w ∈ gB2, w ∈ gAll := fun w h => gS1 w (List.mem_append_right _ h)
theorem gS3 : ∀ w ∈ gB3, w ∈ gAll := fun w h => gS2 w (List.mem_append_right _ h)
theorem gS4 : ∀ w ∈ gB4, w ∈ gAll := fun w h => gS3 w (List.mem_append_right _ h)
theorem gS5 : ∀ w ∈ gB5, w ∈ gAll := fun w h => gS4 w (List.mem_append_right _ h)
theorem gS6 : ∀ w ∈ gB6, w ∈ gAll := fun w h => gS5 w (List.mem_append_right _ h)
theorem gS7 : ∀ w ∈ gB7, w ∈ gAll := fun w h => gS6 w (List.mem_append_right _ h)
theorem gS8 : ∀ w ∈ gB8, w ∈ gAll := fun w h => gS7 w (List.mem_append_right _ h)
theorem gS9 : ∀ w ∈ gB9, w ∈ gAll := fun w h => gS8 w (List.mem_append_right _ h)
theorem gS10 : ∀ w ∈ gB10, w ∈ gAll := fun w h => gS9 w (List.mem_append_right _ h)
theorem gS11 : ∀ w ∈ gB11, w ∈ gAll := fun w h => gS10 w (List.mem_append_right _ h)
theorem gS12 : ∀ w ∈ gB12, w ∈ gAll := fun w h => gS11 w (List.mem_append_right _ h)
theorem gS13 : ∀ w ∈ gB13, w ∈ gAll := fun w h => gS12 w (List.mem_append_right _ h)
theorem gS14 : ∀ w ∈ gB14, w ∈ gAll := fun w h => gS13 w (List.mem_append_right _ h)
theorem gS15 : ∀ w ∈ gB15, w ∈ gAll := fun w h => gS14 w (List.mem_append_right _ h)
theorem gS16 : ∀ w ∈ gB16, w ∈ gAll := fun w h => gS15 w (List.mem_append_right _ h)
theorem gS17 : ∀ w ∈ gB17, w ∈ gAll := fun w h => gS16 w (List.mem_append_right _ h)
theorem gS18 : ∀ w ∈ gB18, w ∈ gAll := fun w h => gS17 w (List.mem_append_right _ h)
theorem gS19 : ∀ w ∈ gB19, w ∈ gAll := fun w h => gS18 w (List.mem_append_right _ h)
theorem gS20 : ∀ w ∈ gB20, w ∈ gAll := fun w h => gS19 w (List.mem_append_right _ h)
theorem gS21 : ∀ w ∈ gB21, w ∈ gAll := fun w h => gS20 w (List.mem_append_right _ h)
theorem gS22 : ∀ w ∈ gB22, w ∈ gAll := fun w h => gS21 w (List.mem_append_right _ h)
theorem gS23 : ∀ w ∈ gB23, w ∈ gAll := fun w h => gS22 w (List.mem_append_right _ h)
theorem gS24 : ∀ w ∈ gB24, w ∈ gAll := fun w h => gS23 w (List.mem_append_right _ h)
theorem gS25 : ∀ w ∈ gB25, w ∈ gAll := fun w h => gS24 w (List.mem_append_right _ h)
theorem gS26 : ∀ w ∈ gB26, w ∈ gAll := fun w h => gS25 w (List.mem_append_right _ h)
theorem gS27 : ∀ w ∈ gB27, w ∈ gAll := fun w h => gS26 w (List.mem_append_right _ h)
theorem gS28 : ∀ w ∈ gB28, w ∈ gAll := fun w h => gS27 w (List.mem_append_right _ h)
theorem gS29 : ∀ w ∈ gB29, w ∈ gAll := fun w h => gS28 w (List.mem_append_right _ h)
theorem gS30 : ∀ w ∈ gB30, w ∈ gAll := fun w h => gS29 w (List.mem_append_right _ h)
theorem gS31 : ∀ w ∈ gB31, w ∈ gAll := fun w h => gS30 w (List.mem_append_right _ h)
theorem gS32 : ∀ w ∈ gB32, w ∈ gAll := fun w h => gS31 w (List.mem_append_right _ h)
theorem gS33 : ∀ w ∈ gB33, w ∈ gAll := fun w h => gS32 w (List.mem_append_right _ h)
theorem gS34 : ∀ w ∈ gB34, w ∈ gAll := fun w h => gS33 w (List.mem_append_right _ h)
theorem gS35 : ∀ w ∈ gB35, w ∈ gAll := fun w h => gS34 w (List.mem_append_right _ h)
theorem gS36 : ∀ w ∈ gB36, w ∈ gAll := fun w h => gS35 w (List.mem_append_right _ h)
theorem gS37 : ∀ w ∈ gB37, w ∈ gAll := fun w h => gS36 w (List.mem_append_right _ h)
theorem gS38 : ∀ w ∈ gB38, w ∈ gAll := fun w h => gS37 w (List.mem_append_right _ h)
theorem gS39 : ∀ w ∈ gB39, w ∈ gAll := fun w h => gS38 w (List.mem_append_right _ h)
theorem gS40 : ∀ w ∈ gB40, w ∈ gAll := fun w h => gS39 w (List.mem_append_right _ h)
theorem gS41 : ∀ w ∈ gB41, w ∈ gAll := fun w h => gS40 w (List.mem_append_right _ h)
theorem gS42 : ∀ w ∈ gB42, w ∈ gAll := fun w h => gS41 w (List.mem_append_right _ h)
theorem gS43 : ∀ w ∈ gB43, w ∈ gAll := fun w h => gS42 w (List.mem_append_right _ h)
theorem gM0 : ∀ w ∈ gA0, w ∈ gAll := fun w h => gS0 w (List.mem_append_left _ h)
theorem gM1 : ∀ w ∈ gA1, w ∈ gAll := fun w h => gS1 w (List.mem_append_left _ h)
theorem gM2 : ∀ w ∈ gA2, w ∈ gAll := fun w h => gS2 w (List.mem_append_left _ h)
theorem gM3 : ∀ w ∈ gA3, w ∈ gAll := fun w h => gS3 w (List.mem_append_left _ h)
theorem gM4 : ∀ w ∈ gA4, w ∈ gAll := fun w h => gS4 w (List.mem_append_left _ h)
theorem gM5 : ∀ w ∈ gA5, w ∈ gAll := fun w h => gS5 w (List.mem_append_left _ h)
theorem gM6 : ∀ w ∈ gA6, w ∈ gAll := fun w h => gS6 w (List.mem_append_left _ h)
theorem gM7 : ∀ w ∈ gA7, w ∈ gAll := fun w h => gS7 w (List.mem_append_left _ h)
theorem gM8 : ∀ w ∈ gA8, w ∈ gAll := fun w h => gS8 w (List.mem_append_left _ h)
theorem gM9 : ∀ w ∈ gA9, w ∈ gAll := fun w h => gS9 w (List.mem_append_left _ h)
theorem gM10 : ∀ w ∈ gA10, w ∈ gAll := fun w h => gS10 w (List.mem_append_left _ h)
theorem gM11 : ∀ w ∈ gA11, w ∈ gAll := fun w h => gS11 w (List.mem_append_left _ h)
theorem gM12 : ∀ w ∈ gA12, w ∈ gAll := fun w h => gS12 w (List.mem_append_left _ h)
theorem gM13 : ∀ w ∈ gA13, w ∈ gAll := fun w h => gS13 w (List.mem_append_left _ h)
theorem gM14 : ∀ w ∈ gA14, w ∈ gAll := fun w h => gS14 w (List.mem_append_left _ h)
theorem gM15 : ∀ w ∈ gA15, w ∈ gAll := fun w h => gS15 w (List.mem_append_left _ h)
theorem gM16 : ∀ w ∈ gA16, w ∈ gAll := fun w h => gS16 w (List.mem_append_left _ h)
theorem gM17 : ∀ w ∈ gA17, w ∈ gAll := fun w h => gS17 w (List.mem_append_left _ h)
theorem gM18 : ∀ w ∈ gA18, w ∈ gAll := fun w h => gS18 w (List.mem_append_left _ h)
theorem gM19 : ∀ w ∈ gA19, w ∈ gAll := fun w h => gS19 w (List.mem_append_left _ h)
theorem gM20 : ∀ w ∈ gA20, w ∈ gAll := fun w h => gS20 w (List.mem_append_left _ h)
theorem gM21 : ∀ w ∈ gA21, w ∈ gAll := fun w h => gS21 w (List.mem_append_left _ h)
theorem gM22 : ∀ w ∈ gA22, w ∈ gAll := fun w h => gS22 w (List.mem_append_left _ h)
theorem gM23 : ∀ w ∈ gA23, w ∈ gAll := fun w h => gS23 w (List.mem_append_left _ h)
theorem gM24 : ∀ w ∈ gA24, w ∈ gAll := fun w h => gS24 w (List.mem_append_left _ h)
theorem gM25 : ∀ w ∈ gA25, w ∈ gAll := fun w h => gS25 w (List.mem_append_left _ h)
theorem gM26 : ∀ w ∈ gA26, w ∈ gAll := fun w h => gS26 w (List.mem_append_left _ h)
theorem gM27 : ∀ w ∈ gA27, w ∈ gAll := fun w h => gS27 w (List.mem_append_left _ h)
theorem gM28 : ∀ w ∈ gA28, w ∈ gAll := fun w h => gS28 w (List.mem_append_left _ h)
theorem gM29 : ∀ w ∈ gA29, w ∈ gAll := fun w h => gS29 w (List.mem_append_left _ h)
theorem gM30 : ∀ w ∈ gA30, w ∈ gAll := fun w h => gS30 w (List.mem_append_left _ h)
theorem gM31 : ∀ w ∈ gA31, w ∈ gAll := fun w h => gS31 w (List.mem_append_left _ h)
theorem gM32 : ∀ w ∈ gA32, w ∈ gAll := fun w h => gS32 w (List.mem_append_left _ h)
theorem gM33 : ∀ w ∈ wsX00, w ∈ gAll := fun w h => gS33 w (List.mem_append_left _ h)
theorem gM34 : ∀ w ∈ wsX30, w ∈ gAll := fun w h => gS34 w (List.mem_append_left _ h)
theorem gM35 : ∀ w ∈ wsX40, w ∈ gAll := fun w h => gS35 w (List.mem_append_left _ h)
theorem gM36 : ∀ w ∈ wsX50, w ∈ gAll := fun w h => gS36 w (List.mem_append_left _ h)
theorem gM37 : ∀ w ∈ wsX60, w ∈ gAll := fun w h => gS37 w (List.mem_append_left _ h)
theorem gM38 : ∀ w ∈ wsX70, w ∈ gAll := fun w h => gS38 w (List.mem_append_left _ h)
theorem gM39 : ∀ w ∈ wsX80, w ∈ gAll := fun w h => gS39 w (List.mem_append_left _ h)
theorem gM40 : ∀ w ∈ wsX90, w ∈ gAll := fun w h => gS40 w (List.mem_append_left _ h)
theorem gM41 : ∀ w ∈ wsX100, w ∈ gAll := fun w h => gS41 w (List.mem_append_left _ h)
theorem gM42 : ∀ w ∈ wsX110, w ∈ gAll := fun w h => gS42 w (List.mem_append_left _ h)
theorem gM43 : ∀ w ∈ wsX120, w ∈ gAll := fun w h => gS43 w h
theorem gG0 : gA0.all goodWord = true := by decide +kernel
theorem gG1 : gA1.all goodWord = true := by decide +kernel
theorem gG2 : gA2.all goodWord = true := by decide +kernel
theorem gG3 : gA3.all goodWord = true := by decide +kernel
theorem gG4 : gA4.all goodWord = true := by decide +kernel
theorem gG5 : gA5.all goodWord = true := by decide +kernel
theorem gG6 : gA6.all goodWord = true := by decide +kernel
theorem gG7 : gA7.all goodWord = true := by decide +kernel
theorem gG8 : gA8.all goodWord = true := by decide +kernel
theorem gG9 : gA9.all goodWord = true := by decide +kernel
theorem gG10 : gA10.all goodWord = true := by decide +kernel
theorem gG11 : gA11.all goodWord = true := by decide +kernel
theorem gG12 : gA12.all goodWord = true := by decide +kernel
theorem gG13 : gA13.all goodWord = true := by decide +kernel
theorem gG14 : gA14.all goodWord = true := by decide +kernel
theorem gG15 : gA15.all goodWord = true := by decide +kernel
theorem gG16 : gA16.all goodWord = true := by decide +kernel
theorem gG17 : gA17.all goodWord = true := by decide +kernel
theorem gG18 : gA18.all goodWord = true := by decide +kernel
theorem gG19 : gA19.all goodWord = true := by decide +kernel
theorem gG20 : gA20.all goodWord = true := by decide +kernel
theorem gG21 : gA21.all goodWord = true := by decide +kernel
theorem gG22 : gA22.all goodWord = true := by decide +kernel
theorem gG23 : gA23.all goodWord = true := by decide +kernel
theorem gG24 : gA24.all goodWord = true := by decide +kernel
theorem gG25 : gA25.all goodWord = true := by decide +kernel
theorem gG26 : gA26.all goodWord = true := by decide +kernel
theorem gG27 : gA27.all goodWord = true := by decide +kernel
theorem gG28 : gA28.all goodWord = true := by decide +kernel
theorem gG29 : gA29.all goodWord = true := by decide +kernel
theorem gG30 : gA30.all goodWord = true := by decide +kernel
theorem gG31 : gA31.all goodWord = true := by decide +kernel
theorem gG32 : gA32.all goodWord = true := by decide +kernel
theorem gG33 : wsX00.all goodWord = true := by decide +kernel
theorem gG34 : wsX30.all goodWord = true := by decide +kernel
theorem gG35 : wsX40.all goodWord = true := by decide +kernel
theorem gG36 : wsX50.all goodWord = true := by decide +kernel
theorem gG37 : wsX60.all goodWord = true := by decide +kernel
theorem gG38 : wsX70.all goodWord = true := by decide +kernel
theorem gG39 : wsX80.all goodWord = true := by decide +kernel
theorem gG40 : wsX90.all goodWord = true := by decide +kernel
theorem gG41 : wsX100.all goodWord = true := by decide +kernel
theorem gG42 : wsX110.all goodWord = true := by decide +kernel
theorem gG43 : wsX120.all goodWord = true := by decide +kernel
theorem gT43 : ∀ w ∈ gB43, goodWord w = true := fun w h => List.all_eq_true.mp gG43 w h
theorem gT42 : ∀ w ∈ gB42, goodWord w = true := fun w h => (List.mem_append.mp h).elim (fun h => List.all_eq_true.mp gG42 w h) (gT43 w)
theorem gT41 : ∀ w ∈ gB41, goodWord w = true := fun w h => (List.mem_append.mp h).elim (fun h => List.all_eq_true.mp gG41 w h) (gT42 w)
theorem gT40 : ∀ w ∈ gB40, goodWord w = true := fun w h => (List.mem_append.mp h).elim (fun h => List.all_eq_true.mp gG40 w h) (gT41 w)
theorem gT39 : ∀ w ∈ gB39, goodWord w = true := fun w h => (List.mem_append.mp h).elim (fun h => List.all_eq_true.mp gG39 w h) (gT40 w)
theorem gT38 : ∀ w ∈ gB38, goodWord w = true := fun w h => (List.mem_append.mp h).elim (fun h => List.all_eq_true.mp gG38 w h) (gT39 w)
theorem gT37 : ∀ w ∈ gB37, goodWord w = true := fun w h => (List.mem_append.mp h).elim (fun h => List.all_eq_true.mp gG37 w h) (gT38 w)
theorem gT36 : ∀ w ∈ gB36, goodWord w = true := fun w h => (List.mem_append.mp h).elim (fun h => List.all_eq_true.mp gG36 w h) (gT37 w)
theorem gT35 : ∀ w ∈ gB35, goodWord w = true := fun w h => (List.mem_append.mp h).elim (fun h => List.all_eq_true.mp gG35 w h) (gT36 w)
theorem gT34 : ∀ w ∈ gB34, goodWord w = true := fun w h => (List.mem_append.mp h).elim (fun h => List.all_eq_true.mp gG34 w h) (gT35 w)
theorem gT33 : ∀ w ∈ gB33, goodWord w = true := fun w h => (List.mem_append.mp h).elim (fun h => List.all_eq_true.mp gG33 w h) (gT34 w)
theorem gT32 : ∀ w ∈ gB32, goodWord w = true := fun w h => (List.mem_append.mp h).elim (fun h => List.all_eq_true.mp gG32 w h) (gT33 w)
theorem gT31 : ∀ w ∈ gB31, goodWord w = true := fun w h => (List.mem_append.mp h).elim (fun h => List.all_eq_true.mp gG31 w h) (gT32 w)
theorem gT30 : ∀ w ∈ gB30, goodWord w = true := fun w h => (List.mem_append.mp h).elim (fun h => List.all_eq_true.mp gG30 w h) (gT31 w)
theorem gT29 : ∀ w ∈ gB29, goodWord w = true := fun w h => (List.mem_append.mp h).elim (fun h => List.all_eq_true.mp gG29 w h) (gT30 w)
theorem gT28 : ∀ w ∈ gB28, goodWord w = true := fun w h => (List.mem_append.mp h).elim (fun h => List.all_eq_true.mp gG28 w h) (gT29 w)
theorem gT27 : ∀ w ∈ gB27, goodWord w = true := fun w h => (List.mem_append.mp h).elim (fun h => List.all_eq_true.mp gG27 w h) (gT28 w)
theorem gT26 : ∀ w ∈ gB26, goodWord w = true := fun w h => (List.mem_append.mp h).elim (fun h => List.all_eq_true.mp gG26 w h) (gT27 w)
theorem gT25 : ∀ w ∈ gB25, goodWord w = true := fun w h => (List.mem_append.mp h).elim (fun h => List.all_eq_true.mp gG25 w h) (gT26 w)
theorem gT24 : ∀ w ∈ gB24, goodWord w = true := fun w h => (List.mem_append.mp h).elim (fun h => List.all_eq_true.mp gG24 w h) (gT25 w)
theorem gT23 : ∀ w ∈ gB23, goodWord w = true := fun w h => (List.mem_append.mp h).elim (fun h => List.all_eq_true.mp gG23 w h) (gT24 w)
theorem gT22 : ∀ w ∈ gB22, goodWord w = true := fun w h => (List.mem_append.mp h).elim (fun h => List.all_eq_true.mp gG22 w h) (gT23 w)
theorem gT21 : ∀ w ∈ gB21, goodWord w = true := fun w h => (List.mem_append.mp h).elim (fun h => List.all_eq_true.mp gG21 w h) (gT22 w)
theorem gT20 : ∀ w ∈ gB20, goodWord w = true := fun w h => (List.mem_append.mp h).elim (fun h => List.all_eq_true.mp gG20 w h) (gT21 w)
theorem gT19 : ∀ w ∈ gB19, goodWord w = true := fun w h => (List.mem_append.mp h).elim (fun h => List.all_eq_true.mp gG19 w h) (gT20 w)
theorem gT18 : ∀ w ∈ gB18, goodWord w = true := fun w h => (List.mem_append.mp h).elim (fun h => List.all_eq_true.mp gG18 w h) (gT19 w)
theorem gT17 : ∀ w ∈ gB17, goodWord w = true := fun w h => (List.mem_append.mp h).elim (fun h => List.all_eq_true.mp gG17 w h) (gT18 w)
theorem gT16 : ∀ w ∈ gB16, goodWord w = true := fun w h => (List.mem_append.mp h).elim (fun h => List.all_eq_true.mp gG16 w h) (gT17 w)
theorem gT15 : ∀ w ∈ gB15, goodWord w = true := fun w h => (List.mem_append.mp h).elim (fun h => List.all_eq_true.mp gG15 w h) (gT16 w)
theorem gT14 : ∀ w ∈ gB14, goodWord w = true := fun w h => (List.mem_append.mp h).elim (fun h => List.all_eq_true.mp gG14 w h) (gT15 w)
theorem gT13 : ∀ w ∈ gB13, goodWord w = true := fun w h => (List.mem_append.mp h).elim (fun h => List.all_eq_true.mp gG13 w h) (gT14 w)
theorem gT12 : ∀ w ∈ gB12, goodWord w = true := fun w h => (List.mem_append.mp h).elim (fun h => List.all_eq_true.mp gG12 w h) (gT13 w)
theorem gT11 : ∀ w ∈ gB11, goodWord w = true := fun w h => (List.mem_append.mp h).elim (fun h => List.all_eq_true.mp gG11 w h) (gT12 w)
theorem gT10 : ∀ w ∈ gB10, goodWord w = true := fun w h => (List.mem_append.mp h).elim (fun h => List.all_eq_true.mp gG10 w h) (gT11 w)
theorem gT9 : ∀ w ∈ gB9, goodWord w = true := fun w h => (List.mem_append.mp h).elim (fun h => List.all_eq_true.mp gG9 w h) (gT10 w)
theorem gT8 : ∀ w ∈ gB8, goodWord w = true := fun w h => (List.mem_append.mp h).elim (fun h => List.all_eq_true.mp gG8 w h) (gT9 w)
theorem gT7 : ∀ w ∈ gB7, goodWord w = true := fun w h => (List.mem_append.mp h).elim (fun h => List.all_eq_true.mp gG7 w h) (gT8 w)
theorem gT6 : ∀ w ∈ gB6, goodWord w = true := fun w h => (List.mem_append.mp h).elim (fun h => List.all_eq_true.mp gG6 w h) (gT7 w)
theorem gT5 : ∀ w ∈ gB5, goodWord w = true := fun w h => (List.mem_append.mp h).elim (fun h => List.all_eq_true.mp gG5 w h) (gT6 w)
theorem gT4 : ∀ w ∈ gB4, goodWord w = true := fun w h => (List.mem_append.mp h).elim (fun h => List.all_eq_true.mp gG4 w h) (gT5 w)
theorem gT3 : ∀ w ∈ gB3, goodWord w = true := fun w h => (List.mem_append.mp h).elim (fun h => List.all_eq_true.mp gG3 w h) (gT4 w)
theorem gT2 : ∀ w ∈ gB2, goodWord w = true := fun w h => (List.mem_append.mp h).elim (fun h => List.all_eq_true.mp gG2 w h) (gT3 w)
theorem gT1 : ∀ w ∈ gB1, goodWord w = true := fun w h => (List.mem_append.mp h).elim (fun h => List.all_eq_true.mp gG1 w h) (gT2 w)
theorem gT0 : ∀ w ∈ gB0, goodWord w = true := fun w h => (List.mem_append.mp h).elim (fun h => List.all_eq_true.mp gG0 w h) (gT1 w)
theorem gAll_good : GoodIn gAll gAll := fun w h => ⟨h, good_of_word (gT0 w h)⟩
theorem ku_X0 : ∀ w ∈ wsX00, w ∈ gAll := gM33
theorem ku_X3 : ∀ w ∈ wsX30, w ∈ gAll := gM34
theorem ku_X4 : ∀ w ∈ wsX40, w ∈ gAll := gM35
theorem ku_X5 : ∀ w ∈ wsX50, w ∈ gAll := gM36
theorem ku_X6 : ∀ w ∈ wsX60, w ∈ gAll := gM37
theorem ku_X7 : ∀ w ∈ wsX70, w ∈ gAll := gM38
theorem ku_X8 : ∀ w ∈ wsX80, w ∈ gAll := gM39
theorem ku_X9 : ∀ w ∈ wsX90, w ∈ gAll := gM40
theorem ku_X10 : ∀ w ∈ wsX100, w ∈ gAll := gM41
theorem ku_X11 : ∀ w ∈ wsX110, w ∈ gAll := gM42
theorem ku_X12 : ∀ w ∈ wsX120, w ∈ gAll := gM43
theorem kw_0 : Cond.code yX0_init cX0_init 1 none ∈ gAll := gM0 _ (List.mem_of_getElem? (i := 0) rfl)
theorem kw_1 : Cond.methodLink RX0 3 objectInit ∈ gAll := gM0 _ (List.mem_of_getElem? (i := 1) rfl)
theorem kw_2 : Cond.instanceMethod objectInit ∈ gAll := gM0 _ (List.mem_of_getElem? (i := 2) rfl)
theorem kw_3 : Cond.code objectInit ⟨#[0xb1]⟩ 1 none ∈ gAll := gM0 _ (List.mem_of_getElem? (i := 3) rfl)
theorem kw_4 : Cond.arrayClass .int ∈ gAll := gM0 _ (List.mem_of_getElem? (i := 4) rfl)
theorem kw_5 : Cond.fieldLink RX0 11 "ClockCourt$Bounds" "limits" "[I" ∈ gAll := gM0 _ (List.mem_of_getElem? (i := 5) rfl)
theorem kw_6 : Cond.code yX0_limitOf cX0_limitOf 3 (some .int) ∈ gAll := gM0 _ (List.mem_of_getElem? (i := 6) rfl)
theorem kw_7 : Cond.code yX0_limit cX0_limit 4 none ∈ gAll := gM0 _ (List.mem_of_getElem? (i := 7) rfl)
theorem kw_8 : Cond.code yX0_ticksOf cX0_ticksOf 4 (some .int) ∈ gAll := gM0 _ (List.mem_of_getElem? (i := 8) rfl)
theorem kw_9 : Cond.code yX0_behind cX0_behind 9 (some .long) ∈ gAll := gM0 _ (List.mem_of_getElem? (i := 9) rfl)
theorem kw_10 : Cond.constantLong RX0 15 (15) ∈ gAll := gM0 _ (List.mem_of_getElem? (i := 10) rfl)
theorem kw_11 : Cond.constantLong RX0 17 (-1) ∈ gAll := gM0 _ (List.mem_of_getElem? (i := 11) rfl)
theorem kw_12 : Cond.methodLink RX0 19 yX0_ticksOf ∈ gAll := gM0 _ (List.mem_of_getElem? (i := 12) rfl)
theorem kw_13 : Cond.static yX0_ticksOf ∈ gAll := gM0 _ (List.mem_of_getElem? (i := 13) rfl)
theorem kw_14 : Cond.initialized RX0 ∈ gAll := gM0 _ (List.mem_of_getElem? (i := 14) rfl)
theorem kw_15 : Cond.code yX4_isCell cX4_isCell 2 (some .boolean) ∈ gAll := gM0 _ (List.mem_of_getElem? (i := 15) rfl)
theorem kw_16 : Cond.fieldLink RX4 9 "ClockCourt$Net" "cells" "I" ∈ gAll := gM0 _ (List.mem_of_getElem? (i := 16) rfl)
theorem kw_17 : Cond.code yX4_isKeeper cX4_isKeeper 2 (some .boolean) ∈ gAll := gM0 _ (List.mem_of_getElem? (i := 17) rfl)
theorem kw_18 : Cond.fieldLink RX4 27 "ClockCourt$Net" "kind" "[I" ∈ gAll := gM0 _ (List.mem_of_getElem? (i := 18) rfl)
theorem kw_19 : Cond.methodLink RX4 59 yX4_isCell ∈ gAll := gM0 _ (List.mem_of_getElem? (i := 19) rfl)
theorem kw_20 : Cond.instanceMethod yX4_isCell ∈ gAll := gM0 _ (List.mem_of_getElem? (i := 20) rfl)
theorem kw_21 : Cond.selects RX4 yX4_isCell yX4_isCell ∈ gAll := gM0 _ (List.mem_of_getElem? (i := 21) rfl)
theorem kw_22 : Cond.initialized RX4 ∈ gAll := gM0 _ (List.mem_of_getElem? (i := 22) rfl)
theorem kw_23 : Cond.code yX4_foreignBits cX4_foreignBits 2 (some .int) ∈ gAll := gM0 _ (List.mem_of_getElem? (i := 23) rfl)
theorem kw_24 : Cond.fieldLink RX4 52 "ClockCourt$Net" "hangsOn" "[I" ∈ gAll := gM0 _ (List.mem_of_getElem? (i := 24) rfl)
theorem kw_25 : Cond.fieldLink RX4 34 "ClockCourt$Net" "x" "[I" ∈ gAll := gM0 _ (List.mem_of_getElem? (i := 25) rfl)
theorem kw_26 : Cond.fieldLink RX4 49 "ClockCourt$Net" "bitsOfClock" "[I" ∈ gAll := gM0 _ (List.mem_of_getElem? (i := 26) rfl)
theorem kw_27 : Cond.fieldLink RX4 31 "ClockCourt$Net" "clock" "[I" ∈ gAll := gM0 _ (List.mem_of_getElem? (i := 27) rfl)
theorem kw_28 : Cond.code yX1_crosses cX1_crosses 2 (some .boolean) ∈ gAll := gM0 _ (List.mem_of_getElem? (i := 28) rfl)
theorem kw_29 : Cond.methodLink RX1 49 yX4_isKeeper ∈ gAll := gM0 _ (List.mem_of_getElem? (i := 29) rfl)
theorem kw_30 : Cond.instanceMethod yX4_isKeeper ∈ gAll := gM0 _ (List.mem_of_getElem? (i := 30) rfl)
theorem kw_31 : Cond.selects RX4 yX4_isKeeper yX4_isKeeper ∈ gAll := gM0 _ (List.mem_of_getElem? (i := 31) rfl)
theorem kw_32 : Cond.methodLink RX1 52 yX4_foreignBits ∈ gAll := gM1 _ (List.mem_of_getElem? (i := 0) rfl)
theorem kw_33 : Cond.instanceMethod yX4_foreignBits ∈ gAll := gM1 _ (List.mem_of_getElem? (i := 1) rfl)
theorem kw_34 : Cond.selects RX4 yX4_foreignBits yX4_foreignBits ∈ gAll := gM1 _ (List.mem_of_getElem? (i := 2) rfl)
theorem kw_35 : Cond.code yX1_size cX1_size 3 (some .int) ∈ gAll := gM1 _ (List.mem_of_getElem? (i := 3) rfl)
theorem kw_36 : Cond.fieldLink RX1 9 "ClockCourt$Net" "cells" "I" ∈ gAll := gM1 _ (List.mem_of_getElem? (i := 4) rfl)
theorem kw_37 : Cond.methodLink RX1 15 yX1_crosses ∈ gAll := gM1 _ (List.mem_of_getElem? (i := 5) rfl)
theorem kw_38 : Cond.static yX1_crosses ∈ gAll := gM1 _ (List.mem_of_getElem? (i := 6) rfl)
theorem kw_39 : Cond.initialized RX1 ∈ gAll := gM1 _ (List.mem_of_getElem? (i := 7) rfl)
theorem kw_40 : Cond.code yX1_keeperOf cX1_keeperOf 4 (some .int) ∈ gAll := gM1 _ (List.mem_of_getElem? (i := 8) rfl)
theorem kw_41 : Cond.code yX1_isStill cX1_isStill 2 (some .boolean) ∈ gAll := gM1 _ (List.mem_of_getElem? (i := 9) rfl)
theorem kw_42 : Cond.fieldLink RX1 56 "ClockCourt$Net" "stillBits" "I" ∈ gAll := gM1 _ (List.mem_of_getElem? (i := 10) rfl)
theorem kw_43 : Cond.code yX4_isBit cX4_isBit 2 (some .boolean) ∈ gAll := gM1 _ (List.mem_of_getElem? (i := 11) rfl)
theorem kw_44 : Cond.code yX1_isPassedOn cX1_isPassedOn 4 (some .boolean) ∈ gAll := gM1 _ (List.mem_of_getElem? (i := 12) rfl)
theorem kw_45 : Cond.fieldLink RX1 21 "ClockCourt$Net" "x" "[I" ∈ gAll := gM1 _ (List.mem_of_getElem? (i := 13) rfl)
theorem kw_46 : Cond.fieldLink RX1 62 "ClockCourt$Net" "y" "[I" ∈ gAll := gM1 _ (List.mem_of_getElem? (i := 14) rfl)
theorem kw_47 : Cond.fieldLink RX1 65 "ClockCourt$Net" "z" "[I" ∈ gAll := gM1 _ (List.mem_of_getElem? (i := 15) rfl)
theorem kw_48 : Cond.fieldLink RX1 39 "ClockCourt$Net" "clock" "[I" ∈ gAll := gM1 _ (List.mem_of_getElem? (i := 16) rfl)
theorem kw_49 : Cond.methodLink RX1 25 yX1_isStill ∈ gAll := gM1 _ (List.mem_of_getElem? (i := 17) rfl)
theorem kw_50 : Cond.static yX1_isStill ∈ gAll := gM1 _ (List.mem_of_getElem? (i := 18) rfl)
theorem kw_51 : Cond.methodLink RX1 35 yX4_isBit ∈ gAll := gM1 _ (List.mem_of_getElem? (i := 19) rfl)
theorem kw_52 : Cond.instanceMethod yX4_isBit ∈ gAll := gM1 _ (List.mem_of_getElem? (i := 20) rfl)
theorem kw_53 : Cond.selects RX4 yX4_isBit yX4_isBit ∈ gAll := gM1 _ (List.mem_of_getElem? (i := 21) rfl)
theorem kw_54 : Cond.methodLink RX1 59 yX1_isPassedOn ∈ gAll := gM1 _ (List.mem_of_getElem? (i := 22) rfl)
theorem kw_55 : Cond.static yX1_isPassedOn ∈ gAll := gM1 _ (List.mem_of_getElem? (i := 23) rfl)
theorem kw_56 : Cond.code yX1_isTwice cX1_isTwice 2 (some .boolean) ∈ gAll := gM1 _ (List.mem_of_getElem? (i := 24) rfl)
theorem kw_57 : Cond.fieldLink RX1 68 "ClockCourt$Net" "kind" "[I" ∈ gAll := gM1 _ (List.mem_of_getElem? (i := 25) rfl)
theorem kw_58 : Cond.methodLink RX1 28 yX1_isTwice ∈ gAll := gM1 _ (List.mem_of_getElem? (i := 26) rfl)
theorem kw_59 : Cond.static yX1_isTwice ∈ gAll := gM1 _ (List.mem_of_getElem? (i := 27) rfl)
theorem kw_60 : Cond.code yX1_isHeld cX1_isHeld 5 (some .boolean) ∈ gAll := gM1 _ (List.mem_of_getElem? (i := 28) rfl)
theorem kw_61 : Cond.methodLink RX1 31 yX1_isHeld ∈ gAll := gM1 _ (List.mem_of_getElem? (i := 29) rfl)
theorem kw_62 : Cond.static yX1_isHeld ∈ gAll := gM1 _ (List.mem_of_getElem? (i := 30) rfl)
theorem kw_63 : Cond.code yX1_kindOf cX1_kindOf 3 (some .int) ∈ gAll := gM1 _ (List.mem_of_getElem? (i := 31) rfl)
theorem kw_64 : Cond.code yX1_meets cX1_meets 3 (some .boolean) ∈ gAll := gM2 _ (List.mem_of_getElem? (i := 0) rfl)
theorem kw_65 : Cond.methodLink RX1 42 yX1_kindOf ∈ gAll := gM2 _ (List.mem_of_getElem? (i := 1) rfl)
theorem kw_66 : Cond.static yX1_kindOf ∈ gAll := gM2 _ (List.mem_of_getElem? (i := 2) rfl)
theorem kw_67 : Cond.methodLink RX1 46 yX1_meets ∈ gAll := gM2 _ (List.mem_of_getElem? (i := 3) rfl)
theorem kw_68 : Cond.static yX1_meets ∈ gAll := gM2 _ (List.mem_of_getElem? (i := 4) rfl)
theorem kw_69 : Cond.code yX1_isBad cX1_isBad 2 (some .boolean) ∈ gAll := gM2 _ (List.mem_of_getElem? (i := 5) rfl)
theorem kw_70 : Cond.code yX2_init cX2_init 1 none ∈ gAll := gM2 _ (List.mem_of_getElem? (i := 6) rfl)
theorem kw_71 : Cond.methodLink RX2 1 objectInit ∈ gAll := gM2 _ (List.mem_of_getElem? (i := 7) rfl)
theorem kw_72 : Cond.code yX3_init cX3_init 3 none ∈ gAll := gM2 _ (List.mem_of_getElem? (i := 8) rfl)
theorem kw_73 : Cond.fieldLink RX3 9 "ClockCourt$HeldCell" "number" "I" ∈ gAll := gM2 _ (List.mem_of_getElem? (i := 9) rfl)
theorem kw_74 : Cond.fieldLink RX3 15 "ClockCourt$Net" "kind" "[I" ∈ gAll := gM2 _ (List.mem_of_getElem? (i := 10) rfl)
theorem kw_75 : Cond.fieldLink RX3 21 "ClockCourt$HeldCell" "kind" "I" ∈ gAll := gM2 _ (List.mem_of_getElem? (i := 11) rfl)
theorem kw_76 : Cond.fieldLink RX3 23 "ClockCourt$Net" "clock" "[I" ∈ gAll := gM2 _ (List.mem_of_getElem? (i := 12) rfl)
theorem kw_77 : Cond.fieldLink RX3 26 "ClockCourt$HeldCell" "clock" "I" ∈ gAll := gM2 _ (List.mem_of_getElem? (i := 13) rfl)
theorem kw_78 : Cond.fieldLink RX3 28 "ClockCourt$Net" "x" "[I" ∈ gAll := gM2 _ (List.mem_of_getElem? (i := 14) rfl)
theorem kw_79 : Cond.fieldLink RX3 31 "ClockCourt$HeldCell" "source" "I" ∈ gAll := gM2 _ (List.mem_of_getElem? (i := 15) rfl)
theorem kw_80 : Cond.instanceMethod yX2_init ∈ gAll := gM2 _ (List.mem_of_getElem? (i := 16) rfl)
theorem kw_81 : Cond.initialized RX2 ∈ gAll := gM2 _ (List.mem_of_getElem? (i := 17) rfl)
theorem kw_82 : Cond.code yX3_weigh cX3_weigh 1 (some .int) ∈ gAll := gM2 _ (List.mem_of_getElem? (i := 18) rfl)
theorem kw_83 : Cond.code yX3_fail cX3_fail 1 none ∈ gAll := gM2 _ (List.mem_of_getElem? (i := 19) rfl)
theorem kw_84 : Cond.classLink RX3 37 "java/lang/IllegalStateException" ∈ gAll := gM2 _ (List.mem_of_getElem? (i := 20) rfl)
theorem kw_85 : Cond.initialized "java/lang/IllegalStateException" ∈ gAll := gM2 _ (List.mem_of_getElem? (i := 21) rfl)
theorem kw_86 : Cond.methodLink RX3 34 yX3_fail ∈ gAll := gM2 _ (List.mem_of_getElem? (i := 22) rfl)
theorem kw_87 : Cond.instanceMethod yX3_fail ∈ gAll := gM2 _ (List.mem_of_getElem? (i := 23) rfl)
theorem kw_88 : Cond.selects RX3 yX3_fail yX3_fail ∈ gAll := gM2 _ (List.mem_of_getElem? (i := 24) rfl)
theorem kw_89 : Cond.initialized RX3 ∈ gAll := gM2 _ (List.mem_of_getElem? (i := 25) rfl)
theorem kw_90 : Cond.code yX4_init cX4_init 1 none ∈ gAll := gM2 _ (List.mem_of_getElem? (i := 26) rfl)
theorem kw_91 : Cond.methodLink RX4 3 objectInit ∈ gAll := gM2 _ (List.mem_of_getElem? (i := 27) rfl)
theorem kw_92 : Cond.fieldLink RX4 15 "ClockCourt$Net" "bits" "I" ∈ gAll := gM2 _ (List.mem_of_getElem? (i := 28) rfl)
theorem kw_93 : Cond.fieldLink RX4 18 "ClockCourt$Net" "firstBits" "I" ∈ gAll := gM2 _ (List.mem_of_getElem? (i := 29) rfl)
theorem kw_94 : Cond.fieldLink RX4 21 "ClockCourt$Net" "stillBits" "I" ∈ gAll := gM2 _ (List.mem_of_getElem? (i := 30) rfl)
theorem kw_95 : Cond.fieldLink RX4 24 "ClockCourt$Net" "keeperBits" "I" ∈ gAll := gM2 _ (List.mem_of_getElem? (i := 31) rfl)
theorem kw_96 : Cond.fieldLink RX4 37 "ClockCourt$Net" "y" "[I" ∈ gAll := gM3 _ (List.mem_of_getElem? (i := 0) rfl)
theorem kw_97 : Cond.fieldLink RX4 40 "ClockCourt$Net" "z" "[I" ∈ gAll := gM3 _ (List.mem_of_getElem? (i := 1) rfl)
theorem kw_98 : Cond.fieldLink RX4 43 "ClockCourt$Net" "bitOf" "[I" ∈ gAll := gM3 _ (List.mem_of_getElem? (i := 2) rfl)
theorem kw_99 : Cond.fieldLink RX4 46 "ClockCourt$Net" "cellOf" "[I" ∈ gAll := gM3 _ (List.mem_of_getElem? (i := 3) rfl)
theorem kw_100 : Cond.arrayClass .long ∈ gAll := gM3 _ (List.mem_of_getElem? (i := 4) rfl)
theorem kw_101 : Cond.fieldLink RX4 55 "ClockCourt$Net" "table" "[J" ∈ gAll := gM3 _ (List.mem_of_getElem? (i := 5) rfl)
theorem kw_102 : Cond.code yX4_takesNoBit cX4_takesNoBit 1 (some .boolean) ∈ gAll := gM3 _ (List.mem_of_getElem? (i := 6) rfl)
theorem kw_103 : Cond.code yX4_put cX4_put 6 none ∈ gAll := gM3 _ (List.mem_of_getElem? (i := 7) rfl)
theorem kw_104 : Cond.code yX4_wordOfBit cX4_wordOfBit 2 (some .long) ∈ gAll := gM3 _ (List.mem_of_getElem? (i := 8) rfl)
theorem kw_105 : Cond.fieldLink RX4 79 "ClockCourt$Net" "LOW_BITS" "[J" ∈ gAll := gM3 _ (List.mem_of_getElem? (i := 9) rfl)
theorem kw_106 : Cond.constantLong RX4 82 (-1) ∈ gAll := gM3 _ (List.mem_of_getElem? (i := 10) rfl)
theorem kw_107 : Cond.code yX4_addBit cX4_addBit 7 (some .int) ∈ gAll := gM3 _ (List.mem_of_getElem? (i := 11) rfl)
theorem kw_108 : Cond.methodLink RX4 63 yX4_put ∈ gAll := gM3 _ (List.mem_of_getElem? (i := 12) rfl)
theorem kw_109 : Cond.instanceMethod yX4_put ∈ gAll := gM3 _ (List.mem_of_getElem? (i := 13) rfl)
theorem kw_110 : Cond.selects RX4 yX4_put yX4_put ∈ gAll := gM3 _ (List.mem_of_getElem? (i := 14) rfl)
theorem kw_111 : Cond.methodLink RX4 67 yX4_wordOfBit ∈ gAll := gM3 _ (List.mem_of_getElem? (i := 15) rfl)
theorem kw_112 : Cond.static yX4_wordOfBit ∈ gAll := gM3 _ (List.mem_of_getElem? (i := 16) rfl)
theorem kw_113 : Cond.code yX4_wordOfGate cX4_wordOfGate 7 (some .long) ∈ gAll := gM3 _ (List.mem_of_getElem? (i := 17) rfl)
theorem kw_114 : Cond.code yX4_workOut cX4_workOut 6 none ∈ gAll := gM3 _ (List.mem_of_getElem? (i := 18) rfl)
theorem kw_115 : Cond.methodLink RX4 84 yX4_wordOfGate ∈ gAll := gM3 _ (List.mem_of_getElem? (i := 19) rfl)
theorem kw_116 : Cond.static yX4_wordOfGate ∈ gAll := gM3 _ (List.mem_of_getElem? (i := 20) rfl)
theorem kw_117 : Cond.code yX4_addGate cX4_addGate 6 (some .int) ∈ gAll := gM3 _ (List.mem_of_getElem? (i := 21) rfl)
theorem kw_118 : Cond.methodLink RX4 71 yX4_workOut ∈ gAll := gM3 _ (List.mem_of_getElem? (i := 22) rfl)
theorem kw_119 : Cond.instanceMethod yX4_workOut ∈ gAll := gM3 _ (List.mem_of_getElem? (i := 23) rfl)
theorem kw_120 : Cond.selects RX4 yX4_workOut yX4_workOut ∈ gAll := gM3 _ (List.mem_of_getElem? (i := 24) rfl)
theorem kw_121 : Cond.methodLink RX4 75 yX4_addBit ∈ gAll := gM3 _ (List.mem_of_getElem? (i := 25) rfl)
theorem kw_122 : Cond.instanceMethod yX4_addBit ∈ gAll := gM3 _ (List.mem_of_getElem? (i := 26) rfl)
theorem kw_123 : Cond.selects RX4 yX4_addBit yX4_addBit ∈ gAll := gM3 _ (List.mem_of_getElem? (i := 27) rfl)
theorem kw_124 : Cond.code yX4_addBehind cX4_addBehind 4 (some .int) ∈ gAll := gM3 _ (List.mem_of_getElem? (i := 28) rfl)
theorem kw_125 : Cond.code yX4_valueOf cX4_valueOf 3 (some .int) ∈ gAll := gM3 _ (List.mem_of_getElem? (i := 29) rfl)
theorem kw_126 : Cond.code yX4_hasBothValues cX4_hasBothValues 16 (some .boolean) ∈ gAll := gM3 _ (List.mem_of_getElem? (i := 30) rfl)
theorem kw_127 : Cond.code yX4_bitsOfSet cX4_bitsOfSet 4 (some .int) ∈ gAll := gM3 _ (List.mem_of_getElem? (i := 31) rfl)
theorem kw_128 : Cond.code yX4_clocksInUse cX4_clocksInUse 3 (some .int) ∈ gAll := gM4 _ (List.mem_of_getElem? (i := 0) rfl)
theorem kw_129 : Cond.code yX4_bitsBetween cX4_bitsBetween 5 (some .int) ∈ gAll := gM4 _ (List.mem_of_getElem? (i := 1) rfl)
theorem kw_130 : Cond.code yX4_asCells cX4_asCells 4 (some .int) ∈ gAll := gM4 _ (List.mem_of_getElem? (i := 2) rfl)
theorem kw_131 : Cond.code yX5_init cX5_init 2 none ∈ gAll := gM4 _ (List.mem_of_getElem? (i := 3) rfl)
theorem kw_132 : Cond.methodLink RX5 3 objectInit ∈ gAll := gM4 _ (List.mem_of_getElem? (i := 4) rfl)
theorem kw_133 : Cond.fieldLink RX5 9 "ClockCourt$Promises" "size" "I" ∈ gAll := gM4 _ (List.mem_of_getElem? (i := 5) rfl)
theorem kw_134 : Cond.fieldLink RX5 15 "ClockCourt$Promises" "kind" "[I" ∈ gAll := gM4 _ (List.mem_of_getElem? (i := 6) rfl)
theorem kw_135 : Cond.fieldLink RX5 19 "ClockCourt$Promises" "x" "[I" ∈ gAll := gM4 _ (List.mem_of_getElem? (i := 7) rfl)
theorem kw_136 : Cond.fieldLink RX5 22 "ClockCourt$Promises" "y" "[I" ∈ gAll := gM4 _ (List.mem_of_getElem? (i := 8) rfl)
theorem kw_137 : Cond.fieldLink RX5 25 "ClockCourt$Promises" "span" "[I" ∈ gAll := gM4 _ (List.mem_of_getElem? (i := 9) rfl)
theorem kw_138 : Cond.fieldLink RX5 28 "ClockCourt$Promises" "net" "LClockCourt$Net;" ∈ gAll := gM4 _ (List.mem_of_getElem? (i := 10) rfl)
theorem kw_139 : Cond.code yX5_has cX5_has 2 (some .boolean) ∈ gAll := gM4 _ (List.mem_of_getElem? (i := 11) rfl)
theorem kw_140 : Cond.code yX5_add cX5_add 5 (some .int) ∈ gAll := gM4 _ (List.mem_of_getElem? (i := 12) rfl)
theorem kw_141 : Cond.methodLink RX5 32 yX4_bitsBetween ∈ gAll := gM4 _ (List.mem_of_getElem? (i := 13) rfl)
theorem kw_142 : Cond.instanceMethod yX4_bitsBetween ∈ gAll := gM4 _ (List.mem_of_getElem? (i := 14) rfl)
theorem kw_143 : Cond.selects RX4 yX4_bitsBetween yX4_bitsBetween ∈ gAll := gM4 _ (List.mem_of_getElem? (i := 15) rfl)
theorem kw_144 : Cond.code yJ6_bitCount_0f7a4 cJ6_bitCount_0f7a4 1 (some .int) ∈ gAll := gM4 _ (List.mem_of_getElem? (i := 16) rfl)
theorem kw_145 : Cond.constant RJ6 265 (1431655765) ∈ gAll := gM4 _ (List.mem_of_getElem? (i := 17) rfl)
theorem kw_146 : Cond.constant RJ6 266 (858993459) ∈ gAll := gM4 _ (List.mem_of_getElem? (i := 18) rfl)
theorem kw_147 : Cond.constant RJ6 267 (252645135) ∈ gAll := gM4 _ (List.mem_of_getElem? (i := 19) rfl)
theorem kw_148 : Cond.code yX5_holds cX5_holds 4 (some .boolean) ∈ gAll := gM4 _ (List.mem_of_getElem? (i := 20) rfl)
theorem kw_149 : Cond.methodLink RX5 38 yX4_valueOf ∈ gAll := gM4 _ (List.mem_of_getElem? (i := 21) rfl)
theorem kw_150 : Cond.instanceMethod yX4_valueOf ∈ gAll := gM4 _ (List.mem_of_getElem? (i := 22) rfl)
theorem kw_151 : Cond.selects RX4 yX4_valueOf yX4_valueOf ∈ gAll := gM4 _ (List.mem_of_getElem? (i := 23) rfl)
theorem kw_152 : Cond.methodLink RX5 41 yJ6_bitCount_0f7a4 ∈ gAll := gM4 _ (List.mem_of_getElem? (i := 24) rfl)
theorem kw_153 : Cond.static yJ6_bitCount_0f7a4 ∈ gAll := gM4 _ (List.mem_of_getElem? (i := 25) rfl)
theorem kw_154 : Cond.initialized RJ6 ∈ gAll := gM4 _ (List.mem_of_getElem? (i := 26) rfl)
theorem kw_155 : Cond.code yX6_init cX6_init 3 none ∈ gAll := gM4 _ (List.mem_of_getElem? (i := 27) rfl)
theorem kw_156 : Cond.fieldLink RX6 9 "ClockCourt$Row" "of" "I" ∈ gAll := gM4 _ (List.mem_of_getElem? (i := 28) rfl)
theorem kw_157 : Cond.fieldLink RX6 15 "ClockCourt$Row" "elements" "[I" ∈ gAll := gM4 _ (List.mem_of_getElem? (i := 29) rfl)
theorem kw_158 : Cond.code yX6_hasSpan cX6_hasSpan 3 (some .boolean) ∈ gAll := gM4 _ (List.mem_of_getElem? (i := 30) rfl)
theorem kw_159 : Cond.code yX6_weigh cX6_weigh 1 (some .int) ∈ gAll := gM4 _ (List.mem_of_getElem? (i := 31) rfl)
theorem kw_160 : Cond.code yX6_clockOfFailure cX6_clockOfFailure 1 (some .int) ∈ gAll := gM5 _ (List.mem_of_getElem? (i := 0) rfl)
theorem kw_161 : Cond.code yX7_init cX7_init 4 none ∈ gAll := gM5 _ (List.mem_of_getElem? (i := 1) rfl)
theorem kw_162 : Cond.methodLink RX7 3 objectInit ∈ gAll := gM5 _ (List.mem_of_getElem? (i := 2) rfl)
theorem kw_163 : Cond.fieldLink RX7 9 "ClockCourt$Run" "moments" "I" ∈ gAll := gM5 _ (List.mem_of_getElem? (i := 3) rfl)
theorem kw_164 : Cond.fieldLink RX7 15 "ClockCourt$Run" "eithers" "I" ∈ gAll := gM5 _ (List.mem_of_getElem? (i := 4) rfl)
theorem kw_165 : Cond.fieldLink RX7 18 "ClockCourt$Run" "ticks" "J" ∈ gAll := gM5 _ (List.mem_of_getElem? (i := 5) rfl)
theorem kw_166 : Cond.fieldLink RX7 22 "ClockCourt$Run" "bits" "[I" ∈ gAll := gM5 _ (List.mem_of_getElem? (i := 6) rfl)
theorem kw_167 : Cond.fieldLink RX7 26 "ClockCourt$Run" "clocks" "[I" ∈ gAll := gM5 _ (List.mem_of_getElem? (i := 7) rfl)
theorem kw_168 : Cond.fieldLink RX7 29 "ClockCourt$Run" "net" "LClockCourt$Net;" ∈ gAll := gM5 _ (List.mem_of_getElem? (i := 8) rfl)
theorem kw_169 : Cond.fieldLink RX7 33 "ClockCourt$Run" "bounds" "LClockCourt$Bounds;" ∈ gAll := gM5 _ (List.mem_of_getElem? (i := 9) rfl)
theorem kw_170 : Cond.fieldLink RX7 37 "ClockCourt$Run" "step" "LClockCourt$Step;" ∈ gAll := gM5 _ (List.mem_of_getElem? (i := 10) rfl)
theorem kw_171 : Cond.code yX7_begin cX7_begin 1 none ∈ gAll := gM5 _ (List.mem_of_getElem? (i := 11) rfl)
theorem kw_172 : Cond.fieldLink RX7 41 "ClockCourt$Net" "firstBits" "I" ∈ gAll := gM5 _ (List.mem_of_getElem? (i := 12) rfl)
theorem kw_173 : Cond.code yX7_bitsNow cX7_bitsNow 1 (some .int) ∈ gAll := gM5 _ (List.mem_of_getElem? (i := 13) rfl)
theorem kw_174 : Cond.code yX8_tick cX8_tick 5 none ∈ gAll := gM5 _ (List.mem_of_getElem? (i := 14) rfl)
theorem kw_175 : Cond.fieldLink RX8 9 "ClockCourt$Step" "old" "I" ∈ gAll := gM5 _ (List.mem_of_getElem? (i := 15) rfl)
theorem kw_176 : Cond.fieldLink RX8 30 "ClockCourt$Step" "net" "LClockCourt$Net;" ∈ gAll := gM5 _ (List.mem_of_getElem? (i := 16) rfl)
theorem kw_177 : Cond.fieldLink RX8 40 "ClockCourt$Net" "keeperBits" "I" ∈ gAll := gM5 _ (List.mem_of_getElem? (i := 17) rfl)
theorem kw_178 : Cond.fieldLink RX8 15 "ClockCourt$Step" "ticking" "I" ∈ gAll := gM5 _ (List.mem_of_getElem? (i := 18) rfl)
theorem kw_179 : Cond.fieldLink RX8 24 "ClockCourt$Step" "inputBits" "I" ∈ gAll := gM5 _ (List.mem_of_getElem? (i := 19) rfl)
theorem kw_180 : Cond.fieldLink RX8 18 "ClockCourt$Step" "sampled" "I" ∈ gAll := gM5 _ (List.mem_of_getElem? (i := 20) rfl)
theorem kw_181 : Cond.fieldLink RX8 43 "ClockCourt$Net" "bits" "I" ∈ gAll := gM5 _ (List.mem_of_getElem? (i := 21) rfl)
theorem kw_182 : Cond.fieldLink RX8 46 "ClockCourt$Net" "x" "[I" ∈ gAll := gM5 _ (List.mem_of_getElem? (i := 22) rfl)
theorem kw_183 : Cond.fieldLink RX8 50 "ClockCourt$Net" "cellOf" "[I" ∈ gAll := gM5 _ (List.mem_of_getElem? (i := 23) rfl)
theorem kw_184 : Cond.methodLink RX8 34 yX4_bitsOfSet ∈ gAll := gM5 _ (List.mem_of_getElem? (i := 24) rfl)
theorem kw_185 : Cond.instanceMethod yX4_bitsOfSet ∈ gAll := gM5 _ (List.mem_of_getElem? (i := 25) rfl)
theorem kw_186 : Cond.selects RX4 yX4_bitsOfSet yX4_bitsOfSet ∈ gAll := gM5 _ (List.mem_of_getElem? (i := 26) rfl)
theorem kw_187 : Cond.methodLink RX8 53 yX4_valueOf ∈ gAll := gM5 _ (List.mem_of_getElem? (i := 27) rfl)
theorem kw_188 : Cond.code yX8_spread cX8_spread 5 (some .int) ∈ gAll := gM5 _ (List.mem_of_getElem? (i := 28) rfl)
theorem kw_189 : Cond.code yX8_isEither cX8_isEither 4 (some .boolean) ∈ gAll := gM5 _ (List.mem_of_getElem? (i := 29) rfl)
theorem kw_190 : Cond.methodLink RX8 64 yX4_foreignBits ∈ gAll := gM5 _ (List.mem_of_getElem? (i := 30) rfl)
theorem kw_191 : Cond.methodLink RX8 67 yX4_hasBothValues ∈ gAll := gM5 _ (List.mem_of_getElem? (i := 31) rfl)
theorem kw_192 : Cond.instanceMethod yX4_hasBothValues ∈ gAll := gM6 _ (List.mem_of_getElem? (i := 0) rfl)
theorem kw_193 : Cond.selects RX4 yX4_hasBothValues yX4_hasBothValues ∈ gAll := gM6 _ (List.mem_of_getElem? (i := 1) rfl)
theorem kw_194 : Cond.fieldLink RX8 21 "ClockCourt$Step" "plain" "I" ∈ gAll := gM6 _ (List.mem_of_getElem? (i := 2) rfl)
theorem kw_195 : Cond.fieldLink RX8 27 "ClockCourt$Step" "eithers" "I" ∈ gAll := gM6 _ (List.mem_of_getElem? (i := 3) rfl)
theorem kw_196 : Cond.methodLink RX8 57 yX8_spread ∈ gAll := gM6 _ (List.mem_of_getElem? (i := 4) rfl)
theorem kw_197 : Cond.static yX8_spread ∈ gAll := gM6 _ (List.mem_of_getElem? (i := 5) rfl)
theorem kw_198 : Cond.initialized RX8 ∈ gAll := gM6 _ (List.mem_of_getElem? (i := 6) rfl)
theorem kw_199 : Cond.methodLink RX8 60 yX8_isEither ∈ gAll := gM6 _ (List.mem_of_getElem? (i := 7) rfl)
theorem kw_200 : Cond.instanceMethod yX8_isEither ∈ gAll := gM6 _ (List.mem_of_getElem? (i := 8) rfl)
theorem kw_201 : Cond.selects RX8 yX8_isEither yX8_isEither ∈ gAll := gM6 _ (List.mem_of_getElem? (i := 9) rfl)
theorem kw_202 : Cond.code yX8_choose cX8_choose 4 none ∈ gAll := gM6 _ (List.mem_of_getElem? (i := 10) rfl)
theorem kw_203 : Cond.code yX8_behind cX8_behind 2 (some .int) ∈ gAll := gM6 _ (List.mem_of_getElem? (i := 11) rfl)
theorem kw_204 : Cond.constantLong RX7 52 (-1) ∈ gAll := gM6 _ (List.mem_of_getElem? (i := 12) rfl)
theorem kw_205 : Cond.fieldLink RX7 67 "ClockCourt$Step" "eithers" "I" ∈ gAll := gM6 _ (List.mem_of_getElem? (i := 13) rfl)
theorem kw_206 : Cond.methodLink RX7 46 yX0_behind ∈ gAll := gM6 _ (List.mem_of_getElem? (i := 14) rfl)
theorem kw_207 : Cond.instanceMethod yX0_behind ∈ gAll := gM6 _ (List.mem_of_getElem? (i := 15) rfl)
theorem kw_208 : Cond.selects RX0 yX0_behind yX0_behind ∈ gAll := gM6 _ (List.mem_of_getElem? (i := 16) rfl)
theorem kw_209 : Cond.methodLink RX7 54 yX8_tick ∈ gAll := gM6 _ (List.mem_of_getElem? (i := 17) rfl)
theorem kw_210 : Cond.instanceMethod yX8_tick ∈ gAll := gM6 _ (List.mem_of_getElem? (i := 18) rfl)
theorem kw_211 : Cond.selects RX8 yX8_tick yX8_tick ∈ gAll := gM6 _ (List.mem_of_getElem? (i := 19) rfl)
theorem kw_212 : Cond.methodLink RX7 60 yX8_choose ∈ gAll := gM6 _ (List.mem_of_getElem? (i := 20) rfl)
theorem kw_213 : Cond.instanceMethod yX8_choose ∈ gAll := gM6 _ (List.mem_of_getElem? (i := 21) rfl)
theorem kw_214 : Cond.selects RX8 yX8_choose yX8_choose ∈ gAll := gM6 _ (List.mem_of_getElem? (i := 22) rfl)
theorem kw_215 : Cond.methodLink RX7 64 yX8_behind ∈ gAll := gM6 _ (List.mem_of_getElem? (i := 23) rfl)
theorem kw_216 : Cond.instanceMethod yX8_behind ∈ gAll := gM6 _ (List.mem_of_getElem? (i := 24) rfl)
theorem kw_217 : Cond.selects RX8 yX8_behind yX8_behind ∈ gAll := gM6 _ (List.mem_of_getElem? (i := 25) rfl)
theorem kw_218 : Cond.methodLink RX7 68 yJ6_bitCount_0f7a4 ∈ gAll := gM6 _ (List.mem_of_getElem? (i := 26) rfl)
theorem kw_219 : Cond.code yX7_go cX7_go 6 (some .int) ∈ gAll := gM6 _ (List.mem_of_getElem? (i := 27) rfl)
theorem kw_220 : Cond.code yX8_init cX8_init 2 none ∈ gAll := gM6 _ (List.mem_of_getElem? (i := 28) rfl)
theorem kw_221 : Cond.methodLink RX8 3 objectInit ∈ gAll := gM6 _ (List.mem_of_getElem? (i := 29) rfl)
theorem kw_222 : Cond.code yX10_init cX10_init 1 none ∈ gAll := gM6 _ (List.mem_of_getElem? (i := 30) rfl)
theorem kw_223 : Cond.methodLink RX10 3 objectInit ∈ gAll := gM6 _ (List.mem_of_getElem? (i := 31) rfl)
theorem kw_224 : Cond.fieldLink RX10 11 "ClockCourt$Ways" "ends" "[J" ∈ gAll := gM7 _ (List.mem_of_getElem? (i := 0) rfl)
theorem kw_225 : Cond.fieldLink RX10 15 "ClockCourt$Ways" "closes" "[I" ∈ gAll := gM7 _ (List.mem_of_getElem? (i := 1) rfl)
theorem kw_226 : Cond.fieldLink RX10 19 "ClockCourt$Ways" "least" "[I" ∈ gAll := gM7 _ (List.mem_of_getElem? (i := 2) rfl)
theorem kw_227 : Cond.arrayClass .boolean ∈ gAll := gM7 _ (List.mem_of_getElem? (i := 3) rfl)
theorem kw_228 : Cond.fieldLink RX10 22 "ClockCourt$Ways" "settled" "[Z" ∈ gAll := gM7 _ (List.mem_of_getElem? (i := 4) rfl)
theorem kw_229 : Cond.fieldLink RX10 26 "ClockCourt$Ways" "measured" "Z" ∈ gAll := gM7 _ (List.mem_of_getElem? (i := 5) rfl)
theorem kw_230 : Cond.methodLink RX9 3 objectInit ∈ gAll := gM7 _ (List.mem_of_getElem? (i := 6) rfl)
theorem kw_231 : Cond.classLink RX9 9 RX10 ∈ gAll := gM7 _ (List.mem_of_getElem? (i := 7) rfl)
theorem kw_232 : Cond.instantiable RX10 5 ∈ gAll := gM7 _ (List.mem_of_getElem? (i := 8) rfl)
theorem kw_233 : Cond.initialized RX10 ∈ gAll := gM7 _ (List.mem_of_getElem? (i := 9) rfl)
theorem kw_234 : Cond.fieldLink RX9 12 "ClockCourt$Walk" "ways" "LClockCourt$Ways;" ∈ gAll := gM7 _ (List.mem_of_getElem? (i := 10) rfl)
theorem kw_235 : Cond.fieldLink RX9 18 "ClockCourt$Walk" "states" "I" ∈ gAll := gM7 _ (List.mem_of_getElem? (i := 11) rfl)
theorem kw_236 : Cond.fieldLink RX9 22 "ClockCourt$Walk" "looked" "I" ∈ gAll := gM7 _ (List.mem_of_getElem? (i := 12) rfl)
theorem kw_237 : Cond.fieldLink RX9 25 "ClockCourt$Walk" "moments" "I" ∈ gAll := gM7 _ (List.mem_of_getElem? (i := 13) rfl)
theorem kw_238 : Cond.fieldLink RX9 28 "ClockCourt$Walk" "spent" "Z" ∈ gAll := gM7 _ (List.mem_of_getElem? (i := 14) rfl)
theorem kw_239 : Cond.fieldLink RX9 32 "ClockCourt$Walk" "bits" "[I" ∈ gAll := gM7 _ (List.mem_of_getElem? (i := 15) rfl)
theorem kw_240 : Cond.fieldLink RX9 36 "ClockCourt$Walk" "ticks" "[J" ∈ gAll := gM7 _ (List.mem_of_getElem? (i := 16) rfl)
theorem kw_241 : Cond.fieldLink RX9 40 "ClockCourt$Walk" "depth" "[I" ∈ gAll := gM7 _ (List.mem_of_getElem? (i := 17) rfl)
theorem kw_242 : Cond.fieldLink RX9 43 "ClockCourt$Walk" "follows" "[I" ∈ gAll := gM7 _ (List.mem_of_getElem? (i := 18) rfl)
theorem kw_243 : Cond.fieldLink RX9 46 "ClockCourt$Walk" "bringing" "[I" ∈ gAll := gM7 _ (List.mem_of_getElem? (i := 19) rfl)
theorem kw_244 : Cond.fieldLink RX9 49 "ClockCourt$Walk" "breaking" "[I" ∈ gAll := gM7 _ (List.mem_of_getElem? (i := 20) rfl)
theorem kw_245 : Cond.fieldLink RX9 52 "ClockCourt$Walk" "slots" "[I" ∈ gAll := gM7 _ (List.mem_of_getElem? (i := 21) rfl)
theorem kw_246 : Cond.fieldLink RX9 55 "ClockCourt$Walk" "way" "[I" ∈ gAll := gM7 _ (List.mem_of_getElem? (i := 22) rfl)
theorem kw_247 : Cond.fieldLink RX9 58 "ClockCourt$Walk" "net" "LClockCourt$Net;" ∈ gAll := gM7 _ (List.mem_of_getElem? (i := 23) rfl)
theorem kw_248 : Cond.fieldLink RX9 62 "ClockCourt$Walk" "bounds" "LClockCourt$Bounds;" ∈ gAll := gM7 _ (List.mem_of_getElem? (i := 24) rfl)
theorem kw_249 : Cond.fieldLink RX9 66 "ClockCourt$Walk" "promises" "LClockCourt$Promises;" ∈ gAll := gM7 _ (List.mem_of_getElem? (i := 25) rfl)
theorem kw_250 : Cond.fieldLink RX9 70 "ClockCourt$Walk" "step" "LClockCourt$Step;" ∈ gAll := gM7 _ (List.mem_of_getElem? (i := 26) rfl)
theorem kw_251 : Cond.instanceMethod yX10_init ∈ gAll := gM7 _ (List.mem_of_getElem? (i := 27) rfl)
theorem kw_252 : Cond.code yX9_init cX9_init 5 none ∈ gAll := gM7 _ (List.mem_of_getElem? (i := 28) rfl)
theorem kw_253 : Cond.code yX9_hasState cX9_hasState 2 (some .boolean) ∈ gAll := gM7 _ (List.mem_of_getElem? (i := 29) rfl)
theorem kw_254 : Cond.code yX9_breaks cX9_breaks 2 (some .boolean) ∈ gAll := gM7 _ (List.mem_of_getElem? (i := 30) rfl)
theorem kw_255 : Cond.code yX9_forget cX9_forget 1 none ∈ gAll := gM7 _ (List.mem_of_getElem? (i := 31) rfl)
theorem kw_256 : Cond.code yJ7_fill_d0a16 cJ7_fill_d0a16 5 none ∈ gAll := gM8 _ (List.mem_of_getElem? (i := 0) rfl)
theorem kw_257 : Cond.code yX10_clear cX10_clear 1 none ∈ gAll := gM8 _ (List.mem_of_getElem? (i := 1) rfl)
theorem kw_258 : Cond.methodLink RX10 30 yJ7_fill_d0a16 ∈ gAll := gM8 _ (List.mem_of_getElem? (i := 2) rfl)
theorem kw_259 : Cond.static yJ7_fill_d0a16 ∈ gAll := gM8 _ (List.mem_of_getElem? (i := 3) rfl)
theorem kw_260 : Cond.initialized RJ7 ∈ gAll := gM8 _ (List.mem_of_getElem? (i := 4) rfl)
theorem kw_261 : Cond.code yJ7_fill_53178 cJ7_fill_53178 4 none ∈ gAll := gM8 _ (List.mem_of_getElem? (i := 5) rfl)
theorem kw_262 : Cond.code yX9_slotOf cX9_slotOf 9 (some .int) ∈ gAll := gM8 _ (List.mem_of_getElem? (i := 6) rfl)
theorem kw_263 : Cond.constantLong RX9 177 (-7046029254386353131) ∈ gAll := gM8 _ (List.mem_of_getElem? (i := 7) rfl)
theorem kw_264 : Cond.constantLong RX9 179 (-2960836687051489901) ∈ gAll := gM8 _ (List.mem_of_getElem? (i := 8) rfl)
theorem kw_265 : Cond.code yX9_addState cX9_addState 6 none ∈ gAll := gM8 _ (List.mem_of_getElem? (i := 9) rfl)
theorem kw_266 : Cond.code yX9_tell cX9_tell 8 none ∈ gAll := gM8 _ (List.mem_of_getElem? (i := 10) rfl)
theorem kw_267 : Cond.fieldLink RX9 164 "ClockCourt$Promises" "size" "I" ∈ gAll := gM8 _ (List.mem_of_getElem? (i := 11) rfl)
theorem kw_268 : Cond.methodLink RX9 169 yX9_breaks ∈ gAll := gM8 _ (List.mem_of_getElem? (i := 12) rfl)
theorem kw_269 : Cond.instanceMethod yX9_breaks ∈ gAll := gM8 _ (List.mem_of_getElem? (i := 13) rfl)
theorem kw_270 : Cond.selects RX9 yX9_breaks yX9_breaks ∈ gAll := gM8 _ (List.mem_of_getElem? (i := 14) rfl)
theorem kw_271 : Cond.initialized RX9 ∈ gAll := gM8 _ (List.mem_of_getElem? (i := 15) rfl)
theorem kw_272 : Cond.methodLink RX9 173 yX5_holds ∈ gAll := gM8 _ (List.mem_of_getElem? (i := 16) rfl)
theorem kw_273 : Cond.instanceMethod yX5_holds ∈ gAll := gM8 _ (List.mem_of_getElem? (i := 17) rfl)
theorem kw_274 : Cond.selects RX5 yX5_holds yX5_holds ∈ gAll := gM8 _ (List.mem_of_getElem? (i := 18) rfl)
theorem kw_275 : Cond.initialized RX5 ∈ gAll := gM8 _ (List.mem_of_getElem? (i := 19) rfl)
theorem kw_276 : Cond.methodLink RX9 99 yX9_tell ∈ gAll := gM8 _ (List.mem_of_getElem? (i := 20) rfl)
theorem kw_277 : Cond.static yX9_tell ∈ gAll := gM8 _ (List.mem_of_getElem? (i := 21) rfl)
theorem kw_278 : Cond.code yX9_judge cX9_judge 8 none ∈ gAll := gM8 _ (List.mem_of_getElem? (i := 22) rfl)
theorem kw_279 : Cond.fieldLink RX9 86 "ClockCourt$Net" "firstBits" "I" ∈ gAll := gM8 _ (List.mem_of_getElem? (i := 23) rfl)
theorem kw_280 : Cond.methodLink RX9 74 yX9_forget ∈ gAll := gM8 _ (List.mem_of_getElem? (i := 24) rfl)
theorem kw_281 : Cond.instanceMethod yX9_forget ∈ gAll := gM8 _ (List.mem_of_getElem? (i := 25) rfl)
theorem kw_282 : Cond.selects RX9 yX9_forget yX9_forget ∈ gAll := gM8 _ (List.mem_of_getElem? (i := 26) rfl)
theorem kw_283 : Cond.methodLink RX9 77 yX10_clear ∈ gAll := gM8 _ (List.mem_of_getElem? (i := 27) rfl)
theorem kw_284 : Cond.instanceMethod yX10_clear ∈ gAll := gM8 _ (List.mem_of_getElem? (i := 28) rfl)
theorem kw_285 : Cond.selects RX10 yX10_clear yX10_clear ∈ gAll := gM8 _ (List.mem_of_getElem? (i := 29) rfl)
theorem kw_286 : Cond.methodLink RX9 80 yJ7_fill_53178 ∈ gAll := gM8 _ (List.mem_of_getElem? (i := 30) rfl)
theorem kw_287 : Cond.static yJ7_fill_53178 ∈ gAll := gM8 _ (List.mem_of_getElem? (i := 31) rfl)
theorem kw_288 : Cond.methodLink RX9 91 yX9_slotOf ∈ gAll := gM9 _ (List.mem_of_getElem? (i := 0) rfl)
theorem kw_289 : Cond.instanceMethod yX9_slotOf ∈ gAll := gM9 _ (List.mem_of_getElem? (i := 1) rfl)
theorem kw_290 : Cond.selects RX9 yX9_slotOf yX9_slotOf ∈ gAll := gM9 _ (List.mem_of_getElem? (i := 2) rfl)
theorem kw_291 : Cond.methodLink RX9 95 yX9_addState ∈ gAll := gM9 _ (List.mem_of_getElem? (i := 3) rfl)
theorem kw_292 : Cond.instanceMethod yX9_addState ∈ gAll := gM9 _ (List.mem_of_getElem? (i := 4) rfl)
theorem kw_293 : Cond.selects RX9 yX9_addState yX9_addState ∈ gAll := gM9 _ (List.mem_of_getElem? (i := 5) rfl)
theorem kw_294 : Cond.methodLink RX9 103 yX9_judge ∈ gAll := gM9 _ (List.mem_of_getElem? (i := 6) rfl)
theorem kw_295 : Cond.instanceMethod yX9_judge ∈ gAll := gM9 _ (List.mem_of_getElem? (i := 7) rfl)
theorem kw_296 : Cond.selects RX9 yX9_judge yX9_judge ∈ gAll := gM9 _ (List.mem_of_getElem? (i := 8) rfl)
theorem kw_297 : Cond.code yX9_begin cX9_begin 2 none ∈ gAll := gM9 _ (List.mem_of_getElem? (i := 9) rfl)
theorem kw_298 : Cond.code yX9_goesOn cX9_goesOn 2 (some .boolean) ∈ gAll := gM9 _ (List.mem_of_getElem? (i := 10) rfl)
theorem kw_299 : Cond.methodLink RX9 107 yX7_go ∈ gAll := gM9 _ (List.mem_of_getElem? (i := 11) rfl)
theorem kw_300 : Cond.instanceMethod yX7_go ∈ gAll := gM9 _ (List.mem_of_getElem? (i := 12) rfl)
theorem kw_301 : Cond.selects RX7 yX7_go yX7_go ∈ gAll := gM9 _ (List.mem_of_getElem? (i := 13) rfl)
theorem kw_302 : Cond.initialized RX7 ∈ gAll := gM9 _ (List.mem_of_getElem? (i := 14) rfl)
theorem kw_303 : Cond.code yX9_lead cX9_lead 7 none ∈ gAll := gM9 _ (List.mem_of_getElem? (i := 15) rfl)
theorem kw_304 : Cond.code yX10_add cX10_add 4 none ∈ gAll := gM9 _ (List.mem_of_getElem? (i := 16) rfl)
theorem kw_305 : Cond.methodLink RX9 158 yX8_behind ∈ gAll := gM9 _ (List.mem_of_getElem? (i := 17) rfl)
theorem kw_306 : Cond.methodLink RX9 141 yJ6_bitCount_0f7a4 ∈ gAll := gM9 _ (List.mem_of_getElem? (i := 18) rfl)
theorem kw_307 : Cond.methodLink RX9 160 yX10_add ∈ gAll := gM9 _ (List.mem_of_getElem? (i := 19) rfl)
theorem kw_308 : Cond.instanceMethod yX10_add ∈ gAll := gM9 _ (List.mem_of_getElem? (i := 20) rfl)
theorem kw_309 : Cond.selects RX10 yX10_add yX10_add ∈ gAll := gM9 _ (List.mem_of_getElem? (i := 21) rfl)
theorem kw_310 : Cond.code yX9_arrive cX9_arrive 11 none ∈ gAll := gM9 _ (List.mem_of_getElem? (i := 22) rfl)
theorem kw_311 : Cond.fieldLink RX9 138 "ClockCourt$Step" "inputBits" "I" ∈ gAll := gM9 _ (List.mem_of_getElem? (i := 23) rfl)
theorem kw_312 : Cond.fieldLink RX9 151 "ClockCourt$Step" "eithers" "I" ∈ gAll := gM9 _ (List.mem_of_getElem? (i := 24) rfl)
theorem kw_313 : Cond.methodLink RX9 133 yX8_tick ∈ gAll := gM9 _ (List.mem_of_getElem? (i := 25) rfl)
theorem kw_314 : Cond.methodLink RX9 147 yX8_choose ∈ gAll := gM9 _ (List.mem_of_getElem? (i := 26) rfl)
theorem kw_315 : Cond.methodLink RX9 154 yX9_arrive ∈ gAll := gM9 _ (List.mem_of_getElem? (i := 27) rfl)
theorem kw_316 : Cond.instanceMethod yX9_arrive ∈ gAll := gM9 _ (List.mem_of_getElem? (i := 28) rfl)
theorem kw_317 : Cond.selects RX9 yX9_arrive yX9_arrive ∈ gAll := gM9 _ (List.mem_of_getElem? (i := 29) rfl)
theorem kw_318 : Cond.code yX9_lookAtSet cX9_lookAtSet 9 none ∈ gAll := gM9 _ (List.mem_of_getElem? (i := 30) rfl)
theorem kw_319 : Cond.code yX10_close cX10_close 3 none ∈ gAll := gM9 _ (List.mem_of_getElem? (i := 31) rfl)
theorem kw_320 : Cond.constantLong RX9 119 (-1) ∈ gAll := gM10 _ (List.mem_of_getElem? (i := 0) rfl)
theorem kw_321 : Cond.methodLink RX9 113 yX4_clocksInUse ∈ gAll := gM10 _ (List.mem_of_getElem? (i := 1) rfl)
theorem kw_322 : Cond.instanceMethod yX4_clocksInUse ∈ gAll := gM10 _ (List.mem_of_getElem? (i := 2) rfl)
theorem kw_323 : Cond.selects RX4 yX4_clocksInUse yX4_clocksInUse ∈ gAll := gM10 _ (List.mem_of_getElem? (i := 3) rfl)
theorem kw_324 : Cond.methodLink RX9 121 yX0_behind ∈ gAll := gM10 _ (List.mem_of_getElem? (i := 4) rfl)
theorem kw_325 : Cond.methodLink RX9 125 yX9_lookAtSet ∈ gAll := gM10 _ (List.mem_of_getElem? (i := 5) rfl)
theorem kw_326 : Cond.instanceMethod yX9_lookAtSet ∈ gAll := gM10 _ (List.mem_of_getElem? (i := 6) rfl)
theorem kw_327 : Cond.selects RX9 yX9_lookAtSet yX9_lookAtSet ∈ gAll := gM10 _ (List.mem_of_getElem? (i := 7) rfl)
theorem kw_328 : Cond.methodLink RX9 129 yX10_close ∈ gAll := gM10 _ (List.mem_of_getElem? (i := 8) rfl)
theorem kw_329 : Cond.instanceMethod yX10_close ∈ gAll := gM10 _ (List.mem_of_getElem? (i := 9) rfl)
theorem kw_330 : Cond.selects RX10 yX10_close yX10_close ∈ gAll := gM10 _ (List.mem_of_getElem? (i := 10) rfl)
theorem kw_331 : Cond.code yX9_lookAt cX9_lookAt 7 none ∈ gAll := gM10 _ (List.mem_of_getElem? (i := 11) rfl)
theorem kw_332 : Cond.code yX10_nearest cX10_nearest 5 (some .int) ∈ gAll := gM10 _ (List.mem_of_getElem? (i := 12) rfl)
theorem kw_333 : Cond.constant RX10 40 (1048576) ∈ gAll := gM10 _ (List.mem_of_getElem? (i := 13) rfl)
theorem kw_334 : Cond.code yX10_goOnFrom cX10_goOnFrom 7 none ∈ gAll := gM10 _ (List.mem_of_getElem? (i := 14) rfl)
theorem kw_335 : Cond.code yX10_measure cX10_measure 5 none ∈ gAll := gM10 _ (List.mem_of_getElem? (i := 15) rfl)
theorem kw_336 : Cond.methodLink RX10 41 yX10_nearest ∈ gAll := gM10 _ (List.mem_of_getElem? (i := 16) rfl)
theorem kw_337 : Cond.instanceMethod yX10_nearest ∈ gAll := gM10 _ (List.mem_of_getElem? (i := 17) rfl)
theorem kw_338 : Cond.selects RX10 yX10_nearest yX10_nearest ∈ gAll := gM10 _ (List.mem_of_getElem? (i := 18) rfl)
theorem kw_339 : Cond.methodLink RX10 45 yX10_goOnFrom ∈ gAll := gM10 _ (List.mem_of_getElem? (i := 19) rfl)
theorem kw_340 : Cond.instanceMethod yX10_goOnFrom ∈ gAll := gM10 _ (List.mem_of_getElem? (i := 20) rfl)
theorem kw_341 : Cond.selects RX10 yX10_goOnFrom yX10_goOnFrom ∈ gAll := gM10 _ (List.mem_of_getElem? (i := 21) rfl)
theorem kw_342 : Cond.code yX10_fewestTo cX10_fewestTo 4 (some .int) ∈ gAll := gM10 _ (List.mem_of_getElem? (i := 22) rfl)
theorem kw_343 : Cond.methodLink RX10 36 yX10_measure ∈ gAll := gM10 _ (List.mem_of_getElem? (i := 23) rfl)
theorem kw_344 : Cond.instanceMethod yX10_measure ∈ gAll := gM10 _ (List.mem_of_getElem? (i := 24) rfl)
theorem kw_345 : Cond.selects RX10 yX10_measure yX10_measure ∈ gAll := gM10 _ (List.mem_of_getElem? (i := 25) rfl)
theorem kw_346 : Cond.methodLink RX11 3 objectInit ∈ gAll := gM10 _ (List.mem_of_getElem? (i := 26) rfl)
theorem kw_347 : Cond.classLink RX11 9 RX4 ∈ gAll := gM10 _ (List.mem_of_getElem? (i := 27) rfl)
theorem kw_348 : Cond.instantiable RX4 15 ∈ gAll := gM10 _ (List.mem_of_getElem? (i := 28) rfl)
theorem kw_349 : Cond.fieldLink RX11 12 "ClockCourt" "net" "LClockCourt$Net;" ∈ gAll := gM10 _ (List.mem_of_getElem? (i := 29) rfl)
theorem kw_350 : Cond.classLink RX11 16 RX0 ∈ gAll := gM10 _ (List.mem_of_getElem? (i := 30) rfl)
theorem kw_351 : Cond.instantiable RX0 1 ∈ gAll := gM10 _ (List.mem_of_getElem? (i := 31) rfl)
theorem kw_352 : Cond.fieldLink RX11 19 "ClockCourt" "bounds" "LClockCourt$Bounds;" ∈ gAll := gM11 _ (List.mem_of_getElem? (i := 0) rfl)
theorem kw_353 : Cond.classLink RX11 23 RX5 ∈ gAll := gM11 _ (List.mem_of_getElem? (i := 1) rfl)
theorem kw_354 : Cond.instantiable RX5 6 ∈ gAll := gM11 _ (List.mem_of_getElem? (i := 2) rfl)
theorem kw_355 : Cond.fieldLink RX11 28 "ClockCourt" "promises" "LClockCourt$Promises;" ∈ gAll := gM11 _ (List.mem_of_getElem? (i := 3) rfl)
theorem kw_356 : Cond.classLink RX11 32 RX8 ∈ gAll := gM11 _ (List.mem_of_getElem? (i := 4) rfl)
theorem kw_357 : Cond.instantiable RX8 7 ∈ gAll := gM11 _ (List.mem_of_getElem? (i := 5) rfl)
theorem kw_358 : Cond.classLink RX11 35 RX7 ∈ gAll := gM11 _ (List.mem_of_getElem? (i := 6) rfl)
theorem kw_359 : Cond.instantiable RX7 8 ∈ gAll := gM11 _ (List.mem_of_getElem? (i := 7) rfl)
theorem kw_360 : Cond.fieldLink RX11 40 "ClockCourt" "run" "LClockCourt$Run;" ∈ gAll := gM11 _ (List.mem_of_getElem? (i := 8) rfl)
theorem kw_361 : Cond.classLink RX11 44 RX9 ∈ gAll := gM11 _ (List.mem_of_getElem? (i := 9) rfl)
theorem kw_362 : Cond.instantiable RX9 17 ∈ gAll := gM11 _ (List.mem_of_getElem? (i := 10) rfl)
theorem kw_363 : Cond.fieldLink RX11 49 "ClockCourt" "walked" "LClockCourt$Walk;" ∈ gAll := gM11 _ (List.mem_of_getElem? (i := 11) rfl)
theorem kw_364 : Cond.classLink RX11 53 RX2 ∈ gAll := gM11 _ (List.mem_of_getElem? (i := 12) rfl)
theorem kw_365 : Cond.fieldLink RX11 55 "ClockCourt" "shelves" "[LClockCourt$Held;" ∈ gAll := gM11 _ (List.mem_of_getElem? (i := 13) rfl)
theorem kw_366 : Cond.instanceMethod yX4_init ∈ gAll := gM11 _ (List.mem_of_getElem? (i := 14) rfl)
theorem kw_367 : Cond.instanceMethod yX0_init ∈ gAll := gM11 _ (List.mem_of_getElem? (i := 15) rfl)
theorem kw_368 : Cond.methodLink RX11 25 yX5_init ∈ gAll := gM11 _ (List.mem_of_getElem? (i := 16) rfl)
theorem kw_369 : Cond.instanceMethod yX5_init ∈ gAll := gM11 _ (List.mem_of_getElem? (i := 17) rfl)
theorem kw_370 : Cond.methodLink RX11 34 yX8_init ∈ gAll := gM11 _ (List.mem_of_getElem? (i := 18) rfl)
theorem kw_371 : Cond.instanceMethod yX8_init ∈ gAll := gM11 _ (List.mem_of_getElem? (i := 19) rfl)
theorem kw_372 : Cond.methodLink RX11 37 yX7_init ∈ gAll := gM11 _ (List.mem_of_getElem? (i := 20) rfl)
theorem kw_373 : Cond.instanceMethod yX7_init ∈ gAll := gM11 _ (List.mem_of_getElem? (i := 21) rfl)
theorem kw_374 : Cond.methodLink RX11 46 yX9_init ∈ gAll := gM11 _ (List.mem_of_getElem? (i := 22) rfl)
theorem kw_375 : Cond.instanceMethod yX9_init ∈ gAll := gM11 _ (List.mem_of_getElem? (i := 23) rfl)
theorem kw_376 : Cond.code yX11_init cX11_init 2 none ∈ gAll := gM11 _ (List.mem_of_getElem? (i := 24) rfl)
theorem kw_377 : Cond.code yX11_isClock cX11_isClock 1 (some .boolean) ∈ gAll := gM11 _ (List.mem_of_getElem? (i := 25) rfl)
theorem kw_378 : Cond.code yX11_beginAnew cX11_beginAnew 1 none ∈ gAll := gM11 _ (List.mem_of_getElem? (i := 26) rfl)
theorem kw_379 : Cond.methodLink RX11 117 yX7_begin ∈ gAll := gM11 _ (List.mem_of_getElem? (i := 27) rfl)
theorem kw_380 : Cond.instanceMethod yX7_begin ∈ gAll := gM11 _ (List.mem_of_getElem? (i := 28) rfl)
theorem kw_381 : Cond.selects RX7 yX7_begin yX7_begin ∈ gAll := gM11 _ (List.mem_of_getElem? (i := 29) rfl)
theorem kw_382 : Cond.methodLink RX11 108 yX9_forget ∈ gAll := gM11 _ (List.mem_of_getElem? (i := 30) rfl)
theorem kw_383 : Cond.methodLink RX11 232 yX4_takesNoBit ∈ gAll := gM11 _ (List.mem_of_getElem? (i := 31) rfl)
theorem kw_384 : Cond.instanceMethod yX4_takesNoBit ∈ gAll := gM12 _ (List.mem_of_getElem? (i := 0) rfl)
theorem kw_385 : Cond.selects RX4 yX4_takesNoBit yX4_takesNoBit ∈ gAll := gM12 _ (List.mem_of_getElem? (i := 1) rfl)
theorem kw_386 : Cond.methodLink RX11 308 yX4_addBit ∈ gAll := gM12 _ (List.mem_of_getElem? (i := 2) rfl)
theorem kw_387 : Cond.methodLink RX11 78 yX11_beginAnew ∈ gAll := gM12 _ (List.mem_of_getElem? (i := 3) rfl)
theorem kw_388 : Cond.instanceMethod yX11_beginAnew ∈ gAll := gM12 _ (List.mem_of_getElem? (i := 4) rfl)
theorem kw_389 : Cond.selects RX11 yX11_beginAnew yX11_beginAnew ∈ gAll := gM12 _ (List.mem_of_getElem? (i := 5) rfl)
theorem kw_390 : Cond.initialized RX11 ∈ gAll := gM12 _ (List.mem_of_getElem? (i := 6) rfl)
theorem kw_391 : Cond.code yX11_addBit cX11_addBit 5 (some .int) ∈ gAll := gM12 _ (List.mem_of_getElem? (i := 7) rfl)
theorem kw_392 : Cond.methodLink RX11 59 yX11_isClock ∈ gAll := gM12 _ (List.mem_of_getElem? (i := 8) rfl)
theorem kw_393 : Cond.static yX11_isClock ∈ gAll := gM12 _ (List.mem_of_getElem? (i := 9) rfl)
theorem kw_394 : Cond.methodLink RX11 63 yX11_addBit ∈ gAll := gM12 _ (List.mem_of_getElem? (i := 10) rfl)
theorem kw_395 : Cond.instanceMethod yX11_addBit ∈ gAll := gM12 _ (List.mem_of_getElem? (i := 11) rfl)
theorem kw_396 : Cond.selects RX11 yX11_addBit yX11_addBit ∈ gAll := gM12 _ (List.mem_of_getElem? (i := 12) rfl)
theorem kw_397 : Cond.code yX11_input cX11_input 2 (some .int) ∈ gAll := gM12 _ (List.mem_of_getElem? (i := 13) rfl)
theorem kw_398 : Cond.code yX11_keeper cX11_keeper 3 (some .int) ∈ gAll := gM12 _ (List.mem_of_getElem? (i := 14) rfl)
theorem kw_399 : Cond.fieldLink RX11 70 "ClockCourt$Net" "cells" "I" ∈ gAll := gM12 _ (List.mem_of_getElem? (i := 15) rfl)
theorem kw_400 : Cond.methodLink RX11 67 yX4_isCell ∈ gAll := gM12 _ (List.mem_of_getElem? (i := 16) rfl)
theorem kw_401 : Cond.methodLink RX11 74 yX4_addGate ∈ gAll := gM12 _ (List.mem_of_getElem? (i := 17) rfl)
theorem kw_402 : Cond.instanceMethod yX4_addGate ∈ gAll := gM12 _ (List.mem_of_getElem? (i := 18) rfl)
theorem kw_403 : Cond.selects RX4 yX4_addGate yX4_addGate ∈ gAll := gM12 _ (List.mem_of_getElem? (i := 19) rfl)
theorem kw_404 : Cond.code yX11_gate cX11_gate 8 (some .int) ∈ gAll := gM12 _ (List.mem_of_getElem? (i := 20) rfl)
theorem kw_405 : Cond.fieldLink RX11 84 "ClockCourt$Net" "x" "[I" ∈ gAll := gM12 _ (List.mem_of_getElem? (i := 21) rfl)
theorem kw_406 : Cond.methodLink RX11 81 yX4_isKeeper ∈ gAll := gM12 _ (List.mem_of_getElem? (i := 22) rfl)
theorem kw_407 : Cond.code yX11_connect cX11_connect 4 (some .int) ∈ gAll := gM12 _ (List.mem_of_getElem? (i := 23) rfl)
theorem kw_408 : Cond.methodLink RX11 88 yX0_limitOf ∈ gAll := gM12 _ (List.mem_of_getElem? (i := 24) rfl)
theorem kw_409 : Cond.instanceMethod yX0_limitOf ∈ gAll := gM12 _ (List.mem_of_getElem? (i := 25) rfl)
theorem kw_410 : Cond.selects RX0 yX0_limitOf yX0_limitOf ∈ gAll := gM12 _ (List.mem_of_getElem? (i := 26) rfl)
theorem kw_411 : Cond.methodLink RX11 92 yX0_limit ∈ gAll := gM12 _ (List.mem_of_getElem? (i := 27) rfl)
theorem kw_412 : Cond.instanceMethod yX0_limit ∈ gAll := gM12 _ (List.mem_of_getElem? (i := 28) rfl)
theorem kw_413 : Cond.selects RX0 yX0_limit yX0_limit ∈ gAll := gM12 _ (List.mem_of_getElem? (i := 29) rfl)
theorem kw_414 : Cond.code yX11_bound cX11_bound 5 (some .int) ∈ gAll := gM12 _ (List.mem_of_getElem? (i := 30) rfl)
theorem kw_415 : Cond.code yX11_still cX11_still 5 (some .int) ∈ gAll := gM12 _ (List.mem_of_getElem? (i := 31) rfl)
theorem kw_416 : Cond.fieldLink RX11 99 "ClockCourt$Net" "bitOf" "[I" ∈ gAll := gM13 _ (List.mem_of_getElem? (i := 0) rfl)
theorem kw_417 : Cond.fieldLink RX11 102 "ClockCourt$Net" "stillBits" "I" ∈ gAll := gM13 _ (List.mem_of_getElem? (i := 1) rfl)
theorem kw_418 : Cond.methodLink RX11 96 yX4_isBit ∈ gAll := gM13 _ (List.mem_of_getElem? (i := 2) rfl)
theorem kw_419 : Cond.fieldLink RX11 105 "ClockCourt$Promises" "size" "I" ∈ gAll := gM13 _ (List.mem_of_getElem? (i := 3) rfl)
theorem kw_420 : Cond.methodLink RX11 111 yX5_add ∈ gAll := gM13 _ (List.mem_of_getElem? (i := 4) rfl)
theorem kw_421 : Cond.instanceMethod yX5_add ∈ gAll := gM13 _ (List.mem_of_getElem? (i := 5) rfl)
theorem kw_422 : Cond.selects RX5 yX5_add yX5_add ∈ gAll := gM13 _ (List.mem_of_getElem? (i := 6) rfl)
theorem kw_423 : Cond.code yX11_promise cX11_promise 5 (some .int) ∈ gAll := gM13 _ (List.mem_of_getElem? (i := 7) rfl)
theorem kw_424 : Cond.code yX11_start cX11_start 2 (some .int) ∈ gAll := gM13 _ (List.mem_of_getElem? (i := 8) rfl)
theorem kw_425 : Cond.fieldLink RX11 114 "ClockCourt$Run" "moments" "I" ∈ gAll := gM13 _ (List.mem_of_getElem? (i := 9) rfl)
theorem kw_426 : Cond.methodLink RX11 120 yX7_go ∈ gAll := gM13 _ (List.mem_of_getElem? (i := 10) rfl)
theorem kw_427 : Cond.code yX11_moment cX11_moment 4 (some .int) ∈ gAll := gM13 _ (List.mem_of_getElem? (i := 11) rfl)
theorem kw_428 : Cond.code yX11_value cX11_value 2 (some .int) ∈ gAll := gM13 _ (List.mem_of_getElem? (i := 12) rfl)
theorem kw_429 : Cond.methodLink RX11 123 yX7_bitsNow ∈ gAll := gM13 _ (List.mem_of_getElem? (i := 13) rfl)
theorem kw_430 : Cond.instanceMethod yX7_bitsNow ∈ gAll := gM13 _ (List.mem_of_getElem? (i := 14) rfl)
theorem kw_431 : Cond.selects RX7 yX7_bitsNow yX7_bitsNow ∈ gAll := gM13 _ (List.mem_of_getElem? (i := 15) rfl)
theorem kw_432 : Cond.methodLink RX11 127 yX4_valueOf ∈ gAll := gM13 _ (List.mem_of_getElem? (i := 16) rfl)
theorem kw_433 : Cond.code yX11_either cX11_either 4 (some .int) ∈ gAll := gM13 _ (List.mem_of_getElem? (i := 17) rfl)
theorem kw_434 : Cond.fieldLink RX11 130 "ClockCourt$Net" "bits" "I" ∈ gAll := gM13 _ (List.mem_of_getElem? (i := 18) rfl)
theorem kw_435 : Cond.fieldLink RX11 133 "ClockCourt$Run" "eithers" "I" ∈ gAll := gM13 _ (List.mem_of_getElem? (i := 19) rfl)
theorem kw_436 : Cond.fieldLink RX11 136 "ClockCourt$Net" "cellOf" "[I" ∈ gAll := gM13 _ (List.mem_of_getElem? (i := 20) rfl)
theorem kw_437 : Cond.code yX11_ticks cX11_ticks 3 (some .int) ∈ gAll := gM13 _ (List.mem_of_getElem? (i := 21) rfl)
theorem kw_438 : Cond.fieldLink RX11 139 "ClockCourt$Run" "ticks" "J" ∈ gAll := gM13 _ (List.mem_of_getElem? (i := 22) rfl)
theorem kw_439 : Cond.methodLink RX11 143 yX0_ticksOf ∈ gAll := gM13 _ (List.mem_of_getElem? (i := 23) rfl)
theorem kw_440 : Cond.fieldLink RX11 150 "ClockCourt$Run" "bits" "[I" ∈ gAll := gM13 _ (List.mem_of_getElem? (i := 24) rfl)
theorem kw_441 : Cond.methodLink RX11 147 yX5_has ∈ gAll := gM13 _ (List.mem_of_getElem? (i := 25) rfl)
theorem kw_442 : Cond.instanceMethod yX5_has ∈ gAll := gM13 _ (List.mem_of_getElem? (i := 26) rfl)
theorem kw_443 : Cond.selects RX5 yX5_has yX5_has ∈ gAll := gM13 _ (List.mem_of_getElem? (i := 27) rfl)
theorem kw_444 : Cond.methodLink RX11 152 yX5_holds ∈ gAll := gM13 _ (List.mem_of_getElem? (i := 28) rfl)
theorem kw_445 : Cond.code yX11_broken cX11_broken 4 (some .int) ∈ gAll := gM13 _ (List.mem_of_getElem? (i := 29) rfl)
theorem kw_446 : Cond.fieldLink RX11 156 "ClockCourt$Walk" "states" "I" ∈ gAll := gM13 _ (List.mem_of_getElem? (i := 30) rfl)
theorem kw_447 : Cond.fieldLink RX11 167 "ClockCourt$Walk" "spent" "Z" ∈ gAll := gM13 _ (List.mem_of_getElem? (i := 31) rfl)
theorem kw_448 : Cond.methodLink RX11 159 yX9_begin ∈ gAll := gM14 _ (List.mem_of_getElem? (i := 0) rfl)
theorem kw_449 : Cond.instanceMethod yX9_begin ∈ gAll := gM14 _ (List.mem_of_getElem? (i := 1) rfl)
theorem kw_450 : Cond.selects RX9 yX9_begin yX9_begin ∈ gAll := gM14 _ (List.mem_of_getElem? (i := 2) rfl)
theorem kw_451 : Cond.methodLink RX11 160 yX9_goesOn ∈ gAll := gM14 _ (List.mem_of_getElem? (i := 3) rfl)
theorem kw_452 : Cond.instanceMethod yX9_goesOn ∈ gAll := gM14 _ (List.mem_of_getElem? (i := 4) rfl)
theorem kw_453 : Cond.selects RX9 yX9_goesOn yX9_goesOn ∈ gAll := gM14 _ (List.mem_of_getElem? (i := 5) rfl)
theorem kw_454 : Cond.methodLink RX11 163 yX9_lookAt ∈ gAll := gM14 _ (List.mem_of_getElem? (i := 6) rfl)
theorem kw_455 : Cond.instanceMethod yX9_lookAt ∈ gAll := gM14 _ (List.mem_of_getElem? (i := 7) rfl)
theorem kw_456 : Cond.selects RX9 yX9_lookAt yX9_lookAt ∈ gAll := gM14 _ (List.mem_of_getElem? (i := 8) rfl)
theorem kw_457 : Cond.code yX11_walk cX11_walk 2 (some .int) ∈ gAll := gM14 _ (List.mem_of_getElem? (i := 9) rfl)
theorem kw_458 : Cond.code yX11_state cX11_state 3 (some .int) ∈ gAll := gM14 _ (List.mem_of_getElem? (i := 10) rfl)
theorem kw_459 : Cond.fieldLink RX11 174 "ClockCourt$Walk" "bits" "[I" ∈ gAll := gM14 _ (List.mem_of_getElem? (i := 11) rfl)
theorem kw_460 : Cond.fieldLink RX11 175 "ClockCourt$Walk" "depth" "[I" ∈ gAll := gM14 _ (List.mem_of_getElem? (i := 12) rfl)
theorem kw_461 : Cond.fieldLink RX11 178 "ClockCourt$Walk" "follows" "[I" ∈ gAll := gM14 _ (List.mem_of_getElem? (i := 13) rfl)
theorem kw_462 : Cond.fieldLink RX11 181 "ClockCourt$Walk" "bringing" "[I" ∈ gAll := gM14 _ (List.mem_of_getElem? (i := 14) rfl)
theorem kw_463 : Cond.methodLink RX11 171 yX9_hasState ∈ gAll := gM14 _ (List.mem_of_getElem? (i := 15) rfl)
theorem kw_464 : Cond.instanceMethod yX9_hasState ∈ gAll := gM14 _ (List.mem_of_getElem? (i := 16) rfl)
theorem kw_465 : Cond.selects RX9 yX9_hasState yX9_hasState ∈ gAll := gM14 _ (List.mem_of_getElem? (i := 17) rfl)
theorem kw_466 : Cond.code yX11_shown cX11_shown 3 (some .int) ∈ gAll := gM14 _ (List.mem_of_getElem? (i := 18) rfl)
theorem kw_467 : Cond.code yX11_never cX11_never 3 (some .int) ∈ gAll := gM14 _ (List.mem_of_getElem? (i := 19) rfl)
theorem kw_468 : Cond.fieldLink RX11 187 "ClockCourt$Walk" "breaking" "[I" ∈ gAll := gM14 _ (List.mem_of_getElem? (i := 20) rfl)
theorem kw_469 : Cond.methodLink RX11 184 yX9_breaks ∈ gAll := gM14 _ (List.mem_of_getElem? (i := 21) rfl)
theorem kw_470 : Cond.methodLink RX11 190 yX9_lead ∈ gAll := gM14 _ (List.mem_of_getElem? (i := 22) rfl)
theorem kw_471 : Cond.instanceMethod yX9_lead ∈ gAll := gM14 _ (List.mem_of_getElem? (i := 23) rfl)
theorem kw_472 : Cond.selects RX9 yX9_lead yX9_lead ∈ gAll := gM14 _ (List.mem_of_getElem? (i := 24) rfl)
theorem kw_473 : Cond.code yX11_follow cX11_follow 2 (some .int) ∈ gAll := gM14 _ (List.mem_of_getElem? (i := 25) rfl)
theorem kw_474 : Cond.fieldLink RX11 194 "ClockCourt$Walk" "ways" "LClockCourt$Ways;" ∈ gAll := gM14 _ (List.mem_of_getElem? (i := 26) rfl)
theorem kw_475 : Cond.fieldLink RX11 198 "ClockCourt$Walk" "looked" "I" ∈ gAll := gM14 _ (List.mem_of_getElem? (i := 27) rfl)
theorem kw_476 : Cond.methodLink RX11 201 yX10_fewestTo ∈ gAll := gM14 _ (List.mem_of_getElem? (i := 28) rfl)
theorem kw_477 : Cond.instanceMethod yX10_fewestTo ∈ gAll := gM14 _ (List.mem_of_getElem? (i := 29) rfl)
theorem kw_478 : Cond.selects RX10 yX10_fewestTo yX10_fewestTo ∈ gAll := gM14 _ (List.mem_of_getElem? (i := 30) rfl)
theorem kw_479 : Cond.code yX11_fewest cX11_fewest 2 (some .int) ∈ gAll := gM14 _ (List.mem_of_getElem? (i := 31) rfl)
theorem kw_480 : Cond.methodLink RX11 206 yX1_size ∈ gAll := gM15 _ (List.mem_of_getElem? (i := 0) rfl)
theorem kw_481 : Cond.static yX1_size ∈ gAll := gM15 _ (List.mem_of_getElem? (i := 1) rfl)
theorem kw_482 : Cond.code yX11_crossings cX11_crossings 1 (some .int) ∈ gAll := gM15 _ (List.mem_of_getElem? (i := 2) rfl)
theorem kw_483 : Cond.methodLink RX11 211 yX1_keeperOf ∈ gAll := gM15 _ (List.mem_of_getElem? (i := 3) rfl)
theorem kw_484 : Cond.static yX1_keeperOf ∈ gAll := gM15 _ (List.mem_of_getElem? (i := 4) rfl)
theorem kw_485 : Cond.methodLink RX11 215 yX1_kindOf ∈ gAll := gM15 _ (List.mem_of_getElem? (i := 5) rfl)
theorem kw_486 : Cond.methodLink RX11 218 yX1_meets ∈ gAll := gM15 _ (List.mem_of_getElem? (i := 6) rfl)
theorem kw_487 : Cond.methodLink RX11 222 yX1_isBad ∈ gAll := gM15 _ (List.mem_of_getElem? (i := 7) rfl)
theorem kw_488 : Cond.static yX1_isBad ∈ gAll := gM15 _ (List.mem_of_getElem? (i := 8) rfl)
theorem kw_489 : Cond.methodLink RX11 225 yX4_foreignBits ∈ gAll := gM15 _ (List.mem_of_getElem? (i := 9) rfl)
theorem kw_490 : Cond.methodLink RX11 229 yX4_asCells ∈ gAll := gM15 _ (List.mem_of_getElem? (i := 10) rfl)
theorem kw_491 : Cond.instanceMethod yX4_asCells ∈ gAll := gM15 _ (List.mem_of_getElem? (i := 11) rfl)
theorem kw_492 : Cond.selects RX4 yX4_asCells yX4_asCells ∈ gAll := gM15 _ (List.mem_of_getElem? (i := 12) rfl)
theorem kw_493 : Cond.code yX11_crossing cX11_crossing 4 (some .int) ∈ gAll := gM15 _ (List.mem_of_getElem? (i := 13) rfl)
theorem kw_494 : Cond.methodLink RX11 236 yX4_addBehind ∈ gAll := gM15 _ (List.mem_of_getElem? (i := 14) rfl)
theorem kw_495 : Cond.instanceMethod yX4_addBehind ∈ gAll := gM15 _ (List.mem_of_getElem? (i := 15) rfl)
theorem kw_496 : Cond.selects RX4 yX4_addBehind yX4_addBehind ∈ gAll := gM15 _ (List.mem_of_getElem? (i := 16) rfl)
theorem kw_497 : Cond.code yX11_mend cX11_mend 4 (some .int) ∈ gAll := gM15 _ (List.mem_of_getElem? (i := 17) rfl)
theorem kw_498 : Cond.code yX11_count cX11_count 2 (some .int) ∈ gAll := gM15 _ (List.mem_of_getElem? (i := 18) rfl)
theorem kw_499 : Cond.fieldLink RX11 239 "ClockCourt$Walk" "moments" "I" ∈ gAll := gM15 _ (List.mem_of_getElem? (i := 19) rfl)
theorem kw_500 : Cond.code yX11_look cX11_look 3 (some .int) ∈ gAll := gM15 _ (List.mem_of_getElem? (i := 20) rfl)
theorem kw_501 : Cond.fieldLink RX11 240 "ClockCourt$Net" "kind" "[I" ∈ gAll := gM15 _ (List.mem_of_getElem? (i := 21) rfl)
theorem kw_502 : Cond.fieldLink RX11 243 "ClockCourt$Net" "clock" "[I" ∈ gAll := gM15 _ (List.mem_of_getElem? (i := 22) rfl)
theorem kw_503 : Cond.fieldLink RX11 246 "ClockCourt$Net" "y" "[I" ∈ gAll := gM15 _ (List.mem_of_getElem? (i := 23) rfl)
theorem kw_504 : Cond.fieldLink RX11 249 "ClockCourt$Net" "z" "[I" ∈ gAll := gM15 _ (List.mem_of_getElem? (i := 24) rfl)
theorem kw_505 : Cond.code yX11_isShelf cX11_isShelf 1 (some .boolean) ∈ gAll := gM15 _ (List.mem_of_getElem? (i := 25) rfl)
theorem kw_506 : Cond.classLink RX11 267 RX6 ∈ gAll := gM15 _ (List.mem_of_getElem? (i := 26) rfl)
theorem kw_507 : Cond.instantiable RX6 2 ∈ gAll := gM15 _ (List.mem_of_getElem? (i := 27) rfl)
theorem kw_508 : Cond.initialized RX6 ∈ gAll := gM15 _ (List.mem_of_getElem? (i := 28) rfl)
theorem kw_509 : Cond.fieldLink RX11 279 "ClockCourt$Row" "elements" "[I" ∈ gAll := gM15 _ (List.mem_of_getElem? (i := 29) rfl)
theorem kw_510 : Cond.methodLink RX11 269 yX6_init ∈ gAll := gM15 _ (List.mem_of_getElem? (i := 30) rfl)
theorem kw_511 : Cond.instanceMethod yX6_init ∈ gAll := gM15 _ (List.mem_of_getElem? (i := 31) rfl)
theorem kw_512 : Cond.code yX11_rowOfValues cX11_rowOfValues 3 (some (.object "ClockCourt$Row")) ∈ gAll := gM16 _ (List.mem_of_getElem? (i := 0) rfl)
theorem kw_513 : Cond.code yX11_rowOfClocks cX11_rowOfClocks 2 (some (.object "ClockCourt$Row")) ∈ gAll := gM16 _ (List.mem_of_getElem? (i := 1) rfl)
theorem kw_514 : Cond.fieldLink RX11 309 "ClockCourt$Run" "clocks" "[I" ∈ gAll := gM16 _ (List.mem_of_getElem? (i := 2) rfl)
theorem kw_515 : Cond.methodLink RX11 296 arraycopyName ∈ gAll := gM16 _ (List.mem_of_getElem? (i := 3) rfl)
theorem kw_516 : Cond.native arraycopyName ∈ gAll := gM16 _ (List.mem_of_getElem? (i := 4) rfl)
theorem kw_517 : Cond.static arraycopyName ∈ gAll := gM16 _ (List.mem_of_getElem? (i := 5) rfl)
theorem kw_518 : Cond.initialized "java/lang/System" ∈ gAll := gM16 _ (List.mem_of_getElem? (i := 6) rfl)
theorem kw_519 : Cond.classLink RX11 255 RX3 ∈ gAll := gM16 _ (List.mem_of_getElem? (i := 7) rfl)
theorem kw_520 : Cond.instantiable RX3 4 ∈ gAll := gM16 _ (List.mem_of_getElem? (i := 8) rfl)
theorem kw_521 : Cond.methodLink RX11 252 yX11_isShelf ∈ gAll := gM16 _ (List.mem_of_getElem? (i := 9) rfl)
theorem kw_522 : Cond.static yX11_isShelf ∈ gAll := gM16 _ (List.mem_of_getElem? (i := 10) rfl)
theorem kw_523 : Cond.methodLink RX11 257 yX3_init ∈ gAll := gM16 _ (List.mem_of_getElem? (i := 11) rfl)
theorem kw_524 : Cond.instanceMethod yX3_init ∈ gAll := gM16 _ (List.mem_of_getElem? (i := 12) rfl)
theorem kw_525 : Cond.methodLink RX11 260 yX11_rowOfValues ∈ gAll := gM16 _ (List.mem_of_getElem? (i := 13) rfl)
theorem kw_526 : Cond.instanceMethod yX11_rowOfValues ∈ gAll := gM16 _ (List.mem_of_getElem? (i := 14) rfl)
theorem kw_527 : Cond.selects RX11 yX11_rowOfValues yX11_rowOfValues ∈ gAll := gM16 _ (List.mem_of_getElem? (i := 15) rfl)
theorem kw_528 : Cond.methodLink RX11 264 yX11_rowOfClocks ∈ gAll := gM16 _ (List.mem_of_getElem? (i := 16) rfl)
theorem kw_529 : Cond.instanceMethod yX11_rowOfClocks ∈ gAll := gM16 _ (List.mem_of_getElem? (i := 17) rfl)
theorem kw_530 : Cond.selects RX11 yX11_rowOfClocks yX11_rowOfClocks ∈ gAll := gM16 _ (List.mem_of_getElem? (i := 18) rfl)
theorem kw_531 : Cond.code yX11_keep cX11_keep 4 (some .int) ∈ gAll := gM16 _ (List.mem_of_getElem? (i := 19) rfl)
theorem kw_532 : Cond.code yX11_make cX11_make 4 (some .int) ∈ gAll := gM16 _ (List.mem_of_getElem? (i := 20) rfl)
theorem kw_533 : Cond.code yX11_element cX11_element 5 (some .long) ∈ gAll := gM16 _ (List.mem_of_getElem? (i := 21) rfl)
theorem kw_534 : Cond.classLink RX11 272 "java/lang/IllegalArgumentException" ∈ gAll := gM16 _ (List.mem_of_getElem? (i := 22) rfl)
theorem kw_535 : Cond.initialized "java/lang/IllegalArgumentException" ∈ gAll := gM16 _ (List.mem_of_getElem? (i := 23) rfl)
theorem kw_536 : Cond.classLink RX11 282 "java/lang/IllegalStateException" ∈ gAll := gM16 _ (List.mem_of_getElem? (i := 24) rfl)
theorem kw_537 : Cond.classLink RX11 267 "ClockCourt$Row" ∈ gAll := gM16 _ (List.mem_of_getElem? (i := 25) rfl)
theorem kw_538 : Cond.code yX11_copy cX11_copy 9 (some .int) ∈ gAll := gM16 _ (List.mem_of_getElem? (i := 26) rfl)
theorem kw_539 : Cond.fieldLink RX11 289 "ClockCourt$Row" "of" "I" ∈ gAll := gM16 _ (List.mem_of_getElem? (i := 27) rfl)
theorem kw_540 : Cond.methodLink RX11 292 yX6_hasSpan ∈ gAll := gM16 _ (List.mem_of_getElem? (i := 28) rfl)
theorem kw_541 : Cond.instanceMethod yX6_hasSpan ∈ gAll := gM16 _ (List.mem_of_getElem? (i := 29) rfl)
theorem kw_542 : Cond.selects RX6 yX6_hasSpan yX6_hasSpan ∈ gAll := gM16 _ (List.mem_of_getElem? (i := 30) rfl)
theorem kw_543 : Cond.code yX11_weight cX11_weight 3 (some .int) ∈ gAll := gM16 _ (List.mem_of_getElem? (i := 31) rfl)
theorem kw_544 : Cond.methodLink RX11 302 ⟨"ClockCourt$Held", "weigh", "()I"⟩ ∈ gAll := gM17 _ (List.mem_of_getElem? (i := 0) rfl)
theorem kw_545 : Cond.sameMethod "ClockCourt$Held" "ClockCourt$Held" "weigh" "()I" ∈ gAll := gM17 _ (List.mem_of_getElem? (i := 1) rfl)
theorem kw_546 : Cond.selects RX3 ⟨"ClockCourt$Held", "weigh", "()I"⟩ yX3_weigh ∈ gAll := gM17 _ (List.mem_of_getElem? (i := 2) rfl)
theorem kw_547 : Cond.instanceMethod yX3_weigh ∈ gAll := gM17 _ (List.mem_of_getElem? (i := 3) rfl)
theorem kw_548 : Cond.selects RX6 ⟨"ClockCourt$Held", "weigh", "()I"⟩ yX6_weigh ∈ gAll := gM17 _ (List.mem_of_getElem? (i := 4) rfl)
theorem kw_549 : Cond.instanceMethod yX6_weigh ∈ gAll := gM17 _ (List.mem_of_getElem? (i := 5) rfl)
theorem kw_550 : Cond.code yX11_toss cX11_toss 3 (some .int) ∈ gAll := gM17 _ (List.mem_of_getElem? (i := 6) rfl)
theorem kw_551 : Cond.methodLink RX11 305 ⟨"ClockCourt$Held", "clockOfFailure", "()I"⟩ ∈ gAll := gM17 _ (List.mem_of_getElem? (i := 7) rfl)
theorem kw_552 : Cond.sameMethod "ClockCourt$Held" "ClockCourt$Held" "clockOfFailure" "()I" ∈ gAll := gM17 _ (List.mem_of_getElem? (i := 8) rfl)
theorem kw_553 : Cond.selects RX3 ⟨"ClockCourt$Held", "clockOfFailure", "()I"⟩ yX3_clockOfFailure ∈ gAll := gM17 _ (List.mem_of_getElem? (i := 9) rfl)
theorem kw_554 : Cond.instanceMethod yX3_clockOfFailure ∈ gAll := gM17 _ (List.mem_of_getElem? (i := 10) rfl)
theorem kw_555 : Cond.selects RX6 ⟨"ClockCourt$Held", "clockOfFailure", "()I"⟩ yX6_clockOfFailure ∈ gAll := gM17 _ (List.mem_of_getElem? (i := 11) rfl)
theorem kw_556 : Cond.instanceMethod yX6_clockOfFailure ∈ gAll := gM17 _ (List.mem_of_getElem? (i := 12) rfl)
theorem kw_557 : Cond.code yX12_bitOf cX12_bitOf 2 (some .int) ∈ gAll := gM17 _ (List.mem_of_getElem? (i := 13) rfl)
theorem kw_558 : Cond.code yX12_settle cX12_settle 7 (some .int) ∈ gAll := gM17 _ (List.mem_of_getElem? (i := 14) rfl)
theorem kw_559 : Cond.fieldLink RX12 126 "ClockCourtModel" "cells" "I" ∈ gAll := gM17 _ (List.mem_of_getElem? (i := 15) rfl)
theorem kw_560 : Cond.fieldLink RX12 7 "ClockCourtModel" "kind" "[I" ∈ gAll := gM17 _ (List.mem_of_getElem? (i := 16) rfl)
theorem kw_561 : Cond.fieldLink RX12 19 "ClockCourtModel" "x" "[I" ∈ gAll := gM17 _ (List.mem_of_getElem? (i := 17) rfl)
theorem kw_562 : Cond.fieldLink RX12 22 "ClockCourtModel" "y" "[I" ∈ gAll := gM17 _ (List.mem_of_getElem? (i := 18) rfl)
theorem kw_563 : Cond.fieldLink RX12 25 "ClockCourtModel" "z" "[I" ∈ gAll := gM17 _ (List.mem_of_getElem? (i := 19) rfl)
theorem kw_564 : Cond.methodLink RX12 133 yX12_bitOf ∈ gAll := gM17 _ (List.mem_of_getElem? (i := 20) rfl)
theorem kw_565 : Cond.static yX12_bitOf ∈ gAll := gM17 _ (List.mem_of_getElem? (i := 21) rfl)
theorem kw_566 : Cond.initialized RX12 ∈ gAll := gM17 _ (List.mem_of_getElem? (i := 22) rfl)
theorem kw_567 : Cond.code yX12_beginning cX12_beginning 3 (some .int) ∈ gAll := gM17 _ (List.mem_of_getElem? (i := 23) rfl)
theorem kw_568 : Cond.fieldLink RX12 16 "ClockCourtModel" "first" "[I" ∈ gAll := gM17 _ (List.mem_of_getElem? (i := 24) rfl)
theorem kw_569 : Cond.methodLink RX12 137 yX12_settle ∈ gAll := gM17 _ (List.mem_of_getElem? (i := 25) rfl)
theorem kw_570 : Cond.instanceMethod yX12_settle ∈ gAll := gM17 _ (List.mem_of_getElem? (i := 26) rfl)
theorem kw_571 : Cond.selects RX12 yX12_settle yX12_settle ∈ gAll := gM17 _ (List.mem_of_getElem? (i := 27) rfl)
theorem kw_572 : Cond.code yX12_begin cX12_begin 2 none ∈ gAll := gM17 _ (List.mem_of_getElem? (i := 28) rfl)
theorem kw_573 : Cond.fieldLink RX12 141 "ClockCourtModel" "moments" "I" ∈ gAll := gM17 _ (List.mem_of_getElem? (i := 29) rfl)
theorem kw_574 : Cond.fieldLink RX12 144 "ClockCourtModel" "eithers" "I" ∈ gAll := gM17 _ (List.mem_of_getElem? (i := 30) rfl)
theorem kw_575 : Cond.fieldLink RX12 44 "ClockCourtModel" "shown" "[I" ∈ gAll := gM17 _ (List.mem_of_getElem? (i := 31) rfl)
theorem kw_576 : Cond.fieldLink RX12 50 "ClockCourtModel" "since" "[I" ∈ gAll := gM18 _ (List.mem_of_getElem? (i := 0) rfl)
theorem kw_577 : Cond.methodLink RX12 147 yX12_beginning ∈ gAll := gM18 _ (List.mem_of_getElem? (i := 1) rfl)
theorem kw_578 : Cond.instanceMethod yX12_beginning ∈ gAll := gM18 _ (List.mem_of_getElem? (i := 2) rfl)
theorem kw_579 : Cond.selects RX12 yX12_beginning yX12_beginning ∈ gAll := gM18 _ (List.mem_of_getElem? (i := 3) rfl)
theorem kw_580 : Cond.methodLink RX12 1 objectInit ∈ gAll := gM18 _ (List.mem_of_getElem? (i := 4) rfl)
theorem kw_581 : Cond.fieldLink RX12 13 "ClockCourtModel" "clock" "[I" ∈ gAll := gM18 _ (List.mem_of_getElem? (i := 5) rfl)
theorem kw_582 : Cond.fieldLink RX12 28 "ClockCourtModel" "isStill" "[Z" ∈ gAll := gM18 _ (List.mem_of_getElem? (i := 6) rfl)
theorem kw_583 : Cond.fieldLink RX12 32 "ClockCourtModel" "bound" "[I" ∈ gAll := gM18 _ (List.mem_of_getElem? (i := 7) rfl)
theorem kw_584 : Cond.fieldLink RX12 35 "ClockCourtModel" "pKind" "[I" ∈ gAll := gM18 _ (List.mem_of_getElem? (i := 8) rfl)
theorem kw_585 : Cond.fieldLink RX12 38 "ClockCourtModel" "pX" "[I" ∈ gAll := gM18 _ (List.mem_of_getElem? (i := 9) rfl)
theorem kw_586 : Cond.fieldLink RX12 41 "ClockCourtModel" "pY" "[I" ∈ gAll := gM18 _ (List.mem_of_getElem? (i := 10) rfl)
theorem kw_587 : Cond.fieldLink RX12 47 "ClockCourtModel" "runClocks" "[I" ∈ gAll := gM18 _ (List.mem_of_getElem? (i := 11) rfl)
theorem kw_588 : Cond.fieldLink RX12 53 "ClockCourtModel" "eitherCells" "[I" ∈ gAll := gM18 _ (List.mem_of_getElem? (i := 12) rfl)
theorem kw_589 : Cond.fieldLink RX12 56 "ClockCourtModel" "stateValue" "[I" ∈ gAll := gM18 _ (List.mem_of_getElem? (i := 13) rfl)
theorem kw_590 : Cond.fieldLink RX12 59 "ClockCourtModel" "stateSince" "[I" ∈ gAll := gM18 _ (List.mem_of_getElem? (i := 14) rfl)
theorem kw_591 : Cond.fieldLink RX12 62 "ClockCourtModel" "cameFrom" "[I" ∈ gAll := gM18 _ (List.mem_of_getElem? (i := 15) rfl)
theorem kw_592 : Cond.fieldLink RX12 65 "ClockCourtModel" "cameClocks" "[I" ∈ gAll := gM18 _ (List.mem_of_getElem? (i := 16) rfl)
theorem kw_593 : Cond.fieldLink RX12 68 "ClockCourtModel" "cameInputs" "[I" ∈ gAll := gM18 _ (List.mem_of_getElem? (i := 17) rfl)
theorem kw_594 : Cond.fieldLink RX12 71 "ClockCourtModel" "cameOthers" "[I" ∈ gAll := gM18 _ (List.mem_of_getElem? (i := 18) rfl)
theorem kw_595 : Cond.fieldLink RX12 74 "ClockCourtModel" "deep" "[I" ∈ gAll := gM18 _ (List.mem_of_getElem? (i := 19) rfl)
theorem kw_596 : Cond.fieldLink RX12 77 "ClockCourtModel" "follows" "[I" ∈ gAll := gM18 _ (List.mem_of_getElem? (i := 20) rfl)
theorem kw_597 : Cond.fieldLink RX12 80 "ClockCourtModel" "moveFrom" "[I" ∈ gAll := gM18 _ (List.mem_of_getElem? (i := 21) rfl)
theorem kw_598 : Cond.fieldLink RX12 83 "ClockCourtModel" "moveTo" "[I" ∈ gAll := gM18 _ (List.mem_of_getElem? (i := 22) rfl)
theorem kw_599 : Cond.fieldLink RX12 86 "ClockCourtModel" "moveTurned" "[I" ∈ gAll := gM18 _ (List.mem_of_getElem? (i := 23) rfl)
theorem kw_600 : Cond.fieldLink RX12 89 "ClockCourtModel" "never" "[I" ∈ gAll := gM18 _ (List.mem_of_getElem? (i := 24) rfl)
theorem kw_601 : Cond.fieldLink RX12 92 "ClockCourtModel" "isNever" "[Z" ∈ gAll := gM18 _ (List.mem_of_getElem? (i := 25) rfl)
theorem kw_602 : Cond.fieldLink RX12 95 "ClockCourtModel" "next" "[I" ∈ gAll := gM18 _ (List.mem_of_getElem? (i := 26) rfl)
theorem kw_603 : Cond.fieldLink RX12 98 "ClockCourtModel" "cost" "[I" ∈ gAll := gM18 _ (List.mem_of_getElem? (i := 27) rfl)
theorem kw_604 : Cond.fieldLink RX12 101 "ClockCourtModel" "shelf" "[I" ∈ gAll := gM18 _ (List.mem_of_getElem? (i := 28) rfl)
theorem kw_605 : Cond.fieldLink RX12 104 "ClockCourtModel" "shelfSize" "[I" ∈ gAll := gM18 _ (List.mem_of_getElem? (i := 29) rfl)
theorem kw_606 : Cond.fieldLink RX12 107 "ClockCourtModel" "shelfWeight" "[I" ∈ gAll := gM18 _ (List.mem_of_getElem? (i := 30) rfl)
theorem kw_607 : Cond.fieldLink RX12 110 "ClockCourtModel" "shelfClock" "[I" ∈ gAll := gM18 _ (List.mem_of_getElem? (i := 31) rfl)
theorem kw_608 : Cond.fieldLink RX12 113 "ClockCourtModel" "shelfRow" "[I" ∈ gAll := gM19 _ (List.mem_of_getElem? (i := 0) rfl)
theorem kw_609 : Cond.fieldLink RX12 116 "ClockCourtModel" "between" "[I" ∈ gAll := gM19 _ (List.mem_of_getElem? (i := 1) rfl)
theorem kw_610 : Cond.methodLink RX12 119 yX12_begin ∈ gAll := gM19 _ (List.mem_of_getElem? (i := 2) rfl)
theorem kw_611 : Cond.instanceMethod yX12_begin ∈ gAll := gM19 _ (List.mem_of_getElem? (i := 3) rfl)
theorem kw_612 : Cond.selects RX12 yX12_begin yX12_begin ∈ gAll := gM19 _ (List.mem_of_getElem? (i := 4) rfl)
theorem kw_613 : Cond.code yX12_init cX12_init 1 none ∈ gAll := gM19 _ (List.mem_of_getElem? (i := 5) rfl)
theorem kw_614 : Cond.code yX12_thrown cX12_thrown 1 (some .int) ∈ gAll := gM19 _ (List.mem_of_getElem? (i := 6) rfl)
theorem kw_615 : Cond.fieldLink RX12 122 "ClockCourtModel" "thrown" "I" ∈ gAll := gM19 _ (List.mem_of_getElem? (i := 7) rfl)
theorem kw_616 : Cond.code yX12_isIn cX12_isIn 6 (some .boolean) ∈ gAll := gM19 _ (List.mem_of_getElem? (i := 8) rfl)
theorem kw_617 : Cond.code yX12_isCell cX12_isCell 2 (some .boolean) ∈ gAll := gM19 _ (List.mem_of_getElem? (i := 9) rfl)
theorem kw_618 : Cond.code yX12_isBit cX12_isBit 2 (some .boolean) ∈ gAll := gM19 _ (List.mem_of_getElem? (i := 10) rfl)
theorem kw_619 : Cond.methodLink RX12 129 yX12_isCell ∈ gAll := gM19 _ (List.mem_of_getElem? (i := 11) rfl)
theorem kw_620 : Cond.instanceMethod yX12_isCell ∈ gAll := gM19 _ (List.mem_of_getElem? (i := 12) rfl)
theorem kw_621 : Cond.selects RX12 yX12_isCell yX12_isCell ∈ gAll := gM19 _ (List.mem_of_getElem? (i := 13) rfl)
theorem kw_622 : Cond.code yX12_isKeeper cX12_isKeeper 2 (some .boolean) ∈ gAll := gM19 _ (List.mem_of_getElem? (i := 14) rfl)
theorem kw_623 : Cond.code yX12_unwalk cX12_unwalk 1 none ∈ gAll := gM19 _ (List.mem_of_getElem? (i := 15) rfl)
theorem kw_624 : Cond.fieldLink RX12 233 "ClockCourtModel" "walked" "Z" ∈ gAll := gM19 _ (List.mem_of_getElem? (i := 16) rfl)
theorem kw_625 : Cond.fieldLink RX12 237 "ClockCourtModel" "spent" "Z" ∈ gAll := gM19 _ (List.mem_of_getElem? (i := 17) rfl)
theorem kw_626 : Cond.fieldLink RX12 240 "ClockCourtModel" "states" "I" ∈ gAll := gM19 _ (List.mem_of_getElem? (i := 18) rfl)
theorem kw_627 : Cond.fieldLink RX12 243 "ClockCourtModel" "looked" "I" ∈ gAll := gM19 _ (List.mem_of_getElem? (i := 19) rfl)
theorem kw_628 : Cond.fieldLink RX12 246 "ClockCourtModel" "tried" "I" ∈ gAll := gM19 _ (List.mem_of_getElem? (i := 20) rfl)
theorem kw_629 : Cond.fieldLink RX12 249 "ClockCourtModel" "moves" "I" ∈ gAll := gM19 _ (List.mem_of_getElem? (i := 21) rfl)
theorem kw_630 : Cond.methodLink RX12 151 yX12_unwalk ∈ gAll := gM19 _ (List.mem_of_getElem? (i := 22) rfl)
theorem kw_631 : Cond.instanceMethod yX12_unwalk ∈ gAll := gM19 _ (List.mem_of_getElem? (i := 23) rfl)
theorem kw_632 : Cond.selects RX12 yX12_unwalk yX12_unwalk ∈ gAll := gM19 _ (List.mem_of_getElem? (i := 24) rfl)
theorem kw_633 : Cond.code yX12_changed cX12_changed 1 none ∈ gAll := gM19 _ (List.mem_of_getElem? (i := 25) rfl)
theorem kw_634 : Cond.fieldLink RX12 160 "ClockCourtModel" "bits" "I" ∈ gAll := gM19 _ (List.mem_of_getElem? (i := 26) rfl)
theorem kw_635 : Cond.methodLink RX12 167 yX12_changed ∈ gAll := gM19 _ (List.mem_of_getElem? (i := 27) rfl)
theorem kw_636 : Cond.instanceMethod yX12_changed ∈ gAll := gM19 _ (List.mem_of_getElem? (i := 28) rfl)
theorem kw_637 : Cond.selects RX12 yX12_changed yX12_changed ∈ gAll := gM19 _ (List.mem_of_getElem? (i := 29) rfl)
theorem kw_638 : Cond.code yX12_add cX12_add 4 none ∈ gAll := gM19 _ (List.mem_of_getElem? (i := 30) rfl)
theorem kw_639 : Cond.constantLong RX12 154 (3) ∈ gAll := gM19 _ (List.mem_of_getElem? (i := 31) rfl)
theorem kw_640 : Cond.methodLink RX12 156 yX12_isIn ∈ gAll := gM20 _ (List.mem_of_getElem? (i := 0) rfl)
theorem kw_641 : Cond.static yX12_isIn ∈ gAll := gM20 _ (List.mem_of_getElem? (i := 1) rfl)
theorem kw_642 : Cond.methodLink RX12 163 yX12_add ∈ gAll := gM20 _ (List.mem_of_getElem? (i := 2) rfl)
theorem kw_643 : Cond.instanceMethod yX12_add ∈ gAll := gM20 _ (List.mem_of_getElem? (i := 3) rfl)
theorem kw_644 : Cond.selects RX12 yX12_add yX12_add ∈ gAll := gM20 _ (List.mem_of_getElem? (i := 4) rfl)
theorem kw_645 : Cond.code yX12_input cX12_input 2 (some .int) ∈ gAll := gM20 _ (List.mem_of_getElem? (i := 5) rfl)
theorem kw_646 : Cond.code yX12_keeper cX12_keeper 3 (some .int) ∈ gAll := gM20 _ (List.mem_of_getElem? (i := 6) rfl)
theorem kw_647 : Cond.constantLong RX12 170 (4) ∈ gAll := gM20 _ (List.mem_of_getElem? (i := 7) rfl)
theorem kw_648 : Cond.code yX12_gate cX12_gate 5 (some .int) ∈ gAll := gM20 _ (List.mem_of_getElem? (i := 8) rfl)
theorem kw_649 : Cond.methodLink RX12 172 yX12_isKeeper ∈ gAll := gM20 _ (List.mem_of_getElem? (i := 9) rfl)
theorem kw_650 : Cond.instanceMethod yX12_isKeeper ∈ gAll := gM20 _ (List.mem_of_getElem? (i := 10) rfl)
theorem kw_651 : Cond.selects RX12 yX12_isKeeper yX12_isKeeper ∈ gAll := gM20 _ (List.mem_of_getElem? (i := 11) rfl)
theorem kw_652 : Cond.code yX12_connect cX12_connect 4 (some .int) ∈ gAll := gM20 _ (List.mem_of_getElem? (i := 12) rfl)
theorem kw_653 : Cond.constantLong RX12 175 (9) ∈ gAll := gM20 _ (List.mem_of_getElem? (i := 13) rfl)
theorem kw_654 : Cond.code yX12_bound cX12_bound 5 (some .int) ∈ gAll := gM20 _ (List.mem_of_getElem? (i := 14) rfl)
theorem kw_655 : Cond.code yX12_still cX12_still 4 (some .int) ∈ gAll := gM20 _ (List.mem_of_getElem? (i := 15) rfl)
theorem kw_656 : Cond.methodLink RX12 177 yX12_isBit ∈ gAll := gM20 _ (List.mem_of_getElem? (i := 16) rfl)
theorem kw_657 : Cond.instanceMethod yX12_isBit ∈ gAll := gM20 _ (List.mem_of_getElem? (i := 17) rfl)
theorem kw_658 : Cond.selects RX12 yX12_isBit yX12_isBit ∈ gAll := gM20 _ (List.mem_of_getElem? (i := 18) rfl)
theorem kw_659 : Cond.fieldLink RX12 180 "ClockCourtModel" "promises" "I" ∈ gAll := gM20 _ (List.mem_of_getElem? (i := 19) rfl)
theorem kw_660 : Cond.code yX12_promise cX12_promise 4 (some .int) ∈ gAll := gM20 _ (List.mem_of_getElem? (i := 20) rfl)
theorem kw_661 : Cond.code yX12_isTicking cX12_isTicking 3 (some .boolean) ∈ gAll := gM20 _ (List.mem_of_getElem? (i := 21) rfl)
theorem kw_662 : Cond.code yX12_then cX12_then 4 (some .int) ∈ gAll := gM20 _ (List.mem_of_getElem? (i := 22) rfl)
theorem kw_663 : Cond.code yX12_fits cX12_fits 3 (some .boolean) ∈ gAll := gM20 _ (List.mem_of_getElem? (i := 23) rfl)
theorem kw_664 : Cond.code yX12_mixed cX12_mixed 2 (some .int) ∈ gAll := gM20 _ (List.mem_of_getElem? (i := 24) rfl)
theorem kw_665 : Cond.fieldLink RX12 183 "ClockCourtModel" "ahead" "I" ∈ gAll := gM20 _ (List.mem_of_getElem? (i := 25) rfl)
theorem kw_666 : Cond.fieldLink RX12 186 "ClockCourtModel" "plain" "I" ∈ gAll := gM20 _ (List.mem_of_getElem? (i := 26) rfl)
theorem kw_667 : Cond.code yX12_isEither cX12_isEither 5 (some .boolean) ∈ gAll := gM20 _ (List.mem_of_getElem? (i := 27) rfl)
theorem kw_668 : Cond.fieldLink RX12 189 "ClockCourtModel" "changing" "I" ∈ gAll := gM20 _ (List.mem_of_getElem? (i := 28) rfl)
theorem kw_669 : Cond.methodLink RX12 192 yX12_mixed ∈ gAll := gM20 _ (List.mem_of_getElem? (i := 29) rfl)
theorem kw_670 : Cond.instanceMethod yX12_mixed ∈ gAll := gM20 _ (List.mem_of_getElem? (i := 30) rfl)
theorem kw_671 : Cond.selects RX12 yX12_mixed yX12_mixed ∈ gAll := gM20 _ (List.mem_of_getElem? (i := 31) rfl)
theorem kw_672 : Cond.fieldLink RX12 199 "ClockCourtModel" "either" "I" ∈ gAll := gM21 _ (List.mem_of_getElem? (i := 0) rfl)
theorem kw_673 : Cond.methodLink RX12 195 yX12_isTicking ∈ gAll := gM21 _ (List.mem_of_getElem? (i := 1) rfl)
theorem kw_674 : Cond.instanceMethod yX12_isTicking ∈ gAll := gM21 _ (List.mem_of_getElem? (i := 2) rfl)
theorem kw_675 : Cond.selects RX12 yX12_isTicking yX12_isTicking ∈ gAll := gM21 _ (List.mem_of_getElem? (i := 3) rfl)
theorem kw_676 : Cond.methodLink RX12 202 yX12_isEither ∈ gAll := gM21 _ (List.mem_of_getElem? (i := 4) rfl)
theorem kw_677 : Cond.instanceMethod yX12_isEither ∈ gAll := gM21 _ (List.mem_of_getElem? (i := 5) rfl)
theorem kw_678 : Cond.selects RX12 yX12_isEither yX12_isEither ∈ gAll := gM21 _ (List.mem_of_getElem? (i := 6) rfl)
theorem kw_679 : Cond.code yX12_look cX12_look 7 none ∈ gAll := gM21 _ (List.mem_of_getElem? (i := 7) rfl)
theorem kw_680 : Cond.code yX12_countBits cX12_countBits 4 (some .int) ∈ gAll := gM21 _ (List.mem_of_getElem? (i := 8) rfl)
theorem kw_681 : Cond.code yX12_behind cX12_behind 5 (some .int) ∈ gAll := gM21 _ (List.mem_of_getElem? (i := 9) rfl)
theorem kw_682 : Cond.code yX12_turned cX12_turned 4 (some .int) ∈ gAll := gM21 _ (List.mem_of_getElem? (i := 10) rfl)
theorem kw_683 : Cond.methodLink RX12 205 yX12_countBits ∈ gAll := gM21 _ (List.mem_of_getElem? (i := 11) rfl)
theorem kw_684 : Cond.instanceMethod yX12_countBits ∈ gAll := gM21 _ (List.mem_of_getElem? (i := 12) rfl)
theorem kw_685 : Cond.selects RX12 yX12_countBits yX12_countBits ∈ gAll := gM21 _ (List.mem_of_getElem? (i := 13) rfl)
theorem kw_686 : Cond.code yX12_isKept cX12_isKept 8 (some .boolean) ∈ gAll := gM21 _ (List.mem_of_getElem? (i := 14) rfl)
theorem kw_687 : Cond.code yX12_start cX12_start 2 (some .int) ∈ gAll := gM21 _ (List.mem_of_getElem? (i := 15) rfl)
theorem kw_688 : Cond.code yX12_canBe cX12_canBe 4 (some .boolean) ∈ gAll := gM21 _ (List.mem_of_getElem? (i := 16) rfl)
theorem kw_689 : Cond.methodLink RX12 208 yX12_then ∈ gAll := gM21 _ (List.mem_of_getElem? (i := 17) rfl)
theorem kw_690 : Cond.instanceMethod yX12_then ∈ gAll := gM21 _ (List.mem_of_getElem? (i := 18) rfl)
theorem kw_691 : Cond.selects RX12 yX12_then yX12_then ∈ gAll := gM21 _ (List.mem_of_getElem? (i := 19) rfl)
theorem kw_692 : Cond.methodLink RX12 212 yX12_fits ∈ gAll := gM21 _ (List.mem_of_getElem? (i := 20) rfl)
theorem kw_693 : Cond.instanceMethod yX12_fits ∈ gAll := gM21 _ (List.mem_of_getElem? (i := 21) rfl)
theorem kw_694 : Cond.selects RX12 yX12_fits yX12_fits ∈ gAll := gM21 _ (List.mem_of_getElem? (i := 22) rfl)
theorem kw_695 : Cond.methodLink RX12 215 yX12_look ∈ gAll := gM21 _ (List.mem_of_getElem? (i := 23) rfl)
theorem kw_696 : Cond.instanceMethod yX12_look ∈ gAll := gM21 _ (List.mem_of_getElem? (i := 24) rfl)
theorem kw_697 : Cond.selects RX12 yX12_look yX12_look ∈ gAll := gM21 _ (List.mem_of_getElem? (i := 25) rfl)
theorem kw_698 : Cond.methodLink RX12 218 yX12_behind ∈ gAll := gM21 _ (List.mem_of_getElem? (i := 26) rfl)
theorem kw_699 : Cond.instanceMethod yX12_behind ∈ gAll := gM21 _ (List.mem_of_getElem? (i := 27) rfl)
theorem kw_700 : Cond.selects RX12 yX12_behind yX12_behind ∈ gAll := gM21 _ (List.mem_of_getElem? (i := 28) rfl)
theorem kw_701 : Cond.code yX12_go cX12_go 5 none ∈ gAll := gM21 _ (List.mem_of_getElem? (i := 29) rfl)
theorem kw_702 : Cond.constantLong RX12 221 (15) ∈ gAll := gM21 _ (List.mem_of_getElem? (i := 30) rfl)
theorem kw_703 : Cond.methodLink RX12 223 yX12_canBe ∈ gAll := gM21 _ (List.mem_of_getElem? (i := 31) rfl)
theorem kw_704 : Cond.instanceMethod yX12_canBe ∈ gAll := gM22 _ (List.mem_of_getElem? (i := 0) rfl)
theorem kw_705 : Cond.selects RX12 yX12_canBe yX12_canBe ∈ gAll := gM22 _ (List.mem_of_getElem? (i := 1) rfl)
theorem kw_706 : Cond.methodLink RX12 226 yX12_go ∈ gAll := gM22 _ (List.mem_of_getElem? (i := 2) rfl)
theorem kw_707 : Cond.instanceMethod yX12_go ∈ gAll := gM22 _ (List.mem_of_getElem? (i := 3) rfl)
theorem kw_708 : Cond.selects RX12 yX12_go yX12_go ∈ gAll := gM22 _ (List.mem_of_getElem? (i := 4) rfl)
theorem kw_709 : Cond.code yX12_moment cX12_moment 4 (some .int) ∈ gAll := gM22 _ (List.mem_of_getElem? (i := 5) rfl)
theorem kw_710 : Cond.code yX12_value cX12_value 2 (some .int) ∈ gAll := gM22 _ (List.mem_of_getElem? (i := 6) rfl)
theorem kw_711 : Cond.code yX12_either cX12_either 2 (some .int) ∈ gAll := gM22 _ (List.mem_of_getElem? (i := 7) rfl)
theorem kw_712 : Cond.code yX12_ticks cX12_ticks 3 (some .int) ∈ gAll := gM22 _ (List.mem_of_getElem? (i := 8) rfl)
theorem kw_713 : Cond.code yX12_broken cX12_broken 3 (some .int) ∈ gAll := gM22 _ (List.mem_of_getElem? (i := 9) rfl)
theorem kw_714 : Cond.methodLink RX12 229 yX12_isKept ∈ gAll := gM22 _ (List.mem_of_getElem? (i := 10) rfl)
theorem kw_715 : Cond.instanceMethod yX12_isKept ∈ gAll := gM22 _ (List.mem_of_getElem? (i := 11) rfl)
theorem kw_716 : Cond.selects RX12 yX12_isKept yX12_isKept ∈ gAll := gM22 _ (List.mem_of_getElem? (i := 12) rfl)
theorem kw_717 : Cond.code yX12_stateOf cX12_stateOf 5 (some .int) ∈ gAll := gM22 _ (List.mem_of_getElem? (i := 13) rfl)
theorem kw_718 : Cond.code yX12_addState cX12_addState 7 none ∈ gAll := gM22 _ (List.mem_of_getElem? (i := 14) rfl)
theorem kw_719 : Cond.code yX12_lookAtPromises cX12_lookAtPromises 9 none ∈ gAll := gM22 _ (List.mem_of_getElem? (i := 15) rfl)
theorem kw_720 : Cond.methodLink RX12 252 yX12_stateOf ∈ gAll := gM22 _ (List.mem_of_getElem? (i := 16) rfl)
theorem kw_721 : Cond.instanceMethod yX12_stateOf ∈ gAll := gM22 _ (List.mem_of_getElem? (i := 17) rfl)
theorem kw_722 : Cond.selects RX12 yX12_stateOf yX12_stateOf ∈ gAll := gM22 _ (List.mem_of_getElem? (i := 18) rfl)
theorem kw_723 : Cond.methodLink RX12 255 yX12_addState ∈ gAll := gM22 _ (List.mem_of_getElem? (i := 19) rfl)
theorem kw_724 : Cond.instanceMethod yX12_addState ∈ gAll := gM22 _ (List.mem_of_getElem? (i := 20) rfl)
theorem kw_725 : Cond.selects RX12 yX12_addState yX12_addState ∈ gAll := gM22 _ (List.mem_of_getElem? (i := 21) rfl)
theorem kw_726 : Cond.methodLink RX12 259 yX12_turned ∈ gAll := gM22 _ (List.mem_of_getElem? (i := 22) rfl)
theorem kw_727 : Cond.instanceMethod yX12_turned ∈ gAll := gM22 _ (List.mem_of_getElem? (i := 23) rfl)
theorem kw_728 : Cond.selects RX12 yX12_turned yX12_turned ∈ gAll := gM22 _ (List.mem_of_getElem? (i := 24) rfl)
theorem kw_729 : Cond.methodLink RX12 262 yX12_lookAtPromises ∈ gAll := gM22 _ (List.mem_of_getElem? (i := 25) rfl)
theorem kw_730 : Cond.instanceMethod yX12_lookAtPromises ∈ gAll := gM22 _ (List.mem_of_getElem? (i := 26) rfl)
theorem kw_731 : Cond.selects RX12 yX12_lookAtPromises yX12_lookAtPromises ∈ gAll := gM22 _ (List.mem_of_getElem? (i := 27) rfl)
theorem kw_732 : Cond.code yX12_tryMove cX12_tryMove 7 none ∈ gAll := gM22 _ (List.mem_of_getElem? (i := 28) rfl)
theorem kw_733 : Cond.code yX12_inputsOf cX12_inputsOf 4 (some .int) ∈ gAll := gM22 _ (List.mem_of_getElem? (i := 29) rfl)
theorem kw_734 : Cond.methodLink RX12 266 yX12_inputsOf ∈ gAll := gM22 _ (List.mem_of_getElem? (i := 30) rfl)
theorem kw_735 : Cond.instanceMethod yX12_inputsOf ∈ gAll := gM22 _ (List.mem_of_getElem? (i := 31) rfl)
theorem kw_736 : Cond.selects RX12 yX12_inputsOf yX12_inputsOf ∈ gAll := gM23 _ (List.mem_of_getElem? (i := 0) rfl)
theorem kw_737 : Cond.methodLink RX12 269 yX12_tryMove ∈ gAll := gM23 _ (List.mem_of_getElem? (i := 1) rfl)
theorem kw_738 : Cond.instanceMethod yX12_tryMove ∈ gAll := gM23 _ (List.mem_of_getElem? (i := 2) rfl)
theorem kw_739 : Cond.selects RX12 yX12_tryMove yX12_tryMove ∈ gAll := gM23 _ (List.mem_of_getElem? (i := 3) rfl)
theorem kw_740 : Cond.code yX12_trySet cX12_trySet 8 none ∈ gAll := gM23 _ (List.mem_of_getElem? (i := 4) rfl)
theorem kw_741 : Cond.code yX12_clocksThere cX12_clocksThere 3 (some .int) ∈ gAll := gM23 _ (List.mem_of_getElem? (i := 5) rfl)
theorem kw_742 : Cond.methodLink RX12 273 yX12_clocksThere ∈ gAll := gM23 _ (List.mem_of_getElem? (i := 6) rfl)
theorem kw_743 : Cond.instanceMethod yX12_clocksThere ∈ gAll := gM23 _ (List.mem_of_getElem? (i := 7) rfl)
theorem kw_744 : Cond.selects RX12 yX12_clocksThere yX12_clocksThere ∈ gAll := gM23 _ (List.mem_of_getElem? (i := 8) rfl)
theorem kw_745 : Cond.methodLink RX12 276 yX12_trySet ∈ gAll := gM23 _ (List.mem_of_getElem? (i := 9) rfl)
theorem kw_746 : Cond.instanceMethod yX12_trySet ∈ gAll := gM23 _ (List.mem_of_getElem? (i := 10) rfl)
theorem kw_747 : Cond.selects RX12 yX12_trySet yX12_trySet ∈ gAll := gM23 _ (List.mem_of_getElem? (i := 11) rfl)
theorem kw_748 : Cond.code yX12_walk cX12_walk 6 (some .int) ∈ gAll := gM23 _ (List.mem_of_getElem? (i := 12) rfl)
theorem kw_749 : Cond.code yX12_isState cX12_isState 2 (some .boolean) ∈ gAll := gM23 _ (List.mem_of_getElem? (i := 13) rfl)
theorem kw_750 : Cond.code yX12_bitsOf cX12_bitsOf 5 (some .int) ∈ gAll := gM23 _ (List.mem_of_getElem? (i := 14) rfl)
theorem kw_751 : Cond.constantLong RX12 283 (6) ∈ gAll := gM23 _ (List.mem_of_getElem? (i := 15) rfl)
theorem kw_752 : Cond.methodLink RX12 280 yX12_isState ∈ gAll := gM23 _ (List.mem_of_getElem? (i := 16) rfl)
theorem kw_753 : Cond.instanceMethod yX12_isState ∈ gAll := gM23 _ (List.mem_of_getElem? (i := 17) rfl)
theorem kw_754 : Cond.selects RX12 yX12_isState yX12_isState ∈ gAll := gM23 _ (List.mem_of_getElem? (i := 18) rfl)
theorem kw_755 : Cond.methodLink RX12 285 yX12_bitsOf ∈ gAll := gM23 _ (List.mem_of_getElem? (i := 19) rfl)
theorem kw_756 : Cond.instanceMethod yX12_bitsOf ∈ gAll := gM23 _ (List.mem_of_getElem? (i := 20) rfl)
theorem kw_757 : Cond.selects RX12 yX12_bitsOf yX12_bitsOf ∈ gAll := gM23 _ (List.mem_of_getElem? (i := 21) rfl)
theorem kw_758 : Cond.code yX12_state cX12_state 3 (some .int) ∈ gAll := gM23 _ (List.mem_of_getElem? (i := 22) rfl)
theorem kw_759 : Cond.code yX12_shown cX12_shown 3 (some .int) ∈ gAll := gM23 _ (List.mem_of_getElem? (i := 23) rfl)
theorem kw_760 : Cond.code yX12_never cX12_never 3 (some .int) ∈ gAll := gM23 _ (List.mem_of_getElem? (i := 24) rfl)
theorem kw_761 : Cond.code yX12_follow cX12_follow 4 (some .int) ∈ gAll := gM23 _ (List.mem_of_getElem? (i := 25) rfl)
theorem kw_762 : Cond.code yX12_fewest cX12_fewest 5 (some .int) ∈ gAll := gM23 _ (List.mem_of_getElem? (i := 26) rfl)
theorem kw_763 : Cond.constant RX12 288 (1000000) ∈ gAll := gM23 _ (List.mem_of_getElem? (i := 27) rfl)
theorem kw_764 : Cond.code yX12_hangs cX12_hangs 5 (some .int) ∈ gAll := gM23 _ (List.mem_of_getElem? (i := 28) rfl)
theorem kw_765 : Cond.code yX12_foreign cX12_foreign 5 (some .int) ∈ gAll := gM23 _ (List.mem_of_getElem? (i := 29) rfl)
theorem kw_766 : Cond.methodLink RX12 289 yX12_hangs ∈ gAll := gM23 _ (List.mem_of_getElem? (i := 30) rfl)
theorem kw_767 : Cond.instanceMethod yX12_hangs ∈ gAll := gM23 _ (List.mem_of_getElem? (i := 31) rfl)
theorem kw_768 : Cond.selects RX12 yX12_hangs yX12_hangs ∈ gAll := gM24 _ (List.mem_of_getElem? (i := 0) rfl)
theorem kw_769 : Cond.code yX12_isCrossing cX12_isCrossing 2 (some .boolean) ∈ gAll := gM24 _ (List.mem_of_getElem? (i := 1) rfl)
theorem kw_770 : Cond.methodLink RX12 292 yX12_foreign ∈ gAll := gM24 _ (List.mem_of_getElem? (i := 2) rfl)
theorem kw_771 : Cond.instanceMethod yX12_foreign ∈ gAll := gM24 _ (List.mem_of_getElem? (i := 3) rfl)
theorem kw_772 : Cond.selects RX12 yX12_foreign yX12_foreign ∈ gAll := gM24 _ (List.mem_of_getElem? (i := 4) rfl)
theorem kw_773 : Cond.code yX12_crossingAt cX12_crossingAt 4 (some .int) ∈ gAll := gM24 _ (List.mem_of_getElem? (i := 5) rfl)
theorem kw_774 : Cond.methodLink RX12 295 yX12_isCrossing ∈ gAll := gM24 _ (List.mem_of_getElem? (i := 6) rfl)
theorem kw_775 : Cond.instanceMethod yX12_isCrossing ∈ gAll := gM24 _ (List.mem_of_getElem? (i := 7) rfl)
theorem kw_776 : Cond.selects RX12 yX12_isCrossing yX12_isCrossing ∈ gAll := gM24 _ (List.mem_of_getElem? (i := 8) rfl)
theorem kw_777 : Cond.code yX12_isForeignBit cX12_isForeignBit 3 (some .boolean) ∈ gAll := gM24 _ (List.mem_of_getElem? (i := 9) rfl)
theorem kw_778 : Cond.code yX12_isUsedOnce cX12_isUsedOnce 5 (some .boolean) ∈ gAll := gM24 _ (List.mem_of_getElem? (i := 10) rfl)
theorem kw_779 : Cond.code yX12_allStill cX12_allStill 4 (some .boolean) ∈ gAll := gM24 _ (List.mem_of_getElem? (i := 11) rfl)
theorem kw_780 : Cond.methodLink RX12 298 yX12_allStill ∈ gAll := gM24 _ (List.mem_of_getElem? (i := 12) rfl)
theorem kw_781 : Cond.instanceMethod yX12_allStill ∈ gAll := gM24 _ (List.mem_of_getElem? (i := 13) rfl)
theorem kw_782 : Cond.selects RX12 yX12_allStill yX12_allStill ∈ gAll := gM24 _ (List.mem_of_getElem? (i := 14) rfl)
theorem kw_783 : Cond.methodLink RX12 301 yX12_isForeignBit ∈ gAll := gM24 _ (List.mem_of_getElem? (i := 15) rfl)
theorem kw_784 : Cond.instanceMethod yX12_isForeignBit ∈ gAll := gM24 _ (List.mem_of_getElem? (i := 16) rfl)
theorem kw_785 : Cond.selects RX12 yX12_isForeignBit yX12_isForeignBit ∈ gAll := gM24 _ (List.mem_of_getElem? (i := 17) rfl)
theorem kw_786 : Cond.methodLink RX12 304 yX12_isUsedOnce ∈ gAll := gM24 _ (List.mem_of_getElem? (i := 18) rfl)
theorem kw_787 : Cond.instanceMethod yX12_isUsedOnce ∈ gAll := gM24 _ (List.mem_of_getElem? (i := 19) rfl)
theorem kw_788 : Cond.selects RX12 yX12_isUsedOnce yX12_isUsedOnce ∈ gAll := gM24 _ (List.mem_of_getElem? (i := 20) rfl)
theorem kw_789 : Cond.code yX12_isTwice cX12_isTwice 2 (some .boolean) ∈ gAll := gM24 _ (List.mem_of_getElem? (i := 21) rfl)
theorem kw_790 : Cond.methodLink RX12 307 yX12_isTwice ∈ gAll := gM24 _ (List.mem_of_getElem? (i := 22) rfl)
theorem kw_791 : Cond.instanceMethod yX12_isTwice ∈ gAll := gM24 _ (List.mem_of_getElem? (i := 23) rfl)
theorem kw_792 : Cond.selects RX12 yX12_isTwice yX12_isTwice ∈ gAll := gM24 _ (List.mem_of_getElem? (i := 24) rfl)
theorem kw_793 : Cond.code yX12_isHeldOne cX12_isHeldOne 4 (some .boolean) ∈ gAll := gM24 _ (List.mem_of_getElem? (i := 25) rfl)
theorem kw_794 : Cond.methodLink RX12 310 yX12_isHeldOne ∈ gAll := gM24 _ (List.mem_of_getElem? (i := 26) rfl)
theorem kw_795 : Cond.instanceMethod yX12_isHeldOne ∈ gAll := gM24 _ (List.mem_of_getElem? (i := 27) rfl)
theorem kw_796 : Cond.selects RX12 yX12_isHeldOne yX12_isHeldOne ∈ gAll := gM24 _ (List.mem_of_getElem? (i := 28) rfl)
theorem kw_797 : Cond.code yX12_kindOf cX12_kindOf 2 (some .int) ∈ gAll := gM24 _ (List.mem_of_getElem? (i := 29) rfl)
theorem kw_798 : Cond.code yX12_meets cX12_meets 4 (some .boolean) ∈ gAll := gM24 _ (List.mem_of_getElem? (i := 30) rfl)
theorem kw_799 : Cond.code yX12_crossings cX12_crossings 3 (some .int) ∈ gAll := gM24 _ (List.mem_of_getElem? (i := 31) rfl)
theorem kw_800 : Cond.methodLink RX12 313 yX12_crossingAt ∈ gAll := gM25 _ (List.mem_of_getElem? (i := 0) rfl)
theorem kw_801 : Cond.instanceMethod yX12_crossingAt ∈ gAll := gM25 _ (List.mem_of_getElem? (i := 1) rfl)
theorem kw_802 : Cond.selects RX12 yX12_crossingAt yX12_crossingAt ∈ gAll := gM25 _ (List.mem_of_getElem? (i := 2) rfl)
theorem kw_803 : Cond.methodLink RX12 316 yX12_kindOf ∈ gAll := gM25 _ (List.mem_of_getElem? (i := 3) rfl)
theorem kw_804 : Cond.instanceMethod yX12_kindOf ∈ gAll := gM25 _ (List.mem_of_getElem? (i := 4) rfl)
theorem kw_805 : Cond.selects RX12 yX12_kindOf yX12_kindOf ∈ gAll := gM25 _ (List.mem_of_getElem? (i := 5) rfl)
theorem kw_806 : Cond.methodLink RX12 319 yX12_meets ∈ gAll := gM25 _ (List.mem_of_getElem? (i := 6) rfl)
theorem kw_807 : Cond.instanceMethod yX12_meets ∈ gAll := gM25 _ (List.mem_of_getElem? (i := 7) rfl)
theorem kw_808 : Cond.selects RX12 yX12_meets yX12_meets ∈ gAll := gM25 _ (List.mem_of_getElem? (i := 8) rfl)
theorem kw_809 : Cond.code yX12_crossing cX12_crossing 4 (some .int) ∈ gAll := gM25 _ (List.mem_of_getElem? (i := 9) rfl)
theorem kw_810 : Cond.code yX12_mend cX12_mend 5 (some .int) ∈ gAll := gM25 _ (List.mem_of_getElem? (i := 10) rfl)
theorem kw_811 : Cond.code yX12_count cX12_count 2 (some .int) ∈ gAll := gM25 _ (List.mem_of_getElem? (i := 11) rfl)
theorem kw_812 : Cond.code yX12_look_ cX12_look_ 3 (some .int) ∈ gAll := gM25 _ (List.mem_of_getElem? (i := 12) rfl)
theorem kw_813 : Cond.code yX12_isShelf cX12_isShelf 1 (some .boolean) ∈ gAll := gM25 _ (List.mem_of_getElem? (i := 13) rfl)
theorem kw_814 : Cond.code yX12_keep cX12_keep 6 (some .int) ∈ gAll := gM25 _ (List.mem_of_getElem? (i := 14) rfl)
theorem kw_815 : Cond.methodLink RX12 322 yX12_isShelf ∈ gAll := gM25 _ (List.mem_of_getElem? (i := 15) rfl)
theorem kw_816 : Cond.static yX12_isShelf ∈ gAll := gM25 _ (List.mem_of_getElem? (i := 16) rfl)
theorem kw_817 : Cond.code yX12_make cX12_make 5 (some .int) ∈ gAll := gM25 _ (List.mem_of_getElem? (i := 17) rfl)
theorem kw_818 : Cond.code yX12_element cX12_element 4 (some .long) ∈ gAll := gM25 _ (List.mem_of_getElem? (i := 18) rfl)
theorem kw_819 : Cond.code yX12_hasPlaces cX12_hasPlaces 4 (some .boolean) ∈ gAll := gM25 _ (List.mem_of_getElem? (i := 19) rfl)
theorem kw_820 : Cond.code yX12_copy cX12_copy 7 (some .int) ∈ gAll := gM25 _ (List.mem_of_getElem? (i := 20) rfl)
theorem kw_821 : Cond.methodLink RX12 325 yX12_hasPlaces ∈ gAll := gM25 _ (List.mem_of_getElem? (i := 21) rfl)
theorem kw_822 : Cond.instanceMethod yX12_hasPlaces ∈ gAll := gM25 _ (List.mem_of_getElem? (i := 22) rfl)
theorem kw_823 : Cond.selects RX12 yX12_hasPlaces yX12_hasPlaces ∈ gAll := gM25 _ (List.mem_of_getElem? (i := 23) rfl)
theorem kw_824 : Cond.code yX12_denied cX12_denied 2 (some .int) ∈ gAll := gM25 _ (List.mem_of_getElem? (i := 24) rfl)
theorem kw_825 : Cond.code yX12_weight cX12_weight 3 (some .int) ∈ gAll := gM25 _ (List.mem_of_getElem? (i := 25) rfl)
theorem kw_826 : Cond.methodLink RX12 329 yX12_denied ∈ gAll := gM25 _ (List.mem_of_getElem? (i := 26) rfl)
theorem kw_827 : Cond.instanceMethod yX12_denied ∈ gAll := gM25 _ (List.mem_of_getElem? (i := 27) rfl)
theorem kw_828 : Cond.selects RX12 yX12_denied yX12_denied ∈ gAll := gM25 _ (List.mem_of_getElem? (i := 28) rfl)
theorem kw_829 : Cond.code yX12_toss cX12_toss 3 (some .int) ∈ gAll := gM25 _ (List.mem_of_getElem? (i := 29) rfl)
theorem kw_830 : Cond.classLink RL 13 "java/lang/IllegalArgumentException" ∈ gAll := gM25 _ (List.mem_of_getElem? (i := 30) rfl)
theorem kw_831 : Cond.classLink RL 15 "java/lang/IllegalStateException" ∈ gAll := gM25 _ (List.mem_of_getElem? (i := 31) rfl)
theorem kw_832 : Cond.methodLink RL 7 yX11_element ∈ gAll := gM26 _ (List.mem_of_getElem? (i := 0) rfl)
theorem kw_833 : Cond.instanceMethod yX11_element ∈ gAll := gM26 _ (List.mem_of_getElem? (i := 1) rfl)
theorem kw_834 : Cond.selects RX11 yX11_element yX11_element ∈ gAll := gM26 _ (List.mem_of_getElem? (i := 2) rfl)
theorem kw_835 : Cond.classLink RL 8 RX11 ∈ gAll := gM26 _ (List.mem_of_getElem? (i := 3) rfl)
theorem kw_836 : Cond.instantiable RX11 6 ∈ gAll := gM26 _ (List.mem_of_getElem? (i := 4) rfl)
theorem kw_837 : Cond.classLink RL 18 RX12 ∈ gAll := gM26 _ (List.mem_of_getElem? (i := 5) rfl)
theorem kw_838 : Cond.instantiable RX12 52 ∈ gAll := gM26 _ (List.mem_of_getElem? (i := 6) rfl)
theorem kw_839 : Cond.methodLink RL 17 yX11_init ∈ gAll := gM26 _ (List.mem_of_getElem? (i := 7) rfl)
theorem kw_840 : Cond.instanceMethod yX11_init ∈ gAll := gM26 _ (List.mem_of_getElem? (i := 8) rfl)
theorem kw_841 : Cond.methodLink RL 20 yX12_init ∈ gAll := gM26 _ (List.mem_of_getElem? (i := 9) rfl)
theorem kw_842 : Cond.instanceMethod yX12_init ∈ gAll := gM26 _ (List.mem_of_getElem? (i := 10) rfl)
theorem kw_843 : Cond.methodLink RL 21 yX11_input ∈ gAll := gM26 _ (List.mem_of_getElem? (i := 11) rfl)
theorem kw_844 : Cond.instanceMethod yX11_input ∈ gAll := gM26 _ (List.mem_of_getElem? (i := 12) rfl)
theorem kw_845 : Cond.selects RX11 yX11_input yX11_input ∈ gAll := gM26 _ (List.mem_of_getElem? (i := 13) rfl)
theorem kw_846 : Cond.methodLink RL 25 yX12_input ∈ gAll := gM26 _ (List.mem_of_getElem? (i := 14) rfl)
theorem kw_847 : Cond.instanceMethod yX12_input ∈ gAll := gM26 _ (List.mem_of_getElem? (i := 15) rfl)
theorem kw_848 : Cond.selects RX12 yX12_input yX12_input ∈ gAll := gM26 _ (List.mem_of_getElem? (i := 16) rfl)
theorem kw_849 : Cond.methodLink RL 26 yX11_keeper ∈ gAll := gM26 _ (List.mem_of_getElem? (i := 17) rfl)
theorem kw_850 : Cond.instanceMethod yX11_keeper ∈ gAll := gM26 _ (List.mem_of_getElem? (i := 18) rfl)
theorem kw_851 : Cond.selects RX11 yX11_keeper yX11_keeper ∈ gAll := gM26 _ (List.mem_of_getElem? (i := 19) rfl)
theorem kw_852 : Cond.methodLink RL 30 yX12_keeper ∈ gAll := gM26 _ (List.mem_of_getElem? (i := 20) rfl)
theorem kw_853 : Cond.instanceMethod yX12_keeper ∈ gAll := gM26 _ (List.mem_of_getElem? (i := 21) rfl)
theorem kw_854 : Cond.selects RX12 yX12_keeper yX12_keeper ∈ gAll := gM26 _ (List.mem_of_getElem? (i := 22) rfl)
theorem kw_855 : Cond.methodLink RL 31 yX11_gate ∈ gAll := gM26 _ (List.mem_of_getElem? (i := 23) rfl)
theorem kw_856 : Cond.instanceMethod yX11_gate ∈ gAll := gM26 _ (List.mem_of_getElem? (i := 24) rfl)
theorem kw_857 : Cond.selects RX11 yX11_gate yX11_gate ∈ gAll := gM26 _ (List.mem_of_getElem? (i := 25) rfl)
theorem kw_858 : Cond.methodLink RL 35 yX12_gate ∈ gAll := gM26 _ (List.mem_of_getElem? (i := 26) rfl)
theorem kw_859 : Cond.instanceMethod yX12_gate ∈ gAll := gM26 _ (List.mem_of_getElem? (i := 27) rfl)
theorem kw_860 : Cond.selects RX12 yX12_gate yX12_gate ∈ gAll := gM26 _ (List.mem_of_getElem? (i := 28) rfl)
theorem kw_861 : Cond.methodLink RL 36 yX11_connect ∈ gAll := gM26 _ (List.mem_of_getElem? (i := 29) rfl)
theorem kw_862 : Cond.instanceMethod yX11_connect ∈ gAll := gM26 _ (List.mem_of_getElem? (i := 30) rfl)
theorem kw_863 : Cond.selects RX11 yX11_connect yX11_connect ∈ gAll := gM26 _ (List.mem_of_getElem? (i := 31) rfl)
theorem kw_864 : Cond.methodLink RL 39 yX12_connect ∈ gAll := gM27 _ (List.mem_of_getElem? (i := 0) rfl)
theorem kw_865 : Cond.instanceMethod yX12_connect ∈ gAll := gM27 _ (List.mem_of_getElem? (i := 1) rfl)
theorem kw_866 : Cond.selects RX12 yX12_connect yX12_connect ∈ gAll := gM27 _ (List.mem_of_getElem? (i := 2) rfl)
theorem kw_867 : Cond.methodLink RL 40 yX11_bound ∈ gAll := gM27 _ (List.mem_of_getElem? (i := 3) rfl)
theorem kw_868 : Cond.instanceMethod yX11_bound ∈ gAll := gM27 _ (List.mem_of_getElem? (i := 4) rfl)
theorem kw_869 : Cond.selects RX11 yX11_bound yX11_bound ∈ gAll := gM27 _ (List.mem_of_getElem? (i := 5) rfl)
theorem kw_870 : Cond.methodLink RL 44 yX12_bound ∈ gAll := gM27 _ (List.mem_of_getElem? (i := 6) rfl)
theorem kw_871 : Cond.instanceMethod yX12_bound ∈ gAll := gM27 _ (List.mem_of_getElem? (i := 7) rfl)
theorem kw_872 : Cond.selects RX12 yX12_bound yX12_bound ∈ gAll := gM27 _ (List.mem_of_getElem? (i := 8) rfl)
theorem kw_873 : Cond.methodLink RL 45 yX11_still ∈ gAll := gM27 _ (List.mem_of_getElem? (i := 9) rfl)
theorem kw_874 : Cond.instanceMethod yX11_still ∈ gAll := gM27 _ (List.mem_of_getElem? (i := 10) rfl)
theorem kw_875 : Cond.selects RX11 yX11_still yX11_still ∈ gAll := gM27 _ (List.mem_of_getElem? (i := 11) rfl)
theorem kw_876 : Cond.methodLink RL 49 yX12_still ∈ gAll := gM27 _ (List.mem_of_getElem? (i := 12) rfl)
theorem kw_877 : Cond.instanceMethod yX12_still ∈ gAll := gM27 _ (List.mem_of_getElem? (i := 13) rfl)
theorem kw_878 : Cond.selects RX12 yX12_still yX12_still ∈ gAll := gM27 _ (List.mem_of_getElem? (i := 14) rfl)
theorem kw_879 : Cond.methodLink RL 50 yX11_promise ∈ gAll := gM27 _ (List.mem_of_getElem? (i := 15) rfl)
theorem kw_880 : Cond.instanceMethod yX11_promise ∈ gAll := gM27 _ (List.mem_of_getElem? (i := 16) rfl)
theorem kw_881 : Cond.selects RX11 yX11_promise yX11_promise ∈ gAll := gM27 _ (List.mem_of_getElem? (i := 17) rfl)
theorem kw_882 : Cond.methodLink RL 53 yX12_promise ∈ gAll := gM27 _ (List.mem_of_getElem? (i := 18) rfl)
theorem kw_883 : Cond.instanceMethod yX12_promise ∈ gAll := gM27 _ (List.mem_of_getElem? (i := 19) rfl)
theorem kw_884 : Cond.selects RX12 yX12_promise yX12_promise ∈ gAll := gM27 _ (List.mem_of_getElem? (i := 20) rfl)
theorem kw_885 : Cond.methodLink RL 54 yX11_start ∈ gAll := gM27 _ (List.mem_of_getElem? (i := 21) rfl)
theorem kw_886 : Cond.instanceMethod yX11_start ∈ gAll := gM27 _ (List.mem_of_getElem? (i := 22) rfl)
theorem kw_887 : Cond.selects RX11 yX11_start yX11_start ∈ gAll := gM27 _ (List.mem_of_getElem? (i := 23) rfl)
theorem kw_888 : Cond.methodLink RL 58 yX12_start ∈ gAll := gM27 _ (List.mem_of_getElem? (i := 24) rfl)
theorem kw_889 : Cond.instanceMethod yX12_start ∈ gAll := gM27 _ (List.mem_of_getElem? (i := 25) rfl)
theorem kw_890 : Cond.selects RX12 yX12_start yX12_start ∈ gAll := gM27 _ (List.mem_of_getElem? (i := 26) rfl)
theorem kw_891 : Cond.methodLink RL 59 yX11_moment ∈ gAll := gM27 _ (List.mem_of_getElem? (i := 27) rfl)
theorem kw_892 : Cond.instanceMethod yX11_moment ∈ gAll := gM27 _ (List.mem_of_getElem? (i := 28) rfl)
theorem kw_893 : Cond.selects RX11 yX11_moment yX11_moment ∈ gAll := gM27 _ (List.mem_of_getElem? (i := 29) rfl)
theorem kw_894 : Cond.methodLink RL 62 yX12_moment ∈ gAll := gM27 _ (List.mem_of_getElem? (i := 30) rfl)
theorem kw_895 : Cond.instanceMethod yX12_moment ∈ gAll := gM27 _ (List.mem_of_getElem? (i := 31) rfl)
theorem kw_896 : Cond.selects RX12 yX12_moment yX12_moment ∈ gAll := gM28 _ (List.mem_of_getElem? (i := 0) rfl)
theorem kw_897 : Cond.methodLink RL 63 yX11_value ∈ gAll := gM28 _ (List.mem_of_getElem? (i := 1) rfl)
theorem kw_898 : Cond.instanceMethod yX11_value ∈ gAll := gM28 _ (List.mem_of_getElem? (i := 2) rfl)
theorem kw_899 : Cond.selects RX11 yX11_value yX11_value ∈ gAll := gM28 _ (List.mem_of_getElem? (i := 3) rfl)
theorem kw_900 : Cond.methodLink RL 66 yX12_value ∈ gAll := gM28 _ (List.mem_of_getElem? (i := 4) rfl)
theorem kw_901 : Cond.instanceMethod yX12_value ∈ gAll := gM28 _ (List.mem_of_getElem? (i := 5) rfl)
theorem kw_902 : Cond.selects RX12 yX12_value yX12_value ∈ gAll := gM28 _ (List.mem_of_getElem? (i := 6) rfl)
theorem kw_903 : Cond.methodLink RL 67 yX11_either ∈ gAll := gM28 _ (List.mem_of_getElem? (i := 7) rfl)
theorem kw_904 : Cond.instanceMethod yX11_either ∈ gAll := gM28 _ (List.mem_of_getElem? (i := 8) rfl)
theorem kw_905 : Cond.selects RX11 yX11_either yX11_either ∈ gAll := gM28 _ (List.mem_of_getElem? (i := 9) rfl)
theorem kw_906 : Cond.methodLink RL 70 yX12_either ∈ gAll := gM28 _ (List.mem_of_getElem? (i := 10) rfl)
theorem kw_907 : Cond.instanceMethod yX12_either ∈ gAll := gM28 _ (List.mem_of_getElem? (i := 11) rfl)
theorem kw_908 : Cond.selects RX12 yX12_either yX12_either ∈ gAll := gM28 _ (List.mem_of_getElem? (i := 12) rfl)
theorem kw_909 : Cond.methodLink RL 71 yX11_ticks ∈ gAll := gM28 _ (List.mem_of_getElem? (i := 13) rfl)
theorem kw_910 : Cond.instanceMethod yX11_ticks ∈ gAll := gM28 _ (List.mem_of_getElem? (i := 14) rfl)
theorem kw_911 : Cond.selects RX11 yX11_ticks yX11_ticks ∈ gAll := gM28 _ (List.mem_of_getElem? (i := 15) rfl)
theorem kw_912 : Cond.methodLink RL 74 yX12_ticks ∈ gAll := gM28 _ (List.mem_of_getElem? (i := 16) rfl)
theorem kw_913 : Cond.instanceMethod yX12_ticks ∈ gAll := gM28 _ (List.mem_of_getElem? (i := 17) rfl)
theorem kw_914 : Cond.selects RX12 yX12_ticks yX12_ticks ∈ gAll := gM28 _ (List.mem_of_getElem? (i := 18) rfl)
theorem kw_915 : Cond.methodLink RL 75 yX11_broken ∈ gAll := gM28 _ (List.mem_of_getElem? (i := 19) rfl)
theorem kw_916 : Cond.instanceMethod yX11_broken ∈ gAll := gM28 _ (List.mem_of_getElem? (i := 20) rfl)
theorem kw_917 : Cond.selects RX11 yX11_broken yX11_broken ∈ gAll := gM28 _ (List.mem_of_getElem? (i := 21) rfl)
theorem kw_918 : Cond.methodLink RL 78 yX12_broken ∈ gAll := gM28 _ (List.mem_of_getElem? (i := 22) rfl)
theorem kw_919 : Cond.instanceMethod yX12_broken ∈ gAll := gM28 _ (List.mem_of_getElem? (i := 23) rfl)
theorem kw_920 : Cond.selects RX12 yX12_broken yX12_broken ∈ gAll := gM28 _ (List.mem_of_getElem? (i := 24) rfl)
theorem kw_921 : Cond.methodLink RL 79 yX11_walk ∈ gAll := gM28 _ (List.mem_of_getElem? (i := 25) rfl)
theorem kw_922 : Cond.instanceMethod yX11_walk ∈ gAll := gM28 _ (List.mem_of_getElem? (i := 26) rfl)
theorem kw_923 : Cond.selects RX11 yX11_walk yX11_walk ∈ gAll := gM28 _ (List.mem_of_getElem? (i := 27) rfl)
theorem kw_924 : Cond.methodLink RL 82 yX12_walk ∈ gAll := gM28 _ (List.mem_of_getElem? (i := 28) rfl)
theorem kw_925 : Cond.instanceMethod yX12_walk ∈ gAll := gM28 _ (List.mem_of_getElem? (i := 29) rfl)
theorem kw_926 : Cond.selects RX12 yX12_walk yX12_walk ∈ gAll := gM28 _ (List.mem_of_getElem? (i := 30) rfl)
theorem kw_927 : Cond.methodLink RL 83 yX11_state ∈ gAll := gM28 _ (List.mem_of_getElem? (i := 31) rfl)
theorem kw_928 : Cond.instanceMethod yX11_state ∈ gAll := gM29 _ (List.mem_of_getElem? (i := 0) rfl)
theorem kw_929 : Cond.selects RX11 yX11_state yX11_state ∈ gAll := gM29 _ (List.mem_of_getElem? (i := 1) rfl)
theorem kw_930 : Cond.methodLink RL 86 yX12_state ∈ gAll := gM29 _ (List.mem_of_getElem? (i := 2) rfl)
theorem kw_931 : Cond.instanceMethod yX12_state ∈ gAll := gM29 _ (List.mem_of_getElem? (i := 3) rfl)
theorem kw_932 : Cond.selects RX12 yX12_state yX12_state ∈ gAll := gM29 _ (List.mem_of_getElem? (i := 4) rfl)
theorem kw_933 : Cond.methodLink RL 87 yX11_shown ∈ gAll := gM29 _ (List.mem_of_getElem? (i := 5) rfl)
theorem kw_934 : Cond.instanceMethod yX11_shown ∈ gAll := gM29 _ (List.mem_of_getElem? (i := 6) rfl)
theorem kw_935 : Cond.selects RX11 yX11_shown yX11_shown ∈ gAll := gM29 _ (List.mem_of_getElem? (i := 7) rfl)
theorem kw_936 : Cond.methodLink RL 90 yX12_shown ∈ gAll := gM29 _ (List.mem_of_getElem? (i := 8) rfl)
theorem kw_937 : Cond.instanceMethod yX12_shown ∈ gAll := gM29 _ (List.mem_of_getElem? (i := 9) rfl)
theorem kw_938 : Cond.selects RX12 yX12_shown yX12_shown ∈ gAll := gM29 _ (List.mem_of_getElem? (i := 10) rfl)
theorem kw_939 : Cond.methodLink RL 91 yX11_never ∈ gAll := gM29 _ (List.mem_of_getElem? (i := 11) rfl)
theorem kw_940 : Cond.instanceMethod yX11_never ∈ gAll := gM29 _ (List.mem_of_getElem? (i := 12) rfl)
theorem kw_941 : Cond.selects RX11 yX11_never yX11_never ∈ gAll := gM29 _ (List.mem_of_getElem? (i := 13) rfl)
theorem kw_942 : Cond.methodLink RL 94 yX12_never ∈ gAll := gM29 _ (List.mem_of_getElem? (i := 14) rfl)
theorem kw_943 : Cond.instanceMethod yX12_never ∈ gAll := gM29 _ (List.mem_of_getElem? (i := 15) rfl)
theorem kw_944 : Cond.selects RX12 yX12_never yX12_never ∈ gAll := gM29 _ (List.mem_of_getElem? (i := 16) rfl)
theorem kw_945 : Cond.methodLink RL 95 yX11_follow ∈ gAll := gM29 _ (List.mem_of_getElem? (i := 17) rfl)
theorem kw_946 : Cond.instanceMethod yX11_follow ∈ gAll := gM29 _ (List.mem_of_getElem? (i := 18) rfl)
theorem kw_947 : Cond.selects RX11 yX11_follow yX11_follow ∈ gAll := gM29 _ (List.mem_of_getElem? (i := 19) rfl)
theorem kw_948 : Cond.methodLink RL 98 yX12_follow ∈ gAll := gM29 _ (List.mem_of_getElem? (i := 20) rfl)
theorem kw_949 : Cond.instanceMethod yX12_follow ∈ gAll := gM29 _ (List.mem_of_getElem? (i := 21) rfl)
theorem kw_950 : Cond.selects RX12 yX12_follow yX12_follow ∈ gAll := gM29 _ (List.mem_of_getElem? (i := 22) rfl)
theorem kw_951 : Cond.methodLink RL 99 yX11_fewest ∈ gAll := gM29 _ (List.mem_of_getElem? (i := 23) rfl)
theorem kw_952 : Cond.instanceMethod yX11_fewest ∈ gAll := gM29 _ (List.mem_of_getElem? (i := 24) rfl)
theorem kw_953 : Cond.selects RX11 yX11_fewest yX11_fewest ∈ gAll := gM29 _ (List.mem_of_getElem? (i := 25) rfl)
theorem kw_954 : Cond.methodLink RL 102 yX12_fewest ∈ gAll := gM29 _ (List.mem_of_getElem? (i := 26) rfl)
theorem kw_955 : Cond.instanceMethod yX12_fewest ∈ gAll := gM29 _ (List.mem_of_getElem? (i := 27) rfl)
theorem kw_956 : Cond.selects RX12 yX12_fewest yX12_fewest ∈ gAll := gM29 _ (List.mem_of_getElem? (i := 28) rfl)
theorem kw_957 : Cond.methodLink RL 103 yX11_crossings ∈ gAll := gM29 _ (List.mem_of_getElem? (i := 29) rfl)
theorem kw_958 : Cond.instanceMethod yX11_crossings ∈ gAll := gM29 _ (List.mem_of_getElem? (i := 30) rfl)
theorem kw_959 : Cond.selects RX11 yX11_crossings yX11_crossings ∈ gAll := gM29 _ (List.mem_of_getElem? (i := 31) rfl)
theorem kw_960 : Cond.methodLink RL 106 yX12_crossings ∈ gAll := gM30 _ (List.mem_of_getElem? (i := 0) rfl)
theorem kw_961 : Cond.instanceMethod yX12_crossings ∈ gAll := gM30 _ (List.mem_of_getElem? (i := 1) rfl)
theorem kw_962 : Cond.selects RX12 yX12_crossings yX12_crossings ∈ gAll := gM30 _ (List.mem_of_getElem? (i := 2) rfl)
theorem kw_963 : Cond.methodLink RL 107 yX11_crossing ∈ gAll := gM30 _ (List.mem_of_getElem? (i := 3) rfl)
theorem kw_964 : Cond.instanceMethod yX11_crossing ∈ gAll := gM30 _ (List.mem_of_getElem? (i := 4) rfl)
theorem kw_965 : Cond.selects RX11 yX11_crossing yX11_crossing ∈ gAll := gM30 _ (List.mem_of_getElem? (i := 5) rfl)
theorem kw_966 : Cond.methodLink RL 110 yX12_crossing ∈ gAll := gM30 _ (List.mem_of_getElem? (i := 6) rfl)
theorem kw_967 : Cond.instanceMethod yX12_crossing ∈ gAll := gM30 _ (List.mem_of_getElem? (i := 7) rfl)
theorem kw_968 : Cond.selects RX12 yX12_crossing yX12_crossing ∈ gAll := gM30 _ (List.mem_of_getElem? (i := 8) rfl)
theorem kw_969 : Cond.methodLink RL 111 yX11_mend ∈ gAll := gM30 _ (List.mem_of_getElem? (i := 9) rfl)
theorem kw_970 : Cond.instanceMethod yX11_mend ∈ gAll := gM30 _ (List.mem_of_getElem? (i := 10) rfl)
theorem kw_971 : Cond.selects RX11 yX11_mend yX11_mend ∈ gAll := gM30 _ (List.mem_of_getElem? (i := 11) rfl)
theorem kw_972 : Cond.methodLink RL 114 yX12_mend ∈ gAll := gM30 _ (List.mem_of_getElem? (i := 12) rfl)
theorem kw_973 : Cond.instanceMethod yX12_mend ∈ gAll := gM30 _ (List.mem_of_getElem? (i := 13) rfl)
theorem kw_974 : Cond.selects RX12 yX12_mend yX12_mend ∈ gAll := gM30 _ (List.mem_of_getElem? (i := 14) rfl)
theorem kw_975 : Cond.methodLink RL 115 yX11_count ∈ gAll := gM30 _ (List.mem_of_getElem? (i := 15) rfl)
theorem kw_976 : Cond.instanceMethod yX11_count ∈ gAll := gM30 _ (List.mem_of_getElem? (i := 16) rfl)
theorem kw_977 : Cond.selects RX11 yX11_count yX11_count ∈ gAll := gM30 _ (List.mem_of_getElem? (i := 17) rfl)
theorem kw_978 : Cond.methodLink RL 118 yX12_count ∈ gAll := gM30 _ (List.mem_of_getElem? (i := 18) rfl)
theorem kw_979 : Cond.instanceMethod yX12_count ∈ gAll := gM30 _ (List.mem_of_getElem? (i := 19) rfl)
theorem kw_980 : Cond.selects RX12 yX12_count yX12_count ∈ gAll := gM30 _ (List.mem_of_getElem? (i := 20) rfl)
theorem kw_981 : Cond.methodLink RL 119 yX11_look ∈ gAll := gM30 _ (List.mem_of_getElem? (i := 21) rfl)
theorem kw_982 : Cond.instanceMethod yX11_look ∈ gAll := gM30 _ (List.mem_of_getElem? (i := 22) rfl)
theorem kw_983 : Cond.selects RX11 yX11_look yX11_look ∈ gAll := gM30 _ (List.mem_of_getElem? (i := 23) rfl)
theorem kw_984 : Cond.methodLink RL 122 yX12_look_ ∈ gAll := gM30 _ (List.mem_of_getElem? (i := 24) rfl)
theorem kw_985 : Cond.instanceMethod yX12_look_ ∈ gAll := gM30 _ (List.mem_of_getElem? (i := 25) rfl)
theorem kw_986 : Cond.selects RX12 yX12_look_ yX12_look_ ∈ gAll := gM30 _ (List.mem_of_getElem? (i := 26) rfl)
theorem kw_987 : Cond.methodLink RL 123 yX11_keep ∈ gAll := gM30 _ (List.mem_of_getElem? (i := 27) rfl)
theorem kw_988 : Cond.instanceMethod yX11_keep ∈ gAll := gM30 _ (List.mem_of_getElem? (i := 28) rfl)
theorem kw_989 : Cond.selects RX11 yX11_keep yX11_keep ∈ gAll := gM30 _ (List.mem_of_getElem? (i := 29) rfl)
theorem kw_990 : Cond.methodLink RL 126 yX12_keep ∈ gAll := gM30 _ (List.mem_of_getElem? (i := 30) rfl)
theorem kw_991 : Cond.instanceMethod yX12_keep ∈ gAll := gM30 _ (List.mem_of_getElem? (i := 31) rfl)
theorem kw_992 : Cond.selects RX12 yX12_keep yX12_keep ∈ gAll := gM31 _ (List.mem_of_getElem? (i := 0) rfl)
theorem kw_993 : Cond.methodLink RL 127 yX11_make ∈ gAll := gM31 _ (List.mem_of_getElem? (i := 1) rfl)
theorem kw_994 : Cond.instanceMethod yX11_make ∈ gAll := gM31 _ (List.mem_of_getElem? (i := 2) rfl)
theorem kw_995 : Cond.selects RX11 yX11_make yX11_make ∈ gAll := gM31 _ (List.mem_of_getElem? (i := 3) rfl)
theorem kw_996 : Cond.methodLink RL 130 yX12_make ∈ gAll := gM31 _ (List.mem_of_getElem? (i := 4) rfl)
theorem kw_997 : Cond.instanceMethod yX12_make ∈ gAll := gM31 _ (List.mem_of_getElem? (i := 5) rfl)
theorem kw_998 : Cond.selects RX12 yX12_make yX12_make ∈ gAll := gM31 _ (List.mem_of_getElem? (i := 6) rfl)
theorem kw_999 : Cond.methodLink RL 131 yL_element ∈ gAll := gM31 _ (List.mem_of_getElem? (i := 7) rfl)
theorem kw_1000 : Cond.static yL_element ∈ gAll := gM31 _ (List.mem_of_getElem? (i := 8) rfl)
theorem kw_1001 : Cond.initialized RL ∈ gAll := gM31 _ (List.mem_of_getElem? (i := 9) rfl)
theorem kw_1002 : Cond.methodLink RL 136 yX12_element ∈ gAll := gM31 _ (List.mem_of_getElem? (i := 10) rfl)
theorem kw_1003 : Cond.instanceMethod yX12_element ∈ gAll := gM31 _ (List.mem_of_getElem? (i := 11) rfl)
theorem kw_1004 : Cond.selects RX12 yX12_element yX12_element ∈ gAll := gM31 _ (List.mem_of_getElem? (i := 12) rfl)
theorem kw_1005 : Cond.methodLink RL 137 yX12_thrown ∈ gAll := gM31 _ (List.mem_of_getElem? (i := 13) rfl)
theorem kw_1006 : Cond.instanceMethod yX12_thrown ∈ gAll := gM31 _ (List.mem_of_getElem? (i := 14) rfl)
theorem kw_1007 : Cond.selects RX12 yX12_thrown yX12_thrown ∈ gAll := gM31 _ (List.mem_of_getElem? (i := 15) rfl)
theorem kw_1008 : Cond.methodLink RL 140 yX11_copy ∈ gAll := gM31 _ (List.mem_of_getElem? (i := 16) rfl)
theorem kw_1009 : Cond.instanceMethod yX11_copy ∈ gAll := gM31 _ (List.mem_of_getElem? (i := 17) rfl)
theorem kw_1010 : Cond.selects RX11 yX11_copy yX11_copy ∈ gAll := gM31 _ (List.mem_of_getElem? (i := 18) rfl)
theorem kw_1011 : Cond.methodLink RL 144 yX12_copy ∈ gAll := gM31 _ (List.mem_of_getElem? (i := 19) rfl)
theorem kw_1012 : Cond.instanceMethod yX12_copy ∈ gAll := gM31 _ (List.mem_of_getElem? (i := 20) rfl)
theorem kw_1013 : Cond.selects RX12 yX12_copy yX12_copy ∈ gAll := gM31 _ (List.mem_of_getElem? (i := 21) rfl)
theorem kw_1014 : Cond.methodLink RL 145 yX11_weight ∈ gAll := gM31 _ (List.mem_of_getElem? (i := 22) rfl)
theorem kw_1015 : Cond.instanceMethod yX11_weight ∈ gAll := gM31 _ (List.mem_of_getElem? (i := 23) rfl)
theorem kw_1016 : Cond.selects RX11 yX11_weight yX11_weight ∈ gAll := gM31 _ (List.mem_of_getElem? (i := 24) rfl)
theorem kw_1017 : Cond.methodLink RL 148 yX12_weight ∈ gAll := gM31 _ (List.mem_of_getElem? (i := 25) rfl)
theorem kw_1018 : Cond.instanceMethod yX12_weight ∈ gAll := gM31 _ (List.mem_of_getElem? (i := 26) rfl)
theorem kw_1019 : Cond.selects RX12 yX12_weight yX12_weight ∈ gAll := gM31 _ (List.mem_of_getElem? (i := 27) rfl)
theorem kw_1020 : Cond.methodLink RL 149 yX11_toss ∈ gAll := gM31 _ (List.mem_of_getElem? (i := 28) rfl)
theorem kw_1021 : Cond.instanceMethod yX11_toss ∈ gAll := gM31 _ (List.mem_of_getElem? (i := 29) rfl)
theorem kw_1022 : Cond.selects RX11 yX11_toss yX11_toss ∈ gAll := gM31 _ (List.mem_of_getElem? (i := 30) rfl)
theorem kw_1023 : Cond.methodLink RL 152 yX12_toss ∈ gAll := gM31 _ (List.mem_of_getElem? (i := 31) rfl)
theorem kw_1024 : Cond.instanceMethod yX12_toss ∈ gAll := gM32 _ (List.mem_of_getElem? (i := 0) rfl)
theorem kw_1025 : Cond.selects RX12 yX12_toss yX12_toss ∈ gAll := gM32 _ (List.mem_of_getElem? (i := 1) rfl)
end
section
/-- what the static row LOW_BITS holds -/
def lowF : Nat → Int64 := fun j => match j with
  | 0 => (-6148914691236517206 : Int64)
  | 1 => (-3689348814741910324 : Int64)
  | 2 => (-1085102592571150096 : Int64)
  | 3 => (-71777214294589696 : Int64)
  | 4 => (-281470681808896 : Int64)
  | _ => (-4294967296 : Int64)
/-! THE UNIFORM WORLD: a list of descriptors says what each cell is; a state is what their places hold -/
abbrev St : Type := (Nat → Nat → Int32) × (Nat → Nat → Int64)
abbrev Dsc : Type := (Nat × List Nat) ⊕ (Nat × Nat)
def upI (σ : St) (k j : Nat) (v : Int32) : St := (fun a => if a = k then upd (σ.1 k) j v else σ.1 a, σ.2)
def upJ (σ : St) (k j : Nat) (v : Int64) : St := (σ.1, fun a => if a = k then vp_updL (σ.2 k) j v else σ.2 a)
/-- a slot of an object: 0 an int, 1 a long, r + 2 the cell r -/
def sl_V (ad : Nat → Nat) (σ : St) (k j t : Nat) : Value := match t with
  | 0 => .int (σ.1 k j)
  | 1 => .long (σ.2 k j)
  | r + 2 => .ref (ad r)
/-- a cell: an object of kind ci with its slots, or an array (0 ints, 1 longs, else booleans) of n places -/
def ce_E (cy : Nat → ClassId) (ad : Nat → Nat) (σ : St) (k : Nat) (d : Dsc) : va_E := match d with
  | .inl (ci, ss) => .inr (ci, ss.mapIdx (fun j t => sl_V ad σ k j t))
  | .inr (t, n) => match t with
    | 0 => .inl (cy 0, n, .inl (σ.1 k))
    | 1 => .inl (cy 1, n, .inr (.inl (σ.2 k)))
    | _ + 2 => .inl (cy 2, n, .inl (σ.1 k))
def wld (cy : Nat → ClassId) (ad : Nat → Nat) (ds : List Dsc) (σ : St) : va_W := ds.mapIdx (fun k d => (ad k, ce_E cy ad σ k d))
abbrev tyl (cy : Nat → ClassId) : List (ClassId × FieldType) := [(cy 0, .int), (cy 1, .long), (cy 2, .boolean)]
theorem wld_at {cy : Nat → ClassId} {ad : Nat → Nat} {ds : List Dsc} {σ : St} {k : Nat} {d : Dsc} (h : ds[k]? = some d) : (wld cy ad ds σ)[k]? = some (ad k, ce_E cy ad σ k d) := by
  unfold wld
  rw [List.getElem?_mapIdx, h]
  rfl
theorem ce_off {cy : Nat → ClassId} {ad : Nat → Nat} {σ σ' : St} {k : Nat} (d : Dsc) (h1 : σ'.1 k = σ.1 k) (h2 : σ'.2 k = σ.2 k) : ce_E cy ad σ' k d = ce_E cy ad σ k d := by
  have hs : ∀ j t, sl_V ad σ' k j t = sl_V ad σ k j t := by
    intro j t
    match t with
    | 0 => simp only [sl_V, h1]
    | 1 => simp only [sl_V, h2]
    | r + 2 => rfl
  match d with
  | .inl (ci, ss) => simp only [ce_E, hs]
  | .inr (0, n) => simp only [ce_E, h1]
  | .inr (1, n) => simp only [ce_E, h2]
  | .inr (t + 2, n) => simp only [ce_E, h1]
theorem wld_set {cy : Nat → ClassId} {ad : Nat → Nat} {ds : List Dsc} {σ σ' : St} {k : Nat} {d : Dsc} (h : ds[k]? = some d) (h1 : ∀ a, a ≠ k → σ'.1 a = σ.1 a) (h2 : ∀ a, a ≠ k → σ'.2 a = σ.2 a) : (wld cy ad ds σ).set k (ad k, ce_E cy ad σ' k d) = wld cy ad ds σ' := by
  have hk : k < ds.length := (List.getElem?_eq_some_iff.mp h).1
  apply List.ext_getElem?
  intro i
  by_cases hi : i = k
  · subst hi
    rw [List.getElem?_set_self (by simp [wld]; exact hk), wld_at h]
  · rw [List.getElem?_set_ne (Ne.symm hi)]
    unfold wld
    rw [List.getElem?_mapIdx, List.getElem?_mapIdx]
    cases hd : ds[i]? with
    | none => rfl
    | some e => simp only [Option.map_some, ce_off (σ := σ) (σ' := σ') e (h1 i hi) (h2 i hi)]
theorem upI_off {σ : St} {k j : Nat} {v : Int32} : ∀ a, a ≠ k → (upI σ k j v).1 a = σ.1 a := fun a h => by simp only [upI, if_neg h]
theorem upI_at {σ : St} {k j : Nat} {v : Int32} : (upI σ k j v).1 k = upd (σ.1 k) j v := by simp only [upI, if_true]
theorem upJ_off {σ : St} {k j : Nat} {v : Int64} : ∀ a, a ≠ k → (upJ σ k j v).2 a = σ.2 a := fun a h => by simp only [upJ, if_neg h]
theorem upJ_at {σ : St} {k j : Nat} {v : Int64} : (upJ σ k j v).2 k = vp_updL (σ.2 k) j v := by simp only [upJ, if_true]
theorem sl_set {ad : Nat → Nat} {σ : St} {k j : Nat} {ss : List Nat} {v : Int32} (ht : ss[j]? = some 0) : (ss.mapIdx (fun i t => sl_V ad σ k i t)).set j (.int v) = ss.mapIdx (fun i t => sl_V ad (upI σ k j v) k i t) := by
  have hj : j < ss.length := (List.getElem?_eq_some_iff.mp ht).1
  apply List.ext_getElem?
  intro i
  by_cases hi : i = j
  · subst hi
    rw [List.getElem?_set_self (by simpa using hj), List.getElem?_mapIdx, ht]
    simp only [Option.map_some, sl_V, upI_at]
    simp [upd]
  · rw [List.getElem?_set_ne (Ne.symm hi), List.getElem?_mapIdx, List.getElem?_mapIdx]
    cases hd : ss[i]? with
    | none => rfl
    | some t =>
      match t with
      | 0 => simp only [Option.map_some, sl_V, upI_at]; simp [upd, hi]
      | 1 => rfl
      | r + 2 => rfl
theorem sl_setL {ad : Nat → Nat} {σ : St} {k j : Nat} {ss : List Nat} {v : Int64} (ht : ss[j]? = some 1) : (ss.mapIdx (fun i t => sl_V ad σ k i t)).set j (.long v) = ss.mapIdx (fun i t => sl_V ad (upJ σ k j v) k i t) := by
  have hj : j < ss.length := (List.getElem?_eq_some_iff.mp ht).1
  apply List.ext_getElem?
  intro i
  by_cases hi : i = j
  · subst hi
    rw [List.getElem?_set_self (by simpa using hj), List.getElem?_mapIdx, ht]
    simp only [Option.map_some, sl_V, upJ_at]
    simp [vp_updL]
  · rw [List.getElem?_set_ne (Ne.symm hi), List.getElem?_mapIdx, List.getElem?_mapIdx]
    cases hd : ss[i]? with
    | none => rfl
    | some t =>
      match t with
      | 0 => rfl
      | 1 => simp only [Option.map_some, sl_V, upJ_at]; simp [vp_updL, hi]
      | r + 2 => rfl
/-- what is known of a class: its place among vwCl, its words, its fields' types -/
def CBd (ci : Nat) (C : String) (T : u_T) (N : Nat) (ty : Nat → FieldType) : Prop := vwCl[ci]? = some (C, T, N) ∧ (∀ w ∈ u_ws C T N, w ∈ gAll) ∧ (∀ k, k < N → parseFieldDescriptor (T k).2.2.1 = some (ty k)) ∧ (∀ a, a < N → ∀ b, b < N → a ≠ b → (T a).2.1 ≠ (T b).2.1)
/-- the static row that nobody writes -/
def lowB (tL : Nat) (A : Nat → Prop) (U : State) (H : Heap) : Prop := va_Z "ClockCourt$Net" "LOW_BITS" "[J" (.ref tL) A U H ∧ va_T .long tL 6 (fun j => .long (lowF j)) A U H
/-! the words of the wp forms -/
def br (c A B : Prop) : Prop := (c → A) ∧ (¬ c → B)
def nm {α : Type} (e : α) (k : α → Prop) : Prop := ∀ x, x = e → k x
def jn {α : Type} (J : α) (body : α → Prop) : Prop := body J
def rd {α : Type} (f : Nat → α) (n : Nat) (i : Int32) (k : α → Prop) : Prop := vp_in i n ∧ ∀ v, v = f i.toNatClampNeg → k v
def ck (i : Int32) (n : Nat) (A : Prop) : Prop := vp_in i n ∧ A
section WI
variable {p : Program} {l : Launch} {e : Env} {R : Room} {s : State} {m : MethodId} {args : Array Value} {below : List Frame} {meth : Method} {c : Code} {H : Heap} {locs : List Loc} {cells slots : Nat} {Q : State → Prop}
variable {cc : ByteArray} {pc : Nat} {ls : Array Slot} {rest : List Value} {D : va_G} {cy : Nat → ClassId} {ad : Nat → Nat} {ds : List Dsc} {σ : St} {A : Nat → Prop} {H0 : Heap}
theorem wi_geti (hx : p.tables.exec = Jvm.exec) (hb : c.code = cc) (hg : ∀ w ∈ gAll, w.before args s = true) {own : String} (hown : s.vm.findClass own = some m.cls) (hK : va_K D vwCl (tyl cy) s) (hP : va_P D vwCl (wld cy ad ds σ) H) (k j : Nat) {ci : Nat} {ss : List Nat} (hk : ds[k]? = some (.inl (ci, ss))) (ht : ss[j]? = some 0) {C : String} {T : u_T} {N : Nat} {ty : Nat → FieldType} (hC : CBd ci C T N ty) (hj : j < N) {index : Nat} (hl : Cond.fieldLink own index (T j).1 (T j).2.1 (T j).2.2.1 ∈ gAll) (hd : decode cc pc = .ok (.getfield index, 3))
    (kk : W p l e R s m args below meth c H locs cells slots Q (F0 m (pc + 3) ls (.int (σ.1 k j) :: rest))) : W p l e R s m args below meth c H locs cells slots Q (F0 m pc ls (.ref (ad k) :: rest)) :=
  va_get hx hb hg hC.2.1 hown hK hP k (wld_at hk) hC.1 j hj (hg _ hl) (fun _ h => h) (by rw [List.getElem?_mapIdx, ht]; rfl) hd kk
theorem wi_getl (hx : p.tables.exec = Jvm.exec) (hb : c.code = cc) (hg : ∀ w ∈ gAll, w.before args s = true) {own : String} (hown : s.vm.findClass own = some m.cls) (hK : va_K D vwCl (tyl cy) s) (hP : va_P D vwCl (wld cy ad ds σ) H) (k j : Nat) {ci : Nat} {ss : List Nat} (hk : ds[k]? = some (.inl (ci, ss))) (ht : ss[j]? = some 1) {C : String} {T : u_T} {N : Nat} {ty : Nat → FieldType} (hC : CBd ci C T N ty) (hj : j < N) {index : Nat} (hl : Cond.fieldLink own index (T j).1 (T j).2.1 (T j).2.2.1 ∈ gAll) (hd : decode cc pc = .ok (.getfield index, 3))
    (kk : W p l e R s m args below meth c H locs cells slots Q (F0 m (pc + 3) ls (.long (σ.2 k j) :: rest))) : W p l e R s m args below meth c H locs cells slots Q (F0 m pc ls (.ref (ad k) :: rest)) :=
  va_get hx hb hg hC.2.1 hown hK hP k (wld_at hk) hC.1 j hj (hg _ hl) (fun _ h => h) (by rw [List.getElem?_mapIdx, ht]; rfl) hd kk
theorem wi_getr (hx : p.tables.exec = Jvm.exec) (hb : c.code = cc) (hg : ∀ w ∈ gAll, w.before args s = true) {own : String} (hown : s.vm.findClass own = some m.cls) (hK : va_K D vwCl (tyl cy) s) (hP : va_P D vwCl (wld cy ad ds σ) H) (k j r : Nat) {ci : Nat} {ss : List Nat} (hk : ds[k]? = some (.inl (ci, ss))) (ht : ss[j]? = some (r + 2)) {C : String} {T : u_T} {N : Nat} {ty : Nat → FieldType} (hC : CBd ci C T N ty) (hj : j < N) {index : Nat} (hl : Cond.fieldLink own index (T j).1 (T j).2.1 (T j).2.2.1 ∈ gAll) (hd : decode cc pc = .ok (.getfield index, 3))
    (kk : W p l e R s m args below meth c H locs cells slots Q (F0 m (pc + 3) ls (.ref (ad r) :: rest))) : W p l e R s m args below meth c H locs cells slots Q (F0 m pc ls (.ref (ad k) :: rest)) :=
  va_get hx hb hg hC.2.1 hown hK hP k (wld_at hk) hC.1 j hj (hg _ hl) (fun _ h => h) (by rw [List.getElem?_mapIdx, ht]; rfl) hd kk
theorem wi_puti (hx : p.tables.exec = Jvm.exec) (hb : c.code = cc) (hg : ∀ w ∈ gAll, w.before args s = true) {own : String} (hown : s.vm.findClass own = some m.cls) (hK : va_K D vwCl (tyl cy) s) (hP : va_P D vwCl (wld cy ad ds σ) H) (hD : va_D A (wld cy ad ds σ)) (hS : va_S A H0 H locs) (k j : Nat) {ci : Nat} {ss : List Nat} (hk : ds[k]? = some (.inl (ci, ss))) (ht : ss[j]? = some 0) {C : String} {T : u_T} {N : Nat} {ty : Nat → FieldType} (hC : CBd ci C T N ty) (hj : j < N) {index : Nat} (hl : Cond.fieldLink own index (T j).1 (T j).2.1 (T j).2.2.1 ∈ gAll) (hfin : (T j).2.2.2 = false) {v : Int32} (hn : narrow (ty j) (.int v) = .int v) (hf : fits (ty j) (.int v) = true) (hd : decode cc pc = .ok (.putfield index, 3))
    (kk : ∀ (σ1 : St), σ1 = upI σ k j v → ∀ (H1 : Heap) (locs1 : List Loc), va_P D vwCl (wld cy ad ds σ1) H1 → va_D A (wld cy ad ds σ1) → va_S A H0 H1 locs1 → W p l e R s m args below meth c H1 locs1 cells slots Q (F0 m (pc + 3) ls rest)) : W p l e R s m args below meth c H locs cells slots Q (F0 m pc ls (.int v :: .ref (ad k) :: rest)) := by
  have he : (wld cy ad ds σ).set k (ad k, .inr (ci, (ss.mapIdx (fun i t => sl_V ad σ k i t)).set j (.int v))) = wld cy ad ds (upI σ k j v) := by
    rw [sl_set ht]
    exact wld_set (σ' := upI σ k j v) hk upI_off (fun _ _ => rfl)
  refine va_put hx hb hg hC.2.1 ty hC.2.2.1 hC.2.2.2 hown hK hP hD hS k (wld_at hk) hC.1 j hj (hg _ hl) (fun _ h => h) hfin (hC.2.2.1 j hj) hn hf (by simpa using (List.getElem?_eq_some_iff.mp ht).1) hd (fun H1 locs1 h1 h2 h3 => ?_)
  rw [he] at h1 h2
  exact kk _ rfl H1 locs1 h1 h2 h3
theorem wi_putl (hx : p.tables.exec = Jvm.exec) (hb : c.code = cc) (hg : ∀ w ∈ gAll, w.before args s = true) {own : String} (hown : s.vm.findClass own = some m.cls) (hK : va_K D vwCl (tyl cy) s) (hP : va_P D vwCl (wld cy ad ds σ) H) (hD : va_D A (wld cy ad ds σ)) (hS : va_S A H0 H locs) (k j : Nat) {ci : Nat} {ss : List Nat} (hk : ds[k]? = some (.inl (ci, ss))) (ht : ss[j]? = some 1) {C : String} {T : u_T} {N : Nat} {ty : Nat → FieldType} (hC : CBd ci C T N ty) (hj : j < N) {index : Nat} (hl : Cond.fieldLink own index (T j).1 (T j).2.1 (T j).2.2.1 ∈ gAll) (hfin : (T j).2.2.2 = false) {v : Int64} (hn : narrow (ty j) (.long v) = .long v) (hf : fits (ty j) (.long v) = true) (hd : decode cc pc = .ok (.putfield index, 3))
    (kk : ∀ (σ1 : St), σ1 = upJ σ k j v → ∀ (H1 : Heap) (locs1 : List Loc), va_P D vwCl (wld cy ad ds σ1) H1 → va_D A (wld cy ad ds σ1) → va_S A H0 H1 locs1 → W p l e R s m args below meth c H1 locs1 cells slots Q (F0 m (pc + 3) ls rest)) : W p l e R s m args below meth c H locs cells slots Q (F0 m pc ls (.long v :: .ref (ad k) :: rest)) := by
  have he : (wld cy ad ds σ).set k (ad k, .inr (ci, (ss.mapIdx (fun i t => sl_V ad σ k i t)).set j (.long v))) = wld cy ad ds (upJ σ k j v) := by
    rw [sl_setL ht]
    exact wld_set (σ' := upJ σ k j v) hk (fun _ _ => rfl) upJ_off
  refine va_put hx hb hg hC.2.1 ty hC.2.2.1 hC.2.2.2 hown hK hP hD hS k (wld_at hk) hC.1 j hj (hg _ hl) (fun _ h => h) hfin (hC.2.2.1 j hj) hn hf (by simpa using (List.getElem?_eq_some_iff.mp ht).1) hd (fun H1 locs1 h1 h2 h3 => ?_)
  rw [he] at h1 h2
  exact kk _ rfl H1 locs1 h1 h2 h3
theorem wi_iald (hx : p.tables.exec = Jvm.exec) (hb : c.code = cc) (hK : va_K D vwCl (tyl cy) s) (hP : va_P D vwCl (wld cy ad ds σ) H) (k : Nat) {n : Nat} (hk : ds[k]? = some (.inr (0, n))) {i : Int32} (hin : vp_in i n) (hd : decode cc pc = .ok (.iaload, 1))
    (kk : ∀ v : Int32, v = σ.1 k i.toNatClampNeg → W p l e R s m args below meth c H locs cells slots Q (F0 m (pc + 1) ls (.int v :: rest))) : W p l e R s m args below meth c H locs cells slots Q (F0 m pc ls (.int i :: .ref (ad k) :: rest)) :=
  va_iald hx hb hK hP k 0 (wld_at hk) rfl hin hd (kk _ rfl)
theorem wi_zald (hx : p.tables.exec = Jvm.exec) (hb : c.code = cc) (hK : va_K D vwCl (tyl cy) s) (hP : va_P D vwCl (wld cy ad ds σ) H) (k : Nat) {n : Nat} (hk : ds[k]? = some (.inr (2, n))) {i : Int32} (hin : vp_in i n) (hd : decode cc pc = .ok (.baload, 1))
    (kk : ∀ v : Int32, v = σ.1 k i.toNatClampNeg → W p l e R s m args below meth c H locs cells slots Q (F0 m (pc + 1) ls (.int v :: rest))) : W p l e R s m args below meth c H locs cells slots Q (F0 m pc ls (.int i :: .ref (ad k) :: rest)) :=
  va_zald hx hb hK hP k 2 (wld_at hk) rfl hin hd (kk _ rfl)
theorem wi_lald (hx : p.tables.exec = Jvm.exec) (hb : c.code = cc) (hK : va_K D vwCl (tyl cy) s) (hP : va_P D vwCl (wld cy ad ds σ) H) (k : Nat) {n : Nat} (hk : ds[k]? = some (.inr (1, n))) {i : Int32} (hin : vp_in i n) (hd : decode cc pc = .ok (.laload, 1))
    (kk : ∀ v : Int64, v = σ.2 k i.toNatClampNeg → W p l e R s m args below meth c H locs cells slots Q (F0 m (pc + 1) ls (.long v :: rest))) : W p l e R s m args below meth c H locs cells slots Q (F0 m pc ls (.int i :: .ref (ad k) :: rest)) :=
  va_lald hx hb hK hP k 1 (wld_at hk) rfl hin hd (kk _ rfl)
theorem wi_iast (hx : p.tables.exec = Jvm.exec) (hb : c.code = cc) (hK : va_K D vwCl (tyl cy) s) (hP : va_P D vwCl (wld cy ad ds σ) H) (hD : va_D A (wld cy ad ds σ)) (hS : va_S A H0 H locs) (k : Nat) {n : Nat} (hk : ds[k]? = some (.inr (0, n))) {i v : Int32} (hin : vp_in i n) (hd : decode cc pc = .ok (.iastore, 1))
    (kk : ∀ (σ1 : St), σ1 = upI σ k i.toNatClampNeg v → ∀ (H1 : Heap) (locs1 : List Loc), va_P D vwCl (wld cy ad ds σ1) H1 → va_D A (wld cy ad ds σ1) → va_S A H0 H1 locs1 → W p l e R s m args below meth c H1 locs1 cells slots Q (F0 m (pc + 1) ls rest)) : W p l e R s m args below meth c H locs cells slots Q (F0 m pc ls (.int v :: .int i :: .ref (ad k) :: rest)) := by
  have he : (wld cy ad ds σ).set k (ad k, .inl (cy 0, n, .inl (upd (σ.1 k) i.toNatClampNeg v))) = wld cy ad ds (upI σ k i.toNatClampNeg v) := by
    rw [← upI_at (σ := σ)]
    exact wld_set (σ' := upI σ k i.toNatClampNeg v) hk upI_off (fun _ _ => rfl)
  refine va_iast hx hb hK hP hD hS k 0 (wld_at hk) rfl hin hd (fun H1 locs1 h1 h2 h3 => ?_)
  rw [he] at h1 h2
  exact kk _ rfl H1 locs1 h1 h2 h3
theorem wi_zast (hx : p.tables.exec = Jvm.exec) (hb : c.code = cc) (hK : va_K D vwCl (tyl cy) s) (hP : va_P D vwCl (wld cy ad ds σ) H) (hD : va_D A (wld cy ad ds σ)) (hS : va_S A H0 H locs) (k : Nat) {n : Nat} (hk : ds[k]? = some (.inr (2, n))) {i v : Int32} (hin : vp_in i n) (hd : decode cc pc = .ok (.bastore, 1))
    (kk : ∀ (σ1 : St), σ1 = upI σ k i.toNatClampNeg (vp_nar .boolean v) → ∀ (H1 : Heap) (locs1 : List Loc), va_P D vwCl (wld cy ad ds σ1) H1 → va_D A (wld cy ad ds σ1) → va_S A H0 H1 locs1 → W p l e R s m args below meth c H1 locs1 cells slots Q (F0 m (pc + 1) ls rest)) : W p l e R s m args below meth c H locs cells slots Q (F0 m pc ls (.int v :: .int i :: .ref (ad k) :: rest)) := by
  have he : (wld cy ad ds σ).set k (ad k, .inl (cy 2, n, .inl (upd (σ.1 k) i.toNatClampNeg (vp_nar .boolean v)))) = wld cy ad ds (upI σ k i.toNatClampNeg (vp_nar .boolean v)) := by
    rw [← upI_at (σ := σ)]
    exact wld_set (σ' := upI σ k i.toNatClampNeg (vp_nar .boolean v)) hk upI_off (fun _ _ => rfl)
  refine va_zast hx hb hK hP hD hS k 2 (wld_at hk) rfl hin hd (fun H1 locs1 h1 h2 h3 => ?_)
  rw [he] at h1 h2
  exact kk _ rfl H1 locs1 h1 h2 h3
theorem wi_last (hx : p.tables.exec = Jvm.exec) (hb : c.code = cc) (hK : va_K D vwCl (tyl cy) s) (hP : va_P D vwCl (wld cy ad ds σ) H) (hD : va_D A (wld cy ad ds σ)) (hS : va_S A H0 H locs) (k : Nat) {n : Nat} (hk : ds[k]? = some (.inr (1, n))) {i : Int32} {v : Int64} (hin : vp_in i n) (hd : decode cc pc = .ok (.lastore, 1))
    (kk : ∀ (σ1 : St), σ1 = upJ σ k i.toNatClampNeg v → ∀ (H1 : Heap) (locs1 : List Loc), va_P D vwCl (wld cy ad ds σ1) H1 → va_D A (wld cy ad ds σ1) → va_S A H0 H1 locs1 → W p l e R s m args below meth c H1 locs1 cells slots Q (F0 m (pc + 1) ls rest)) : W p l e R s m args below meth c H locs cells slots Q (F0 m pc ls (.long v :: .int i :: .ref (ad k) :: rest)) := by
  have he : (wld cy ad ds σ).set k (ad k, .inl (cy 1, n, .inr (.inl (vp_updL (σ.2 k) i.toNatClampNeg v)))) = wld cy ad ds (upJ σ k i.toNatClampNeg v) := by
    rw [← upJ_at (σ := σ)]
    exact wld_set (σ' := upJ σ k i.toNatClampNeg v) hk (fun _ _ => rfl) upJ_off
  refine va_last hx hb hK hP hD hS k 1 (wld_at hk) rfl hin hd (fun H1 locs1 h1 h2 h3 => ?_)
  rw [he] at h1 h2
  exact kk _ rfl H1 locs1 h1 h2 h3
theorem wi_alen0 (hx : p.tables.exec = Jvm.exec) (hb : c.code = cc) (hK : va_K D vwCl (tyl cy) s) (hP : va_P D vwCl (wld cy ad ds σ) H) (k : Nat) {n : Nat} (hk : ds[k]? = some (.inr (0, n))) {v : Int32} (hv : Int32.ofNat n = v) (hd : decode cc pc = .ok (.arraylength, 1))
    (kk : W p l e R s m args below meth c H locs cells slots Q (F0 m (pc + 1) ls (.int v :: rest))) : W p l e R s m args below meth c H locs cells slots Q (F0 m pc ls (.ref (ad k) :: rest)) :=
  va_alen hx hb hK hP k 0 (wld_at hk) rfl hv hd kk
theorem wi_alen1 (hx : p.tables.exec = Jvm.exec) (hb : c.code = cc) (hK : va_K D vwCl (tyl cy) s) (hP : va_P D vwCl (wld cy ad ds σ) H) (k : Nat) {n : Nat} (hk : ds[k]? = some (.inr (1, n))) {v : Int32} (hv : Int32.ofNat n = v) (hd : decode cc pc = .ok (.arraylength, 1))
    (kk : W p l e R s m args below meth c H locs cells slots Q (F0 m (pc + 1) ls (.int v :: rest))) : W p l e R s m args below meth c H locs cells slots Q (F0 m pc ls (.ref (ad k) :: rest)) :=
  va_alen hx hb hK hP k 1 (wld_at hk) rfl hv hd kk
end WI
end
section
/-! CONTRACTS over the uniform world -/
def cPre (D : va_G) (cy : Nat → ClassId) (ad : Nat → Nat) (tL : Nat) (ds : List Dsc) (σ : St) (sz : Nat) : State → Prop := fun U => U.heap.size = sz ∧ va_P D vwCl (wld cy ad ds σ) U.heap ∧ va_K D vwCl (tyl cy) U ∧ va_D (fun _ => True) (wld cy ad ds σ) ∧ lowB tL (va_A (wld cy ad ds σ) sz) U U.heap
def cBk (D : va_G) (cy : Nat → ClassId) (ad : Nat → Nat) (ds : List Dsc) (A : Nat → Prop) : St → State → Prop := fun u t => va_P D vwCl (wld cy ad ds u) t.heap ∧ va_K D vwCl (tyl cy) t ∧ va_D A (wld cy ad ds u)
abbrev rmO (fr lo : Nat) : Room := { frames := fr, cells := 0, slots := 0, locals := lo }
def Cti (l : Launch) (y : MethodName) (cc : ByteArray) (maxL : Nat) (ret : Option FieldType) (fr lo : Nat) (D : va_G) (cy : Nat → ClassId) (ad : Nat → Nat) (tL : Nat) (ds : List Dsc) (σ : St) (av : List Value) (post : Int32 → St → Prop) : Prop :=
  ∀ sz, Met l y (.code y cc maxL ret :: gAll) (rmO fr lo) (va_Pc av (cPre D cy ad tL ds σ sz)) (va_Qi post (cBk D cy ad ds (va_A (wld cy ad ds σ) sz)) (va_A (wld cy ad ds σ) sz)) 0 0 (va_A (wld cy ad ds σ) sz)
def Ctl (l : Launch) (y : MethodName) (cc : ByteArray) (maxL : Nat) (ret : Option FieldType) (fr lo : Nat) (D : va_G) (cy : Nat → ClassId) (ad : Nat → Nat) (tL : Nat) (ds : List Dsc) (σ : St) (av : List Value) (post : Int64 → St → Prop) : Prop :=
  ∀ sz, Met l y (.code y cc maxL ret :: gAll) (rmO fr lo) (va_Pc av (cPre D cy ad tL ds σ sz)) (va_Ql post (cBk D cy ad ds (va_A (wld cy ad ds σ) sz)) (va_A (wld cy ad ds σ) sz)) 0 0 (va_A (wld cy ad ds σ) sz)
def Ctv (l : Launch) (y : MethodName) (cc : ByteArray) (maxL : Nat) (ret : Option FieldType) (fr lo : Nat) (D : va_G) (cy : Nat → ClassId) (ad : Nat → Nat) (tL : Nat) (ds : List Dsc) (σ : St) (av : List Value) (post : St → Prop) : Prop :=
  ∀ sz, Met l y (.code y cc maxL ret :: gAll) (rmO fr lo) (va_Pc av (cPre D cy ad tL ds σ sz)) (va_Qv post (cBk D cy ad ds (va_A (wld cy ad ds σ) sz)) (va_A (wld cy ad ds σ) sz)) 0 0 (va_A (wld cy ad ds σ) sz)
/-- what a body has at its entry, whatever its answer is -/
def Bdy (l : Launch) (y : MethodName) (cc : ByteArray) (maxL : Nat) (ret : Option FieldType) (fr lo : Nat) (D : va_G) (cy : Nat → ClassId) (ad : Nat → Nat) (tL : Nat) (ds : List Dsc) (σ : St) (av : List Value) (Qf : (Nat → Prop) → Array Value → State → Outcome → State → Prop) : Prop :=
  ∀ (p : Program) (e : Env) (s : State) (m : MethodId) (args : Array Value) (below : List Frame) (meth : Method) (c : Code) (A : Nat → Prop), p.tables.exec = Jvm.exec → c.code = cc → c.maxLocals = maxL → meth.sig.returnType = ret → meth.locks = false → (∀ w ∈ gAll, w.before args s = true) → s.vm.findClass y.cls = some m.cls → (∀ q : Nat, s.heap.size ≤ q → A q) → va_K D vwCl (tyl cy) s → va_P D vwCl (wld cy ad ds σ) s.heap → va_D A (wld cy ad ds σ) → va_S A s.heap s.heap [] → lowB tL A s s.heap → ∀ ls : Array Slot, lv_has ls maxL (lv_args 0 av) →
    W p l e (rmO fr lo) s m args below meth c s.heap [] 0 0 (MQ below (Qf A) args s 0 0 A) (F0 m 0 ls [])
theorem bdy_met {l : Launch} {y : MethodName} {cc : ByteArray} {maxL : Nat} {ret : Option FieldType} {fr lo : Nat} {D : va_G} {cy : Nat → ClassId} {ad : Nat → Nat} {tL : Nat} {ds : List Dsc} {σ : St} {av : List Value} {Qf : (Nat → Prop) → Array Value → State → Outcome → State → Prop} (hy : plainName y.cls = true) (hlen : (lg_sl av).length ≤ maxL) (h : Bdy l y cc maxL ret fr lo D cy ad tL ds σ av Qf) (sz : Nat) :
    Met l y (.code y cc maxL ret :: gAll) (rmO fr lo) (va_Pc av (cPre D cy ad tL ds σ sz)) (Qf (va_A (wld cy ad ds σ) sz)) 0 0 (va_A (wld cy ad ds σ) sz) := by
  refine Met.ofW (cc := cc) (maxL := maxL) (ret := ret) hy rfl ?_
  intro p e s m args below meth c s₁ B hml hv
  obtain ⟨rfl, hsz, hP, hK, hD0, hLB⟩ := hv
  have hts := atoms_spec (ws := .code y cc maxL ret :: gAll) B.pre
  subst hsz
  have hD := hD0.self (sz := s.heap.size)
  have hl := lv_entry av (n := maxL) hlen
  rw [lg_entry_eq]
  exact h p e s m av.toArray below meth c (va_A (wld cy ad ds σ) s.heap.size) B.exec B.bytes hml B.returns B.notSynchronized (fun w hw => hts w (List.mem_cons_of_mem _ hw)) (findClass_of_methodNamed B.named) (fun q h => Or.inr h) hK hP hD va_S.rf hLB _ hl
theorem cti_of {l : Launch} {y : MethodName} {cc : ByteArray} {maxL : Nat} {ret : Option FieldType} {fr lo : Nat} {D : va_G} {cy : Nat → ClassId} {ad : Nat → Nat} {tL : Nat} {ds : List Dsc} {σ : St} {av : List Value} {post : Int32 → St → Prop} (hy : plainName y.cls = true) (hlen : (lg_sl av).length ≤ maxL) (h : Bdy l y cc maxL ret fr lo D cy ad tL ds σ av (fun A => va_Qi post (cBk D cy ad ds A) A)) : Cti l y cc maxL ret fr lo D cy ad tL ds σ av post := fun sz => bdy_met (Qf := fun A => va_Qi post (cBk D cy ad ds A) A) hy hlen h sz
theorem ctl_of {l : Launch} {y : MethodName} {cc : ByteArray} {maxL : Nat} {ret : Option FieldType} {fr lo : Nat} {D : va_G} {cy : Nat → ClassId} {ad : Nat → Nat} {tL : Nat} {ds : List Dsc} {σ : St} {av : List Value} {post : Int64 → St → Prop} (hy : plainName y.cls = true) (hlen : (lg_sl av).length ≤ maxL) (h : Bdy l y cc maxL ret fr lo D cy ad tL ds σ av (fun A => va_Ql post (cBk D cy ad ds A) A)) : Ctl l y cc maxL ret fr lo D cy ad tL ds σ av post := fun sz => bdy_met (Qf := fun A => va_Ql post (cBk D cy ad ds A) A) hy hlen h sz
theorem ctv_of {l : Launch} {y : MethodName} {cc : ByteArray} {maxL : Nat} {ret : Option FieldType} {fr lo : Nat} {D : va_G} {cy : Nat → ClassId} {ad : Nat → Nat} {tL : Nat} {ds : List Dsc} {σ : St} {av : List Value} {post : St → Prop} (hy : plainName y.cls = true) (hlen : (lg_sl av).length ≤ maxL) (h : Bdy l y cc maxL ret fr lo D cy ad tL ds σ av (fun A => va_Qv post (cBk D cy ad ds A) A)) : Ctv l y cc maxL ret fr lo D cy ad tL ds σ av post := fun sz => bdy_met (Qf := fun A => va_Qv post (cBk D cy ad ds A) A) hy hlen h sz
/-- the words of a call -/
def VWd (own : String) (idx : Nat) (y : MethodName) (cc : ByteArray) (maxL : Nat) (ret : Option FieldType) (n : Nat) : Prop := Cond.methodLink own idx y ∈ gAll ∧ Cond.instanceMethod y ∈ gAll ∧ Cond.selects y.cls y y ∈ gAll ∧ Cond.initialized y.cls ∈ gAll ∧ Cond.code y cc maxL ret ∈ gAll ∧ (y.cls ≠ "java/lang/invoke/MethodHandle" ∧ y.cls ≠ "java/lang/invoke/VarHandle" ∧ (parseMethodDescriptor y.desc).map (fun d => d.parameters.length) = some n)
def SWd (own : String) (idx : Nat) (y : MethodName) (cc : ByteArray) (maxL : Nat) (ret : Option FieldType) (n : Nat) : Prop := Cond.methodLink own idx y ∈ gAll ∧ Cond.static y ∈ gAll ∧ Cond.initialized y.cls ∈ gAll ∧ Cond.code y cc maxL ret ∈ gAll ∧ (y.cls ≠ "java/lang/invoke/MethodHandle" ∧ y.cls ≠ "java/lang/invoke/VarHandle" ∧ (parseMethodDescriptor y.desc).map (fun d => d.parameters.length) = some n)
theorem goodV {own : String} {idx : Nat} {y : MethodName} {cc : ByteArray} {maxL n : Nat} {ret : Option FieldType} (h : VWd own idx y cc maxL ret n) : GoodIn gAll (wsV own idx y.cls y (.code y cc maxL ret :: gAll)) := by
  obtain ⟨h1, h2, h3, h4, h5, -⟩ := h
  intro w hw
  have : w ∈ gAll := by
    simp only [wsV, List.mem_append, List.mem_cons, List.not_mem_nil, or_false] at hw
    rcases hw with (rfl | rfl | rfl | rfl) | rfl | hw
    · exact h1
    · exact h2
    · exact h3
    · exact h4
    · exact h5
    · exact hw
  exact gAll_good w this
theorem goodS {own : String} {idx : Nat} {y : MethodName} {cc : ByteArray} {maxL n : Nat} {ret : Option FieldType} (h : SWd own idx y cc maxL ret n) : GoodIn gAll (va_wsS own idx y (.code y cc maxL ret :: gAll)) := by
  obtain ⟨h1, h2, h3, h4, -⟩ := h
  intro w hw
  have : w ∈ gAll := by
    simp only [va_wsS, List.mem_append, List.mem_cons, List.not_mem_nil, or_false] at hw
    rcases hw with (rfl | rfl | rfl) | rfl | hw
    · exact h1
    · exact h2
    · exact h3
    · exact h4
    · exact hw
  exact gAll_good w this
theorem lowB.pass {tL : Nat} {A B : Nat → Prop} {s U : State} {H : Heap} (h : lowB tL A s s.heap) (hq : ∀ a : Nat, a < s.heap.size → ¬ A a → H[a]? = s.heap[a]?) (hAB : ∀ q, B q → A q) (hvm : s.vm.Alike U.vm) : lowB tL B U H :=
  ⟨((h.1.kept hq).narrow hAB).moved hvm, ((h.2.kept hq).narrow hAB).moved hvm⟩
section CALLS
variable {p : Program} {l : Launch} {e : Env} {s : State} {m : MethodId} {args : Array Value} {below : List Frame} {meth : Method} {c : Code} {H : Heap} {locs : List Loc} {Q : State → Prop}
variable {cc : ByteArray} {pc nL k : Nat} {ls : Array Slot} {rest st0 : List Value} {D : va_G} {cy : Nat → ClassId} {ad : Nat → Nat} {tL : Nat} {ds : List Dsc} {σ : St} {A : Nat → Prop} {fr lo fr2 lo2 : Nat} {y : MethodName} {cc2 : ByteArray} {maxL n idx : Nat} {ret : Option FieldType} {own : String} {As : List Value}
theorem pre_blind {av : List Value} {sz : Nat} : FrameBlind (va_Pc av (cPre D cy ad tL ds σ sz)) := by
  intro a U g mk q
  obtain ⟨q0, q1, qP, qK, qD, qL⟩ := q
  exact ⟨q0, q1, qP, va_K.moved (u := U) (U := U.calling g mk a) (Vm.Alike.refl U.vm) qK, qD, ⟨qL.1.moved (u := U) (U := U.calling g mk a) (Vm.Alike.refl U.vm), qL.2.moved (u := U) (U := U.calling g mk a) (Vm.Alike.refl U.vm)⟩⟩
theorem call_free (hD : va_D A (wld cy ad ds σ)) (hS : va_S A s.heap H locs) (hA : ∀ q : Nat, s.heap.size ≤ q → A q) : ∀ q, va_A (wld cy ad ds σ) H.size q → A q := by
  intro q h
  rcases h with ⟨k, e, h⟩ | h
  · exact hD.2 k (q, e) h
  · exact hA q (Nat.le_trans hS.1 h)
theorem pre_ok (hK : va_K D vwCl (tyl cy) s) (hP : va_P D vwCl (wld cy ad ds σ) H) (hD : va_D A (wld cy ad ds σ)) (hS : va_S A s.heap H locs) (hA : ∀ q : Nat, s.heap.size ≤ q → A q) (hLB : lowB tL A s s.heap) (U : State) (hU : U.heap = H) (hW : s.WarmedH U.vm) {av : List Value} : va_Pc av (cPre D cy ad tL ds σ H.size) av.toArray U := by
  refine ⟨rfl, by rw [hU], by rw [hU]; exact hP, va_K.moved hW.alike hK, hD.weaken (fun _ _ _ _ => trivial), ?_⟩
  rw [hU]
  exact hLB.pass hS.2.1 (call_free hD hS hA) hW.alike
theorem wi_callVi {post : Int32 → St → Prop} (hM : Cti l y cc2 maxL ret fr2 lo2 D cy ad tL ds σ (.ref (ad k) :: As) post) (hV : VWd own idx y cc2 maxL ret n) {ci : Nat} {ss : List Nat} (hk : ds[k]? = some (.inl (ci, ss))) {T : u_T} {N : Nat} {ty : Nat → FieldType} (hC : CBd ci y.cls T N ty) (hx : p.tables.exec = Jvm.exec) (hb : c.code = cc) (hml : c.maxLocals = nL) (hown : s.vm.findClass own = some m.cls) (hg : ∀ w ∈ gAll, w.before args s = true) (hK : va_K D vwCl (tyl cy) s) (hP : va_P D vwCl (wld cy ad ds σ) H) (hD : va_D A (wld cy ad ds σ)) (hS : va_S A s.heap H locs) (hA : ∀ q : Nat, s.heap.size ≤ q → A q) (hLB : lowB tL A s s.heap) (hn : As.length = n) (hR : fr2 + 1 ≤ fr ∧ 8 + (maxL + 11) + lo2 ≤ lo) (hls : ls.size = nL) (hst : st0 = As.reverse ++ .ref (ad k) :: rest) (hr : (rest.map fun v => v.category).sum ≤ 8) (hd : decode cc pc = .ok (.invokevirtual idx, 3))
    (kk : ∀ (r : Int32) (u : St), post r u → ∀ (H1 : Heap) (locs1 : List Loc), va_P D vwCl (wld cy ad ds u) H1 → va_D A (wld cy ad ds u) → va_S A s.heap H1 locs1 → W p l e (rmO fr lo) s m args below meth c H1 locs1 0 0 Q (F0 m (pc + 3) ls (.int r :: rest))) : W p l e (rmO fr lo) s m args below meth c H locs 0 0 Q (F0 m pc ls st0) := by
  have hF := call_free hD hS hA
  refine va_calli (va_runV (As := As) (rest := rest) ⟨hx, hb, hml, hown, hg⟩ (hM H.size) (cwV n hg (goodV hV) rfl rfl rfl ⟨rfl, hV.2.2.2.2.2⟩ hR) ⟨pre_blind, va_recv hK hP (ci := ci) (q0 := k) hC.1 (wld_at hk), fun U hU hW => pre_ok hK hP hD hS hA hLB U hU hW⟩ rfl hn hls hst (lv_room hr) hd ⟨Nat.zero_le _, Nat.zero_le _⟩) hS (fun q _ h => hF q h) hF (fun r u t H1 locs1 ht hvm hw hB hz1 hk1 hS1 => ?_)
  obtain ⟨hP1, hK1, hD1⟩ := hB
  rw [ht] at hP1
  exact kk r u hw H1 locs1 hP1 (hD1.weaken (fun _ q _ h => hF q.1 h)) hS1
theorem wi_callVl {post : Int64 → St → Prop} (hM : Ctl l y cc2 maxL ret fr2 lo2 D cy ad tL ds σ (.ref (ad k) :: As) post) (hV : VWd own idx y cc2 maxL ret n) {ci : Nat} {ss : List Nat} (hk : ds[k]? = some (.inl (ci, ss))) {T : u_T} {N : Nat} {ty : Nat → FieldType} (hC : CBd ci y.cls T N ty) (hx : p.tables.exec = Jvm.exec) (hb : c.code = cc) (hml : c.maxLocals = nL) (hown : s.vm.findClass own = some m.cls) (hg : ∀ w ∈ gAll, w.before args s = true) (hK : va_K D vwCl (tyl cy) s) (hP : va_P D vwCl (wld cy ad ds σ) H) (hD : va_D A (wld cy ad ds σ)) (hS : va_S A s.heap H locs) (hA : ∀ q : Nat, s.heap.size ≤ q → A q) (hLB : lowB tL A s s.heap) (hn : As.length = n) (hR : fr2 + 1 ≤ fr ∧ 8 + (maxL + 11) + lo2 ≤ lo) (hls : ls.size = nL) (hst : st0 = As.reverse ++ .ref (ad k) :: rest) (hr : (rest.map fun v => v.category).sum ≤ 8) (hd : decode cc pc = .ok (.invokevirtual idx, 3))
    (kk : ∀ (r : Int64) (u : St), post r u → ∀ (H1 : Heap) (locs1 : List Loc), va_P D vwCl (wld cy ad ds u) H1 → va_D A (wld cy ad ds u) → va_S A s.heap H1 locs1 → W p l e (rmO fr lo) s m args below meth c H1 locs1 0 0 Q (F0 m (pc + 3) ls (.long r :: rest))) : W p l e (rmO fr lo) s m args below meth c H locs 0 0 Q (F0 m pc ls st0) := by
  have hF := call_free hD hS hA
  refine va_calll (va_runV (As := As) (rest := rest) ⟨hx, hb, hml, hown, hg⟩ (hM H.size) (cwV n hg (goodV hV) rfl rfl rfl ⟨rfl, hV.2.2.2.2.2⟩ hR) ⟨pre_blind, va_recv hK hP (ci := ci) (q0 := k) hC.1 (wld_at hk), fun U hU hW => pre_ok hK hP hD hS hA hLB U hU hW⟩ rfl hn hls hst (lv_room hr) hd ⟨Nat.zero_le _, Nat.zero_le _⟩) hS (fun q _ h => hF q h) hF (fun r u t H1 locs1 ht hvm hw hB hz1 hk1 hS1 => ?_)
  obtain ⟨hP1, hK1, hD1⟩ := hB
  rw [ht] at hP1
  exact kk r u hw H1 locs1 hP1 (hD1.weaken (fun _ q _ h => hF q.1 h)) hS1
theorem wi_callVv {post : St → Prop} (hM : Ctv l y cc2 maxL ret fr2 lo2 D cy ad tL ds σ (.ref (ad k) :: As) post) (hV : VWd own idx y cc2 maxL ret n) {ci : Nat} {ss : List Nat} (hk : ds[k]? = some (.inl (ci, ss))) {T : u_T} {N : Nat} {ty : Nat → FieldType} (hC : CBd ci y.cls T N ty) (hx : p.tables.exec = Jvm.exec) (hb : c.code = cc) (hml : c.maxLocals = nL) (hown : s.vm.findClass own = some m.cls) (hg : ∀ w ∈ gAll, w.before args s = true) (hK : va_K D vwCl (tyl cy) s) (hP : va_P D vwCl (wld cy ad ds σ) H) (hD : va_D A (wld cy ad ds σ)) (hS : va_S A s.heap H locs) (hA : ∀ q : Nat, s.heap.size ≤ q → A q) (hLB : lowB tL A s s.heap) (hn : As.length = n) (hR : fr2 + 1 ≤ fr ∧ 8 + (maxL + 11) + lo2 ≤ lo) (hls : ls.size = nL) (hst : st0 = As.reverse ++ .ref (ad k) :: rest) (hr : (rest.map fun v => v.category).sum ≤ 8) (hd : decode cc pc = .ok (.invokevirtual idx, 3))
    (kk : ∀ (u : St), post u → ∀ (H1 : Heap) (locs1 : List Loc), va_P D vwCl (wld cy ad ds u) H1 → va_D A (wld cy ad ds u) → va_S A s.heap H1 locs1 → W p l e (rmO fr lo) s m args below meth c H1 locs1 0 0 Q (F0 m (pc + 3) ls rest)) : W p l e (rmO fr lo) s m args below meth c H locs 0 0 Q (F0 m pc ls st0) := by
  have hF := call_free hD hS hA
  refine va_callv (va_runV (As := As) (rest := rest) ⟨hx, hb, hml, hown, hg⟩ (hM H.size) (cwV n hg (goodV hV) rfl rfl rfl ⟨rfl, hV.2.2.2.2.2⟩ hR) ⟨pre_blind, va_recv hK hP (ci := ci) (q0 := k) hC.1 (wld_at hk), fun U hU hW => pre_ok hK hP hD hS hA hLB U hU hW⟩ rfl hn hls hst (lv_room hr) hd ⟨Nat.zero_le _, Nat.zero_le _⟩) hS (fun q _ h => hF q h) hF (fun u t H1 locs1 ht hvm hw hB hz1 hk1 hS1 => ?_)
  obtain ⟨hP1, hK1, hD1⟩ := hB
  rw [ht] at hP1
  exact kk u hw H1 locs1 hP1 (hD1.weaken (fun _ q _ h => hF q.1 h)) hS1
theorem wi_callSi {post : Int32 → St → Prop} (hM : Cti l y cc2 maxL ret fr2 lo2 D cy ad tL ds σ As post) (hV : SWd own idx y cc2 maxL ret n) (hx : p.tables.exec = Jvm.exec) (hb : c.code = cc) (hml : c.maxLocals = nL) (hown : s.vm.findClass own = some m.cls) (hg : ∀ w ∈ gAll, w.before args s = true) (hK : va_K D vwCl (tyl cy) s) (hP : va_P D vwCl (wld cy ad ds σ) H) (hD : va_D A (wld cy ad ds σ)) (hS : va_S A s.heap H locs) (hA : ∀ q : Nat, s.heap.size ≤ q → A q) (hLB : lowB tL A s s.heap) (hn : As.length = n) (hR : fr2 + 1 ≤ fr ∧ 8 + (maxL + 11) + lo2 ≤ lo) (hls : ls.size = nL) (hst : st0 = As.reverse ++ rest) (hr : (rest.map fun v => v.category).sum ≤ 8) (hd : decode cc pc = .ok (.invokestatic idx, 3))
    (kk : ∀ (r : Int32) (u : St), post r u → ∀ (H1 : Heap) (locs1 : List Loc), va_P D vwCl (wld cy ad ds u) H1 → va_D A (wld cy ad ds u) → va_S A s.heap H1 locs1 → W p l e (rmO fr lo) s m args below meth c H1 locs1 0 0 Q (F0 m (pc + 3) ls (.int r :: rest))) : W p l e (rmO fr lo) s m args below meth c H locs 0 0 Q (F0 m pc ls st0) := by
  have hF := call_free hD hS hA
  refine va_calli (va_runS (As := As) (rest := rest) ⟨hx, hb, hml, hown, hg⟩ (hM H.size) (va_cwS n hg (goodS hV) rfl rfl rfl hV.2.2.2.2 hR) ⟨pre_blind, fun U hU hW => pre_ok hK hP hD hS hA hLB U hU hW⟩ rfl hn hls hst (lv_room hr) hd ⟨Nat.zero_le _, Nat.zero_le _⟩) hS (fun q _ h => hF q h) hF (fun r u t H1 locs1 ht hvm hw hB hz1 hk1 hS1 => ?_)
  obtain ⟨hP1, hK1, hD1⟩ := hB
  rw [ht] at hP1
  exact kk r u hw H1 locs1 hP1 (hD1.weaken (fun _ q _ h => hF q.1 h)) hS1
theorem wi_callSl {post : Int64 → St → Prop} (hM : Ctl l y cc2 maxL ret fr2 lo2 D cy ad tL ds σ As post) (hV : SWd own idx y cc2 maxL ret n) (hx : p.tables.exec = Jvm.exec) (hb : c.code = cc) (hml : c.maxLocals = nL) (hown : s.vm.findClass own = some m.cls) (hg : ∀ w ∈ gAll, w.before args s = true) (hK : va_K D vwCl (tyl cy) s) (hP : va_P D vwCl (wld cy ad ds σ) H) (hD : va_D A (wld cy ad ds σ)) (hS : va_S A s.heap H locs) (hA : ∀ q : Nat, s.heap.size ≤ q → A q) (hLB : lowB tL A s s.heap) (hn : As.length = n) (hR : fr2 + 1 ≤ fr ∧ 8 + (maxL + 11) + lo2 ≤ lo) (hls : ls.size = nL) (hst : st0 = As.reverse ++ rest) (hr : (rest.map fun v => v.category).sum ≤ 8) (hd : decode cc pc = .ok (.invokestatic idx, 3))
    (kk : ∀ (r : Int64) (u : St), post r u → ∀ (H1 : Heap) (locs1 : List Loc), va_P D vwCl (wld cy ad ds u) H1 → va_D A (wld cy ad ds u) → va_S A s.heap H1 locs1 → W p l e (rmO fr lo) s m args below meth c H1 locs1 0 0 Q (F0 m (pc + 3) ls (.long r :: rest))) : W p l e (rmO fr lo) s m args below meth c H locs 0 0 Q (F0 m pc ls st0) := by
  have hF := call_free hD hS hA
  refine va_calll (va_runS (As := As) (rest := rest) ⟨hx, hb, hml, hown, hg⟩ (hM H.size) (va_cwS n hg (goodS hV) rfl rfl rfl hV.2.2.2.2 hR) ⟨pre_blind, fun U hU hW => pre_ok hK hP hD hS hA hLB U hU hW⟩ rfl hn hls hst (lv_room hr) hd ⟨Nat.zero_le _, Nat.zero_le _⟩) hS (fun q _ h => hF q h) hF (fun r u t H1 locs1 ht hvm hw hB hz1 hk1 hS1 => ?_)
  obtain ⟨hP1, hK1, hD1⟩ := hB
  rw [ht] at hP1
  exact kk r u hw H1 locs1 hP1 (hD1.weaken (fun _ q _ h => hF q.1 h)) hS1
theorem wi_callSv {post : St → Prop} (hM : Ctv l y cc2 maxL ret fr2 lo2 D cy ad tL ds σ As post) (hV : SWd own idx y cc2 maxL ret n) (hx : p.tables.exec = Jvm.exec) (hb : c.code = cc) (hml : c.maxLocals = nL) (hown : s.vm.findClass own = some m.cls) (hg : ∀ w ∈ gAll, w.before args s = true) (hK : va_K D vwCl (tyl cy) s) (hP : va_P D vwCl (wld cy ad ds σ) H) (hD : va_D A (wld cy ad ds σ)) (hS : va_S A s.heap H locs) (hA : ∀ q : Nat, s.heap.size ≤ q → A q) (hLB : lowB tL A s s.heap) (hn : As.length = n) (hR : fr2 + 1 ≤ fr ∧ 8 + (maxL + 11) + lo2 ≤ lo) (hls : ls.size = nL) (hst : st0 = As.reverse ++ rest) (hr : (rest.map fun v => v.category).sum ≤ 8) (hd : decode cc pc = .ok (.invokestatic idx, 3))
    (kk : ∀ (u : St), post u → ∀ (H1 : Heap) (locs1 : List Loc), va_P D vwCl (wld cy ad ds u) H1 → va_D A (wld cy ad ds u) → va_S A s.heap H1 locs1 → W p l e (rmO fr lo) s m args below meth c H1 locs1 0 0 Q (F0 m (pc + 3) ls rest)) : W p l e (rmO fr lo) s m args below meth c H locs 0 0 Q (F0 m pc ls st0) := by
  have hF := call_free hD hS hA
  refine va_callv (va_runS (As := As) (rest := rest) ⟨hx, hb, hml, hown, hg⟩ (hM H.size) (va_cwS n hg (goodS hV) rfl rfl rfl hV.2.2.2.2 hR) ⟨pre_blind, fun U hU hW => pre_ok hK hP hD hS hA hLB U hU hW⟩ rfl hn hls hst (lv_room hr) hd ⟨Nat.zero_le _, Nat.zero_le _⟩) hS (fun q _ h => hF q h) hF (fun u t H1 locs1 ht hvm hw hB hz1 hk1 hS1 => ?_)
  obtain ⟨hP1, hK1, hD1⟩ := hB
  rw [ht] at hP1
  exact kk u hw H1 locs1 hP1 (hD1.weaken (fun _ q _ h => hF q.1 h)) hS1
theorem wi_iret {post : Int32 → St → Prop} {v : Int32} (hx : p.tables.exec = Jvm.exec) (hb : c.code = cc) (hr : meth.sig.returnType = some .int) (hlk : meth.locks = false) (hK : va_K D vwCl (tyl cy) s) (hP : va_P D vwCl (wld cy ad ds σ) H) (hD : va_D A (wld cy ad ds σ)) (hS : va_S A s.heap H locs) (hd : decode cc pc = .ok (.ireturn, 1)) (h : post v σ) : W p l e (rmO fr lo) s m args below meth c H locs 0 0 (MQ below (va_Qi post (cBk D cy ad ds A) A) args s 0 0 A) (F0 m pc ls [.int v]) :=
  W.iret (v := v) hx hb hr (fun t ht hW => ⟨⟨v, σ, rfl, h, by rw [ht]; exact hP, va_K.moved hW.alike hK, hD⟩, hS.F ht⟩) hS.2.2 hd hlk
theorem wi_zret {post : Int32 → St → Prop} {v : Int32} (hx : p.tables.exec = Jvm.exec) (hb : c.code = cc) (hr : meth.sig.returnType = some .boolean) (hlk : meth.locks = false) (hK : va_K D vwCl (tyl cy) s) (hP : va_P D vwCl (wld cy ad ds σ) H) (hD : va_D A (wld cy ad ds σ)) (hS : va_S A s.heap H locs) (hd : decode cc pc = .ok (.ireturn, 1)) (hn : narrow .boolean (.int v) = .int v) (h : post v σ) : W p l e (rmO fr lo) s m args below meth c H locs 0 0 (MQ below (va_Qi post (cBk D cy ad ds A) A) args s 0 0 A) (F0 m pc ls [.int v]) :=
  W.zret (v := v) hx hb hr hn (fun t ht hW => ⟨⟨v, σ, rfl, h, by rw [ht]; exact hP, va_K.moved hW.alike hK, hD⟩, hS.F ht⟩) hS.2.2 hd hlk
theorem wi_vret {post : St → Prop} (hx : p.tables.exec = Jvm.exec) (hb : c.code = cc) (hr : meth.sig.returnType = none) (hlk : meth.locks = false) (hK : va_K D vwCl (tyl cy) s) (hP : va_P D vwCl (wld cy ad ds σ) H) (hD : va_D A (wld cy ad ds σ)) (hS : va_S A s.heap H locs) (hd : decode cc pc = .ok (.return_, 1)) (h : post σ) : W p l e (rmO fr lo) s m args below meth c H locs 0 0 (MQ below (va_Qv post (cBk D cy ad ds A) A) args s 0 0 A) (F0 m pc ls []) :=
  W.vret hx hb hr (fun t ht hW => ⟨⟨σ, rfl, h, by rw [ht]; exact hP, va_K.moved hW.alike hK, hD⟩, hS.F ht⟩) hS.2.2 hd hlk
theorem wi_lret {post : Int64 → St → Prop} {v : Int64} (hx : p.tables.exec = Jvm.exec) (hb : c.code = cc) (hr : meth.sig.returnType = some .long) (hlk : meth.locks = false) (hK : va_K D vwCl (tyl cy) s) (hP : va_P D vwCl (wld cy ad ds σ) H) (hD : va_D A (wld cy ad ds σ)) (hS : va_S A s.heap H locs) (hd : decode cc pc = .ok (.lreturn, 1)) (h : post v σ) : W p l e (rmO fr lo) s m args below meth c H locs 0 0 (MQ below (va_Ql post (cBk D cy ad ds A) A) args s 0 0 A) (F0 m pc ls [.long v]) :=
  W.lret (v := v) hx hb hr (fun t ht hW => ⟨⟨v, σ, rfl, h, by rw [ht]; exact hP, va_K.moved hW.alike hK, hD⟩, hS.F ht⟩) hS.2.2 hd hlk
end CALLS
end
