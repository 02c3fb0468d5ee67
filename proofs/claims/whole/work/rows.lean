section
-- ===== PART A: goes FIRST, ahead of the names: the tables' words, and 'selects' of the private methods out of them =====
/-- a private method of a class that the tables say can be made, by its rows of tables_1 -/
def lw_okq (q : MethodName × Nat) : Prop := (q.1.cls ≠ "java/lang/invoke/MethodHandle" ∧ q.1.cls ≠ "java/lang/invoke/VarHandle") ∧ Cond.instantiable q.1.cls q.2 ∈ tables_1 ∧ Cond.privateMethod q.1 ∈ tables_1 ∧ Cond.instanceMethod q.1 ∈ tables_1
theorem lw_p0 : lw_okq (⟨"Tollkeeper$Roads", "measureAll", "()V"⟩, 4) := ⟨⟨by decide +kernel, by decide +kernel⟩, List.mem_of_getElem? (i := 29) (by decide +kernel), List.mem_of_getElem? (i := 37) (by decide +kernel), List.mem_of_getElem? (i := 38) (by decide +kernel)⟩
theorem lw_p1 : lw_okq (⟨"Tollkeeper$Roads", "measureFrom", "(I)V"⟩, 4) := ⟨⟨by decide +kernel, by decide +kernel⟩, List.mem_of_getElem? (i := 29) (by decide +kernel), List.mem_of_getElem? (i := 41) (by decide +kernel), List.mem_of_getElem? (i := 42) (by decide +kernel)⟩
theorem lw_p2 : lw_okq (⟨"Tollkeeper$Roads", "nearestOpen", "([I)I"⟩, 4) := ⟨⟨by decide +kernel, by decide +kernel⟩, List.mem_of_getElem? (i := 29) (by decide +kernel), List.mem_of_getElem? (i := 45) (by decide +kernel), List.mem_of_getElem? (i := 46) (by decide +kernel)⟩
theorem lw_p3 : lw_okq (⟨"Tollkeeper$Roads", "goOnFrom", "(I[I)V"⟩, 4) := ⟨⟨by decide +kernel, by decide +kernel⟩, List.mem_of_getElem? (i := 29) (by decide +kernel), List.mem_of_getElem? (i := 49) (by decide +kernel), List.mem_of_getElem? (i := 50) (by decide +kernel)⟩
theorem lw_p4 : lw_okq (⟨"Tollkeeper", "dueByKept", "(I)I"⟩, 17) := ⟨⟨by decide +kernel, by decide +kernel⟩, List.mem_of_getElem? (i := 21) (by decide +kernel), List.mem_of_getElem? (i := 203) (by decide +kernel), List.mem_of_getElem? (i := 204) (by decide +kernel)⟩
theorem lw_p5 : lw_okq (⟨"Tollkeeper", "dueFor", "(LTollkeeper$Plate;LTollkeeper$Passings;I)I"⟩, 17) := ⟨⟨by decide +kernel, by decide +kernel⟩, List.mem_of_getElem? (i := 21) (by decide +kernel), List.mem_of_getElem? (i := 207) (by decide +kernel), List.mem_of_getElem? (i := 208) (by decide +kernel)⟩
theorem lw_p6 : lw_okq (⟨"Tollkeeper", "tollFrom", "(LTollkeeper$Passings;ILTollkeeper$Plate;)I"⟩, 17) := ⟨⟨by decide +kernel, by decide +kernel⟩, List.mem_of_getElem? (i := 21) (by decide +kernel), List.mem_of_getElem? (i := 215) (by decide +kernel), List.mem_of_getElem? (i := 216) (by decide +kernel)⟩
theorem lw_p7 : lw_okq (⟨"java/lang/Throwable", "fillInStackTrace", "(I)Ljava/lang/Throwable;"⟩, 6) := ⟨⟨by decide +kernel, by decide +kernel⟩, List.mem_of_getElem? (i := 278) (by decide +kernel), List.mem_of_getElem? (i := 276) (by decide +kernel), List.mem_of_getElem? (i := 277) (by decide +kernel)⟩
theorem lw_p8 : lw_okq (⟨"Tollkeeper", "joinAllAgain", "()V"⟩, 17) := ⟨⟨by decide +kernel, by decide +kernel⟩, List.mem_of_getElem? (i := 21) (by decide +kernel), List.mem_of_getElem? (i := 361) (by decide +kernel), List.mem_of_getElem? (i := 362) (by decide +kernel)⟩
theorem lw_p9 : lw_okq (⟨"Tollkeeper$Passings", "seeBeginning", "(ILTollkeeper$Roads;)V"⟩, 3) := ⟨⟨by decide +kernel, by decide +kernel⟩, List.mem_of_getElem? (i := 103) (by decide +kernel), List.mem_of_getElem? (i := 369) (by decide +kernel), List.mem_of_getElem? (i := 370) (by decide +kernel)⟩
theorem lw_p10 : lw_okq (⟨"Tollkeeper", "requireRoomForSign", "()V"⟩, 17) := ⟨⟨by decide +kernel, by decide +kernel⟩, List.mem_of_getElem? (i := 21) (by decide +kernel), List.mem_of_getElem? (i := 417) (by decide +kernel), List.mem_of_getElem? (i := 418) (by decide +kernel)⟩
theorem lw_p11 : lw_okq (⟨"Tollkeeper", "leadAllBack", "()V"⟩, 17) := ⟨⟨by decide +kernel, by decide +kernel⟩, List.mem_of_getElem? (i := 21) (by decide +kernel), List.mem_of_getElem? (i := 489) (by decide +kernel), List.mem_of_getElem? (i := 490) (by decide +kernel)⟩
theorem lw_p12 : lw_okq (⟨"Tollkeeper", "plateByText", "(LTollkeeper$Reading;)LTollkeeper$Plate;"⟩, 17) := ⟨⟨by decide +kernel, by decide +kernel⟩, List.mem_of_getElem? (i := 21) (by decide +kernel), List.mem_of_getElem? (i := 493) (by decide +kernel), List.mem_of_getElem? (i := 494) (by decide +kernel)⟩
theorem lw_p13 : lw_okq (⟨"Tollkeeper$Likeness", "costOfSign", "(II)I"⟩, 1) := ⟨⟨by decide +kernel, by decide +kernel⟩, List.mem_of_getElem? (i := 85) (by decide +kernel), List.mem_of_getElem? (i := 501) (by decide +kernel), List.mem_of_getElem? (i := 502) (by decide +kernel)⟩
theorem lw_p14 : lw_okq (⟨"Tollkeeper", "move", "(LTollkeeper$Reading;LTollkeeper$Plate;)V"⟩, 17) := ⟨⟨by decide +kernel, by decide +kernel⟩, List.mem_of_getElem? (i := 21) (by decide +kernel), List.mem_of_getElem? (i := 509) (by decide +kernel), List.mem_of_getElem? (i := 510) (by decide +kernel)⟩
theorem lw_p15 : lw_okq (⟨"Tollkeeper$Passings", "placeOf", "(LTollkeeper$Reading;)I"⟩, 3) := ⟨⟨by decide +kernel, by decide +kernel⟩, List.mem_of_getElem? (i := 103) (by decide +kernel), List.mem_of_getElem? (i := 520) (by decide +kernel), List.mem_of_getElem? (i := 521) (by decide +kernel)⟩
def lw_privs_1 : List (MethodName × Nat) := [(⟨"Tollkeeper$Roads", "measureAll", "()V"⟩, 4), (⟨"Tollkeeper$Roads", "measureFrom", "(I)V"⟩, 4), (⟨"Tollkeeper$Roads", "nearestOpen", "([I)I"⟩, 4), (⟨"Tollkeeper$Roads", "goOnFrom", "(I[I)V"⟩, 4), (⟨"Tollkeeper", "dueByKept", "(I)I"⟩, 17), (⟨"Tollkeeper", "dueFor", "(LTollkeeper$Plate;LTollkeeper$Passings;I)I"⟩, 17), (⟨"Tollkeeper", "tollFrom", "(LTollkeeper$Passings;ILTollkeeper$Plate;)I"⟩, 17), (⟨"java/lang/Throwable", "fillInStackTrace", "(I)Ljava/lang/Throwable;"⟩, 6), (⟨"Tollkeeper", "joinAllAgain", "()V"⟩, 17), (⟨"Tollkeeper$Passings", "seeBeginning", "(ILTollkeeper$Roads;)V"⟩, 3), (⟨"Tollkeeper", "requireRoomForSign", "()V"⟩, 17), (⟨"Tollkeeper", "leadAllBack", "()V"⟩, 17), (⟨"Tollkeeper", "plateByText", "(LTollkeeper$Reading;)LTollkeeper$Plate;"⟩, 17), (⟨"Tollkeeper$Likeness", "costOfSign", "(II)I"⟩, 1), (⟨"Tollkeeper", "move", "(LTollkeeper$Reading;LTollkeeper$Plate;)V"⟩, 17), (⟨"Tollkeeper$Passings", "placeOf", "(LTollkeeper$Reading;)I"⟩, 3)]
theorem lw_r1 : ∀ q ∈ lw_privs_1, lw_okq q := List.forall_mem_cons.mpr ⟨lw_p0, List.forall_mem_cons.mpr ⟨lw_p1, List.forall_mem_cons.mpr ⟨lw_p2, List.forall_mem_cons.mpr ⟨lw_p3, List.forall_mem_cons.mpr ⟨lw_p4, List.forall_mem_cons.mpr ⟨lw_p5, List.forall_mem_cons.mpr ⟨lw_p6, List.forall_mem_cons.mpr ⟨lw_p7, List.forall_mem_cons.mpr ⟨lw_p8, List.forall_mem_cons.mpr ⟨lw_p9, List.forall_mem_cons.mpr ⟨lw_p10, List.forall_mem_cons.mpr ⟨lw_p11, List.forall_mem_cons.mpr ⟨lw_p12, List.forall_mem_cons.mpr ⟨lw_p13, List.forall_mem_cons.mpr ⟨lw_p14, List.forall_mem_cons.mpr ⟨lw_p15, fun _ h => absurd h List.not_mem_nil⟩⟩⟩⟩⟩⟩⟩⟩⟩⟩⟩⟩⟩⟩⟩⟩
theorem lw_p16 : lw_okq (⟨"Tollkeeper", "isTaken", "(LTollkeeper$Text;)Z"⟩, 17) := ⟨⟨by decide +kernel, by decide +kernel⟩, List.mem_of_getElem? (i := 21) (by decide +kernel), List.mem_of_getElem? (i := 552) (by decide +kernel), List.mem_of_getElem? (i := 553) (by decide +kernel)⟩
theorem lw_p17 : lw_okq (⟨"Tollkeeper", "putInOrder", "(LTollkeeper$Plate;)V"⟩, 17) := ⟨⟨by decide +kernel, by decide +kernel⟩, List.mem_of_getElem? (i := 21) (by decide +kernel), List.mem_of_getElem? (i := 615) (by decide +kernel), List.mem_of_getElem? (i := 616) (by decide +kernel)⟩
theorem lw_p18 : lw_okq (⟨"Tollkeeper", "plateNumbered", "(I)LTollkeeper$Plate;"⟩, 17) := ⟨⟨by decide +kernel, by decide +kernel⟩, List.mem_of_getElem? (i := 21) (by decide +kernel), List.mem_of_getElem? (i := 633) (by decide +kernel), List.mem_of_getElem? (i := 634) (by decide +kernel)⟩
theorem lw_p19 : lw_okq (⟨"Tollkeeper", "requireMinute", "(I)V"⟩, 17) := ⟨⟨by decide +kernel, by decide +kernel⟩, List.mem_of_getElem? (i := 21) (by decide +kernel), List.mem_of_getElem? (i := 659) (by decide +kernel), List.mem_of_getElem? (i := 660) (by decide +kernel)⟩
theorem lw_p20 : lw_okq (⟨"Tollkeeper", "readingNumbered", "(I)LTollkeeper$Reading;"⟩, 17) := ⟨⟨by decide +kernel, by decide +kernel⟩, List.mem_of_getElem? (i := 21) (by decide +kernel), List.mem_of_getElem? (i := 716) (by decide +kernel), List.mem_of_getElem? (i := 717) (by decide +kernel)⟩
theorem lw_p21 : lw_okq (⟨"Tollkeeper$Passings", "beginningsAhead", "(I)I"⟩, 3) := ⟨⟨by decide +kernel, by decide +kernel⟩, List.mem_of_getElem? (i := 103) (by decide +kernel), List.mem_of_getElem? (i := 754) (by decide +kernel), List.mem_of_getElem? (i := 755) (by decide +kernel)⟩
theorem lw_p22 : lw_okq (⟨"Tollkeeper", "joinAnew", "(LTollkeeper$Plate;)LTollkeeper$Passings;"⟩, 17) := ⟨⟨by decide +kernel, by decide +kernel⟩, List.mem_of_getElem? (i := 21) (by decide +kernel), List.mem_of_getElem? (i := 765) (by decide +kernel), List.mem_of_getElem? (i := 766) (by decide +kernel)⟩
theorem lw_p23 : lw_okq (⟨"Tollkeeper", "warrantNumbered", "(I)LTollkeeper$Warrant;"⟩, 17) := ⟨⟨by decide +kernel, by decide +kernel⟩, List.mem_of_getElem? (i := 21) (by decide +kernel), List.mem_of_getElem? (i := 866) (by decide +kernel), List.mem_of_getElem? (i := 867) (by decide +kernel)⟩
theorem lw_p24 : lw_okq (⟨"TollkeeperModel", "measures", "()V"⟩, 36) := ⟨⟨by decide +kernel, by decide +kernel⟩, List.mem_of_getElem? (i := 910) (by decide +kernel), List.mem_of_getElem? (i := 916) (by decide +kernel), List.mem_of_getElem? (i := 917) (by decide +kernel)⟩
theorem lw_p25 : lw_okq (⟨"TollkeeperModel", "can", "(I)Z"⟩, 36) := ⟨⟨by decide +kernel, by decide +kernel⟩, List.mem_of_getElem? (i := 910) (by decide +kernel), List.mem_of_getElem? (i := 1041) (by decide +kernel), List.mem_of_getElem? (i := 1042) (by decide +kernel)⟩
theorem lw_p26 : lw_okq (⟨"TollkeeperModel", "puts", "(II)I"⟩, 36) := ⟨⟨by decide +kernel, by decide +kernel⟩, List.mem_of_getElem? (i := 910) (by decide +kernel), List.mem_of_getElem? (i := 1075) (by decide +kernel), List.mem_of_getElem? (i := 1076) (by decide +kernel)⟩
theorem lw_p27 : lw_okq (⟨"TollkeeperModel", "chars", "()I"⟩, 36) := ⟨⟨by decide +kernel, by decide +kernel⟩, List.mem_of_getElem? (i := 910) (by decide +kernel), List.mem_of_getElem? (i := 1079) (by decide +kernel), List.mem_of_getElem? (i := 1080) (by decide +kernel)⟩
theorem lw_p28 : lw_okq (⟨"TollkeeperModel", "isPlain", "()Z"⟩, 36) := ⟨⟨by decide +kernel, by decide +kernel⟩, List.mem_of_getElem? (i := 910) (by decide +kernel), List.mem_of_getElem? (i := 1115) (by decide +kernel), List.mem_of_getElem? (i := 1116) (by decide +kernel)⟩
theorem lw_p29 : lw_okq (⟨"TollkeeperModel", "isTaken", "()Z"⟩, 36) := ⟨⟨by decide +kernel, by decide +kernel⟩, List.mem_of_getElem? (i := 910) (by decide +kernel), List.mem_of_getElem? (i := 1119) (by decide +kernel), List.mem_of_getElem? (i := 1120) (by decide +kernel)⟩
theorem lw_p30 : lw_okq (⟨"TollkeeperModel", "holds", "(II)V"⟩, 36) := ⟨⟨by decide +kernel, by decide +kernel⟩, List.mem_of_getElem? (i := 910) (by decide +kernel), List.mem_of_getElem? (i := 1123) (by decide +kernel), List.mem_of_getElem? (i := 1124) (by decide +kernel)⟩
theorem lw_p31 : lw_okq (⟨"TollkeeperModel", "isPlate", "(I)Z"⟩, 36) := ⟨⟨by decide +kernel, by decide +kernel⟩, List.mem_of_getElem? (i := 910) (by decide +kernel), List.mem_of_getElem? (i := 1131) (by decide +kernel), List.mem_of_getElem? (i := 1132) (by decide +kernel)⟩
def lw_privs_2 : List (MethodName × Nat) := [(⟨"Tollkeeper", "isTaken", "(LTollkeeper$Text;)Z"⟩, 17), (⟨"Tollkeeper", "putInOrder", "(LTollkeeper$Plate;)V"⟩, 17), (⟨"Tollkeeper", "plateNumbered", "(I)LTollkeeper$Plate;"⟩, 17), (⟨"Tollkeeper", "requireMinute", "(I)V"⟩, 17), (⟨"Tollkeeper", "readingNumbered", "(I)LTollkeeper$Reading;"⟩, 17), (⟨"Tollkeeper$Passings", "beginningsAhead", "(I)I"⟩, 3), (⟨"Tollkeeper", "joinAnew", "(LTollkeeper$Plate;)LTollkeeper$Passings;"⟩, 17), (⟨"Tollkeeper", "warrantNumbered", "(I)LTollkeeper$Warrant;"⟩, 17), (⟨"TollkeeperModel", "measures", "()V"⟩, 36), (⟨"TollkeeperModel", "can", "(I)Z"⟩, 36), (⟨"TollkeeperModel", "puts", "(II)I"⟩, 36), (⟨"TollkeeperModel", "chars", "()I"⟩, 36), (⟨"TollkeeperModel", "isPlain", "()Z"⟩, 36), (⟨"TollkeeperModel", "isTaken", "()Z"⟩, 36), (⟨"TollkeeperModel", "holds", "(II)V"⟩, 36), (⟨"TollkeeperModel", "isPlate", "(I)Z"⟩, 36)]
theorem lw_r2 : ∀ q ∈ lw_privs_2, lw_okq q := List.forall_mem_cons.mpr ⟨lw_p16, List.forall_mem_cons.mpr ⟨lw_p17, List.forall_mem_cons.mpr ⟨lw_p18, List.forall_mem_cons.mpr ⟨lw_p19, List.forall_mem_cons.mpr ⟨lw_p20, List.forall_mem_cons.mpr ⟨lw_p21, List.forall_mem_cons.mpr ⟨lw_p22, List.forall_mem_cons.mpr ⟨lw_p23, List.forall_mem_cons.mpr ⟨lw_p24, List.forall_mem_cons.mpr ⟨lw_p25, List.forall_mem_cons.mpr ⟨lw_p26, List.forall_mem_cons.mpr ⟨lw_p27, List.forall_mem_cons.mpr ⟨lw_p28, List.forall_mem_cons.mpr ⟨lw_p29, List.forall_mem_cons.mpr ⟨lw_p30, List.forall_mem_cons.mpr ⟨lw_p31, fun _ h => absurd h List.not_mem_nil⟩⟩⟩⟩⟩⟩⟩⟩⟩⟩⟩⟩⟩⟩⟩⟩
theorem lw_p32 : lw_okq (⟨"TollkeeperModel", "holderAt", "(II)I"⟩, 36) := ⟨⟨by decide +kernel, by decide +kernel⟩, List.mem_of_getElem? (i := 910) (by decide +kernel), List.mem_of_getElem? (i := 1135) (by decide +kernel), List.mem_of_getElem? (i := 1136) (by decide +kernel)⟩
theorem lw_p33 : lw_okq (⟨"TollkeeperModel", "isAhead", "(II)Z"⟩, 36) := ⟨⟨by decide +kernel, by decide +kernel⟩, List.mem_of_getElem? (i := 910) (by decide +kernel), List.mem_of_getElem? (i := 1147) (by decide +kernel), List.mem_of_getElem? (i := 1148) (by decide +kernel)⟩
theorem lw_p34 : lw_okq (⟨"TollkeeperModel", "signAt", "(II)I"⟩, 36) := ⟨⟨by decide +kernel, by decide +kernel⟩, List.mem_of_getElem? (i := 910) (by decide +kernel), List.mem_of_getElem? (i := 1151) (by decide +kernel), List.mem_of_getElem? (i := 1152) (by decide +kernel)⟩
theorem lw_p35 : lw_okq (⟨"TollkeeperModel", "isReading", "(I)Z"⟩, 36) := ⟨⟨by decide +kernel, by decide +kernel⟩, List.mem_of_getElem? (i := 910) (by decide +kernel), List.mem_of_getElem? (i := 1167) (by decide +kernel), List.mem_of_getElem? (i := 1168) (by decide +kernel)⟩
theorem lw_p36 : lw_okq (⟨"TollkeeperModel", "plateFor", "(I)I"⟩, 36) := ⟨⟨by decide +kernel, by decide +kernel⟩, List.mem_of_getElem? (i := 910) (by decide +kernel), List.mem_of_getElem? (i := 1171) (by decide +kernel), List.mem_of_getElem? (i := 1172) (by decide +kernel)⟩
theorem lw_p37 : lw_okq (⟨"TollkeeperModel", "costOf", "(II)I"⟩, 36) := ⟨⟨by decide +kernel, by decide +kernel⟩, List.mem_of_getElem? (i := 910) (by decide +kernel), List.mem_of_getElem? (i := 1175) (by decide +kernel), List.mem_of_getElem? (i := 1176) (by decide +kernel)⟩
theorem lw_p38 : lw_okq (⟨"TollkeeperModel", "joins", "(I)I"⟩, 36) := ⟨⟨by decide +kernel, by decide +kernel⟩, List.mem_of_getElem? (i := 910) (by decide +kernel), List.mem_of_getElem? (i := 1195) (by decide +kernel), List.mem_of_getElem? (i := 1196) (by decide +kernel)⟩
theorem lw_p39 : lw_okq (⟨"TollkeeperModel", "joinsAgain", "(I)I"⟩, 36) := ⟨⟨by decide +kernel, by decide +kernel⟩, List.mem_of_getElem? (i := 910) (by decide +kernel), List.mem_of_getElem? (i := 1199) (by decide +kernel), List.mem_of_getElem? (i := 1200) (by decide +kernel)⟩
theorem lw_p40 : lw_okq (⟨"TollkeeperModel", "next", "(II)I"⟩, 36) := ⟨⟨by decide +kernel, by decide +kernel⟩, List.mem_of_getElem? (i := 910) (by decide +kernel), List.mem_of_getElem? (i := 1203) (by decide +kernel), List.mem_of_getElem? (i := 1204) (by decide +kernel)⟩
theorem lw_p41 : lw_okq (⟨"TollkeeperModel", "isBefore", "(II)Z"⟩, 36) := ⟨⟨by decide +kernel, by decide +kernel⟩, List.mem_of_getElem? (i := 910) (by decide +kernel), List.mem_of_getElem? (i := 1207) (by decide +kernel), List.mem_of_getElem? (i := 1208) (by decide +kernel)⟩
theorem lw_p42 : lw_okq (⟨"TollkeeperModel", "begins", "(II)Z"⟩, 36) := ⟨⟨by decide +kernel, by decide +kernel⟩, List.mem_of_getElem? (i := 910) (by decide +kernel), List.mem_of_getElem? (i := 1211) (by decide +kernel), List.mem_of_getElem? (i := 1212) (by decide +kernel)⟩
theorem lw_p43 : lw_okq (⟨"TollkeeperModel", "isTrip", "(II)Z"⟩, 36) := ⟨⟨by decide +kernel, by decide +kernel⟩, List.mem_of_getElem? (i := 910) (by decide +kernel), List.mem_of_getElem? (i := 1227) (by decide +kernel), List.mem_of_getElem? (i := 1228) (by decide +kernel)⟩
theorem lw_p44 : lw_okq (⟨"TollkeeperModel", "tollOf", "(II)I"⟩, 36) := ⟨⟨by decide +kernel, by decide +kernel⟩, List.mem_of_getElem? (i := 910) (by decide +kernel), List.mem_of_getElem? (i := 1231) (by decide +kernel), List.mem_of_getElem? (i := 1232) (by decide +kernel)⟩
theorem lw_p45 : lw_okq (⟨"TollkeeperModel", "firstOf", "(II)I"⟩, 36) := ⟨⟨by decide +kernel, by decide +kernel⟩, List.mem_of_getElem? (i := 910) (by decide +kernel), List.mem_of_getElem? (i := 1235) (by decide +kernel), List.mem_of_getElem? (i := 1236) (by decide +kernel)⟩
theorem lw_p46 : lw_okq (⟨"TollkeeperModel", "dueFrom", "(I)I"⟩, 36) := ⟨⟨by decide +kernel, by decide +kernel⟩, List.mem_of_getElem? (i := 910) (by decide +kernel), List.mem_of_getElem? (i := 1247) (by decide +kernel), List.mem_of_getElem? (i := 1248) (by decide +kernel)⟩
theorem lw_p47 : lw_okq (⟨"TollkeeperModel", "isWarrant", "(I)Z"⟩, 36) := ⟨⟨by decide +kernel, by decide +kernel⟩, List.mem_of_getElem? (i := 910) (by decide +kernel), List.mem_of_getElem? (i := 1275) (by decide +kernel), List.mem_of_getElem? (i := 1276) (by decide +kernel)⟩
def lw_privs_3 : List (MethodName × Nat) := [(⟨"TollkeeperModel", "holderAt", "(II)I"⟩, 36), (⟨"TollkeeperModel", "isAhead", "(II)Z"⟩, 36), (⟨"TollkeeperModel", "signAt", "(II)I"⟩, 36), (⟨"TollkeeperModel", "isReading", "(I)Z"⟩, 36), (⟨"TollkeeperModel", "plateFor", "(I)I"⟩, 36), (⟨"TollkeeperModel", "costOf", "(II)I"⟩, 36), (⟨"TollkeeperModel", "joins", "(I)I"⟩, 36), (⟨"TollkeeperModel", "joinsAgain", "(I)I"⟩, 36), (⟨"TollkeeperModel", "next", "(II)I"⟩, 36), (⟨"TollkeeperModel", "isBefore", "(II)Z"⟩, 36), (⟨"TollkeeperModel", "begins", "(II)Z"⟩, 36), (⟨"TollkeeperModel", "isTrip", "(II)Z"⟩, 36), (⟨"TollkeeperModel", "tollOf", "(II)I"⟩, 36), (⟨"TollkeeperModel", "firstOf", "(II)I"⟩, 36), (⟨"TollkeeperModel", "dueFrom", "(I)I"⟩, 36), (⟨"TollkeeperModel", "isWarrant", "(I)Z"⟩, 36)]
theorem lw_r3 : ∀ q ∈ lw_privs_3, lw_okq q := List.forall_mem_cons.mpr ⟨lw_p32, List.forall_mem_cons.mpr ⟨lw_p33, List.forall_mem_cons.mpr ⟨lw_p34, List.forall_mem_cons.mpr ⟨lw_p35, List.forall_mem_cons.mpr ⟨lw_p36, List.forall_mem_cons.mpr ⟨lw_p37, List.forall_mem_cons.mpr ⟨lw_p38, List.forall_mem_cons.mpr ⟨lw_p39, List.forall_mem_cons.mpr ⟨lw_p40, List.forall_mem_cons.mpr ⟨lw_p41, List.forall_mem_cons.mpr ⟨lw_p42, List.forall_mem_cons.mpr ⟨lw_p43, List.forall_mem_cons.mpr ⟨lw_p44, List.forall_mem_cons.mpr ⟨lw_p45, List.forall_mem_cons.mpr ⟨lw_p46, List.forall_mem_cons.mpr ⟨lw_p47, fun _ h => absurd h List.not_mem_nil⟩⟩⟩⟩⟩⟩⟩⟩⟩⟩⟩⟩⟩⟩⟩⟩
theorem lw_p48 : lw_okq (⟨"TollkeeperModel", "shows", "(II)I"⟩, 36) := ⟨⟨by decide +kernel, by decide +kernel⟩, List.mem_of_getElem? (i := 910) (by decide +kernel), List.mem_of_getElem? (i := 1279) (by decide +kernel), List.mem_of_getElem? (i := 1280) (by decide +kernel)⟩
def lw_privs_4 : List (MethodName × Nat) := [(⟨"TollkeeperModel", "shows", "(II)I"⟩, 36)]
theorem lw_r4 : ∀ q ∈ lw_privs_4, lw_okq q := List.forall_mem_cons.mpr ⟨lw_p48, fun _ h => absurd h List.not_mem_nil⟩
def lw_privs : List (MethodName × Nat) := lw_privs_1 ++ (lw_privs_2 ++ (lw_privs_3 ++ (lw_privs_4)))
def lw_tbl : List Cond := k2_sels lw_privs ++ tables_1
theorem lw_privs_ok : ∀ q ∈ lw_privs, lw_okq q := by
  show ∀ q ∈ lw_privs_1 ++ (lw_privs_2 ++ (lw_privs_3 ++ (lw_privs_4))), lw_okq q
  exact List.forall_mem_append.mpr ⟨lw_r1, List.forall_mem_append.mpr ⟨lw_r2, List.forall_mem_append.mpr ⟨lw_r3, lw_r4⟩⟩⟩
-- ===== end of PART A; then your names; then what follows =====
/-! ===== BEGIN words of one list among another's, by their places ===== -/
theorem goodIn_r {big : List Cond} (ws : List Cond) (ps : List Nat) (hp : ws = ps.filterMap (fun i => big[i]?)) (h : ws.all goodWord = true) : GoodIn big ws := by
  intro w hw
  have h1 := List.all_eq_true.mp h w hw
  rw [hp] at hw
  obtain ⟨i, -, hi⟩ := List.mem_filterMap.mp hw
  have hm : w ∈ big := by first | exact List.mem_of_getElem? hi | exact List.getElem?_mem hi
  exact ⟨hm, good_of_word h1⟩
theorem goodIn_app {big a b : List Cond} (ha : GoodIn big a) (hb : GoodIn big b) : GoodIn big (a ++ b) := fun w h => (List.mem_append.mp h).elim (ha w) (hb w)
theorem goodIn_ca {big a b : List Cond} {c : Cond} (ha : GoodIn big (c :: a)) (hb : GoodIn big b) : GoodIn big (c :: (a ++ b)) := fun w h => (List.mem_cons.mp h).elim (fun e => ha w (List.mem_cons.mpr (Or.inl e))) (fun h => (List.mem_append.mp h).elim (fun h => ha w (List.mem_cons.mpr (Or.inr h))) (hb w))
theorem goodIn_sub {big ws : List Cond} (hm : ∀ w ∈ ws, w ∈ big) (h : ws.all goodWord = true) : GoodIn big ws := fun w hw => ⟨hm w hw, good_of_word (List.all_eq_true.mp h w hw)⟩
/-! ===== END ===== -/

/-! ===== BEGIN new T[n][m]: the outer array a place, the inner ones among the pooled ===== -/
/-- f, but v at every address of l -/
def vr_up {α : Type} (f : Nat → α) (l : List Nat) (v : α) : Nat → α := fun a => if a ∈ l then v else f a
theorem vr_up_in {α : Type} {f : Nat → α} {l : List Nat} {v : α} {a : Nat} (h : a ∈ l) : vr_up f l v a = v := if_pos h
theorem vr_up_ne {α : Type} {f : Nat → α} {l : List Nat} {v : α} {a : Nat} (h : a ∉ l) : vr_up f l v a = f a := if_neg h
theorem vr_rows {L l : List Nat} {f : Nat → va_E} {e : va_E} (h : ∀ a, a ∈ l → a ∉ L) : va_pl L f ++ l.map (fun a => (a, e)) = va_pl (L ++ l) (vr_up f l e) := by
  unfold va_pl
  rw [List.map_append]
  congr 1
  · apply List.map_congr_left
    intro a ha
    rw [vr_up_ne (fun q => h a q ha)]
  · apply List.map_congr_left
    intro a ha
    rw [vr_up_in ha]
theorem vr_lay {X rows : va_W} {x : Nat × va_E} {pl : va_W} {D : va_G} {cl : List vw_C} {H : Heap} (hP : va_P D cl (((X ++ pl) ++ [x]) ++ rows) H) : va_P D cl ((X ++ [x]) ++ (pl ++ rows)) H := by
  rw [List.append_assoc (X ++ pl)] at hP
  have h := va_P.swap hP
  rw [← List.append_assoc X] at h
  have h2 := va_P.swap h
  rw [List.append_assoc (X ++ [x])] at h2
  exact h2
theorem vr_layD {X rows : va_W} {x : Nat × va_E} {pl : va_W} {A : Nat → Prop} (hD : va_D A (((X ++ pl) ++ [x]) ++ rows)) : va_D A ((X ++ [x]) ++ (pl ++ rows)) := by
  rw [List.append_assoc (X ++ pl)] at hD
  have h := va_D.swap hD
  rw [← List.append_assoc X] at h
  have h2 := va_D.swap h
  rw [List.append_assoc (X ++ [x])] at h2
  exact h2
theorem vr_outer (c : ClassId) (N h0 : Nat) : ∀ i : Nat, Jvm.Free.Multi.outerC c N h0 i = arrV c N (fun j => va_rf (if j < i then some (h0 + 1 + j) else none))
  | 0 => by
    show ({ cls := c, slots := Array.replicate N .null, vm := .none } : Cell) = _
    rw [arrV_new]
    refine congrArg (arrV c N) (funext fun j => ?_)
    simp [va_rf]
  | i + 1 => by
    show (Jvm.Free.Multi.outerC c N h0 i).setSlot i (.ref (h0 + 1 + i)) = _
    rw [vr_outer c N h0 i, arrV_store]
    refine congrArg (arrV c N) (funext fun j => ?_)
    by_cases e : j = i
    · subst e
      simp [updV, va_rf]
    · by_cases h : j < i
      · simp [updV, e, h, Nat.lt_succ_of_lt h]
      · simp [updV, e, h, show ¬ j < i + 1 by omega]
/-! ===== END ===== -/

/-! ===== BEGIN exceptions that leave a method, and their catching by the caller (launches without stack traces) ===== -/
section VXA
/-! The laws vx_back, vx_callV, vx_callS, vx_callSW, vx_throw0, vx_throwS follow proofs of the library, with one case more: JvmDerived/Free/Laws.lean (Back.of_free), Shelf42/LK1.lean (callV, callS), Shelf/KitTraced.lean (throwNew0V, throwNewS). -/
/-- where a method has thrown q: the class by its name, the cell, what was written, the world -/
def vx_T (XC : String → State → State → Prop) (st : State) (q : Addr) (t : State) (mc ms : Nat) (free : Addr → Prop) : Prop :=
  ∃ (E : String) (ce : Cell) (L : List Loc), XC E st t ∧ t.heap[q]? = some ce ∧ ce.vm = .none ∧ st.vm.findClass E = some ce.cls ∧ st.WarmedH t.vm ∧ st.sameButNew ({ t with vm := st.vm } : State) L mc ms ∧ ∀ z ∈ L, free z.base
def vx_Q (Qc : Array Value → State → Outcome → State → Prop) (XC : String → State → State → Prop) (mc ms : Nat) (free : Addr → Prop) : Array Value → State → Outcome → State → Prop := fun a st o t =>
  (Qc a st o t ∧ ∃ L, FrameEnd st o t L mc ms ∧ ∀ q ∈ L, free q.base) ∨ ∃ q, o = .threw q ∧ vx_T XC st q t mc ms free
/-- a callee that returns or throws -/
def vx_Met (l : Launch) (y : MethodName) (ws : List Cond) (rm : Room) (Pc : Array Value → State → Prop) (Qc : Array Value → State → Outcome → State → Prop) (XC : String → State → State → Prop) (mc ms : Nat) (free : Addr → Prop) : Prop :=
  MetFree l y (headSpec ws rm) Pc (fun _ _ _ _ _ => True) (vx_Q Qc XC mc ms free)
def vx_Post (XC : String → State → State → Prop) (mc ms : Nat) (free : Addr → Prop) : Pt → Array Value → Addr → Pt → Prop := fun A a q B =>
  ∃ (g : JFrame) (mk : MethodId) (t : State) (L : List Loc) (E : String) (ce : Cell), B.U.heap = t.heap ∧ B.U.vm = t.vm ∧ XC E (A.U.calling g mk a) t ∧ t.heap[q]? = some ce ∧ ce.vm = .none ∧ A.U.vm.findClass E = some ce.cls ∧ B.locs = A.locs ++ L ∧ (∀ z ∈ L, free z.base) ∧ B.cells = A.cells + mc ∧ B.slots = A.slots + ms
def vx_Back (l : Launch) (R : Room) (p : Program) (e : Env) (below : List Frame) (s : State) (sargs : Array Value) (y : MethodName) (len W9 : Nat)
    (Pre : Pt → Array Value → Prop) (Post : Pt → Array Value → Option Value → Pt → Prop) (PostX : Pt → Array Value → Addr → Pt → Prop) : Prop :=
  ∀ (m : MethodId) (meth : Method) (c : Code) (A : Pt) (g : JFrame) (ig : Instr) (mk : MethodId) (a : Array Value),
    Stand p l e R s m sargs below meth c A.U A.locs A.cells A.slots → g.method = m → g.locals.size = c.maxLocals → decode c.code g.pc = .ok (ig, len) →
    2 * g.monitorRoom + (g.stack.map fun v => v.category).sum ≤ W9 → A.U.methodNamed? y = some mk → Pre A a →
    (∃ (v : Option Value) (B : Pt), Stand p l e R s m sargs below meth c B.U B.locs B.cells B.slots ∧ Post A a v B ∧
      Steps p.tables e below (doInvoke e (A.U.setTop g) [] mk a).1 (B.U.setTop { g with pc := g.pc + len, stack := v.toList ++ g.stack })) ∨
    (∃ (q : Addr) (B : Pt), Stand p l e R s m sargs below meth c B.U B.locs B.cells B.slots ∧ PostX A a q B ∧
      Steps p.tables e below (doInvoke e (A.U.setTop g) [] mk a).1 ((B.U.setTop g).pushFrame (.throwing q)))
section Payer
variable {l : Launch} {R : Room} {p : Program} {e : Env} {below : List Frame} {s : State} {sargs : Array Value} {y : MethodName} {len W9 : Nat}
theorem vx_back {ws : List Cond} {rm : Room} {Pc : Array Value → State → Prop} {Qc : Array Value → State → Outcome → State → Prop} {XC : String → State → State → Prop} {mc ms : Nat} {free : Addr → Prop} {bytes : ByteArray} {maxL : Nat} {ret : Option FieldType}
    (hM : vx_Met l y ws rm Pc Qc XC mc ms free) (hblind : FrameBlind Pc) (hrc : rm.cells = mc) (hrs : rm.slots = ms)
    (hframes : rm.frames + 1 ≤ R.frames) (hlocals : W9 + (maxL + 11) + rm.locals ≤ R.locals)
    (hws : ∀ w ∈ ws, ∀ a' U, s.WarmedH U.vm → w.before a' U = true) (hcode : Cond.code y bytes maxL ret ∈ ws) (hinit : ∀ a' U, s.WarmedH U.vm → (Cond.initialized y.cls).before a' U = true) :
    vx_Back l R p e below s sargs y len W9 (PreOf R mc ms Pc) (PostOf Qc mc ms free) (vx_Post XC mc ms free) := by
  intro m meth c A g ig mk a X hg hsize hdg hW hn hp
  have h1 : (headSpec ws rm).pre.before a A.U = true := atoms_intro fun w hw => hws w hw _ _ X.warmed
  have h2 : (Cond.code y bytes maxL ret).before a A.U = true := hws _ hcode _ _ X.warmed
  have h3 : (Cond.initialized y.cls).before a A.U = true := hinit _ _ X.warmed
  have h4 : A.cells + (headSpec ws rm).room.cells ≤ R.cells := by rw [show (headSpec ws rm).room.cells = mc from hrc]; exact hp.1
  have h5 : A.slots + (headSpec ws rm).room.slots ≤ R.slots := by rw [show (headSpec ws rm).room.slots = ms from hrs]; exact hp.2.1
  have hPc : Pc a (A.U.calling g mk a) := hblind _ _ _ _ hp.2.2
  obtain ⟨U, Ls, c0, s0⟩ := A
  dsimp only [Pt.U, Pt.locs, Pt.cells, Pt.slots] at h1 h2 h3 h4 h5 X hn hPc ⊢
  obtain ⟨methY, cY, hmY, hcY, -, hlY, -, -, -, -⟩ := Cond.code_spec hn h2
  obtain ⟨kY, hkY, -⟩ := className_of_methodNamed hn
  have hinitY : kY.init = .initialized := Cond.initialized_spec (findClass_of_methodNamed hn) hkY h3
  have h : At U g.method c below := by rw [hg]; exact X.here
  have hlocals9 : W9 + (maxL + 11) + (headSpec ws rm).room.locals ≤ R.locals := hlocals
  have happ : (headSpec ws rm).appliesLoose y e.platform (U.calling g mk a) = true :=
    Spec.appliesLoose_calling (g := g) h hdg hn hkY hinitY
      (X.room_calling (g := g) (R' := (headSpec ws rm).room) hsize hmY hcY hframes (by rw [hlY]; omega) h4 h5) h1
  obtain ⟨mid, hmid⟩ := h.above
  have hfr : (U.setTop g).frames = (.java g :: mid) ++ below := by rw [State.frames_setTop' g h.top, hmid]; rfl
  obtain ⟨o, s₂, hsteps, -, hend, hq⟩ := Steps.callFree hM p X.admits X.cas X.clock (acts := []) hfr happ hPc trivial
  have hq' : vx_Q Qc XC mc ms free a (U.calling g mk a) o s₂ := hq
  rw [State.frames_setTop' g h.top] at hend
  obtain ⟨g₀, hg0⟩ := Option.isSome_iff_exists.mp h.top
  obtain ⟨r, hr⟩ := State.topJava?_eq_some.mp hg0
  have hr' : (({ U with heap := s₂.heap, slotsUsed := s₂.slotsUsed } : State).setVm s₂.vm).frames = .java g₀ :: r := hr
  rcases hq' with ⟨hqc, L, hfe, hL⟩ | ⟨q, rfl, E, ce, L, hx, hce, hcv, hcl, hW₂, hsm, hL⟩
  · obtain ⟨⟨v, rfl⟩, hW₂, e2, q2, q3, q4, q5, q6⟩ := id hfe
    have e3 : s₂ = ({ (U.calling g mk a).setFrames s₂.frames with heap := s₂.heap, slotsUsed := s₂.slotsUsed } : State).setVm s₂.vm := by
      have : s₂ = ({ s₂ with vm := (U.calling g mk a).vm } : State).setVm s₂.vm := rfl
      rw [e2] at this
      exact this
    obtain ⟨c₂, i₂, len₂, hc₂, hd₂, hf₂⟩ := hend
    have hW' : U.WarmedH s₂.vm := hW₂
    have hcc : c₂ = c := by
      have h1 : s₂.code? g.method = U.code? g.method := by
        rw [State.code?_eq, State.code?_eq, hW'.alike.method?]
      exact Option.some.inj (hc₂.symm.trans (h1.trans h.code))
    subst hcc
    have hlen : len₂ = len := by rw [hdg] at hd₂; cases hd₂; rfl
    subst hlen
    have hs₂ : s₂ = (({ U with heap := s₂.heap, slotsUsed := s₂.slotsUsed } : State).setVm s₂.vm).setTop { g with pc := g.pc + len₂, stack := v.toList ++ g.stack } := by
      refine e3.trans ?_
      rw [hf₂, State.calling_eq h.top, State.setFrames_setFrames, State.setTop_of_frames _ hr', hr]
      rfl
    have hsame : U.sameButNew ({ U with heap := s₂.heap, slotsUsed := s₂.slotsUsed } : State) L mc ms := by
      refine ⟨?_, q2, q3, q4, q5, q6⟩
      obtain ⟨t, ht, -⟩ := State.frames_cons hr
      show ({ U with heap := s₂.heap, slotsUsed := s₂.slotsUsed } : State) = { U.setFrames U.frames with heap := s₂.heap, slotsUsed := s₂.slotsUsed }
      rw [State.setFrames_self ht]
    subst hg
    refine Or.inl ⟨v, ⟨(({ U with heap := s₂.heap, slotsUsed := s₂.slotsUsed } : State).setVm s₂.vm), Ls ++ L, c0 + mc, s0 + ms⟩,
      ⟨X.admits, X.cas, X.clock, X.frames, X.room, X.hears, X.method, X.code, (X.here.setHeapUsed s₂.heap s₂.slotsUsed).setVm hW'.alike, X.tail, State.WarmedH.trans X.warmed hW', X.limits, X.bytes, X.same.trans (hsame.setVm s.vm)⟩,
      ⟨g, mk, s₂, L, rfl, rfl, hqc, rfl, hL, rfl, rfl⟩, ?_⟩
    show Steps p.tables e below _ ((({ U with heap := s₂.heap, slotsUsed := s₂.slotsUsed } : State).setVm s₂.vm).setTop { g with pc := g.pc + len₂, stack := v.toList ++ g.stack })
    rw [← hs₂]
    exact hsteps
  · obtain ⟨e2, q2, q3, q4, q5, q6⟩ := id hsm
    have e3 : s₂ = ({ (U.calling g mk a).setFrames s₂.frames with heap := s₂.heap, slotsUsed := s₂.slotsUsed } : State).setVm s₂.vm := by
      have : s₂ = ({ s₂ with vm := (U.calling g mk a).vm } : State).setVm s₂.vm := rfl
      rw [e2] at this
      exact this
    have hf₂ : s₂.frames = .throwing q :: .java g :: U.frames.tail := hend
    have hW' : U.WarmedH s₂.vm := hW₂
    have hs₂ : s₂ = ((({ U with heap := s₂.heap, slotsUsed := s₂.slotsUsed } : State).setVm s₂.vm).setTop g).pushFrame (.throwing q) := by
      refine e3.trans ?_
      rw [hf₂, State.calling_eq h.top, State.setFrames_setFrames, State.pushFrame, State.frames_setTop _ hr', State.setTop_of_frames _ hr', State.setFrames_setFrames, hr]
      rfl
    have hsame : U.sameButNew ({ U with heap := s₂.heap, slotsUsed := s₂.slotsUsed } : State) L mc ms := by
      refine ⟨?_, q2, q3, q4, q5, q6⟩
      obtain ⟨t, ht, -⟩ := State.frames_cons hr
      show ({ U with heap := s₂.heap, slotsUsed := s₂.slotsUsed } : State) = { U.setFrames U.frames with heap := s₂.heap, slotsUsed := s₂.slotsUsed }
      rw [State.setFrames_self ht]
    subst hg
    refine Or.inr ⟨q, ⟨(({ U with heap := s₂.heap, slotsUsed := s₂.slotsUsed } : State).setVm s₂.vm), Ls ++ L, c0 + mc, s0 + ms⟩,
      ⟨X.admits, X.cas, X.clock, X.frames, X.room, X.hears, X.method, X.code, (X.here.setHeapUsed s₂.heap s₂.slotsUsed).setVm hW'.alike, X.tail, State.WarmedH.trans X.warmed hW', X.limits, X.bytes, X.same.trans (hsame.setVm s.vm)⟩,
      ⟨g, mk, s₂, L, E, ce, rfl, rfl, hx, hce, hcv, hcl, rfl, hL, rfl, rfl⟩, ?_⟩
    show Steps p.tables e below _ (((({ U with heap := s₂.heap, slotsUsed := s₂.slotsUsed } : State).setVm s₂.vm).setTop g).pushFrame (.throwing q))
    rw [← hs₂]
    exact hsteps
end Payer
section Calls
variable {p : Program} {l : Launch} {e : Env} {R : Room} {s : State} {m : MethodId} {args : Array Value} {below : List Frame} {meth : Method} {c : Code} {T : State} {locs : List Loc} {cells slots : Nat}
theorem vx_callV (X : Stand p l e R s m args below meth c T locs cells slots) (hexec : p.tables.exec = Jvm.exec) {own C : String} {index : Nat} {y : MethodName} {bytes : ByteArray} {maxL : Nat} {ret : Option FieldType}
    (hown : s.vm.findClass own = some m.cls) (hlink : (Cond.methodLink own index y).before args s = true) (hinst : (Cond.instanceMethod y).before args s = true) (hsel : (Cond.selects C y y).before args s = true)
    (hcode : (Cond.code y bytes maxL ret).before args s = true) (hy : y.cls ≠ "java/lang/invoke/MethodHandle" ∧ y.cls ≠ "java/lang/invoke/VarHandle")
    {W9 : Nat} {Pre : Pt → Array Value → Prop} {Post : Pt → Array Value → Option Value → Pt → Prop} {PostX : Pt → Array Value → Addr → Pt → Prop} (hK : vx_Back l R p e below s args y 3 W9 Pre Post PostX)
    {b : Addr} {cellB : Cell} (hcell : T.heap[b]? = some cellB) (hobj : cellB.vm.isStatics = false) (hcls : s.vm.findClass C = some cellB.cls)
    {g : JFrame} (hg : g.method = m) (hsize : g.locals.size = c.maxLocals) {argsL rest : List Value} (hlen : ∀ sig, parseMethodDescriptor y.desc = some sig → argsL.length = sig.parameters.length)
    (hstack : g.stack = argsL.reverse ++ .ref b :: rest) (hW : 2 * g.monitorRoom + (rest.map fun v => v.category).sum ≤ W9) (hdg : decode c.code g.pc = .ok (.invokevirtual index, 3))
    (hpre : ∀ vm₁, s.WarmedH vm₁ → Pre ⟨T.setVm vm₁, locs, cells, slots⟩ (Value.ref b :: argsL).toArray) :
    (∃ (v : Option Value) (vm₁ : Vm) (B : Pt), s.WarmedH vm₁ ∧ Stand p l e R s m args below meth c B.U B.locs B.cells B.slots ∧ Post ⟨T.setVm vm₁, locs, cells, slots⟩ (Value.ref b :: argsL).toArray v B ∧
      ∀ target, Steps p.tables e below (B.U.setTop { g with pc := g.pc + 3, stack := v.toList ++ rest }) target → Steps p.tables e below (T.setTop g) target) ∨
    (∃ (q : Addr) (vm₁ : Vm) (B : Pt), s.WarmedH vm₁ ∧ Stand p l e R s m args below meth c B.U B.locs B.cells B.slots ∧ PostX ⟨T.setVm vm₁, locs, cells, slots⟩ (Value.ref b :: argsL).toArray q B ∧
      Steps p.tables e below (T.setTop g) ((B.U.setTop { g with stack := rest }).pushFrame (.throwing q))) := by
  obtain ⟨mk, methM, hnamed, hmethM, hstM, habM⟩ := Cond.instanceMethod_spec hinst
  obtain ⟨methM', cM, hmethM', -, -, -, -, -, -, hsigM⟩ := Cond.code_spec hnamed hcode
  cases hmethM.symm.trans hmethM'
  obtain ⟨c2, r2, m2, q1, q2, q3, q4, kP, hkP, hkPi⟩ := Cond.selects_spec hsel
  cases hcls.symm.trans q1
  cases (State.methodFound?_of_named hnamed hy).symm.trans q2
  cases hnamed.symm.trans q3
  have hselP : selectMethod e.platform s.vm cellB.cls mk = .method mk := by rw [Launch.admits_selectMethod X.admits]; exact q4
  obtain ⟨vm₁, X₁, hstep₁⟩ := X.invokevirtual hexec hown hlink hnamed hmethM hstM hkP hkPi hy (a := b) (cell := cellB) hcell
    (fun z h => by rw [h] at hobj; cases hobj) hselP hmethM habM hkP hkPi (g := g) hg (argsL := argsL) (rest := rest) (hlen _ hsigM) hstack hdg
  rcases hK m meth c ⟨T.setVm vm₁, locs, cells, slots⟩ { g with stack := rest } (.invokevirtual index) mk (Value.ref b :: argsL).toArray X₁ hg hsize hdg hW (X₁.named hnamed) (hpre vm₁ X₁.warmed) with ⟨v, B, X', hpost, hsteps⟩ | ⟨q, B, X', hpost, hsteps⟩
  · exact Or.inl ⟨v, vm₁, B, X₁.warmed, X', hpost, fun target h => hstep₁ _ fun acts => by rw [doInvoke_state]; exact hsteps.trans h⟩
  · exact Or.inr ⟨q, vm₁, B, X₁.warmed, X', hpost, hstep₁ _ fun acts => by rw [doInvoke_state]; exact hsteps⟩
theorem vx_callS (X : Stand p l e R s m args below meth c T locs cells slots) (hexec : p.tables.exec = Jvm.exec) {own : String} {index : Nat} {y : MethodName} {bytes : ByteArray} {maxL : Nat} {ret : Option FieldType}
    (hown : s.vm.findClass own = some m.cls) (hlink : (Cond.methodLink own index y).before args s = true) (hstat : (Cond.static y).before args s = true) (hinit : (Cond.initialized y.cls).before args s = true)
    (hcode : (Cond.code y bytes maxL ret).before args s = true) (hy : y.cls ≠ "java/lang/invoke/MethodHandle" ∧ y.cls ≠ "java/lang/invoke/VarHandle")
    {W9 : Nat} {Pre : Pt → Array Value → Prop} {Post : Pt → Array Value → Option Value → Pt → Prop} {PostX : Pt → Array Value → Addr → Pt → Prop} (hK : vx_Back l R p e below s args y 3 W9 Pre Post PostX)
    {g : JFrame} (hg : g.method = m) (hsize : g.locals.size = c.maxLocals) {argsL rest : List Value} (hlen : ∀ sig, parseMethodDescriptor y.desc = some sig → argsL.length = sig.parameters.length)
    (hstack : g.stack = argsL.reverse ++ rest) (hW : 2 * g.monitorRoom + (rest.map fun v => v.category).sum ≤ W9) (hdg : decode c.code g.pc = .ok (.invokestatic index, 3))
    (hpre : ∀ vm₁, s.WarmedH vm₁ → Pre ⟨T.setVm vm₁, locs, cells, slots⟩ argsL.toArray) :
    (∃ (v : Option Value) (vm₁ : Vm) (B : Pt), s.WarmedH vm₁ ∧ Stand p l e R s m args below meth c B.U B.locs B.cells B.slots ∧ Post ⟨T.setVm vm₁, locs, cells, slots⟩ argsL.toArray v B ∧
      ∀ target, Steps p.tables e below (B.U.setTop { g with pc := g.pc + 3, stack := v.toList ++ rest }) target → Steps p.tables e below (T.setTop g) target) ∨
    (∃ (q : Addr) (vm₁ : Vm) (B : Pt), s.WarmedH vm₁ ∧ Stand p l e R s m args below meth c B.U B.locs B.cells B.slots ∧ PostX ⟨T.setVm vm₁, locs, cells, slots⟩ argsL.toArray q B ∧
      Steps p.tables e below (T.setTop g) ((B.U.setTop { g with stack := rest }).pushFrame (.throwing q))) := by
  obtain ⟨mk, hnamed⟩ := Cond.code_named hcode
  obtain ⟨methM, cM, hmethM, -, -, -, -, -, -, hsigM⟩ := Cond.code_spec hnamed hcode
  have hstatic : methM.isStatic = true := Cond.static_spec hnamed hmethM hstat
  obtain ⟨kP, hkP, -⟩ := className_of_methodNamed hnamed
  have hinitP : kP.init = .initialized := Cond.initialized_spec (findClass_of_methodNamed hnamed) hkP hinit
  obtain ⟨vm₁, X₁, hstep₁⟩ := X.invokestatic hexec hown hlink hnamed hmethM hstatic hkP hinitP hy (g := g) hg (argsL := argsL) (rest := rest) (hlen _ hsigM) hstack hdg
  rcases hK m meth c ⟨T.setVm vm₁, locs, cells, slots⟩ { g with stack := rest } (.invokestatic index) mk argsL.toArray X₁ hg hsize hdg hW (X₁.named hnamed) (hpre vm₁ X₁.warmed) with ⟨v, B, X', hpost, hsteps⟩ | ⟨q, B, X', hpost, hsteps⟩
  · exact Or.inl ⟨v, vm₁, B, X₁.warmed, X', hpost, fun target h => hstep₁ _ fun acts => by rw [doInvoke_state]; exact hsteps.trans h⟩
  · exact Or.inr ⟨q, vm₁, B, X₁.warmed, X', hpost, hstep₁ _ fun acts => by rw [doInvoke_state]; exact hsteps⟩
end Calls
theorem vx_cls {s : State} {T : State} {vm₁ : Vm} {E : String} {k : ClassId} (hW : s.WarmedH vm₁) (h : (T.setVm vm₁).vm.findClass E = some k) : s.vm.findClass E = some k := by
  have h1 : vm₁.findClass E = some k := h
  rw [hW.alike.findClass] at h1
  exact h1
/-- the method's frame g, with q thrown over it -/
def vx_W (p : Program) (l : Launch) (e : Env) (R : Room) (s : State) (m : MethodId) (args : Array Value) (below : List Frame) (meth : Method) (c : Code) (H : Heap) (locs : List Loc) (cells slots : Nat) (Q : State → Prop) (g : JFrame) (q : Addr) : Prop :=
  ∀ T : State, T.heap = H → Stand p l e R s m args below meth c T locs cells slots → ∃ t, Steps p.tables e below ((T.setTop g).pushFrame (.throwing q)) t ∧ Q t
def vx_Run (p : Program) (l : Launch) (e : Env) (R : Room) (s : State) (m : MethodId) (args : Array Value) (below : List Frame) (meth : Method) (c : Code) (H : Heap) (locs : List Loc) (cells slots mc ms : Nat) (g : JFrame) (rest : List Value) (Qa : State → Outcome → State → Prop) (XC : String → State → State → Prop) (free : Addr → Prop) : Prop :=
  ∀ T : State, T.heap = H → Stand p l e R s m args below meth c T locs cells slots →
    (∃ (v : Option Value) (st₀ t T' : State) (L : List Loc), st₀.heap = H ∧ Stand p l e R s m args below meth c T' (locs ++ L) (cells + mc) (slots + ms) ∧ (∀ q ∈ L, free q.base) ∧ T'.heap = t.heap ∧ T'.vm = t.vm ∧ Qa st₀ (.returned v) t ∧
      Goes p e below T g T' { g with pc := g.pc + 3, stack := v.toList ++ rest }) ∨
    (∃ (q : Addr) (st₀ t T' : State) (L : List Loc) (E : String) (ce : Cell), st₀.heap = H ∧ Stand p l e R s m args below meth c T' (locs ++ L) (cells + mc) (slots + ms) ∧ (∀ z ∈ L, free z.base) ∧ T'.heap = t.heap ∧ T'.vm = t.vm ∧ XC E st₀ t ∧ t.heap[q]? = some ce ∧ ce.vm = .none ∧ s.vm.findClass E = some ce.cls ∧
      Steps p.tables e below (T.setTop g) ((T'.setTop { g with stack := rest }).pushFrame (.throwing q)))
def vx_X {S : Type} (px : S → Prop) (B : String → S → State → Prop) (A : Nat → Prop) : String → State → State → Prop := fun E st t => ∃ u : S, px u ∧ B E u t ∧ va_F A st t
section Runs
variable {p : Program} {l : Launch} {e : Env} {R : Room} {s : State} {m : MethodId} {args : Array Value} {below : List Frame} {meth : Method} {c : Code} {H : Heap} {locs : List Loc} {cells slots : Nat}
variable {y : MethodName} {bytes cc : ByteArray} {maxL nL mc ms n index : Nat} {ret : Option FieldType} {ws : List Cond} {rm : Room} {Pc : Array Value → State → Prop} {Qc : Array Value → State → Outcome → State → Prop} {XC : String → State → State → Prop} {free : Addr → Prop} {Ts : List Cond} {own C : String} {b : Addr} {As rest : List Value} {g : JFrame}
theorem vx_callBack (cb : CallB R s args own index y bytes maxL ret ws rm mc ms n) (hM : vx_Met l y ws rm Pc Qc XC mc ms free) (hbl : FrameBlind Pc) : vx_Back l R p e below s args y 3 8 (PreOf R mc ms Pc) (PostOf Qc mc ms free) (vx_Post XC mc ms free) := by
  obtain ⟨hrc, hrs, hfr, hlo, hws, hcw, -, hini, -⟩ := cb
  exact vx_back (bytes := bytes) (maxL := maxL) (ret := ret) hM hbl hrc hrs hfr hlo hws hcw (fun a' U hW => word_at hW (Or.inl (by first | rfl | simp [Cond.onTables, Cond.keeps, Cond.steady])) hini)
theorem vx_runV (S : CallFix p m c cc nL s args Ts own) (hM : vx_Met l y ws rm Pc Qc XC mc ms free) (cw : CallW R s args own C index y bytes maxL ret ws rm mc ms n) (hp : PreV s H C b Pc As)
    (hg : g.method = m) (hn : As.length = n) (hsize : g.locals.size = nL) (hstack : g.stack = As.reverse ++ .ref b :: rest) (hW : 2 * g.monitorRoom + (rest.map fun v => v.category).sum ≤ 8) (hdg : decode cc g.pc = .ok (.invokevirtual index, 3)) (hf : cells + mc ≤ R.cells ∧ slots + ms ≤ R.slots) :
    vx_Run p l e R s m args below meth c H locs cells slots mc ms g rest (Qc (Value.ref b :: As).toArray) XC free := by
  have hK : vx_Back l R p e below s args y 3 8 (PreOf R mc ms Pc) (PostOf Qc mc ms free) (vx_Post XC mc ms free) := vx_callBack cw.1 hM hp.1
  obtain ⟨⟨-, -, -, -, -, -, hcode, -, hy, hlen, hl⟩, hin, hse⟩ := cw
  obtain ⟨hx, hb, hml, ho, -⟩ := S
  obtain ⟨-, ⟨cellB, hcB, hoB, hclB⟩, hPc⟩ := hp
  intro T hT X
  rcases vx_callV X hx (C := C) (bytes := bytes) (maxL := maxL) (ret := ret) ho hl hin hse hcode hy hK (by rw [hT]; exact hcB) hoB hclB hg (hsize.trans hml.symm) (argsL := As) (rest := rest) (fun sig h => hn.trans (hlen sig h)) hstack hW (by rw [hb]; exact hdg)
    (fun vm₁ hW₁ => ⟨hf.1, hf.2, hPc (T.setVm vm₁) hT hW₁⟩) with ⟨v, vm₁, ⟨U', l2, c2, s2⟩, hW₁, X', ⟨g', mk, t, L, e1, e2, hq, h1, hL, h2, h3⟩, st⟩ | ⟨q, vm₁, ⟨U', l2, c2, s2⟩, hW₁, X', ⟨g', mk, t, L, E, ce, e1, e2, hq, hce, hcv, hcl, h1, hL, h2, h3⟩, st⟩
  · dsimp only [Pt.U, Pt.locs, Pt.cells, Pt.slots] at X' e1 e2 h1 h2 h3 st
    subst h1; subst h2; subst h3
    exact Or.inl ⟨v, (T.setVm vm₁).calling g' mk (Value.ref b :: As).toArray, t, U', L, hT, X', hL, e1, e2, hq, st⟩
  · dsimp only [Pt.U, Pt.locs, Pt.cells, Pt.slots] at X' e1 e2 h1 h2 h3 st hcl
    subst h1; subst h2; subst h3
    exact Or.inr ⟨q, (T.setVm vm₁).calling g' mk (Value.ref b :: As).toArray, t, U', L, E, ce, hT, X', hL, e1, e2, hq, hce, hcv, vx_cls hW₁ hcl, st⟩
theorem vx_runS (S : CallFix p m c cc nL s args Ts own) (hM : vx_Met l y ws rm Pc Qc XC mc ms free) (cw : CallB R s args own index y bytes maxL ret ws rm mc ms n ∧ (Cond.static y).before args s = true) (hp : PreS s H Pc As)
    (hg : g.method = m) (hn : As.length = n) (hsize : g.locals.size = nL) (hstack : g.stack = As.reverse ++ rest) (hW : 2 * g.monitorRoom + (rest.map fun v => v.category).sum ≤ 8) (hdg : decode cc g.pc = .ok (.invokestatic index, 3)) (hf : cells + mc ≤ R.cells ∧ slots + ms ≤ R.slots) :
    vx_Run p l e R s m args below meth c H locs cells slots mc ms g rest (Qc As.toArray) XC free := by
  have hK : vx_Back l R p e below s args y 3 8 (PreOf R mc ms Pc) (PostOf Qc mc ms free) (vx_Post XC mc ms free) := vx_callBack cw.1 hM hp.1
  obtain ⟨⟨-, -, -, -, -, -, hcode, hini, hy, hlen, hl⟩, hstt⟩ := cw
  obtain ⟨hx, hb, hml, ho, -⟩ := S
  intro T hT X
  rcases vx_callS X hx (bytes := bytes) (maxL := maxL) (ret := ret) ho hl hstt hini hcode hy hK hg (hsize.trans hml.symm) (argsL := As) (rest := rest) (fun sig h => hn.trans (hlen sig h)) hstack hW (by rw [hb]; exact hdg)
    (fun vm₁ hW₁ => ⟨hf.1, hf.2, hp.2 (T.setVm vm₁) hT hW₁⟩) with ⟨v, vm₁, ⟨U', l2, c2, s2⟩, hW₁, X', ⟨g', mk, t, L, e1, e2, hq, h1, hL, h2, h3⟩, st⟩ | ⟨q, vm₁, ⟨U', l2, c2, s2⟩, hW₁, X', ⟨g', mk, t, L, E, ce, e1, e2, hq, hce, hcv, hcl, h1, hL, h2, h3⟩, st⟩
  · dsimp only [Pt.U, Pt.locs, Pt.cells, Pt.slots] at X' e1 e2 h1 h2 h3 st
    subst h1; subst h2; subst h3
    exact Or.inl ⟨v, (T.setVm vm₁).calling g' mk As.toArray, t, U', L, hT, X', hL, e1, e2, hq, st⟩
  · dsimp only [Pt.U, Pt.locs, Pt.cells, Pt.slots] at X' e1 e2 h1 h2 h3 st hcl
    subst h1; subst h2; subst h3
    exact Or.inr ⟨q, (T.setVm vm₁).calling g' mk As.toArray, t, U', L, E, ce, hT, X', hL, e1, e2, hq, hce, hcv, vx_cls hW₁ hcl, st⟩
end Runs
section Rows
variable {p : Program} {l : Launch} {e : Env} {R : Room} {s : State} {m : MethodId} {args : Array Value} {below : List Frame} {meth : Method} {c : Code} {H : Heap} {locs : List Loc} {cells slots : Nat} {Q : State → Prop}
variable {mc ms : Nat} {free : Addr → Prop} {A0 A1 : Nat → Prop} {H0 : Heap} {a : Array Value} {pc : Nat} {ls : Array Slot} {st0 rest : List Value}
theorem vx_keep {st₀ t T' : State} {L : List Loc} (h0 : st₀.heap = H) (e1 : T'.heap = t.heap) (hS : va_S A0 H0 H locs) (hA : ∀ q, q < H.size → A1 q → A0 q) (hf : ∀ q, free q → A0 q) (hL : ∀ q ∈ L, free q.base) (hF : va_F A1 st₀ t) :
    H.size ≤ T'.heap.size ∧ (∀ q : Nat, q < H.size → ¬ A1 q → T'.heap[q]? = H[q]?) ∧ va_S A0 H0 T'.heap (locs ++ L) := by
  obtain ⟨hz, hk⟩ := hF
  rw [h0] at hz hk
  exact ⟨by rw [e1]; exact hz, fun q h1 h2 => by rw [e1]; exact hk q h1 h2,
    ⟨Nat.le_trans hS.1 (by rw [e1]; exact hz), fun q h1 h2 => by rw [e1, hk q (Nat.lt_of_lt_of_le h1 hS.1) (fun z => h2 (hA q (Nat.lt_of_lt_of_le h1 hS.1) z))]; exact hS.2.1 q h1 h2, fun q hq => by
      rcases List.mem_append.mp hq with h | h
      · exact hS.2.2 q h
      · exact hf _ (hL q h)⟩⟩
theorem vx_calli {S SX : Type} {post : Int32 → S → Prop} {px : SX → Prop} {B : S → State → Prop} {BX : String → SX → State → Prop} {AX : Nat → Prop} (hr : vx_Run p l e R s m args below meth c H locs cells slots mc ms (F0 m pc ls st0) rest (va_Qi post B A1 a) (vx_X px BX AX) free) (hS : va_S A0 H0 H locs) (hA : ∀ q, q < H.size → A1 q → A0 q) (hf : ∀ q, free q → A0 q) (hAX : ∀ q, q < H.size → AX q → A0 q)
    (kx : ∀ (E : String) (ce : Cell) (q9 : Addr) (u : SX) (t : State) (H1 : Heap) (locs1 : List Loc), t.heap = H1 → s.vm.Alike t.vm → px u → BX E u t → H.size ≤ H1.size → (∀ q : Nat, q < H.size → ¬ AX q → H1[q]? = H[q]?) → va_S A0 H0 H1 locs1 → H1[q9]? = some ce → ce.vm = .none → s.vm.findClass E = some ce.cls → vx_W p l e R s m args below meth c H1 locs1 (cells + mc) (slots + ms) Q (F0 m pc ls rest) q9)
    (kk : ∀ (r : Int32) (u : S) (t : State) (H1 : Heap) (locs1 : List Loc), t.heap = H1 → s.vm.Alike t.vm → post r u → B u t → H.size ≤ H1.size → (∀ q : Nat, q < H.size → ¬ A1 q → H1[q]? = H[q]?) → va_S A0 H0 H1 locs1 → W p l e R s m args below meth c H1 locs1 (cells + mc) (slots + ms) Q (F0 m (pc + 3) ls (.int r :: rest))) : W p l e R s m args below meth c H locs cells slots Q (F0 m pc ls st0) := by
  intro T hT X
  rcases hr T hT X with ⟨v, st₀, t, T', L, h0, X', hL, e1, e2, ⟨⟨r, u, hv, hp, hb⟩, hF⟩, st⟩ | ⟨q, st₀, t, T', L, E, ce, h0, X', hL, e1, e2, ⟨u, hp, hb, hF⟩, hce, hcv, hcl, st⟩
  · cases hv
    obtain ⟨k1, k2, k3⟩ := vx_keep h0 e1 hS hA hf hL hF
    obtain ⟨t2, a1, b1⟩ := kk r u t T'.heap (locs ++ L) e1.symm (by rw [← e2]; exact X'.warmed.alike) hp hb k1 k2 k3 T' rfl X'
    exact ⟨t2, st t2 a1, b1⟩
  · obtain ⟨k1, k2, k3⟩ := vx_keep h0 e1 hS hAX hf hL hF
    obtain ⟨t2, a1, b1⟩ := kx E ce q u t T'.heap (locs ++ L) e1.symm (by rw [← e2]; exact X'.warmed.alike) hp hb k1 k2 k3 (by rw [e1]; exact hce) hcv hcl T' rfl X'
    exact ⟨t2, st.trans a1, b1⟩
theorem vx_calll {S SX : Type} {post : Int64 → S → Prop} {px : SX → Prop} {B : S → State → Prop} {BX : String → SX → State → Prop} {AX : Nat → Prop} (hr : vx_Run p l e R s m args below meth c H locs cells slots mc ms (F0 m pc ls st0) rest (va_Ql post B A1 a) (vx_X px BX AX) free) (hS : va_S A0 H0 H locs) (hA : ∀ q, q < H.size → A1 q → A0 q) (hf : ∀ q, free q → A0 q) (hAX : ∀ q, q < H.size → AX q → A0 q)
    (kx : ∀ (E : String) (ce : Cell) (q9 : Addr) (u : SX) (t : State) (H1 : Heap) (locs1 : List Loc), t.heap = H1 → s.vm.Alike t.vm → px u → BX E u t → H.size ≤ H1.size → (∀ q : Nat, q < H.size → ¬ AX q → H1[q]? = H[q]?) → va_S A0 H0 H1 locs1 → H1[q9]? = some ce → ce.vm = .none → s.vm.findClass E = some ce.cls → vx_W p l e R s m args below meth c H1 locs1 (cells + mc) (slots + ms) Q (F0 m pc ls rest) q9)
    (kk : ∀ (r : Int64) (u : S) (t : State) (H1 : Heap) (locs1 : List Loc), t.heap = H1 → s.vm.Alike t.vm → post r u → B u t → H.size ≤ H1.size → (∀ q : Nat, q < H.size → ¬ A1 q → H1[q]? = H[q]?) → va_S A0 H0 H1 locs1 → W p l e R s m args below meth c H1 locs1 (cells + mc) (slots + ms) Q (F0 m (pc + 3) ls (.long r :: rest))) : W p l e R s m args below meth c H locs cells slots Q (F0 m pc ls st0) := by
  intro T hT X
  rcases hr T hT X with ⟨v, st₀, t, T', L, h0, X', hL, e1, e2, ⟨⟨r, u, hv, hp, hb⟩, hF⟩, st⟩ | ⟨q, st₀, t, T', L, E, ce, h0, X', hL, e1, e2, ⟨u, hp, hb, hF⟩, hce, hcv, hcl, st⟩
  · cases hv
    obtain ⟨k1, k2, k3⟩ := vx_keep h0 e1 hS hA hf hL hF
    obtain ⟨t2, a1, b1⟩ := kk r u t T'.heap (locs ++ L) e1.symm (by rw [← e2]; exact X'.warmed.alike) hp hb k1 k2 k3 T' rfl X'
    exact ⟨t2, st t2 a1, b1⟩
  · obtain ⟨k1, k2, k3⟩ := vx_keep h0 e1 hS hAX hf hL hF
    obtain ⟨t2, a1, b1⟩ := kx E ce q u t T'.heap (locs ++ L) e1.symm (by rw [← e2]; exact X'.warmed.alike) hp hb k1 k2 k3 (by rw [e1]; exact hce) hcv hcl T' rfl X'
    exact ⟨t2, st.trans a1, b1⟩
theorem vx_callf {S SX : Type} {post : UInt32 → S → Prop} {px : SX → Prop} {B : S → State → Prop} {BX : String → SX → State → Prop} {AX : Nat → Prop} (hr : vx_Run p l e R s m args below meth c H locs cells slots mc ms (F0 m pc ls st0) rest (va_Qf post B A1 a) (vx_X px BX AX) free) (hS : va_S A0 H0 H locs) (hA : ∀ q, q < H.size → A1 q → A0 q) (hf : ∀ q, free q → A0 q) (hAX : ∀ q, q < H.size → AX q → A0 q)
    (kx : ∀ (E : String) (ce : Cell) (q9 : Addr) (u : SX) (t : State) (H1 : Heap) (locs1 : List Loc), t.heap = H1 → s.vm.Alike t.vm → px u → BX E u t → H.size ≤ H1.size → (∀ q : Nat, q < H.size → ¬ AX q → H1[q]? = H[q]?) → va_S A0 H0 H1 locs1 → H1[q9]? = some ce → ce.vm = .none → s.vm.findClass E = some ce.cls → vx_W p l e R s m args below meth c H1 locs1 (cells + mc) (slots + ms) Q (F0 m pc ls rest) q9)
    (kk : ∀ (r : UInt32) (u : S) (t : State) (H1 : Heap) (locs1 : List Loc), t.heap = H1 → s.vm.Alike t.vm → post r u → B u t → H.size ≤ H1.size → (∀ q : Nat, q < H.size → ¬ A1 q → H1[q]? = H[q]?) → va_S A0 H0 H1 locs1 → W p l e R s m args below meth c H1 locs1 (cells + mc) (slots + ms) Q (F0 m (pc + 3) ls (.float r :: rest))) : W p l e R s m args below meth c H locs cells slots Q (F0 m pc ls st0) := by
  intro T hT X
  rcases hr T hT X with ⟨v, st₀, t, T', L, h0, X', hL, e1, e2, ⟨⟨r, u, hv, hp, hb⟩, hF⟩, st⟩ | ⟨q, st₀, t, T', L, E, ce, h0, X', hL, e1, e2, ⟨u, hp, hb, hF⟩, hce, hcv, hcl, st⟩
  · cases hv
    obtain ⟨k1, k2, k3⟩ := vx_keep h0 e1 hS hA hf hL hF
    obtain ⟨t2, a1, b1⟩ := kk r u t T'.heap (locs ++ L) e1.symm (by rw [← e2]; exact X'.warmed.alike) hp hb k1 k2 k3 T' rfl X'
    exact ⟨t2, st t2 a1, b1⟩
  · obtain ⟨k1, k2, k3⟩ := vx_keep h0 e1 hS hAX hf hL hF
    obtain ⟨t2, a1, b1⟩ := kx E ce q u t T'.heap (locs ++ L) e1.symm (by rw [← e2]; exact X'.warmed.alike) hp hb k1 k2 k3 (by rw [e1]; exact hce) hcv hcl T' rfl X'
    exact ⟨t2, st.trans a1, b1⟩
theorem vx_calld {S SX : Type} {post : UInt64 → S → Prop} {px : SX → Prop} {B : S → State → Prop} {BX : String → SX → State → Prop} {AX : Nat → Prop} (hr : vx_Run p l e R s m args below meth c H locs cells slots mc ms (F0 m pc ls st0) rest (va_Qd post B A1 a) (vx_X px BX AX) free) (hS : va_S A0 H0 H locs) (hA : ∀ q, q < H.size → A1 q → A0 q) (hf : ∀ q, free q → A0 q) (hAX : ∀ q, q < H.size → AX q → A0 q)
    (kx : ∀ (E : String) (ce : Cell) (q9 : Addr) (u : SX) (t : State) (H1 : Heap) (locs1 : List Loc), t.heap = H1 → s.vm.Alike t.vm → px u → BX E u t → H.size ≤ H1.size → (∀ q : Nat, q < H.size → ¬ AX q → H1[q]? = H[q]?) → va_S A0 H0 H1 locs1 → H1[q9]? = some ce → ce.vm = .none → s.vm.findClass E = some ce.cls → vx_W p l e R s m args below meth c H1 locs1 (cells + mc) (slots + ms) Q (F0 m pc ls rest) q9)
    (kk : ∀ (r : UInt64) (u : S) (t : State) (H1 : Heap) (locs1 : List Loc), t.heap = H1 → s.vm.Alike t.vm → post r u → B u t → H.size ≤ H1.size → (∀ q : Nat, q < H.size → ¬ A1 q → H1[q]? = H[q]?) → va_S A0 H0 H1 locs1 → W p l e R s m args below meth c H1 locs1 (cells + mc) (slots + ms) Q (F0 m (pc + 3) ls (.double r :: rest))) : W p l e R s m args below meth c H locs cells slots Q (F0 m pc ls st0) := by
  intro T hT X
  rcases hr T hT X with ⟨v, st₀, t, T', L, h0, X', hL, e1, e2, ⟨⟨r, u, hv, hp, hb⟩, hF⟩, st⟩ | ⟨q, st₀, t, T', L, E, ce, h0, X', hL, e1, e2, ⟨u, hp, hb, hF⟩, hce, hcv, hcl, st⟩
  · cases hv
    obtain ⟨k1, k2, k3⟩ := vx_keep h0 e1 hS hA hf hL hF
    obtain ⟨t2, a1, b1⟩ := kk r u t T'.heap (locs ++ L) e1.symm (by rw [← e2]; exact X'.warmed.alike) hp hb k1 k2 k3 T' rfl X'
    exact ⟨t2, st t2 a1, b1⟩
  · obtain ⟨k1, k2, k3⟩ := vx_keep h0 e1 hS hAX hf hL hF
    obtain ⟨t2, a1, b1⟩ := kx E ce q u t T'.heap (locs ++ L) e1.symm (by rw [← e2]; exact X'.warmed.alike) hp hb k1 k2 k3 (by rw [e1]; exact hce) hcv hcl T' rfl X'
    exact ⟨t2, st.trans a1, b1⟩
theorem vx_callv {S SX : Type} {post : S → Prop} {px : SX → Prop} {B : S → State → Prop} {BX : String → SX → State → Prop} {AX : Nat → Prop} (hr : vx_Run p l e R s m args below meth c H locs cells slots mc ms (F0 m pc ls st0) rest (va_Qv post B A1 a) (vx_X px BX AX) free) (hS : va_S A0 H0 H locs) (hA : ∀ q, q < H.size → A1 q → A0 q) (hf : ∀ q, free q → A0 q) (hAX : ∀ q, q < H.size → AX q → A0 q)
    (kx : ∀ (E : String) (ce : Cell) (q9 : Addr) (u : SX) (t : State) (H1 : Heap) (locs1 : List Loc), t.heap = H1 → s.vm.Alike t.vm → px u → BX E u t → H.size ≤ H1.size → (∀ q : Nat, q < H.size → ¬ AX q → H1[q]? = H[q]?) → va_S A0 H0 H1 locs1 → H1[q9]? = some ce → ce.vm = .none → s.vm.findClass E = some ce.cls → vx_W p l e R s m args below meth c H1 locs1 (cells + mc) (slots + ms) Q (F0 m pc ls rest) q9)
    (kk : ∀ (u : S) (t : State) (H1 : Heap) (locs1 : List Loc), t.heap = H1 → s.vm.Alike t.vm → post u → B u t → H.size ≤ H1.size → (∀ q : Nat, q < H.size → ¬ A1 q → H1[q]? = H[q]?) → va_S A0 H0 H1 locs1 → W p l e R s m args below meth c H1 locs1 (cells + mc) (slots + ms) Q (F0 m (pc + 3) ls (rest))) : W p l e R s m args below meth c H locs cells slots Q (F0 m pc ls st0) := by
  intro T hT X
  rcases hr T hT X with ⟨v, st₀, t, T', L, h0, X', hL, e1, e2, ⟨⟨u, hv, hp, hb⟩, hF⟩, st⟩ | ⟨q, st₀, t, T', L, E, ce, h0, X', hL, e1, e2, ⟨u, hp, hb, hF⟩, hce, hcv, hcl, st⟩
  · cases hv
    obtain ⟨k1, k2, k3⟩ := vx_keep h0 e1 hS hA hf hL hF
    obtain ⟨t2, a1, b1⟩ := kk u t T'.heap (locs ++ L) e1.symm (by rw [← e2]; exact X'.warmed.alike) hp hb k1 k2 k3 T' rfl X'
    exact ⟨t2, st t2 a1, b1⟩
  · obtain ⟨k1, k2, k3⟩ := vx_keep h0 e1 hS hAX hf hL hF
    obtain ⟨t2, a1, b1⟩ := kx E ce q u t T'.heap (locs ++ L) e1.symm (by rw [← e2]; exact X'.warmed.alike) hp hb k1 k2 k3 (by rw [e1]; exact hce) hcv hcl T' rfl X'
    exact ⟨t2, st.trans a1, b1⟩
/-- caught by the row x of this method's table; the rows ahead don't take it -/
theorem vx_catch {own name : String} {E : String} {ce : Cell} {q : Addr} (hown : s.vm.findClass own = some m.cls) (pre : List ExceptionTableEntry) (x : ExceptionTableEntry) (suf : List ExceptionTableEntry) (hsplit : c.exceptionTable.toList = pre ++ x :: suf)
    (hpass : ∀ z ∈ pre, covers z pc = false ∨ (z.catchType ≠ 0 ∧ ∃ nm : String, (Cond.classLink own z.catchType nm).before args s = true ∧ va_Nc E nm s)) (hx : covers x pc = true) (h0 : x.catchType ≠ 0)
    (hlink : (Cond.classLink own x.catchType name).before args s = true) (hcast : (Cond.castable E name).before args s = true) (hcell : H[q]? = some ce) (hv : ce.vm = .none) (hcl : s.vm.findClass E = some ce.cls)
    (kk : W p l e R s m args below meth c H locs cells slots Q (F0 m x.handlerPc ls [.ref q])) : vx_W p l e R s m args below meth c H locs cells slots Q (F0 m pc ls rest) q := by
  intro T hT X
  have hpl : e.platform.magicAccessors = ({} : Platform).magicAccessors := by rw [X.admits.platform]
  obtain ⟨c3, c4, hc3, hc4, hasg⟩ := Cond.castable_spec hcast
  cases Option.some.inj (hc3.symm.trans hcl)
  obtain ⟨c5, hc5, hcl5⟩ := Cond.classLink_spec hown hlink e.platform hpl
  cases Option.some.inj (hc4.symm.trans hc5)
  obtain ⟨vm', X', st⟩ := X.thenCaughtThrough q (g := F0 m pc ls rest) rfl (Steps.refl _) (by rw [hT]; exact hcell) (by rw [hv]; rfl) (by obtain ⟨k9, h9, -⟩ := Vm.findClass_spec hcl; exact ⟨k9, h9⟩) pre x suf hsplit
    (fun z hz => by
      rcases hpass z hz with h | ⟨hz0, nm, hl1, hn1⟩
      · exact Or.inl h
      · obtain ⟨c6, hc6, hcl6⟩ := Cond.classLink_spec hown hl1 e.platform hpl
        obtain ⟨a8, b8, h1, h2, h3⟩ := hn1
        cases Option.some.inj (h1.symm.trans hcl)
        cases Option.some.inj (h2.symm.trans hc6)
        exact Or.inr ⟨hz0, _, hcl6, h3⟩) hx (Or.inr ⟨h0, c4, hcl5, hasg⟩)
  obtain ⟨t, a1, b1⟩ := kk (T.setVm vm') hT X'
  exact ⟨t, st.trans a1, b1⟩
end Rows
section Ends
variable {p : Program} {l : Launch} {e : Env} {R : Room} {s : State} {m : MethodId} {args : Array Value} {below : List Frame} {meth : Method} {c : Code} {H : Heap} {locs : List Loc} {cells slots : Nat} {Q : State → Prop}
variable {mc ms : Nat} {free : Addr → Prop} {A0 A1 : Nat → Prop} {H0 : Heap} {a : Array Value} {ls : Array Slot} {st0 rest : List Value}
variable {Qc : Array Value → State → Outcome → State → Prop} {XC : String → State → State → Prop}
/-- what a body that may throw owes at its end -/
def vx_MQ (below : List Frame) (Qc : Array Value → State → Outcome → State → Prop) (XC : String → State → State → Prop) (a : Array Value) (s : State) (mc ms : Nat) (free : Addr → Prop) : State → Prop := fun t =>
  ∃ o, t.status = .running ∧ Ended t below o ∧ vx_Q Qc XC mc ms free a s o t
theorem vx_ret {g : JFrame} {mc ms : Nat} (k : W p l e R s m args below meth c H locs cells slots (MQ below Qc args s mc ms free) g) : W p l e R s m args below meth c H locs cells slots (vx_MQ below Qc XC args s mc ms free) g := by
  intro T hT X
  obtain ⟨t, a1, o, b1, b2, b3, b4⟩ := k T hT X
  exact ⟨t, a1, o, b1, b2, Or.inl ⟨b3, b4⟩⟩
/-- not caught here: it goes on to the caller -/
theorem vx_widen {g : JFrame} {q : Addr} {k n : Nat} (h1 : cells ≤ k) (h2 : slots ≤ n) (kk : vx_W p l e R s m args below meth c H locs k n Q g q) : vx_W p l e R s m args below meth c H locs cells slots Q g q := fun T hT X => kk T hT (stand_widen X h1 h2)
theorem vx_out {pc : Nat} {E : String} {ce : Cell} {q : Addr} {mc ms : Nat} (hout : ∀ x ∈ c.exceptionTable.toList, covers x pc = false) (hlocks : meth.locks = false) (hcell : H[q]? = some ce) (hv : ce.vm = .none) (hcl : s.vm.findClass E = some ce.cls)
    (hx : ∀ t : State, t.heap = H → s.vm.Alike t.vm → XC E s t) (hf : ∀ z ∈ locs, free z.base) (hc : cells ≤ mc) (hs : slots ≤ ms) :
    vx_W p l e R s m args below meth c H locs cells slots (vx_MQ below Qc XC args s mc ms free) (F0 m pc ls rest) q := by
  intro T hT X
  obtain ⟨st1, hrun, hend, hW, hsm⟩ := X.leaveThrown q (g := F0 m pc ls rest) rfl rfl rfl hout hlocks
  have hcell9 : (T.setFrames (.throwing q :: below)).heap[q]? = some ce := by
    show T.heap[q]? = some ce
    rw [hT]; exact hcell
  exact ⟨_, st1, .threw q, hrun, hend, Or.inr ⟨q, rfl, E, ce, locs, hx _ hT hW.alike, hcell9, hv, hcl, hW, hsm.mono hc hs, hf⟩⟩
theorem vx_frame {U : State} {k n : Nat} (h : s.sameButNew ({ U with vm := s.vm } : State) locs k n) : s.heap.size ≤ U.heap.size ∧ ∀ q : Nat, q < s.heap.size → (∀ z ∈ locs, z.base ≠ q) → U.heap[q]? = s.heap[q]? := by
  obtain ⟨-, h2, -, -, -, h6⟩ := h
  refine ⟨h2, fun q hq hz => ?_⟩
  obtain ⟨c9, e1, e2, e3, e4⟩ := h6 q _ (Array.getElem?_eq_getElem hq)
  have hs : c9.slots = (s.heap[q]).slots := Array.ext_getElem? fun i => e4 i fun hm => hz _ hm rfl
  have h9 : c9 = s.heap[q] := by
    rw [hs] at e2
    exact e2
  have e5 : U.heap[q]? = some c9 := e1
  rw [e5, h9, Array.getElem?_eq_getElem hq]
/-- the words of a throw but the four that speak of the heap -/
def vx_no (w : Cond) : Bool := decide (w ≠ .isRef (.static Bundle.tN "UNASSIGNED_STACK" Bundle.steD)) && decide (w ≠ .isRef (.static Bundle.tN "SUPPRESSED_SENTINEL" Bundle.listD)) && decide (w ≠ .laysStatic Bundle.tN "UNASSIGNED_STACK" Bundle.steD) && decide (w ≠ .laysStatic Bundle.tN "SUPPRESSED_SENTINEL" Bundle.listD)
def vx_at0 (own : String) (ic : Nat) (X : String) (names : List String) : List Cond := (Bundle.ownAtoms0 own ic X names).filter vx_no
def vx_atS (own : String) (ic : Nat) (X : String) (names : List String) : List Cond := (Bundle.ownAtoms own ic X names).filter vx_no
/-- a word that the tables alone decide, or a good one -/
def vx_ot (w : Cond) : Bool := w.onTables || goodWord w
theorem vx_ot_at {args a' : Array Value} {s U : State} {w : Cond} (hW : s.WarmedH U.vm) (hvm : s.vm = U.vm) (hg : vx_ot w = true) (h : w.before args s = true) : w.before a' U = true := by
  simp only [vx_ot, Bool.or_eq_true] at hg
  rcases hg with hg | hg
  · exact va_tabs hg hvm h
  · exact word_at hW (good_of_word hg) h
/-- a list's words: the good ones out of the method's own list, the others by premises of their own -/
theorem vx_hat {args : Array Value} {s : State} {L B : List Cond} (h1 : ∀ w ∈ L.filter goodWord, w.before args s = true) (h2 : ∀ w ∈ L.filter (fun w => !goodWord w), w ∈ B) (h3 : ∀ w ∈ B, w.before args s = true) : ∀ w ∈ L, w.before args s = true := by
  intro w hw
  by_cases g : goodWord w = true
  · exact h1 w (List.mem_filter.mpr ⟨hw, g⟩)
  · refine h3 w (h2 w (List.mem_filter.mpr ⟨hw, ?_⟩))
    show (!goodWord w) = true
    cases hgw : goodWord w
    · rfl
    · exact absurd hgw g
theorem vx_c {args : Array Value} {s : State} {w : Cond} {B : List Cond} (h : w.before args s = true) (t : ∀ w ∈ B, w.before args s = true) : ∀ w' ∈ w :: B, w'.before args s = true := fun w' h' => (List.mem_cons.mp h').elim (fun e => by rw [e]; exact h) (t w')
theorem vx_n {args : Array Value} {s : State} : ∀ w ∈ ([] : List Cond), w.before args s = true := fun _ h => nomatch h
theorem vx_own {args : Array Value} {s : State} {L : List Cond} (h1 : ∀ w ∈ L.filter vx_no, w.before args s = true)
    (hU : (Cond.isRef (.static Bundle.tN "UNASSIGNED_STACK" Bundle.steD)).before args s = true) (hN : (Cond.isRef (.static Bundle.tN "SUPPRESSED_SENTINEL" Bundle.listD)).before args s = true)
    (lU : (Cond.laysStatic Bundle.tN "UNASSIGNED_STACK" Bundle.steD).before args s = true) (lN : (Cond.laysStatic Bundle.tN "SUPPRESSED_SENTINEL" Bundle.listD).before args s = true) : ∀ w ∈ L, w.before args s = true := by
  intro w hw
  by_cases e1 : w = .isRef (.static Bundle.tN "UNASSIGNED_STACK" Bundle.steD)
  · rw [e1]; exact hU
  · by_cases e2 : w = .isRef (.static Bundle.tN "SUPPRESSED_SENTINEL" Bundle.listD)
    · rw [e2]; exact hN
    · by_cases e3 : w = .laysStatic Bundle.tN "UNASSIGNED_STACK" Bundle.steD
      · rw [e3]; exact lU
      · by_cases e4 : w = .laysStatic Bundle.tN "SUPPRESSED_SENTINEL" Bundle.listD
        · rw [e4]; exact lN
        · exact h1 w (List.mem_filter.mpr ⟨hw, by unfold vx_no; rw [decide_eq_true e1, decide_eq_true e2, decide_eq_true e3, decide_eq_true e4]; rfl⟩)
/-- where a static field lies, its class's statics cell in H -/
def vx_L (C n d : String) (A : Nat → Prop) (U : State) (H : Heap) : Prop := ∃ (c : ClassId) (k : Class) (i : Nat) (f : Field) (a : Nat) (cell : Cell), U.vm.findClass C = some c ∧ U.fieldFound? C n d = some (c, k, i, f) ∧ f.isStatic = true ∧ k.statics = some a ∧ H[a]? = some cell ∧ cell.vm.isStatics = true ∧ cell.cls = c ∧ f.slot < cell.slots.size ∧ k.staticTypes[f.slot]? = some f.type ∧ ¬ A a
theorem vx_L.moved {C n d : String} {A : Nat → Prop} {u U : State} {H : Heap} (hvm : u.vm.Alike U.vm) (h : vx_L C n d A u H) : vx_L C n d A U H := by
  obtain ⟨c, k, i, f, a, cell, h1, h2, h3, h4, h5, h6, h7, h8, h9, h10⟩ := h
  obtain ⟨k', hi', he⟩ := State.fieldFound?_setVm hvm h2
  exact ⟨c, k', i, f, a, cell, by rw [hvm.findClass]; exact h1, hi', h3, by rw [he]; exact h4, h5, h6, h7, h8, by rw [he]; exact h9, h10⟩
theorem vx_L.kept {C n d : String} {A : Nat → Prop} {U : State} {H H1 : Heap} (h : vx_L C n d A U H) (hq : ∀ a : Nat, a < H.size → ¬ A a → H1[a]? = H[a]?) : vx_L C n d A U H1 := by
  obtain ⟨c, k, i, f, a, cell, h1, h2, h3, h4, h5, h6, h7, h8, h9, h10⟩ := h
  exact ⟨c, k, i, f, a, cell, h1, h2, h3, h4, by rw [hq a (Array.getElem?_eq_some_iff.mp h5).1 h10]; exact h5, h6, h7, h8, h9, h10⟩
theorem vx_L.narrow {C n d : String} {A B : Nat → Prop} {U : State} {H : Heap} (h : vx_L C n d A U H) (hAB : ∀ q, B q → A q) : vx_L C n d B U H := by
  obtain ⟨c, k, i, f, a, cell, h1, h2, h3, h4, h5, h6, h7, h8, h9, h10⟩ := h
  exact ⟨c, k, i, f, a, cell, h1, h2, h3, h4, h5, h6, h7, h8, h9, fun z => h10 (hAB _ z)⟩
theorem vx_L.word {C n d : String} {A : Nat → Prop} {s : State} {args : Array Value} (h : vx_L C n d A s s.heap) : (Cond.laysStatic C n d).before args s = true := by
  obtain ⟨c, k, i, f, a, cell, h1, h2, h3, h4, h5, h6, h7, h8, h9, -⟩ := h
  show (Cond.laysStatic C n d).holds args s none s [] = true
  exact Cond.laysStatic_of h1 h2 h3 h4 h5 h6 h7 h8 h9
/-- .. and what it holds: null or some reference -/
def vx_Zq (C n d : String) (A : Nat → Prop) (U : State) (H : Heap) : Prop := va_Zq C n d A U H ∧ vx_L C n d A U H
theorem vx_Zq.moved {C n d : String} {A : Nat → Prop} {u U : State} {H : Heap} (hvm : u.vm.Alike U.vm) (h : vx_Zq C n d A u H) : vx_Zq C n d A U H := ⟨va_Zq.moved hvm h.1, vx_L.moved hvm h.2⟩
theorem vx_Zq.kept {C n d : String} {A : Nat → Prop} {U : State} {H H1 : Heap} (h : vx_Zq C n d A U H) (hq : ∀ a : Nat, a < H.size → ¬ A a → H1[a]? = H[a]?) : vx_Zq C n d A U H1 := ⟨va_Zq.kept h.1 hq, vx_L.kept h.2 hq⟩
theorem vx_Zq.narrow {C n d : String} {A B : Nat → Prop} {U : State} {H : Heap} (h : vx_Zq C n d A U H) (hAB : ∀ q, B q → A q) : vx_Zq C n d B U H := ⟨va_Zq.narrow h.1 hAB, vx_L.narrow h.2 hAB⟩
theorem vx_Zqof {args : Array Value} {s : State} {C n d : String} {A : Nat → Prop} (hl : (Cond.laysStatic C n d).before args s = true) (hini : (Cond.initialized C).before args s = true) (h : (Cond.isRef (.static C n d)).before args s = true) (hA : ∀ a : Nat, a < s.heap.size → ¬ A a) : vx_Zq C n d A s s.heap := by
  refine ⟨va_Zqof hl hini h hA, ?_⟩
  obtain ⟨c, k, i, f, a, cell, h1, h2, h3, h4, h5, h6, h7, h8, h9⟩ := Cond.laysStatic_spec hl
  exact ⟨c, k, i, f, a, cell, h1, h2, h3, h4, h5, h6, h7, h8, h9, hA a (Array.getElem?_eq_some_iff.mp h5).1⟩
theorem vx_isRef {C n d : String} {v : Value} {A : Nat → Prop} {s : State} {args : Array Value} (h : va_Z C n d v A s s.heap) (hv : v.isRef = true) : (Cond.isRef (.static C n d)).before args s = true := by
  obtain ⟨cf, kf, fi, f, a, cell, h1, h2, h3, h4, h5, h6, h7, -⟩ := h
  have he : (Term.static C n d).eval args s none [] s = some v := by
    simp [Term.eval, State.fieldNamed?, h1, h2, h4, h5, h6, h7]
  simp only [Cond.before, Cond.holds, Cond.value, he]
  cases v <;> simp_all [Value.isRef]
theorem vx_isRefq {C n d : String} {A : Nat → Prop} {s : State} {args : Array Value} (h : va_Zq C n d A s s.heap) : (Cond.isRef (.static C n d)).before args s = true := by
  rcases h with h | ⟨t, h⟩
  · exact vx_isRef h rfl
  · exact vx_isRef h rfl
/-- the same frame, seen from here: as if the method were called anew in this heap -/
theorem vx_rebase {T : State} (X : Stand p l e R s m args below meth c T locs cells slots) {R' : Room} (hf : R'.frames ≤ R.frames) (hl : R'.locals ≤ R.locals) (hc : cells + R'.cells ≤ R.cells) (hs : slots + R'.slots ≤ R.slots) :
    Stand p l e R' ((T.setVm s.vm).setFrames (.invoking m args :: below)) m args below meth c T [] 0 0 := by
  have htop : (T.setVm s.vm).topJava?.isSome := X.here.top
  have hF : ((T.setVm s.vm).setFrames (.invoking m args :: below)).frames = .invoking m args :: below := State.frames_setFrames _ (State.cur_lt_of_top htop)
  obtain ⟨g₀, hg0⟩ := Option.isSome_iff_exists.mp htop
  obtain ⟨r, hr⟩ := State.topJava?_eq_some.mp hg0
  have hl9 : e.platform.stackLimits (T.setVm s.vm).me = e.platform.stackLimits s.me := X.limits
  have hb9 : (T.setVm s.vm).me.stackBytes = s.me.stackBytes := X.bytes
  refine ⟨X.admits, X.cas, X.clock, hF, ?_, X.hears, X.method, X.code, X.here, X.tail, X.warmed, ?_, ?_, ?_⟩
  · have h := X.room
    have hU : ((T.setVm s.vm).setFrames (.invoking m args :: below)).localsInUse = s.localsInUse := by
      rw [State.localsInUse_invoking hF (meth := meth) (c := c) X.method X.code, State.localsInUse_invoking X.frames X.method X.code]
    simp only [State.hasRoom, Bool.and_eq_true, decide_eq_true_eq] at h ⊢
    obtain ⟨⟨⟨⟨h1, h2, h3, h4, h5, h6⟩, h7⟩, h8⟩, h9⟩ := h
    rw [X.frames, List.length_cons] at h2 h3
    have q1 := X.heapSize
    have q2 := X.used
    simp only [hF, hU, List.length_cons, State.stackLimits_setFrames, State.stackBytes_setFrames, hl9, hb9]
    refine ⟨⟨⟨⟨by omega, by omega, by omega, by omega, by omega, h6⟩, ?_⟩, ?_⟩, X.book⟩
    · show T.heap.size + R'.cells ≤ e.platform.maxCells
      omega
    · show T.slotsUsed + R'.slots ≤ e.platform.maxSlots
      omega
  · rw [State.stackLimits_setFrames]; rfl
  · rw [State.stackBytes_setFrames]; rfl
  · refine ⟨?_, Nat.le_refl _, Nat.le_refl _, ?_, ?_, fun a c9 h9 => ⟨c9, h9, rfl, rfl, fun _ _ => rfl⟩⟩
    · obtain ⟨t, ht, -⟩ := State.frames_cons hr
      show T.setVm s.vm = { ((T.setVm s.vm).setFrames (.invoking m args :: below)).setFrames (T.setVm s.vm).frames with heap := T.heap, slotsUsed := T.slotsUsed }
      rw [State.setFrames_setFrames, State.setFrames_self ht]
      rfl
    · show T.slotsUsed = T.slotsUsed + ((T.heap.toList.drop T.heap.size).map (·.slots.size)).sum
      rw [List.drop_eq_nil_of_le (Nat.le_of_eq Array.length_toList)]
      rfl
    · show ((T.heap.toList.drop T.heap.size).map (·.slots.size)).sum ≤ 0
      rw [List.drop_eq_nil_of_le (Nat.le_of_eq Array.length_toList)]
      exact Nat.le_refl _
/-- 'throw new E()': new; dup; invokespecial; athrow -/
theorem vx_throw0 {cc : ByteArray} {pc : Nat} (hexec : p.tables.exec = Jvm.exec) (hb : c.code = cc) (hl : l.stackTraces = false) {own cls : String} {names : List String} {ik ic mc ms : Nat} {A : Nat → Prop}
    (hown : s.vm.findClass own = some m.cls) (hcls : Bundle.fit cls = true) (hnames : ∀ n ∈ names, Bundle.fit n = true)
    (hk : (Cond.classLink own ik cls).before args s = true) (hini : (Cond.initialized cls).before args s = true) (hat : ∀ w ∈ vx_at0 own ic cls names, w.before args s = true)
    (hgood : ∀ w ∈ Cond.classLink own ik cls :: Cond.initialized cls :: vx_at0 own ic cls names, vx_ot w = true)
    (hU : vx_Zq Bundle.tN "UNASSIGNED_STACK" Bundle.steD A s s.heap) (hN : vx_Zq Bundle.tN "SUPPRESSED_SENTINEL" Bundle.listD A s s.heap) (hS : va_S A s.heap H locs) (hsize : ls.size = c.maxLocals)
    (d0 : decode cc pc = .ok (.new ik, 3)) (d3 : decode cc (pc + 3) = .ok (.dup, 1)) (d4 : decode cc (pc + 4) = .ok (.invokespecial ic, 3)) (d7 : decode cc (pc + 7) = .ok (.athrow, 1))
    (hout : ∀ x ∈ c.exceptionTable.toList, covers x (pc + 7) = false)
    (hRframes : names.length + 3 < R.frames) (hRlocals : (rest.map fun v => v.category).sum + (13 * (names.length + 1) + 42) ≤ R.locals) (hRcells : cells + 1 ≤ R.cells) (hRslots : slots + 6 ≤ R.slots) (hlocks : meth.locks = false)
    (hx : ∀ t : State, s.vm.Alike t.vm → H.size ≤ t.heap.size → (∀ q : Nat, q < H.size → t.heap[q]? = H[q]?) → XC cls s t)
    (hf : ∀ z ∈ locs, free z.base) (hc : cells + 1 ≤ mc) (hs : slots + 6 ≤ ms) :
    W p l e R s m args below meth c H locs cells slots (vx_MQ below Qc XC args s mc ms free) (F0 m pc ls rest) := by
  intro T hT X
  have htr : e.platform.stackTraces = false := (show e.platform.stackTraces = l.stackTraces by rw [X.admits.platform]).trans hl
  have Y := vx_rebase X (R' := { frames := R.frames, locals := R.locals, cells := 1, slots := 6 }) (Nat.le_refl _) (Nat.le_refl _) hRcells hRslots
  obtain ⟨s', hA⟩ : ∃ z, z = (T.setVm s.vm).setFrames (.invoking m args :: below) := ⟨_, rfl⟩
  rw [← hA] at Y
  have hvm : s'.vm = s.vm := by rw [hA]; rfl
  have hhp : s'.heap = H := by rw [hA]; exact hT
  have hW0 : s.WarmedH s'.vm := by rw [hvm]; exact State.WarmedH.refl s
  have hat' : ∀ w ∈ vx_at0 own ic cls names, w.before args s' = true := fun w hw => vx_ot_at hW0 hvm.symm (hgood w (List.mem_cons_of_mem _ (List.mem_cons_of_mem _ hw))) (hat w hw)
  have hk' : (Cond.classLink own ik cls).before args s' = true := vx_ot_at hW0 hvm.symm (hgood _ List.mem_cons_self) hk
  have hini' : (Cond.initialized cls).before args s' = true := vx_ot_at hW0 hvm.symm (hgood _ (List.mem_cons_of_mem _ List.mem_cons_self)) hini
  have hU' : vx_Zq Bundle.tN "UNASSIGNED_STACK" Bundle.steD A s' s'.heap := by rw [hhp]; exact vx_Zq.moved hW0.alike (hU.kept hS.2.1)
  have hN' : vx_Zq Bundle.tN "SUPPRESSED_SENTINEL" Bundle.listD A s' s'.heap := by rw [hhp]; exact vx_Zq.moved hW0.alike (hN.kept hS.2.1)
  have h : ∀ w ∈ Bundle.ownAtoms0 own ic cls names, w.before args s' = true := vx_own hat' (vx_isRefq hU'.1) (vx_isRefq hN'.1) hU'.2.word hN'.2.word
  have hown' : s'.vm.findClass own = some m.cls := by rw [hvm]; exact hown
  have hins : (Cond.instantiable cls 6).before args s' = true := h _ (by simp [Bundle.ownAtoms0])
  obtain ⟨vm₁, cX, kX, hfX, hkX, -, -, X₁, st1⟩ := Y.newCold hexec (own := own) (C := cls) (index := ik) (n := 6) hown' hk' hins hini'
    (g := F0 m pc ls rest) rfl (by rw [hb]; exact d0) (Nat.le_refl _) (Nat.le_refl _)
  generalize hT1 : (T.setVm vm₁).pushCell { cls := cX, slots := kX.instanceTypes.map defaultValue, vm := .none } = T1 at X₁ st1
  have hcat : (Value.ref T.heap.size).category = 1 := rfl
  have hcellA : T1.heap[T.heap.size]? = some (freshCell cX kX) := by rw [← hT1]; exact State.heap_pushCell_size _ _
  have d3' : decode c.code (pc + 3) = .ok (.dup, 1) := by rw [hb]; exact d3
  obtain ⟨U, hsteps, hrun, hend, hW, hsame, ce, hce, hO⟩ := X₁.ctorThrow0 hexec htr (own := own) (cls := cls) (names := names) (ic := ic) hown' hcls hnames h (fun x hx => nomatch hx) hfX hkX hcellA (by rw [hhp, hT]; exact Nat.le_refl _)
    (g := { method := m, pc := pc + 4, locals := ls, stack := .ref T.heap.size :: .ref T.heap.size :: rest, locked := none }) rfl hsize rfl rfl (rest := rest) rfl
    (by rw [hb]; exact d4) (by rw [hb]; exact d7) hout hRframes (by simp only [List.map_cons, List.sum_cons, hcat]; omega) hlocks
  obtain ⟨f1, f2⟩ := vx_frame hsame
  rw [hhp] at f1 f2
  have hWs : s.WarmedH U.vm := State.WarmedH.trans hW0 hW
  have hcl : s.vm.findClass cls = some ce.cls := by
    have h9 := hO.cls
    rw [hvm] at h9
    exact h9
  have hall : s.sameButNew ({ U with vm := s.vm } : State) locs mc ms := by
    subst hA
    obtain ⟨e1, e2⟩ := hsame
    rw [State.setFrames_setFrames] at e1
    have h2 : (T.setVm s.vm).sameButNew ({ U with vm := s.vm } : State) [] (0 + 1) (0 + 6) := ⟨e1, e2⟩
    have h3 := X.same.trans h2
    rw [List.append_nil] at h3
    exact h3.mono hc hs
  refine ⟨U, ?_, .threw T.heap.size, hrun, hend, Or.inr ⟨T.heap.size, rfl, cls, ce, locs, hx U hWs.alike f1 (fun q hq => f2 q hq (fun z hz => nomatch hz)), hce, hO.vm, hcl, hWs, hall, hf⟩⟩
  refine st1 _ ?_
  show Steps p.tables e below (T1.setTop { method := m, pc := pc + 3, locals := ls, stack := .ref T.heap.size :: rest, locked := none }) _
  jvm_step X₁.here [X₁.here.top, hexec, d3', Value.category]
  exact hsteps
/-- 'throw new E("text")': new; dup; ldc; invokespecial; athrow -/
theorem vx_throwS {cc : ByteArray} {pc : Nat} (hexec : p.tables.exec = Jvm.exec) (hb : c.code = cc) (hl : l.stackTraces = false) {own cls text : String} {names : List String} {ik is ic mc ms sa : Nat} {A : Nat → Prop}
    (hown : s.vm.findClass own = some m.cls) (hcls : Bundle.fit cls = true) (hnames : ∀ n ∈ names, Bundle.fit n = true)
    (hk : (Cond.classLink own ik cls).before args s = true) (hini : (Cond.initialized cls).before args s = true) (hstr : vk_R own is text sa s) (hat : ∀ w ∈ vx_atS own ic cls names, w.before args s = true)
    (hgood : ∀ w ∈ Cond.classLink own ik cls :: Cond.initialized cls :: vx_atS own ic cls names, vx_ot w = true)
    (hU : vx_Zq Bundle.tN "UNASSIGNED_STACK" Bundle.steD A s s.heap) (hN : vx_Zq Bundle.tN "SUPPRESSED_SENTINEL" Bundle.listD A s s.heap) (hS : va_S A s.heap H locs) (hsize : ls.size = c.maxLocals)
    (d0 : decode cc pc = .ok (.new ik, 3)) (d3 : decode cc (pc + 3) = .ok (.dup, 1)) (d4 : decode cc (pc + 4) = .ok (.ldc is, 2)) (d6 : decode cc (pc + 6) = .ok (.invokespecial ic, 3)) (d9 : decode cc (pc + 9) = .ok (.athrow, 1))
    (hout : ∀ x ∈ c.exceptionTable.toList, covers x (pc + 9) = false)
    (hRframes : names.length + 3 < R.frames) (hRlocals : (rest.map fun v => v.category).sum + (13 * (names.length + 1) + 43) ≤ R.locals) (hRcells : cells + 1 ≤ R.cells) (hRslots : slots + 6 ≤ R.slots) (hlocks : meth.locks = false)
    (hx : ∀ t : State, s.vm.Alike t.vm → H.size ≤ t.heap.size → (∀ q : Nat, q < H.size → t.heap[q]? = H[q]?) → XC cls s t)
    (hf : ∀ z ∈ locs, free z.base) (hc : cells + 1 ≤ mc) (hs : slots + 6 ≤ ms) :
    W p l e R s m args below meth c H locs cells slots (vx_MQ below Qc XC args s mc ms free) (F0 m pc ls rest) := by
  intro T hT X
  have htr : e.platform.stackTraces = false := (show e.platform.stackTraces = l.stackTraces by rw [X.admits.platform]).trans hl
  have Y := vx_rebase X (R' := { frames := R.frames, locals := R.locals, cells := 1, slots := 6 }) (Nat.le_refl _) (Nat.le_refl _) hRcells hRslots
  obtain ⟨s', hA⟩ : ∃ z, z = (T.setVm s.vm).setFrames (.invoking m args :: below) := ⟨_, rfl⟩
  rw [← hA] at Y
  have hvm : s'.vm = s.vm := by rw [hA]; rfl
  have hhp : s'.heap = H := by rw [hA]; exact hT
  have hW0 : s.WarmedH s'.vm := by rw [hvm]; exact State.WarmedH.refl s
  have hat' : ∀ w ∈ vx_atS own ic cls names, w.before args s' = true := fun w hw => vx_ot_at hW0 hvm.symm (hgood w (List.mem_cons_of_mem _ (List.mem_cons_of_mem _ hw))) (hat w hw)
  have hk' : (Cond.classLink own ik cls).before args s' = true := vx_ot_at hW0 hvm.symm (hgood _ List.mem_cons_self) hk
  have hini' : (Cond.initialized cls).before args s' = true := vx_ot_at hW0 hvm.symm (hgood _ (List.mem_cons_of_mem _ List.mem_cons_self)) hini
  have hU' : vx_Zq Bundle.tN "UNASSIGNED_STACK" Bundle.steD A s' s'.heap := by rw [hhp]; exact vx_Zq.moved hW0.alike (hU.kept hS.2.1)
  have hN' : vx_Zq Bundle.tN "SUPPRESSED_SENTINEL" Bundle.listD A s' s'.heap := by rw [hhp]; exact vx_Zq.moved hW0.alike (hN.kept hS.2.1)
  have h : ∀ w ∈ Bundle.ownAtoms own ic cls names, w.before args s' = true := vx_own hat' (vx_isRefq hU'.1) (vx_isRefq hN'.1) hU'.2.word hN'.2.word
  have hown' : s'.vm.findClass own = some m.cls := by rw [hvm]; exact hown
  have hins : (Cond.instantiable cls 6).before args s' = true := h _ (by simp [Bundle.ownAtoms])
  obtain ⟨vm₁, cX, kX, hfX, hkX, -, -, X₁, st1⟩ := Y.newCold hexec (own := own) (C := cls) (index := ik) (n := 6) hown' hk' hins hini'
    (g := F0 m pc ls rest) rfl (by rw [hb]; exact d0) (Nat.le_refl _) (Nat.le_refl _)
  generalize hT1 : (T.setVm vm₁).pushCell { cls := cX, slots := kX.instanceTypes.map defaultValue, vm := .none } = T1 at X₁ st1
  have hcat : (Value.ref T.heap.size).category = 1 := rfl
  have hcellA : T1.heap[T.heap.size]? = some (freshCell cX kX) := by rw [← hT1]; exact State.heap_pushCell_size _ _
  have d3' : decode c.code (pc + 3) = .ok (.dup, 1) := by rw [hb]; exact d3
  have d4' : decode c.code (pc + 4) = .ok (.ldc is, 2) := by rw [hb]; exact d4
  have hstr' : vk_R own is text sa s' := vk_R.warm hW0 hstr
  obtain ⟨U, hsteps, hrun, hend, hW, hsame, ce, hce, hO⟩ := X₁.ctorThrowS hexec htr (own := own) (cls := cls) (names := names) (ic := ic) hown' hcls hnames h (fun x hx => nomatch hx) hfX hkX hcellA (by rw [hhp, hT]; exact Nat.le_refl _) (msg := .ref sa) rfl
    (g := { method := m, pc := pc + 6, locals := ls, stack := .ref sa :: .ref T.heap.size :: .ref T.heap.size :: rest, locked := none }) rfl hsize rfl rfl (rest := rest) rfl
    (by rw [hb]; exact d6) (by rw [hb]; exact d9) hout hRframes (by simp only [List.map_cons, List.sum_cons, hcat]; omega) hlocks
  obtain ⟨f1, f2⟩ := vx_frame hsame
  rw [hhp] at f1 f2
  have hWs : s.WarmedH U.vm := State.WarmedH.trans hW0 hW
  have hcl : s.vm.findClass cls = some ce.cls := by
    have h9 := hO.cls
    rw [hvm] at h9
    exact h9
  have hall : s.sameButNew ({ U with vm := s.vm } : State) locs mc ms := by
    subst hA
    obtain ⟨e1, e2⟩ := hsame
    rw [State.setFrames_setFrames] at e1
    have h2 : (T.setVm s.vm).sameButNew ({ U with vm := s.vm } : State) [] (0 + 1) (0 + 6) := ⟨e1, e2⟩
    have h3 := X.same.trans h2
    rw [List.append_nil] at h3
    exact h3.mono hc hs
  refine ⟨U, ?_, .threw T.heap.size, hrun, hend, Or.inr ⟨T.heap.size, rfl, cls, ce, locs, hx U hWs.alike f1 (fun q hq => f2 q hq (fun z hz => nomatch hz)), hce, hO.vm, hcl, hWs, hall, hf⟩⟩
  refine st1 _ ?_
  show Steps p.tables e below (T1.setTop { method := m, pc := pc + 3, locals := ls, stack := .ref T.heap.size :: rest, locked := none }) _
  jvm_step X₁.here [X₁.here.top, hexec, d3', Value.category]
  exact X₁.ldcString hexec (own := own) (text := text) (index := is) (a := sa) hown' hstr'.1 hstr'.2
    (g := { method := m, pc := pc + 4, locals := ls, stack := .ref T.heap.size :: .ref T.heap.size :: rest, locked := none }) rfl d4' _ hsteps
/-- 'throw new E("text")', the text by a wide index -/
theorem vx_throwSW {cc : ByteArray} {pc : Nat} (hexec : p.tables.exec = Jvm.exec) (hb : c.code = cc) (hl : l.stackTraces = false) {own cls text : String} {names : List String} {ik is ic mc ms sa : Nat} {A : Nat → Prop}
    (hown : s.vm.findClass own = some m.cls) (hcls : Bundle.fit cls = true) (hnames : ∀ n ∈ names, Bundle.fit n = true)
    (hk : (Cond.classLink own ik cls).before args s = true) (hini : (Cond.initialized cls).before args s = true) (hstr : vk_R own is text sa s) (hat : ∀ w ∈ vx_atS own ic cls names, w.before args s = true)
    (hgood : ∀ w ∈ Cond.classLink own ik cls :: Cond.initialized cls :: vx_atS own ic cls names, vx_ot w = true)
    (hU : vx_Zq Bundle.tN "UNASSIGNED_STACK" Bundle.steD A s s.heap) (hN : vx_Zq Bundle.tN "SUPPRESSED_SENTINEL" Bundle.listD A s s.heap) (hS : va_S A s.heap H locs) (hsize : ls.size = c.maxLocals)
    (d0 : decode cc pc = .ok (.new ik, 3)) (d3 : decode cc (pc + 3) = .ok (.dup, 1)) (d4 : decode cc (pc + 4) = .ok (.ldc_w is, 3)) (d7 : decode cc (pc + 7) = .ok (.invokespecial ic, 3)) (d10 : decode cc (pc + 10) = .ok (.athrow, 1))
    (hout : ∀ x ∈ c.exceptionTable.toList, covers x (pc + 10) = false)
    (hRframes : names.length + 3 < R.frames) (hRlocals : (rest.map fun v => v.category).sum + (13 * (names.length + 1) + 43) ≤ R.locals) (hRcells : cells + 1 ≤ R.cells) (hRslots : slots + 6 ≤ R.slots) (hlocks : meth.locks = false)
    (hx : ∀ t : State, s.vm.Alike t.vm → H.size ≤ t.heap.size → (∀ q : Nat, q < H.size → t.heap[q]? = H[q]?) → XC cls s t)
    (hf : ∀ z ∈ locs, free z.base) (hc : cells + 1 ≤ mc) (hs : slots + 6 ≤ ms) :
    W p l e R s m args below meth c H locs cells slots (vx_MQ below Qc XC args s mc ms free) (F0 m pc ls rest) := by
  intro T hT X
  have htr : e.platform.stackTraces = false := (show e.platform.stackTraces = l.stackTraces by rw [X.admits.platform]).trans hl
  have Y := vx_rebase X (R' := { frames := R.frames, locals := R.locals, cells := 1, slots := 6 }) (Nat.le_refl _) (Nat.le_refl _) hRcells hRslots
  obtain ⟨s', hA⟩ : ∃ z, z = (T.setVm s.vm).setFrames (.invoking m args :: below) := ⟨_, rfl⟩
  rw [← hA] at Y
  have hvm : s'.vm = s.vm := by rw [hA]; rfl
  have hhp : s'.heap = H := by rw [hA]; exact hT
  have hW0 : s.WarmedH s'.vm := by rw [hvm]; exact State.WarmedH.refl s
  have hat' : ∀ w ∈ vx_atS own ic cls names, w.before args s' = true := fun w hw => vx_ot_at hW0 hvm.symm (hgood w (List.mem_cons_of_mem _ (List.mem_cons_of_mem _ hw))) (hat w hw)
  have hk' : (Cond.classLink own ik cls).before args s' = true := vx_ot_at hW0 hvm.symm (hgood _ List.mem_cons_self) hk
  have hini' : (Cond.initialized cls).before args s' = true := vx_ot_at hW0 hvm.symm (hgood _ (List.mem_cons_of_mem _ List.mem_cons_self)) hini
  have hU' : vx_Zq Bundle.tN "UNASSIGNED_STACK" Bundle.steD A s' s'.heap := by rw [hhp]; exact vx_Zq.moved hW0.alike (hU.kept hS.2.1)
  have hN' : vx_Zq Bundle.tN "SUPPRESSED_SENTINEL" Bundle.listD A s' s'.heap := by rw [hhp]; exact vx_Zq.moved hW0.alike (hN.kept hS.2.1)
  have h : ∀ w ∈ Bundle.ownAtoms own ic cls names, w.before args s' = true := vx_own hat' (vx_isRefq hU'.1) (vx_isRefq hN'.1) hU'.2.word hN'.2.word
  have hown' : s'.vm.findClass own = some m.cls := by rw [hvm]; exact hown
  have hins : (Cond.instantiable cls 6).before args s' = true := h _ (by simp [Bundle.ownAtoms])
  obtain ⟨vm₁, cX, kX, hfX, hkX, -, -, X₁, st1⟩ := Y.newCold hexec (own := own) (C := cls) (index := ik) (n := 6) hown' hk' hins hini'
    (g := F0 m pc ls rest) rfl (by rw [hb]; exact d0) (Nat.le_refl _) (Nat.le_refl _)
  generalize hT1 : (T.setVm vm₁).pushCell { cls := cX, slots := kX.instanceTypes.map defaultValue, vm := .none } = T1 at X₁ st1
  have hcat : (Value.ref T.heap.size).category = 1 := rfl
  have hcellA : T1.heap[T.heap.size]? = some (freshCell cX kX) := by rw [← hT1]; exact State.heap_pushCell_size _ _
  have d3' : decode c.code (pc + 3) = .ok (.dup, 1) := by rw [hb]; exact d3
  have d4' : decode c.code (pc + 4) = .ok (.ldc_w is, 3) := by rw [hb]; exact d4
  have hstr' : vk_R own is text sa s' := vk_R.warm hW0 hstr
  obtain ⟨U, hsteps, hrun, hend, hW, hsame, ce, hce, hO⟩ := X₁.ctorThrowS hexec htr (own := own) (cls := cls) (names := names) (ic := ic) hown' hcls hnames h (fun x hx => nomatch hx) hfX hkX hcellA (by rw [hhp, hT]; exact Nat.le_refl _) (msg := .ref sa) rfl
    (g := { method := m, pc := pc + 7, locals := ls, stack := .ref sa :: .ref T.heap.size :: .ref T.heap.size :: rest, locked := none }) rfl hsize rfl rfl (rest := rest) rfl
    (by rw [hb]; exact d7) (by rw [hb]; exact d10) hout hRframes (by simp only [List.map_cons, List.sum_cons, hcat]; omega) hlocks
  obtain ⟨f1, f2⟩ := vx_frame hsame
  rw [hhp] at f1 f2
  have hWs : s.WarmedH U.vm := State.WarmedH.trans hW0 hW
  have hcl : s.vm.findClass cls = some ce.cls := by
    have h9 := hO.cls
    rw [hvm] at h9
    exact h9
  have hall : s.sameButNew ({ U with vm := s.vm } : State) locs mc ms := by
    subst hA
    obtain ⟨e1, e2⟩ := hsame
    rw [State.setFrames_setFrames] at e1
    have h2 : (T.setVm s.vm).sameButNew ({ U with vm := s.vm } : State) [] (0 + 1) (0 + 6) := ⟨e1, e2⟩
    have h3 := X.same.trans h2
    rw [List.append_nil] at h3
    exact h3.mono hc hs
  refine ⟨U, ?_, .threw T.heap.size, hrun, hend, Or.inr ⟨T.heap.size, rfl, cls, ce, locs, hx U hWs.alike f1 (fun q hq => f2 q hq (fun z hz => nomatch hz)), hce, hO.vm, hcl, hWs, hall, hf⟩⟩
  refine st1 _ ?_
  show Steps p.tables e below (T1.setTop { method := m, pc := pc + 3, locals := ls, stack := .ref T.heap.size :: rest, locked := none }) _
  jvm_step X₁.here [X₁.here.top, hexec, d3', Value.category]
  exact X₁.ldcStringW hexec (own := own) (text := text) (index := is) (a := sa) hown' hstr'.1 hstr'.2
    (g := { method := m, pc := pc + 4, locals := ls, stack := .ref T.heap.size :: .ref T.heap.size :: rest, locked := none }) rfl d4' _ hsteps
end Ends
section Bodies
variable {l : Launch}
theorem vx_ofW {y : MethodName} {ws ws' : List Cond} {rm : Room} {Pc : Array Value → State → Prop} {Qc : Array Value → State → Outcome → State → Prop} {XC : String → State → State → Prop} {mc ms : Nat} {free : Addr → Prop} {cc : ByteArray} {maxL : Nat} {ret : Option FieldType}
    (hy : plainName y.cls = true) (hw : ws = Cond.code y cc maxL ret :: ws')
    (body : ∀ p e s m args below meth c s₁, BodyLoose p l y (headSpec ws rm) cc maxL ret e s m args below meth c s₁ → c.maxLocals = maxL → (∀ x ∈ c.exceptionTable.toList, False) → Pc args s →
      W p l e (headSpec ws rm).room s m args below meth c s.heap [] 0 0 (vx_MQ below Qc XC args s mc ms free) (entryFrame m args maxL)) : vx_Met l y ws rm Pc Qc XC mc ms free := by
  refine MetFree.of_bodyS (code := cc) (maxLocals := maxL) (ret := ret) hy ?_ ?_
  · intro args s m h hn
    obtain ⟨meth, c, h1, h2, h3, h4, h5, h6, -, -⟩ := Cond.code_spec hn (atoms_spec (ws := ws) h _ (by rw [hw]; exact List.mem_cons_self))
    exact ⟨meth, c, h1, h2, h3, h4, h5, h6⟩
  · intro p e s m args below meth c s₁ B hml hP _
    have hh0 : s₁.heap = s.heap := by rw [B.state]; rfl
    have ht : ∀ x ∈ c.exceptionTable.toList, False := by
      obtain ⟨meth9, c9, h1, h2, -, -, -, -, h7, -⟩ := Cond.code_spec B.named (atoms_spec (ws := ws) B.pre _ (by rw [hw]; exact List.mem_cons_self))
      cases Option.some.inj (h1.symm.trans B.method)
      cases Option.some.inj (h2.symm.trans (Stand.of_body B).code)
      intro x hx
      rw [Array.isEmpty_iff.mp h7] at hx
      cases hx
    obtain ⟨t, a1, o, b1, b2, b3⟩ := body p e s m args below meth c s₁ B hml ht hP s₁ hh0 (Stand.of_body B)
    exact ⟨t, o, a1, b1, b2, b3⟩
/-- the table of a body with handlers -/
theorem vx_table {p : Program} {x y : MethodName} {S : Spec} {cc bytes : ByteArray} {maxL maxL' : Nat} {ret ret' : Option FieldType} {e : Env} {s s₁ : State} {m : MethodId} {args : Array Value} {below : List Frame} {meth : Method} {c : Code} {hh : List (Nat × Nat × Nat × Nat)}
    (B : BodyLoose p l y S cc maxL ret e s m args below meth c s₁) (h : (Cond.codeWith y bytes maxL' ret' hh).before args s = true) : c.exceptionTable.toList = tableOf hh := by
  obtain ⟨m9, meth9, c9, hn9, h1, h2, -, -, h6, -⟩ := Cond.codeWith_spec h
  cases Option.some.inj (hn9.symm.trans B.named)
  cases Option.some.inj (h1.symm.trans B.method)
  cases Option.some.inj (h2.symm.trans (Stand.of_body B).code)
  rw [← h6, table_eq]
end Bodies
end VXA
/-! ===== END ===== -/
/-! ===== BEGIN a static call of a method with an exception table ===== -/
section VXS
variable {p : Program} {l : Launch} {e : Env} {R : Room} {s : State} {m : MethodId} {args : Array Value} {below : List Frame} {meth : Method} {c : Code} {T : State} {H : Heap} {locs : List Loc} {cells slots : Nat}
abbrev vx_CSW (R : Room) (s : State) (args : Array Value) (own : String) (index : Nat) (y : MethodName) (bytes : ByteArray) (maxL : Nat) (ret : Option FieldType) (hh : List (Nat × Nat × Nat × Nat)) (ws : List Cond) (rm : Room) (mc ms n : Nat) : Prop :=
  (rm.cells = mc ∧ rm.slots = ms ∧ rm.frames + 1 ≤ R.frames ∧ 8 + (maxL + 11) + rm.locals ≤ R.locals ∧ (∀ w ∈ ws, ∀ (a' : Array Value) (U : State), s.WarmedH U.vm → w.before a' U = true) ∧ Cond.codeWith y bytes maxL ret hh ∈ ws) ∧
  (Cond.codeWith y bytes maxL ret hh).before args s = true ∧ (Cond.initialized y.cls).before args s = true ∧ (y.cls ≠ "java/lang/invoke/MethodHandle" ∧ y.cls ≠ "java/lang/invoke/VarHandle") ∧
  (∀ sig, parseMethodDescriptor y.desc = some sig → n = sig.parameters.length) ∧ (Cond.methodLink own index y).before args s = true ∧ (Cond.static y).before args s = true
theorem vx_cwSW {own : String} {index maxL mc ms : Nat} {y : MethodName} {bytes : ByteArray} {ret : Option FieldType} {hh : List (Nat × Nat × Nat × Nat)} {Ts ws ws' : List Cond} {rm : Room} (n : Nat) (ht : ∀ w ∈ Ts, w.before args s = true) (hT : GoodIn Ts (va_wsS own index y ws)) (hw : ws = Cond.codeWith y bytes maxL ret hh :: ws') (hrc : rm.cells = mc) (hrs : rm.slots = ms)
    (hd : y.cls ≠ "java/lang/invoke/MethodHandle" ∧ y.cls ≠ "java/lang/invoke/VarHandle" ∧ (parseMethodDescriptor y.desc).map (fun d => d.parameters.length) = some n) (hR : rm.frames + 1 ≤ R.frames ∧ 8 + (maxL + 11) + rm.locals ≤ R.locals) :
    vx_CSW R s args own index y bytes maxL ret hh ws rm mc ms n := by
  have ok : ∀ w ∈ va_wsS own index y ws, w.before args s = true := fun w h => ht w (hT w h).1
  have hG : GoodIn Ts ws := fun w h => hT w (by unfold va_wsS; exact List.mem_append_right _ h)
  have hc : Cond.codeWith y bytes maxL ret hh ∈ ws := by rw [hw]; exact List.mem_cons_self
  refine ⟨⟨hrc, hrs, hR.1, hR.2, pay_in ht hG, hc⟩, ht _ (hG _ hc).1, ok _ (by simp [va_wsS]), ⟨hd.1, hd.2.1⟩, fun sig h => ?_, ok _ (by simp [va_wsS]), ok _ (by simp [va_wsS])⟩
  have h2 := hd.2.2
  rw [h] at h2
  exact (Option.some.inj h2).symm
theorem vx_callSW (X : Stand p l e R s m args below meth c T locs cells slots) (hexec : p.tables.exec = Jvm.exec) {own : String} {index : Nat} {y : MethodName} {bytes : ByteArray} {maxL : Nat} {ret : Option FieldType} {hh : List (Nat × Nat × Nat × Nat)}
    (hown : s.vm.findClass own = some m.cls) (hlink : (Cond.methodLink own index y).before args s = true) (hstat : (Cond.static y).before args s = true) (hinit : (Cond.initialized y.cls).before args s = true)
    (hcode : (Cond.codeWith y bytes maxL ret hh).before args s = true) (hy : y.cls ≠ "java/lang/invoke/MethodHandle" ∧ y.cls ≠ "java/lang/invoke/VarHandle")
    {W9 : Nat} {Pre : Pt → Array Value → Prop} {Post : Pt → Array Value → Option Value → Pt → Prop} (hK : Back l R p e below s args y 3 W9 Pre Post)
    {g : JFrame} (hg : g.method = m) (hsize : g.locals.size = c.maxLocals) {argsL rest : List Value} (hlen : ∀ sig, parseMethodDescriptor y.desc = some sig → argsL.length = sig.parameters.length)
    (hstack : g.stack = argsL.reverse ++ rest) (hW : 2 * g.monitorRoom + (rest.map fun v => v.category).sum ≤ W9) (hdg : decode c.code g.pc = .ok (.invokestatic index, 3))
    (hpre : ∀ vm₁, s.WarmedH vm₁ → Pre ⟨T.setVm vm₁, locs, cells, slots⟩ argsL.toArray) :
    ∃ (v : Option Value) (vm₁ : Vm) (B : Pt), s.WarmedH vm₁ ∧ Stand p l e R s m args below meth c B.U B.locs B.cells B.slots ∧ Post ⟨T.setVm vm₁, locs, cells, slots⟩ argsL.toArray v B ∧
      ∀ target, Steps p.tables e below (B.U.setTop { g with pc := g.pc + 3, stack := v.toList ++ rest }) target → Steps p.tables e below (T.setTop g) target := by
  obtain ⟨mk, methM, cM, hnamed, hmethM, -, -, -, -, -, -, hsigM⟩ := Cond.codeWith_spec hcode
  have hstatic : methM.isStatic = true := Cond.static_spec hnamed hmethM hstat
  obtain ⟨kP, hkP, -⟩ := className_of_methodNamed hnamed
  have hinitP : kP.init = .initialized := Cond.initialized_spec (findClass_of_methodNamed hnamed) hkP hinit
  obtain ⟨vm₁, X₁, hstep₁⟩ := X.invokestatic hexec hown hlink hnamed hmethM hstatic hkP hinitP hy (g := g) hg (argsL := argsL) (rest := rest) (hlen _ hsigM) hstack hdg
  obtain ⟨v, B, X', hpost, hsteps⟩ := hK m meth c ⟨T.setVm vm₁, locs, cells, slots⟩ { g with stack := rest } (.invokestatic index) mk argsL.toArray X₁ hg hsize hdg hW (X₁.named hnamed) (hpre vm₁ X₁.warmed)
  exact ⟨v, vm₁, B, X₁.warmed, X', hpost, fun target h => hstep₁ _ fun acts => by rw [doInvoke_state]; exact hsteps.trans h⟩
theorem vx_runSW {y : MethodName} {bytes cc : ByteArray} {maxL nL mc ms n index : Nat} {ret : Option FieldType} {hh : List (Nat × Nat × Nat × Nat)} {ws : List Cond} {rm : Room} {Pc : Array Value → State → Prop} {Qc : Array Value → State → Outcome → State → Prop} {free : Addr → Prop} {Ts : List Cond} {own : String} {As rest : List Value} {g : JFrame}
    (S : CallFix p m c cc nL s args Ts own) (hM : Met l y ws rm Pc Qc mc ms free) (cw : vx_CSW R s args own index y bytes maxL ret hh ws rm mc ms n) (hp : PreS s H Pc As)
    (hg : g.method = m) (hn : As.length = n) (hsize : g.locals.size = nL) (hstack : g.stack = As.reverse ++ rest) (hW : 2 * g.monitorRoom + (rest.map fun v => v.category).sum ≤ 8) (hdg : decode cc g.pc = .ok (.invokestatic index, 3)) (hf : cells + mc ≤ R.cells ∧ slots + ms ≤ R.slots) :
    va_Run p l e R s m args below meth c H locs cells slots mc ms g rest (Qc As.toArray) (free) := by
  obtain ⟨⟨hrc, hrs, hfr, hlo, hws, hcw⟩, hcode, hini, hy, hlen, hl, hstt⟩ := cw
  have hK : Back l R p e below s args y 3 8 (PreOf R mc ms Pc) (PostOf Qc mc ms free) := va_backW (hh := hh) (bytes := bytes) (maxL := maxL) (ret := ret) hM hp.1 hrc hrs hfr hlo hws hcw (fun a' U hW => word_at hW (Or.inl (by first | rfl | simp [Cond.onTables, Cond.keeps, Cond.steady])) hini)
  obtain ⟨hx, hb, hml, ho, -⟩ := S
  intro T hT X
  obtain ⟨v, vm₁, ⟨U', l2, c2, s2⟩, hW₁, X', ⟨g', mk, t, L, e1, e2, hq, h1, hL, h2, h3⟩, st⟩ := vx_callSW X hx (hh := hh) (bytes := bytes) (maxL := maxL) (ret := ret) ho hl hstt hini hcode hy hK hg (hsize.trans hml.symm) (argsL := As) (rest := rest) (fun sig h => hn.trans (hlen sig h)) hstack hW (by rw [hb]; exact hdg)
    (fun vm₁ hW₁ => ⟨hf.1, hf.2, hp.2 (T.setVm vm₁) hT hW₁⟩)
  dsimp only [Pt.U, Pt.locs, Pt.cells, Pt.slots] at X' e1 e2 h1 h2 h3 st
  subst h1; subst h2; subst h3
  exact ⟨v, (T.setVm vm₁).calling g' mk As.toArray, t, U', L, hT, X', hL, e1, e2, hq, st⟩
/-- not caught here, past rows that name other classes: it goes on to the caller -/
theorem vx_outP {p : Program} {l : Launch} {e : Env} {R : Room} {s : State} {m : MethodId} {args : Array Value} {below : List Frame} {meth : Method} {c : Code} {H : Heap} {locs : List Loc} {cells slots : Nat} {free : Addr → Prop} {ls : Array Slot} {rest : List Value} {Qc : Array Value → State → Outcome → State → Prop} {XC : String → State → State → Prop}
    {pc : Nat} {own E : String} {ce : Cell} {q : Addr} {mc ms : Nat} (hown : s.vm.findClass own = some m.cls) (hlocks : meth.locks = false)
    (hpass : ∀ z ∈ c.exceptionTable.toList, covers z pc = false ∨ (z.catchType ≠ 0 ∧ ∃ nm : String, (Cond.classLink own z.catchType nm).before args s = true ∧ va_Nc E nm s)) (hcell : H[q]? = some ce) (hv : ce.vm = .none) (hcl : s.vm.findClass E = some ce.cls)
    (hx : ∀ t : State, t.heap = H → s.vm.Alike t.vm → XC E s t) (hf : ∀ z ∈ locs, free z.base) (hc : cells ≤ mc) (hs : slots ≤ ms) :
    vx_W p l e R s m args below meth c H locs cells slots (vx_MQ below Qc XC args s mc ms free) (F0 m pc ls rest) q := by
  intro T hT X
  have hpl : e.platform.magicAccessors = ({} : Platform).magicAccessors := by rw [X.admits.platform]
  obtain ⟨vm', hW', X', st⟩ := X.outThrough hlocks q (g := F0 m pc ls rest) rfl rfl rfl (cell := ce) (by rw [hT]; exact hcell) (by rw [hv]; rfl)
    (by obtain ⟨k9, h9, -⟩ := Vm.findClass_spec hcl; exact ⟨k9, h9⟩) (fun z hz => by
      rcases hpass z hz with h | ⟨hz0, nm, hl1, hn1⟩
      · exact Or.inl h
      · obtain ⟨c6, hc6, hcl6⟩ := Cond.classLink_spec hown hl1 e.platform hpl
        obtain ⟨a8, b8, h1, h2, h3⟩ := hn1
        cases Option.some.inj (h1.symm.trans hcl)
        cases Option.some.inj (h2.symm.trans hc6)
        exact Or.inr ⟨hz0, _, hcl6, h3⟩)
  obtain ⟨g₀, hfr⟩ := X'.frames_eq
  have hcell9 : ((T.setVm vm').setFrames (.throwing q :: below)).heap[q]? = some ce := by
    show T.heap[q]? = some ce
    rw [hT]; exact hcell
  have hend : Ended ((T.setVm vm').setFrames (.throwing q :: below)) below (.threw q) := State.frames_setFrames _ (State.cur_lt_of_frames hfr)
  refine ⟨(T.setVm vm').setFrames (.throwing q :: below), ?_, .threw q, X'.here.running, hend, Or.inr ⟨q, rfl, E, ce, locs, hx _ hT (X'.ends _).1.alike, hcell9, hv, hcl, (X'.ends _).1, (X'.ends _).2.mono hc hs, hf⟩⟩
  rw [X.pushThrowing_eq]
  exact st
/-- a thing of a world lies in the heap -/
theorem vx_lt {D : va_G} {cl : List vw_C} {ws : va_W} {H1 : Heap} (h : va_P D cl ws H1) {k : Nat} {q : Nat × va_E} (hk : ws[k]? = some q) : q.1 < H1.size := (h k q hk).lt
end VXS
/-! ===== END ===== -/
/-! ===== BEGIN methods with a table of their own: called by a name, returning or throwing ===== -/
section VXH
/-! vx_backW, vx_callVX, vx_callSX, vx_callVW, vx_runVW, vx_runVX, vx_runSX, vx_ofWH follow the same proofs as their sisters above (Free/Laws.lean, Shelf42/LK1.lean); vx_outP calls Shelf42/NT130.lean (outThrough). -/
section
variable {l : Launch} {R : Room} {p : Program} {e : Env} {below : List Frame} {s : State} {sargs : Array Value} {y : MethodName} {len W9 : Nat}
theorem vx_backW {ws : List Cond} {rm : Room} {Pc : Array Value → State → Prop} {Qc : Array Value → State → Outcome → State → Prop} {XC : String → State → State → Prop} {mc ms : Nat} {free : Addr → Prop} {bytes : ByteArray} {maxL : Nat} {ret : Option FieldType} {hh : List (Nat × Nat × Nat × Nat)}
    (hM : vx_Met l y ws rm Pc Qc XC mc ms free) (hblind : FrameBlind Pc) (hrc : rm.cells = mc) (hrs : rm.slots = ms)
    (hframes : rm.frames + 1 ≤ R.frames) (hlocals : W9 + (maxL + 11) + rm.locals ≤ R.locals)
    (hws : ∀ w ∈ ws, ∀ a' U, s.WarmedH U.vm → w.before a' U = true) (hcode : Cond.codeWith y bytes maxL ret hh ∈ ws) (hinit : ∀ a' U, s.WarmedH U.vm → (Cond.initialized y.cls).before a' U = true) :
    vx_Back l R p e below s sargs y len W9 (PreOf R mc ms Pc) (PostOf Qc mc ms free) (vx_Post XC mc ms free) := by
  intro m meth c A g ig mk a X hg hsize hdg hW hn hp
  have h1 : (headSpec ws rm).pre.before a A.U = true := atoms_intro fun w hw => hws w hw _ _ X.warmed
  have h2 : (Cond.codeWith y bytes maxL ret hh).before a A.U = true := hws _ hcode _ _ X.warmed
  have h3 : (Cond.initialized y.cls).before a A.U = true := hinit _ _ X.warmed
  have h4 : A.cells + (headSpec ws rm).room.cells ≤ R.cells := by rw [show (headSpec ws rm).room.cells = mc from hrc]; exact hp.1
  have h5 : A.slots + (headSpec ws rm).room.slots ≤ R.slots := by rw [show (headSpec ws rm).room.slots = ms from hrs]; exact hp.2.1
  have hPc : Pc a (A.U.calling g mk a) := hblind _ _ _ _ hp.2.2
  obtain ⟨U, Ls, c0, s0⟩ := A
  dsimp only [Pt.U, Pt.locs, Pt.cells, Pt.slots] at h1 h2 h3 h4 h5 X hn hPc ⊢
  obtain ⟨m9, methY, cY, hn9, hmY, hcY, -, hlY, -⟩ := Cond.codeWith_spec h2
  cases Option.some.inj (hn9.symm.trans hn)
  obtain ⟨kY, hkY, -⟩ := className_of_methodNamed hn
  have hinitY : kY.init = .initialized := Cond.initialized_spec (findClass_of_methodNamed hn) hkY h3
  have h : At U g.method c below := by rw [hg]; exact X.here
  have hlocals9 : W9 + (maxL + 11) + (headSpec ws rm).room.locals ≤ R.locals := hlocals
  have happ : (headSpec ws rm).appliesLoose y e.platform (U.calling g mk a) = true :=
    Spec.appliesLoose_calling (g := g) h hdg hn hkY hinitY
      (X.room_calling (g := g) (R' := (headSpec ws rm).room) hsize hmY hcY hframes (by rw [hlY]; omega) h4 h5) h1
  obtain ⟨mid, hmid⟩ := h.above
  have hfr : (U.setTop g).frames = (.java g :: mid) ++ below := by rw [State.frames_setTop' g h.top, hmid]; rfl
  obtain ⟨o, s₂, hsteps, -, hend, hq⟩ := Steps.callFree hM p X.admits X.cas X.clock (acts := []) hfr happ hPc trivial
  have hq' : vx_Q Qc XC mc ms free a (U.calling g mk a) o s₂ := hq
  rw [State.frames_setTop' g h.top] at hend
  obtain ⟨g₀, hg0⟩ := Option.isSome_iff_exists.mp h.top
  obtain ⟨r, hr⟩ := State.topJava?_eq_some.mp hg0
  have hr' : (({ U with heap := s₂.heap, slotsUsed := s₂.slotsUsed } : State).setVm s₂.vm).frames = .java g₀ :: r := hr
  rcases hq' with ⟨hqc, L, hfe, hL⟩ | ⟨q, rfl, E, ce, L, hx, hce, hcv, hcl, hW₂, hsm, hL⟩
  · obtain ⟨⟨v, rfl⟩, hW₂, e2, q2, q3, q4, q5, q6⟩ := id hfe
    have e3 : s₂ = ({ (U.calling g mk a).setFrames s₂.frames with heap := s₂.heap, slotsUsed := s₂.slotsUsed } : State).setVm s₂.vm := by
      have : s₂ = ({ s₂ with vm := (U.calling g mk a).vm } : State).setVm s₂.vm := rfl
      rw [e2] at this
      exact this
    obtain ⟨c₂, i₂, len₂, hc₂, hd₂, hf₂⟩ := hend
    have hW' : U.WarmedH s₂.vm := hW₂
    have hcc : c₂ = c := by
      have h1 : s₂.code? g.method = U.code? g.method := by
        rw [State.code?_eq, State.code?_eq, hW'.alike.method?]
      exact Option.some.inj (hc₂.symm.trans (h1.trans h.code))
    subst hcc
    have hlen : len₂ = len := by rw [hdg] at hd₂; cases hd₂; rfl
    subst hlen
    have hs₂ : s₂ = (({ U with heap := s₂.heap, slotsUsed := s₂.slotsUsed } : State).setVm s₂.vm).setTop { g with pc := g.pc + len₂, stack := v.toList ++ g.stack } := by
      refine e3.trans ?_
      rw [hf₂, State.calling_eq h.top, State.setFrames_setFrames, State.setTop_of_frames _ hr', hr]
      rfl
    have hsame : U.sameButNew ({ U with heap := s₂.heap, slotsUsed := s₂.slotsUsed } : State) L mc ms := by
      refine ⟨?_, q2, q3, q4, q5, q6⟩
      obtain ⟨t, ht, -⟩ := State.frames_cons hr
      show ({ U with heap := s₂.heap, slotsUsed := s₂.slotsUsed } : State) = { U.setFrames U.frames with heap := s₂.heap, slotsUsed := s₂.slotsUsed }
      rw [State.setFrames_self ht]
    subst hg
    refine Or.inl ⟨v, ⟨(({ U with heap := s₂.heap, slotsUsed := s₂.slotsUsed } : State).setVm s₂.vm), Ls ++ L, c0 + mc, s0 + ms⟩,
      ⟨X.admits, X.cas, X.clock, X.frames, X.room, X.hears, X.method, X.code, (X.here.setHeapUsed s₂.heap s₂.slotsUsed).setVm hW'.alike, X.tail, State.WarmedH.trans X.warmed hW', X.limits, X.bytes, X.same.trans (hsame.setVm s.vm)⟩,
      ⟨g, mk, s₂, L, rfl, rfl, hqc, rfl, hL, rfl, rfl⟩, ?_⟩
    show Steps p.tables e below _ ((({ U with heap := s₂.heap, slotsUsed := s₂.slotsUsed } : State).setVm s₂.vm).setTop { g with pc := g.pc + len₂, stack := v.toList ++ g.stack })
    rw [← hs₂]
    exact hsteps
  · obtain ⟨e2, q2, q3, q4, q5, q6⟩ := id hsm
    have e3 : s₂ = ({ (U.calling g mk a).setFrames s₂.frames with heap := s₂.heap, slotsUsed := s₂.slotsUsed } : State).setVm s₂.vm := by
      have : s₂ = ({ s₂ with vm := (U.calling g mk a).vm } : State).setVm s₂.vm := rfl
      rw [e2] at this
      exact this
    have hf₂ : s₂.frames = .throwing q :: .java g :: U.frames.tail := hend
    have hW' : U.WarmedH s₂.vm := hW₂
    have hs₂ : s₂ = ((({ U with heap := s₂.heap, slotsUsed := s₂.slotsUsed } : State).setVm s₂.vm).setTop g).pushFrame (.throwing q) := by
      refine e3.trans ?_
      rw [hf₂, State.calling_eq h.top, State.setFrames_setFrames, State.pushFrame, State.frames_setTop _ hr', State.setTop_of_frames _ hr', State.setFrames_setFrames, hr]
      rfl
    have hsame : U.sameButNew ({ U with heap := s₂.heap, slotsUsed := s₂.slotsUsed } : State) L mc ms := by
      refine ⟨?_, q2, q3, q4, q5, q6⟩
      obtain ⟨t, ht, -⟩ := State.frames_cons hr
      show ({ U with heap := s₂.heap, slotsUsed := s₂.slotsUsed } : State) = { U.setFrames U.frames with heap := s₂.heap, slotsUsed := s₂.slotsUsed }
      rw [State.setFrames_self ht]
    subst hg
    refine Or.inr ⟨q, ⟨(({ U with heap := s₂.heap, slotsUsed := s₂.slotsUsed } : State).setVm s₂.vm), Ls ++ L, c0 + mc, s0 + ms⟩,
      ⟨X.admits, X.cas, X.clock, X.frames, X.room, X.hears, X.method, X.code, (X.here.setHeapUsed s₂.heap s₂.slotsUsed).setVm hW'.alike, X.tail, State.WarmedH.trans X.warmed hW', X.limits, X.bytes, X.same.trans (hsame.setVm s.vm)⟩,
      ⟨g, mk, s₂, L, E, ce, rfl, rfl, hx, hce, hcv, hcl, rfl, hL, rfl, rfl⟩, ?_⟩
    show Steps p.tables e below _ (((({ U with heap := s₂.heap, slotsUsed := s₂.slotsUsed } : State).setVm s₂.vm).setTop g).pushFrame (.throwing q))
    rw [← hs₂]
    exact hsteps
end
variable {p : Program} {l : Launch} {e : Env} {R : Room} {s : State} {m : MethodId} {args : Array Value} {below : List Frame} {meth : Method} {c : Code} {T : State} {H : Heap} {locs : List Loc} {cells slots : Nat}
theorem vx_callVX (X : Stand p l e R s m args below meth c T locs cells slots) (hexec : p.tables.exec = Jvm.exec) {own C : String} {index : Nat} {y : MethodName} {bytes : ByteArray} {maxL : Nat} {ret : Option FieldType} {hh : List (Nat × Nat × Nat × Nat)}
    (hown : s.vm.findClass own = some m.cls) (hlink : (Cond.methodLink own index y).before args s = true) (hinst : (Cond.instanceMethod y).before args s = true) (hsel : (Cond.selects C y y).before args s = true)
    (hcode : (Cond.codeWith y bytes maxL ret hh).before args s = true) (hy : y.cls ≠ "java/lang/invoke/MethodHandle" ∧ y.cls ≠ "java/lang/invoke/VarHandle")
    {W9 : Nat} {Pre : Pt → Array Value → Prop} {Post : Pt → Array Value → Option Value → Pt → Prop} {PostX : Pt → Array Value → Addr → Pt → Prop} (hK : vx_Back l R p e below s args y 3 W9 Pre Post PostX)
    {b : Addr} {cellB : Cell} (hcell : T.heap[b]? = some cellB) (hobj : cellB.vm.isStatics = false) (hcls : s.vm.findClass C = some cellB.cls)
    {g : JFrame} (hg : g.method = m) (hsize : g.locals.size = c.maxLocals) {argsL rest : List Value} (hlen : ∀ sig, parseMethodDescriptor y.desc = some sig → argsL.length = sig.parameters.length)
    (hstack : g.stack = argsL.reverse ++ .ref b :: rest) (hW : 2 * g.monitorRoom + (rest.map fun v => v.category).sum ≤ W9) (hdg : decode c.code g.pc = .ok (.invokevirtual index, 3))
    (hpre : ∀ vm₁, s.WarmedH vm₁ → Pre ⟨T.setVm vm₁, locs, cells, slots⟩ (Value.ref b :: argsL).toArray) :
    (∃ (v : Option Value) (vm₁ : Vm) (B : Pt), s.WarmedH vm₁ ∧ Stand p l e R s m args below meth c B.U B.locs B.cells B.slots ∧ Post ⟨T.setVm vm₁, locs, cells, slots⟩ (Value.ref b :: argsL).toArray v B ∧
      ∀ target, Steps p.tables e below (B.U.setTop { g with pc := g.pc + 3, stack := v.toList ++ rest }) target → Steps p.tables e below (T.setTop g) target) ∨
    (∃ (q : Addr) (vm₁ : Vm) (B : Pt), s.WarmedH vm₁ ∧ Stand p l e R s m args below meth c B.U B.locs B.cells B.slots ∧ PostX ⟨T.setVm vm₁, locs, cells, slots⟩ (Value.ref b :: argsL).toArray q B ∧
      Steps p.tables e below (T.setTop g) ((B.U.setTop { g with stack := rest }).pushFrame (.throwing q))) := by
  obtain ⟨mk, methM, hnamed, hmethM, hstM, habM⟩ := Cond.instanceMethod_spec hinst
  obtain ⟨m8, methM', cM, hn8, hmethM', -, -, -, -, -, -, hsigM⟩ := Cond.codeWith_spec hcode
  cases Option.some.inj (hn8.symm.trans hnamed)
  cases hmethM.symm.trans hmethM'
  obtain ⟨c2, r2, m2, q1, q2, q3, q4, kP, hkP, hkPi⟩ := Cond.selects_spec hsel
  cases hcls.symm.trans q1
  cases (State.methodFound?_of_named hnamed hy).symm.trans q2
  cases hnamed.symm.trans q3
  have hselP : selectMethod e.platform s.vm cellB.cls mk = .method mk := by rw [Launch.admits_selectMethod X.admits]; exact q4
  obtain ⟨vm₁, X₁, hstep₁⟩ := X.invokevirtual hexec hown hlink hnamed hmethM hstM hkP hkPi hy (a := b) (cell := cellB) hcell
    (fun z h => by rw [h] at hobj; cases hobj) hselP hmethM habM hkP hkPi (g := g) hg (argsL := argsL) (rest := rest) (hlen _ hsigM) hstack hdg
  rcases hK m meth c ⟨T.setVm vm₁, locs, cells, slots⟩ { g with stack := rest } (.invokevirtual index) mk (Value.ref b :: argsL).toArray X₁ hg hsize hdg hW (X₁.named hnamed) (hpre vm₁ X₁.warmed) with ⟨v, B, X', hpost, hsteps⟩ | ⟨q, B, X', hpost, hsteps⟩
  · exact Or.inl ⟨v, vm₁, B, X₁.warmed, X', hpost, fun target h => hstep₁ _ fun acts => by rw [doInvoke_state]; exact hsteps.trans h⟩
  · exact Or.inr ⟨q, vm₁, B, X₁.warmed, X', hpost, hstep₁ _ fun acts => by rw [doInvoke_state]; exact hsteps⟩
theorem vx_callSX (X : Stand p l e R s m args below meth c T locs cells slots) (hexec : p.tables.exec = Jvm.exec) {own : String} {index : Nat} {y : MethodName} {bytes : ByteArray} {maxL : Nat} {ret : Option FieldType} {hh : List (Nat × Nat × Nat × Nat)}
    (hown : s.vm.findClass own = some m.cls) (hlink : (Cond.methodLink own index y).before args s = true) (hstat : (Cond.static y).before args s = true) (hinit : (Cond.initialized y.cls).before args s = true)
    (hcode : (Cond.codeWith y bytes maxL ret hh).before args s = true) (hy : y.cls ≠ "java/lang/invoke/MethodHandle" ∧ y.cls ≠ "java/lang/invoke/VarHandle")
    {W9 : Nat} {Pre : Pt → Array Value → Prop} {Post : Pt → Array Value → Option Value → Pt → Prop} {PostX : Pt → Array Value → Addr → Pt → Prop} (hK : vx_Back l R p e below s args y 3 W9 Pre Post PostX)
    {g : JFrame} (hg : g.method = m) (hsize : g.locals.size = c.maxLocals) {argsL rest : List Value} (hlen : ∀ sig, parseMethodDescriptor y.desc = some sig → argsL.length = sig.parameters.length)
    (hstack : g.stack = argsL.reverse ++ rest) (hW : 2 * g.monitorRoom + (rest.map fun v => v.category).sum ≤ W9) (hdg : decode c.code g.pc = .ok (.invokestatic index, 3))
    (hpre : ∀ vm₁, s.WarmedH vm₁ → Pre ⟨T.setVm vm₁, locs, cells, slots⟩ argsL.toArray) :
    (∃ (v : Option Value) (vm₁ : Vm) (B : Pt), s.WarmedH vm₁ ∧ Stand p l e R s m args below meth c B.U B.locs B.cells B.slots ∧ Post ⟨T.setVm vm₁, locs, cells, slots⟩ argsL.toArray v B ∧
      ∀ target, Steps p.tables e below (B.U.setTop { g with pc := g.pc + 3, stack := v.toList ++ rest }) target → Steps p.tables e below (T.setTop g) target) ∨
    (∃ (q : Addr) (vm₁ : Vm) (B : Pt), s.WarmedH vm₁ ∧ Stand p l e R s m args below meth c B.U B.locs B.cells B.slots ∧ PostX ⟨T.setVm vm₁, locs, cells, slots⟩ argsL.toArray q B ∧
      Steps p.tables e below (T.setTop g) ((B.U.setTop { g with stack := rest }).pushFrame (.throwing q))) := by
  obtain ⟨mk, methM, cM, hnamed, hmethM, -, -, -, -, -, -, hsigM⟩ := Cond.codeWith_spec hcode
  have hstatic : methM.isStatic = true := Cond.static_spec hnamed hmethM hstat
  obtain ⟨kP, hkP, -⟩ := className_of_methodNamed hnamed
  have hinitP : kP.init = .initialized := Cond.initialized_spec (findClass_of_methodNamed hnamed) hkP hinit
  obtain ⟨vm₁, X₁, hstep₁⟩ := X.invokestatic hexec hown hlink hnamed hmethM hstatic hkP hinitP hy (g := g) hg (argsL := argsL) (rest := rest) (hlen _ hsigM) hstack hdg
  rcases hK m meth c ⟨T.setVm vm₁, locs, cells, slots⟩ { g with stack := rest } (.invokestatic index) mk argsL.toArray X₁ hg hsize hdg hW (X₁.named hnamed) (hpre vm₁ X₁.warmed) with ⟨v, B, X', hpost, hsteps⟩ | ⟨q, B, X', hpost, hsteps⟩
  · exact Or.inl ⟨v, vm₁, B, X₁.warmed, X', hpost, fun target h => hstep₁ _ fun acts => by rw [doInvoke_state]; exact hsteps.trans h⟩
  · exact Or.inr ⟨q, vm₁, B, X₁.warmed, X', hpost, hstep₁ _ fun acts => by rw [doInvoke_state]; exact hsteps⟩
theorem vx_callVW (X : Stand p l e R s m args below meth c T locs cells slots) (hexec : p.tables.exec = Jvm.exec) {own C : String} {index : Nat} {y : MethodName} {bytes : ByteArray} {maxL : Nat} {ret : Option FieldType} {hh : List (Nat × Nat × Nat × Nat)}
    (hown : s.vm.findClass own = some m.cls) (hlink : (Cond.methodLink own index y).before args s = true) (hinst : (Cond.instanceMethod y).before args s = true) (hsel : (Cond.selects C y y).before args s = true)
    (hcode : (Cond.codeWith y bytes maxL ret hh).before args s = true) (hy : y.cls ≠ "java/lang/invoke/MethodHandle" ∧ y.cls ≠ "java/lang/invoke/VarHandle")
    {W9 : Nat} {Pre : Pt → Array Value → Prop} {Post : Pt → Array Value → Option Value → Pt → Prop} (hK : Back l R p e below s args y 3 W9 Pre Post)
    {b : Addr} {cellB : Cell} (hcell : T.heap[b]? = some cellB) (hobj : cellB.vm.isStatics = false) (hcls : s.vm.findClass C = some cellB.cls)
    {g : JFrame} (hg : g.method = m) (hsize : g.locals.size = c.maxLocals) {argsL rest : List Value} (hlen : ∀ sig, parseMethodDescriptor y.desc = some sig → argsL.length = sig.parameters.length)
    (hstack : g.stack = argsL.reverse ++ .ref b :: rest) (hW : 2 * g.monitorRoom + (rest.map fun v => v.category).sum ≤ W9) (hdg : decode c.code g.pc = .ok (.invokevirtual index, 3))
    (hpre : ∀ vm₁, s.WarmedH vm₁ → Pre ⟨T.setVm vm₁, locs, cells, slots⟩ (Value.ref b :: argsL).toArray) :
    ∃ (v : Option Value) (vm₁ : Vm) (B : Pt), s.WarmedH vm₁ ∧ Stand p l e R s m args below meth c B.U B.locs B.cells B.slots ∧ Post ⟨T.setVm vm₁, locs, cells, slots⟩ (Value.ref b :: argsL).toArray v B ∧
      ∀ target, Steps p.tables e below (B.U.setTop { g with pc := g.pc + 3, stack := v.toList ++ rest }) target → Steps p.tables e below (T.setTop g) target := by
  obtain ⟨mk, methM, hnamed, hmethM, hstM, habM⟩ := Cond.instanceMethod_spec hinst
  obtain ⟨m8, methM', cM, hn8, hmethM', -, -, -, -, -, -, hsigM⟩ := Cond.codeWith_spec hcode
  cases Option.some.inj (hn8.symm.trans hnamed)
  cases hmethM.symm.trans hmethM'
  obtain ⟨c2, r2, m2, q1, q2, q3, q4, kP, hkP, hkPi⟩ := Cond.selects_spec hsel
  cases hcls.symm.trans q1
  cases (State.methodFound?_of_named hnamed hy).symm.trans q2
  cases hnamed.symm.trans q3
  have hselP : selectMethod e.platform s.vm cellB.cls mk = .method mk := by rw [Launch.admits_selectMethod X.admits]; exact q4
  obtain ⟨vm₁, X₁, hstep₁⟩ := X.invokevirtual hexec hown hlink hnamed hmethM hstM hkP hkPi hy (a := b) (cell := cellB) hcell
    (fun z h => by rw [h] at hobj; cases hobj) hselP hmethM habM hkP hkPi (g := g) hg (argsL := argsL) (rest := rest) (hlen _ hsigM) hstack hdg
  obtain ⟨v, B, X', hpost, hsteps⟩ := hK m meth c ⟨T.setVm vm₁, locs, cells, slots⟩ { g with stack := rest } (.invokevirtual index) mk (Value.ref b :: argsL).toArray X₁ hg hsize hdg hW (X₁.named hnamed) (hpre vm₁ X₁.warmed)
  exact ⟨v, vm₁, B, X₁.warmed, X', hpost, fun target h => hstep₁ _ fun acts => by rw [doInvoke_state]; exact hsteps.trans h⟩
abbrev vx_CVW (R : Room) (s : State) (args : Array Value) (own C : String) (index : Nat) (y : MethodName) (bytes : ByteArray) (maxL : Nat) (ret : Option FieldType) (hh : List (Nat × Nat × Nat × Nat)) (ws : List Cond) (rm : Room) (mc ms n : Nat) : Prop :=
  (rm.cells = mc ∧ rm.slots = ms ∧ rm.frames + 1 ≤ R.frames ∧ 8 + (maxL + 11) + rm.locals ≤ R.locals ∧ (∀ w ∈ ws, ∀ (a' : Array Value) (U : State), s.WarmedH U.vm → w.before a' U = true) ∧ Cond.codeWith y bytes maxL ret hh ∈ ws) ∧
  (Cond.codeWith y bytes maxL ret hh).before args s = true ∧ (Cond.initialized y.cls).before args s = true ∧ (y.cls ≠ "java/lang/invoke/MethodHandle" ∧ y.cls ≠ "java/lang/invoke/VarHandle") ∧
  (∀ sig, parseMethodDescriptor y.desc = some sig → n = sig.parameters.length) ∧ (Cond.methodLink own index y).before args s = true ∧ (Cond.instanceMethod y).before args s = true ∧ (Cond.selects C y y).before args s = true
theorem vx_cwVW {own C : String} {index maxL mc ms : Nat} {y : MethodName} {bytes : ByteArray} {ret : Option FieldType} {hh : List (Nat × Nat × Nat × Nat)} {Ts ws ws' : List Cond} {rm : Room} (n : Nat) (ht : ∀ w ∈ Ts, w.before args s = true) (hT : GoodIn Ts (wsV own index C y ws)) (hw : ws = Cond.codeWith y bytes maxL ret hh :: ws') (hrc : rm.cells = mc) (hrs : rm.slots = ms)
    (hd : y.cls = C ∧ y.cls ≠ "java/lang/invoke/MethodHandle" ∧ y.cls ≠ "java/lang/invoke/VarHandle" ∧ (parseMethodDescriptor y.desc).map (fun d => d.parameters.length) = some n) (hR : rm.frames + 1 ≤ R.frames ∧ 8 + (maxL + 11) + rm.locals ≤ R.locals) :
    vx_CVW R s args own C index y bytes maxL ret hh ws rm mc ms n := by
  obtain ⟨hC, hd⟩ := hd
  subst hC
  have ok : ∀ w ∈ wsV own index y.cls y ws, w.before args s = true := fun w h => ht w (hT w h).1
  have hG : GoodIn Ts ws := fun w h => hT w (by unfold wsV; exact List.mem_append_right _ h)
  have hc : Cond.codeWith y bytes maxL ret hh ∈ ws := by rw [hw]; exact List.mem_cons_self
  refine ⟨⟨hrc, hrs, hR.1, hR.2, pay_in ht hG, hc⟩, ht _ (hG _ hc).1, ok _ (by simp [wsV]), ⟨hd.1, hd.2.1⟩, fun sig h => ?_, ok _ (by simp [wsV]), ok _ (by simp [wsV]), ok _ (by simp [wsV])⟩
  have h2 := hd.2.2
  rw [h] at h2
  exact (Option.some.inj h2).symm
theorem vx_runVW {y : MethodName} {bytes cc : ByteArray} {maxL nL mc ms n index : Nat} {ret : Option FieldType} {hh : List (Nat × Nat × Nat × Nat)} {ws : List Cond} {rm : Room} {Pc : Array Value → State → Prop} {Qc : Array Value → State → Outcome → State → Prop} {free : Addr → Prop} {Ts : List Cond} {own C : String} {b : Addr} {As rest : List Value} {g : JFrame}
    (S : CallFix p m c cc nL s args Ts own) (hM : Met l y ws rm Pc Qc mc ms free) (cw : vx_CVW R s args own C index y bytes maxL ret hh ws rm mc ms n) (hp : PreV s H C b Pc As)
    (hg : g.method = m) (hn : As.length = n) (hsize : g.locals.size = nL) (hstack : g.stack = As.reverse ++ .ref b :: rest) (hW : 2 * g.monitorRoom + (rest.map fun v => v.category).sum ≤ 8) (hdg : decode cc g.pc = .ok (.invokevirtual index, 3)) (hf : cells + mc ≤ R.cells ∧ slots + ms ≤ R.slots) :
    va_Run p l e R s m args below meth c H locs cells slots mc ms g rest (Qc (Value.ref b :: As).toArray) free := by
  obtain ⟨⟨hrc, hrs, hfr, hlo, hws, hcw⟩, hcode, hini, hy, hlen, hl, hin, hse⟩ := cw
  have hK : Back l R p e below s args y 3 8 (PreOf R mc ms Pc) (PostOf Qc mc ms free) := va_backW (hh := hh) (bytes := bytes) (maxL := maxL) (ret := ret) hM hp.1 hrc hrs hfr hlo hws hcw (fun a' U hW => word_at hW (Or.inl (by first | rfl | simp [Cond.onTables, Cond.keeps, Cond.steady])) hini)
  obtain ⟨hx, hb, hml, ho, -⟩ := S
  obtain ⟨-, ⟨cellB, hcB, hoB, hclB⟩, hPc⟩ := hp
  intro T hT X
  obtain ⟨v, vm₁, ⟨U', l2, c2, s2⟩, hW₁, X', ⟨g', mk, t, L, e1, e2, hq, h1, hL, h2, h3⟩, st⟩ := vx_callVW X hx (C := C) (hh := hh) (bytes := bytes) (maxL := maxL) (ret := ret) ho hl hin hse hcode hy hK (by rw [hT]; exact hcB) hoB hclB hg (hsize.trans hml.symm) (argsL := As) (rest := rest) (fun sig h => hn.trans (hlen sig h)) hstack hW (by rw [hb]; exact hdg)
    (fun vm₁ hW₁ => ⟨hf.1, hf.2, hPc (T.setVm vm₁) hT hW₁⟩)
  dsimp only [Pt.U, Pt.locs, Pt.cells, Pt.slots] at X' e1 e2 h1 h2 h3 st
  subst h1; subst h2; subst h3
  exact ⟨v, (T.setVm vm₁).calling g' mk (Value.ref b :: As).toArray, t, U', L, hT, X', hL, e1, e2, hq, st⟩
section
variable {y : MethodName} {bytes cc : ByteArray} {maxL nL mc ms n index : Nat} {ret : Option FieldType} {ws : List Cond} {rm : Room} {Pc : Array Value → State → Prop} {Qc : Array Value → State → Outcome → State → Prop} {XC : String → State → State → Prop} {free : Addr → Prop} {Ts : List Cond} {own C : String} {b : Addr} {As rest : List Value} {g : JFrame}
theorem vx_runVX {hh : List (Nat × Nat × Nat × Nat)} (S : CallFix p m c cc nL s args Ts own) (hM : vx_Met l y ws rm Pc Qc XC mc ms free) (cw : vx_CVW R s args own C index y bytes maxL ret hh ws rm mc ms n) (hp : PreV s H C b Pc As)
    (hg : g.method = m) (hn : As.length = n) (hsize : g.locals.size = nL) (hstack : g.stack = As.reverse ++ .ref b :: rest) (hW : 2 * g.monitorRoom + (rest.map fun v => v.category).sum ≤ 8) (hdg : decode cc g.pc = .ok (.invokevirtual index, 3)) (hf : cells + mc ≤ R.cells ∧ slots + ms ≤ R.slots) :
    vx_Run p l e R s m args below meth c H locs cells slots mc ms g rest (Qc (Value.ref b :: As).toArray) XC free := by
  obtain ⟨⟨hrc, hrs, hfr, hlo, hws, hcw⟩, hcode, hini, hy, hlen, hl, hin, hse⟩ := cw
  have hK : vx_Back l R p e below s args y 3 8 (PreOf R mc ms Pc) (PostOf Qc mc ms free) (vx_Post XC mc ms free) := vx_backW (hh := hh) (bytes := bytes) (maxL := maxL) (ret := ret) hM hp.1 hrc hrs hfr hlo hws hcw (fun a' U hW => word_at hW (Or.inl (by first | rfl | simp [Cond.onTables, Cond.keeps, Cond.steady])) hini)
  obtain ⟨hx, hb, hml, ho, -⟩ := S
  obtain ⟨-, ⟨cellB, hcB, hoB, hclB⟩, hPc⟩ := hp
  intro T hT X
  rcases vx_callVX X hx (C := C) (hh := hh) (bytes := bytes) (maxL := maxL) (ret := ret) ho hl hin hse hcode hy hK (by rw [hT]; exact hcB) hoB hclB hg (hsize.trans hml.symm) (argsL := As) (rest := rest) (fun sig h => hn.trans (hlen sig h)) hstack hW (by rw [hb]; exact hdg)
    (fun vm₁ hW₁ => ⟨hf.1, hf.2, hPc (T.setVm vm₁) hT hW₁⟩) with ⟨v, vm₁, ⟨U', l2, c2, s2⟩, hW₁, X', ⟨g', mk, t, L, e1, e2, hq, h1, hL, h2, h3⟩, st⟩ | ⟨q, vm₁, ⟨U', l2, c2, s2⟩, hW₁, X', ⟨g', mk, t, L, E, ce, e1, e2, hq, hce, hcv, hcl, h1, hL, h2, h3⟩, st⟩
  · dsimp only [Pt.U, Pt.locs, Pt.cells, Pt.slots] at X' e1 e2 h1 h2 h3 st
    subst h1; subst h2; subst h3
    exact Or.inl ⟨v, (T.setVm vm₁).calling g' mk (Value.ref b :: As).toArray, t, U', L, hT, X', hL, e1, e2, hq, st⟩
  · dsimp only [Pt.U, Pt.locs, Pt.cells, Pt.slots] at X' e1 e2 h1 h2 h3 st hcl
    subst h1; subst h2; subst h3
    exact Or.inr ⟨q, (T.setVm vm₁).calling g' mk (Value.ref b :: As).toArray, t, U', L, E, ce, hT, X', hL, e1, e2, hq, hce, hcv, vx_cls hW₁ hcl, st⟩
theorem vx_runSX {hh : List (Nat × Nat × Nat × Nat)} (S : CallFix p m c cc nL s args Ts own) (hM : vx_Met l y ws rm Pc Qc XC mc ms free) (cw : vx_CSW R s args own index y bytes maxL ret hh ws rm mc ms n) (hp : PreS s H Pc As)
    (hg : g.method = m) (hn : As.length = n) (hsize : g.locals.size = nL) (hstack : g.stack = As.reverse ++ rest) (hW : 2 * g.monitorRoom + (rest.map fun v => v.category).sum ≤ 8) (hdg : decode cc g.pc = .ok (.invokestatic index, 3)) (hf : cells + mc ≤ R.cells ∧ slots + ms ≤ R.slots) :
    vx_Run p l e R s m args below meth c H locs cells slots mc ms g rest (Qc As.toArray) XC free := by
  obtain ⟨⟨hrc, hrs, hfr, hlo, hws, hcw⟩, hcode, hini, hy, hlen, hl, hstt⟩ := cw
  have hK : vx_Back l R p e below s args y 3 8 (PreOf R mc ms Pc) (PostOf Qc mc ms free) (vx_Post XC mc ms free) := vx_backW (hh := hh) (bytes := bytes) (maxL := maxL) (ret := ret) hM hp.1 hrc hrs hfr hlo hws hcw (fun a' U hW => word_at hW (Or.inl (by first | rfl | simp [Cond.onTables, Cond.keeps, Cond.steady])) hini)
  obtain ⟨hx, hb, hml, ho, -⟩ := S
  intro T hT X
  rcases vx_callSX X hx (hh := hh) (bytes := bytes) (maxL := maxL) (ret := ret) ho hl hstt hini hcode hy hK hg (hsize.trans hml.symm) (argsL := As) (rest := rest) (fun sig h => hn.trans (hlen sig h)) hstack hW (by rw [hb]; exact hdg)
    (fun vm₁ hW₁ => ⟨hf.1, hf.2, hp.2 (T.setVm vm₁) hT hW₁⟩) with ⟨v, vm₁, ⟨U', l2, c2, s2⟩, hW₁, X', ⟨g', mk, t, L, e1, e2, hq, h1, hL, h2, h3⟩, st⟩ | ⟨q, vm₁, ⟨U', l2, c2, s2⟩, hW₁, X', ⟨g', mk, t, L, E, ce, e1, e2, hq, hce, hcv, hcl, h1, hL, h2, h3⟩, st⟩
  · dsimp only [Pt.U, Pt.locs, Pt.cells, Pt.slots] at X' e1 e2 h1 h2 h3 st
    subst h1; subst h2; subst h3
    exact Or.inl ⟨v, (T.setVm vm₁).calling g' mk As.toArray, t, U', L, hT, X', hL, e1, e2, hq, st⟩
  · dsimp only [Pt.U, Pt.locs, Pt.cells, Pt.slots] at X' e1 e2 h1 h2 h3 st hcl
    subst h1; subst h2; subst h3
    exact Or.inr ⟨q, (T.setVm vm₁).calling g' mk As.toArray, t, U', L, E, ce, hT, X', hL, e1, e2, hq, hce, hcv, vx_cls hW₁ hcl, st⟩
end
end VXH
theorem vx_ofWH {l : Launch} {y : MethodName} {ws ws' : List Cond} {rm : Room} {Pc : Array Value → State → Prop} {Qc : Array Value → State → Outcome → State → Prop} {XC : String → State → State → Prop} {mc ms : Nat} {free : Addr → Prop} {cc : ByteArray} {maxL : Nat} {ret : Option FieldType} {hh : List (Nat × Nat × Nat × Nat)}
    (hy : plainName y.cls = true) (hw : ws = Cond.codeWith y cc maxL ret hh :: ws')
    (body : ∀ p e s m args below meth c s₁, BodyLoose p l y (headSpec ws rm) cc maxL ret e s m args below meth c s₁ → c.maxLocals = maxL → Pc args s →
      W p l e (headSpec ws rm).room s m args below meth c s.heap [] 0 0 (vx_MQ below Qc XC args s mc ms free) (entryFrame m args maxL)) : vx_Met l y ws rm Pc Qc XC mc ms free := by
  refine MetFree.of_bodyS (code := cc) (maxLocals := maxL) (ret := ret) hy ?_ ?_
  · intro args s m h hn
    obtain ⟨m9, meth, c, hn9, h1, h2, h3, h4, -, h5, h6, -⟩ := Cond.codeWith_spec (atoms_spec (ws := ws) h _ (by rw [hw]; exact List.mem_cons_self))
    cases hn.symm.trans hn9
    exact ⟨meth, c, h1, h2, h3, h4, h5, h6⟩
  · intro p e s m args below meth c s₁ B hml hP _
    have hh0 : s₁.heap = s.heap := by rw [B.state]; rfl
    obtain ⟨t, a1, o, b1, b2, b3⟩ := body p e s m args below meth c s₁ B hml hP s₁ hh0 (Stand.of_body B)
    exact ⟨t, o, a1, b1, b2, b3⟩
/-! ===== END ===== -/

def RX0 : String := "Tollkeeper$Answer"
def TX0 : u_T := fun k => match k with
  | 0 => ("Tollkeeper$Answer", "warrant", "I", true)
  | 1 => ("Tollkeeper$Answer", "place", "I", true)
  | 2 => ("Tollkeeper$Answer", "gate", "I", true)
  | _ => ("Tollkeeper$Answer", "minute", "I", true)
def tyX0 : Nat → FieldType := fun k => match k with
  | 0 => .int
  | 1 => .int
  | 2 => .int
  | _ => .int
abbrev wsX00 : List Cond := u_ws RX0 TX0 4
theorem nmX0 : ∀ a, a < 4 → ∀ b, b < 4 → a ≠ b → (TX0 a).2.1 ≠ (TX0 b).2.1 := by decide +kernel
theorem tyX0_ok : ∀ k, k < 4 → parseFieldDescriptor (TX0 k).2.2.1 = some (tyX0 k) := by decide +kernel
abbrev cX0_init : ByteArray := prog_2_method_1_code
def yX0_init : MethodName := ⟨RX0, "<init>", "(IIII)V"⟩
abbrev cX0_tells : ByteArray := prog_2_method_2_code
def yX0_tells : MethodName := ⟨RX0, "tells", "(LTollkeeper$Reading;)Z"⟩
def RX1 : String := "Tollkeeper$Holding"
def TX1 : u_T := fun k => match k with
  | 0 => ("Tollkeeper$Holding", "driver", "I", true)
  | 1 => ("Tollkeeper$Holding", "since", "I", true)
  | _ => ("Tollkeeper$Holding", "before", "LTollkeeper$Holding;", true)
def tyX1 : Nat → FieldType := fun k => match k with
  | 0 => .int
  | 1 => .int
  | _ => .object "Tollkeeper$Holding"
abbrev wsX10 : List Cond := u_ws RX1 TX1 3
theorem nmX1 : ∀ a, a < 3 → ∀ b, b < 3 → a ≠ b → (TX1 a).2.1 ≠ (TX1 b).2.1 := by decide +kernel
theorem tyX1_ok : ∀ k, k < 3 → parseFieldDescriptor (TX1 k).2.2.1 = some (tyX1 k) := by decide +kernel
abbrev cX1_init : ByteArray := prog_3_method_1_code
def yX1_init : MethodName := ⟨RX1, "<init>", "(IILTollkeeper$Holding;)V"⟩
def RX2 : String := "Tollkeeper$Likeness"
def TX2 : u_T := fun k => match k with
  | _ => ("Tollkeeper$Likeness", "masks", "[I", true)
def tyX2 : Nat → FieldType := fun k => match k with
  | _ => .array .int
abbrev wsX20 : List Cond := u_ws RX2 TX2 1
theorem nmX2 : ∀ a, a < 1 → ∀ b, b < 1 → a ≠ b → (TX2 a).2.1 ≠ (TX2 b).2.1 := by decide +kernel
theorem tyX2_ok : ∀ k, k < 1 → parseFieldDescriptor (TX2 k).2.2.1 = some (tyX2 k) := by decide +kernel
abbrev cX2_init : ByteArray := prog_4_method_1_code
def yX2_init : MethodName := ⟨RX2, "<init>", "()V"⟩
abbrev cX2_turn : ByteArray := prog_4_method_2_code
def yX2_turn : MethodName := ⟨RX2, "turn", "(II)V"⟩
abbrev cX2_holds : ByteArray := prog_4_method_3_code
def yX2_holds : MethodName := ⟨RX2, "holds", "(II)Z"⟩
abbrev cX2_costOf : ByteArray := prog_4_method_4_code
def yX2_costOf : MethodName := ⟨RX2, "costOf", "(LTollkeeper$Text;LTollkeeper$Text;)I"⟩
abbrev cX2_costOfSign : ByteArray := prog_4_method_5_code
def yX2_costOfSign : MethodName := ⟨RX2, "costOfSign", "(II)I"⟩
def RX3 : String := "Tollkeeper$Passings"
def TX3 : u_T := fun k => match k with
  | 0 => ("Tollkeeper$Passings", "row", "[LTollkeeper$Reading;", true)
  | 1 => ("Tollkeeper$Passings", "begins", "[Z", true)
  | _ => ("Tollkeeper$Passings", "count", "I", false)
def tyX3 : Nat → FieldType := fun k => match k with
  | 0 => .array (.object "Tollkeeper$Reading")
  | 1 => .array .boolean
  | _ => .int
abbrev wsX30 : List Cond := u_ws RX3 TX3 3
theorem nmX3 : ∀ a, a < 3 → ∀ b, b < 3 → a ≠ b → (TX3 a).2.1 ≠ (TX3 b).2.1 := by decide +kernel
theorem tyX3_ok : ∀ k, k < 3 → parseFieldDescriptor (TX3 k).2.2.1 = some (tyX3 k) := by decide +kernel
abbrev cX3_init : ByteArray := prog_5_method_1_code
def yX3_init : MethodName := ⟨RX3, "<init>", "()V"⟩
abbrev cX3_put : ByteArray := prog_5_method_2_code
def yX3_put : MethodName := ⟨RX3, "put", "(LTollkeeper$Reading;LTollkeeper$Roads;)V"⟩
abbrev cX3_take : ByteArray := prog_5_method_3_code
def yX3_take : MethodName := ⟨RX3, "take", "(LTollkeeper$Reading;LTollkeeper$Roads;)V"⟩
abbrev cX3_insertInOrder : ByteArray := prog_5_method_4_code
def yX3_insertInOrder : MethodName := ⟨RX3, "insertInOrder", "(LTollkeeper$Reading;)I"⟩
abbrev cX3_joinAll : ByteArray := prog_5_method_5_code
def yX3_joinAll : MethodName := ⟨RX3, "joinAll", "(LTollkeeper$Roads;)V"⟩
abbrev cX3_tripCount : ByteArray := prog_5_method_6_code
def yX3_tripCount : MethodName := ⟨RX3, "tripCount", "()I"⟩
abbrev cX3_tripWith : ByteArray := prog_5_method_7_code
def yX3_tripWith : MethodName := ⟨RX3, "tripWith", "(LTollkeeper$Reading;)I"⟩
abbrev cX3_beginningOf : ByteArray := prog_5_method_8_code
def yX3_beginningOf : MethodName := ⟨RX3, "beginningOf", "(I)I"⟩
abbrev cX3_wayFrom : ByteArray := prog_5_method_9_code
def yX3_wayFrom : MethodName := ⟨RX3, "wayFrom", "(ILTollkeeper$Roads;)I"⟩
abbrev cX3_seeBeginning : ByteArray := prog_5_method_10_code
def yX3_seeBeginning : MethodName := ⟨RX3, "seeBeginning", "(ILTollkeeper$Roads;)V"⟩
abbrev cX3_placeOf : ByteArray := prog_5_method_11_code
def yX3_placeOf : MethodName := ⟨RX3, "placeOf", "(LTollkeeper$Reading;)I"⟩
abbrev cX3_beginningsAhead : ByteArray := prog_5_method_12_code
def yX3_beginningsAhead : MethodName := ⟨RX3, "beginningsAhead", "(I)I"⟩
def RX4 : String := "Tollkeeper$Plate"
def TX4 : u_T := fun k => match k with
  | 0 => ("Tollkeeper$Plate", "number", "I", true)
  | 1 => ("Tollkeeper$Plate", "text", "LTollkeeper$Text;", true)
  | 2 => ("Tollkeeper$Plate", "its", "I", true)
  | 3 => ("Tollkeeper$Plate", "passings", "LTollkeeper$Passings;", true)
  | _ => ("Tollkeeper$Plate", "newest", "LTollkeeper$Holding;", false)
def tyX4 : Nat → FieldType := fun k => match k with
  | 0 => .int
  | 1 => .object "Tollkeeper$Text"
  | 2 => .int
  | 3 => .object "Tollkeeper$Passings"
  | _ => .object "Tollkeeper$Holding"
abbrev wsX40 : List Cond := u_ws RX4 TX4 5
theorem nmX4 : ∀ a, a < 5 → ∀ b, b < 5 → a ≠ b → (TX4 a).2.1 ≠ (TX4 b).2.1 := by decide +kernel
theorem tyX4_ok : ∀ k, k < 5 → parseFieldDescriptor (TX4 k).2.2.1 = some (tyX4 k) := by decide +kernel
abbrev cX4_init : ByteArray := prog_6_method_1_code
def yX4_init : MethodName := ⟨RX4, "<init>", "(ILTollkeeper$Text;ILTollkeeper$Holding;)V"⟩
abbrev cX4_sellTo : ByteArray := prog_6_method_2_code
def yX4_sellTo : MethodName := ⟨RX4, "sellTo", "(II)V"⟩
abbrev cX4_driverIn : ByteArray := prog_6_method_3_code
def yX4_driverIn : MethodName := ⟨RX4, "driverIn", "(I)I"⟩
def RX5 : String := "Tollkeeper$Reading"
def TX5 : u_T := fun k => match k with
  | 0 => ("Tollkeeper$Reading", "number", "I", true)
  | 1 => ("Tollkeeper$Reading", "gate", "I", true)
  | 2 => ("Tollkeeper$Reading", "minute", "I", true)
  | 3 => ("Tollkeeper$Reading", "text", "LTollkeeper$Text;", true)
  | 4 => ("Tollkeeper$Reading", "isCorrected", "Z", false)
  | _ => ("Tollkeeper$Reading", "plate", "LTollkeeper$Plate;", false)
def tyX5 : Nat → FieldType := fun k => match k with
  | 0 => .int
  | 1 => .int
  | 2 => .int
  | 3 => .object "Tollkeeper$Text"
  | 4 => .boolean
  | _ => .object "Tollkeeper$Plate"
abbrev wsX50 : List Cond := u_ws RX5 TX5 6
theorem nmX5 : ∀ a, a < 6 → ∀ b, b < 6 → a ≠ b → (TX5 a).2.1 ≠ (TX5 b).2.1 := by decide +kernel
theorem tyX5_ok : ∀ k, k < 6 → parseFieldDescriptor (TX5 k).2.2.1 = some (tyX5 k) := by decide +kernel
abbrev cX5_init : ByteArray := prog_7_method_1_code
def yX5_init : MethodName := ⟨RX5, "<init>", "(IIILTollkeeper$Text;)V"⟩
abbrev cX5_isAheadOf : ByteArray := prog_7_method_2_code
def yX5_isAheadOf : MethodName := ⟨RX5, "isAheadOf", "(LTollkeeper$Reading;)Z"⟩
def RX6 : String := "Tollkeeper$Roads"
def TX6 : u_T := fun k => match k with
  | 0 => ("Tollkeeper$Roads", "lengths", "[[I", true)
  | 1 => ("Tollkeeper$Roads", "distances", "[[I", true)
  | 2 => ("Tollkeeper$Roads", "isDone", "[Z", true)
  | _ => ("Tollkeeper$Roads", "pause", "I", false)
def tyX6 : Nat → FieldType := fun k => match k with
  | 0 => .array (.array .int)
  | 1 => .array (.array .int)
  | 2 => .array .boolean
  | _ => .int
abbrev wsX60 : List Cond := u_ws RX6 TX6 4
theorem nmX6 : ∀ a, a < 4 → ∀ b, b < 4 → a ≠ b → (TX6 a).2.1 ≠ (TX6 b).2.1 := by decide +kernel
theorem tyX6_ok : ∀ k, k < 4 → parseFieldDescriptor (TX6 k).2.2.1 = some (tyX6 k) := by decide +kernel
abbrev cX6_init : ByteArray := prog_8_method_1_code
def yX6_init : MethodName := ⟨RX6, "<init>", "()V"⟩
abbrev cX6_lengthOf : ByteArray := prog_8_method_2_code
def yX6_lengthOf : MethodName := ⟨RX6, "lengthOf", "(II)I"⟩
abbrev cX6_build : ByteArray := prog_8_method_3_code
def yX6_build : MethodName := ⟨RX6, "build", "(III)V"⟩
abbrev cX6_between : ByteArray := prog_8_method_4_code
def yX6_between : MethodName := ⟨RX6, "between", "(II)I"⟩
abbrev cX6_isOneTrip : ByteArray := prog_8_method_5_code
def yX6_isOneTrip : MethodName := ⟨RX6, "isOneTrip", "(LTollkeeper$Reading;LTollkeeper$Reading;)Z"⟩
abbrev cX6_measureAll : ByteArray := prog_8_method_6_code
def yX6_measureAll : MethodName := ⟨RX6, "measureAll", "()V"⟩
abbrev cX6_measureFrom : ByteArray := prog_8_method_7_code
def yX6_measureFrom : MethodName := ⟨RX6, "measureFrom", "(I)V"⟩
abbrev cX6_nearestOpen : ByteArray := prog_8_method_8_code
def yX6_nearestOpen : MethodName := ⟨RX6, "nearestOpen", "([I)I"⟩
abbrev cX6_goOnFrom : ByteArray := prog_8_method_9_code
def yX6_goOnFrom : MethodName := ⟨RX6, "goOnFrom", "(I[I)V"⟩
def RX7 : String := "Tollkeeper$Text"
def TX7 : u_T := fun k => match k with
  | 0 => ("Tollkeeper$Text", "signs", "[I", true)
  | _ => ("Tollkeeper$Text", "count", "I", false)
def tyX7 : Nat → FieldType := fun k => match k with
  | 0 => .array .int
  | _ => .int
abbrev wsX70 : List Cond := u_ws RX7 TX7 2
theorem nmX7 : ∀ a, a < 2 → ∀ b, b < 2 → a ≠ b → (TX7 a).2.1 ≠ (TX7 b).2.1 := by decide +kernel
theorem tyX7_ok : ∀ k, k < 2 → parseFieldDescriptor (TX7 k).2.2.1 = some (tyX7 k) := by decide +kernel
abbrev cX7_init : ByteArray := prog_9_method_1_code
def yX7_init : MethodName := ⟨RX7, "<init>", "()V"⟩
abbrev cX7_put : ByteArray := prog_9_method_2_code
def yX7_put : MethodName := ⟨RX7, "put", "(II)V"⟩
abbrev cX7_turnRound : ByteArray := prog_9_method_3_code
def yX7_turnRound : MethodName := ⟨RX7, "turnRound", "()V"⟩
abbrev cX7_copy : ByteArray := prog_9_method_4_code
def yX7_copy : MethodName := ⟨RX7, "copy", "()LTollkeeper$Text;"⟩
abbrev cX7_hasQuestionMark : ByteArray := prog_9_method_5_code
def yX7_hasQuestionMark : MethodName := ⟨RX7, "hasQuestionMark", "()Z"⟩
abbrev cX7_equalsText : ByteArray := prog_9_method_6_code
def yX7_equalsText : MethodName := ⟨RX7, "equalsText", "(LTollkeeper$Text;)Z"⟩
abbrev cX7_comesBefore : ByteArray := prog_9_method_7_code
def yX7_comesBefore : MethodName := ⟨RX7, "comesBefore", "(LTollkeeper$Text;)Z"⟩
abbrev cX7_charCount : ByteArray := prog_9_method_8_code
def yX7_charCount : MethodName := ⟨RX7, "charCount", "()I"⟩
abbrev cX7_charNumberAt : ByteArray := prog_9_method_9_code
def yX7_charNumberAt : MethodName := ⟨RX7, "charNumberAt", "(I)I"⟩
abbrev cX7_isPair : ByteArray := prog_9_method_10_code
def yX7_isPair : MethodName := ⟨RX7, "isPair", "(I)Z"⟩
abbrev cX7_charsOf : ByteArray := prog_9_method_11_code
def yX7_charsOf : MethodName := ⟨RX7, "charsOf", "(I)I"⟩
abbrev cX7_charNumberOf : ByteArray := prog_9_method_12_code
def yX7_charNumberOf : MethodName := ⟨RX7, "charNumberOf", "(II)I"⟩
def RX8 : String := "Tollkeeper$Warrant"
def TX8 : u_T := fun k => match k with
  | 0 => ("Tollkeeper$Warrant", "number", "I", true)
  | 1 => ("Tollkeeper$Warrant", "passings", "LTollkeeper$Passings;", true)
  | 2 => ("Tollkeeper$Warrant", "from", "I", true)
  | _ => ("Tollkeeper$Warrant", "to", "I", true)
def tyX8 : Nat → FieldType := fun k => match k with
  | 0 => .int
  | 1 => .object "Tollkeeper$Passings"
  | 2 => .int
  | _ => .int
abbrev wsX80 : List Cond := u_ws RX8 TX8 4
theorem nmX8 : ∀ a, a < 4 → ∀ b, b < 4 → a ≠ b → (TX8 a).2.1 ≠ (TX8 b).2.1 := by decide +kernel
theorem tyX8_ok : ∀ k, k < 4 → parseFieldDescriptor (TX8 k).2.2.1 = some (tyX8 k) := by decide +kernel
abbrev cX8_init : ByteArray := prog_10_method_1_code
def yX8_init : MethodName := ⟨RX8, "<init>", "(ILTollkeeper$Passings;II)V"⟩
abbrev cX8_shownAt : ByteArray := prog_10_method_2_code
def yX8_shownAt : MethodName := ⟨RX8, "shownAt", "(I)LTollkeeper$Reading;"⟩
def RX9 : String := "Tollkeeper"
def TX9 : u_T := fun k => match k with
  | 0 => ("Tollkeeper", "roads", "LTollkeeper$Roads;", true)
  | 1 => ("Tollkeeper", "rates", "[I", true)
  | 2 => ("Tollkeeper", "spelled", "LTollkeeper$Text;", true)
  | 3 => ("Tollkeeper", "likeness", "LTollkeeper$Likeness;", true)
  | 4 => ("Tollkeeper", "registered", "[LTollkeeper$Plate;", true)
  | 5 => ("Tollkeeper", "ordered", "[LTollkeeper$Plate;", true)
  | 6 => ("Tollkeeper", "readings", "[LTollkeeper$Reading;", true)
  | 7 => ("Tollkeeper", "warrants", "[LTollkeeper$Warrant;", true)
  | 8 => ("Tollkeeper", "answers", "[LTollkeeper$Answer;", true)
  | 9 => ("Tollkeeper", "billedTo", "[J", true)
  | 10 => ("Tollkeeper", "paidBackTo", "[J", true)
  | 11 => ("Tollkeeper", "anew", "LTollkeeper$Passings;", true)
  | 12 => ("Tollkeeper", "minuteNow", "I", false)
  | 13 => ("Tollkeeper", "plateCount", "I", false)
  | 14 => ("Tollkeeper", "readingCount", "I", false)
  | 15 => ("Tollkeeper", "warrantCount", "I", false)
  | _ => ("Tollkeeper", "answerCount", "I", false)
def tyX9 : Nat → FieldType := fun k => match k with
  | 0 => .object "Tollkeeper$Roads"
  | 1 => .array .int
  | 2 => .object "Tollkeeper$Text"
  | 3 => .object "Tollkeeper$Likeness"
  | 4 => .array (.object "Tollkeeper$Plate")
  | 5 => .array (.object "Tollkeeper$Plate")
  | 6 => .array (.object "Tollkeeper$Reading")
  | 7 => .array (.object "Tollkeeper$Warrant")
  | 8 => .array (.object "Tollkeeper$Answer")
  | 9 => .array .long
  | 10 => .array .long
  | 11 => .object "Tollkeeper$Passings"
  | 12 => .int
  | 13 => .int
  | 14 => .int
  | 15 => .int
  | _ => .int
abbrev wsX90 : List Cond := u_ws RX9 TX9 17
theorem nmX9 : ∀ a, a < 17 → ∀ b, b < 17 → a ≠ b → (TX9 a).2.1 ≠ (TX9 b).2.1 := by decide +kernel
theorem tyX9_ok : ∀ k, k < 17 → parseFieldDescriptor (TX9 k).2.2.1 = some (tyX9 k) := by decide +kernel
abbrev cX9_init : ByteArray := prog_1_method_1_code
def yX9_init : MethodName := ⟨RX9, "<init>", "()V"⟩
abbrev cX9_pass : ByteArray := prog_1_method_2_code
def yX9_pass : MethodName := ⟨RX9, "pass", "(I)I"⟩
abbrev cX9_now : ByteArray := prog_1_method_3_code
def yX9_now : MethodName := ⟨RX9, "now", "()I"⟩
abbrev cX9_road : ByteArray := prog_1_method_4_code
def yX9_road : MethodName := ⟨RX9, "road", "(III)I"⟩
abbrev cX9_distance : ByteArray := prog_1_method_5_code
def yX9_distance : MethodName := ⟨RX9, "distance", "(II)I"⟩
abbrev cX9_setPause : ByteArray := prog_1_method_6_code
def yX9_setPause : MethodName := ⟨RX9, "setPause", "(I)I"⟩
abbrev cX9_setRate : ByteArray := prog_1_method_7_code
def yX9_setRate : MethodName := ⟨RX9, "setRate", "(II)I"⟩
abbrev cX9_spell : ByteArray := prog_1_method_8_code
def yX9_spell : MethodName := ⟨RX9, "spell", "(I)I"⟩
abbrev cX9_insert : ByteArray := prog_1_method_9_code
def yX9_insert : MethodName := ⟨RX9, "insert", "(II)I"⟩
abbrev cX9_mirror : ByteArray := prog_1_method_10_code
def yX9_mirror : MethodName := ⟨RX9, "mirror", "()I"⟩
abbrev cX9_clearSpelled : ByteArray := prog_1_method_11_code
def yX9_clearSpelled : MethodName := ⟨RX9, "clearSpelled", "()I"⟩
abbrev cX9_charAt : ByteArray := prog_1_method_12_code
def yX9_charAt : MethodName := ⟨RX9, "charAt", "(I)C"⟩
abbrev cX9_alike : ByteArray := prog_1_method_13_code
def yX9_alike : MethodName := ⟨RX9, "alike", "(II)Z"⟩
abbrev cX9_register : ByteArray := prog_1_method_14_code
def yX9_register : MethodName := ⟨RX9, "register", "(II)I"⟩
abbrev cX9_sell : ByteArray := prog_1_method_15_code
def yX9_sell : MethodName := ⟨RX9, "sell", "(II)I"⟩
abbrev cX9_plates : ByteArray := prog_1_method_16_code
def yX9_plates : MethodName := ⟨RX9, "plates", "()I"⟩
abbrev cX9_plateAt : ByteArray := prog_1_method_17_code
def yX9_plateAt : MethodName := ⟨RX9, "plateAt", "(I)I"⟩
abbrev cX9_holder : ByteArray := prog_1_method_18_code
def yX9_holder : MethodName := ⟨RX9, "holder", "(II)I"⟩
abbrev cX9_read : ByteArray := prog_1_method_19_code
def yX9_read : MethodName := ⟨RX9, "read", "(II)I"⟩
abbrev cX9_correct : ByteArray := prog_1_method_20_code
def yX9_correct : MethodName := ⟨RX9, "correct", "(II)I"⟩
abbrev cX9_uncorrect : ByteArray := prog_1_method_21_code
def yX9_uncorrect : MethodName := ⟨RX9, "uncorrect", "(I)I"⟩
abbrev cX9_plateOf : ByteArray := prog_1_method_22_code
def yX9_plateOf : MethodName := ⟨RX9, "plateOf", "(I)I"⟩
abbrev cX9_cost : ByteArray := prog_1_method_23_code
def yX9_cost : MethodName := ⟨RX9, "cost", "(II)I"⟩
abbrev cX9_trips : ByteArray := prog_1_method_24_code
def yX9_trips : MethodName := ⟨RX9, "trips", "(I)I"⟩
abbrev cX9_tripsAnew : ByteArray := prog_1_method_25_code
def yX9_tripsAnew : MethodName := ⟨RX9, "tripsAnew", "(I)I"⟩
abbrev cX9_tripOf : ByteArray := prog_1_method_26_code
def yX9_tripOf : MethodName := ⟨RX9, "tripOf", "(I)I"⟩
abbrev cX9_toll : ByteArray := prog_1_method_27_code
def yX9_toll : MethodName := ⟨RX9, "toll", "(II)I"⟩
abbrev cX9_driverOf : ByteArray := prog_1_method_28_code
def yX9_driverOf : MethodName := ⟨RX9, "driverOf", "(II)I"⟩
abbrev cX9_due : ByteArray := prog_1_method_29_code
def yX9_due : MethodName := ⟨RX9, "due", "(I)I"⟩
abbrev cX9_dueAnew : ByteArray := prog_1_method_30_code
def yX9_dueAnew : MethodName := ⟨RX9, "dueAnew", "(I)I"⟩
abbrev cX9_settle : ByteArray := prog_1_method_31_code
def yX9_settle : MethodName := ⟨RX9, "settle", "()I"⟩
abbrev cX9_billed : ByteArray := prog_1_method_32_code
def yX9_billed : MethodName := ⟨RX9, "billed", "(I)J"⟩
abbrev cX9_paidBack : ByteArray := prog_1_method_33_code
def yX9_paidBack : MethodName := ⟨RX9, "paidBack", "(I)J"⟩
abbrev cX9_warrant : ByteArray := prog_1_method_34_code
def yX9_warrant : MethodName := ⟨RX9, "warrant", "(III)I"⟩
abbrev cX9_ask : ByteArray := prog_1_method_35_code
def yX9_ask : MethodName := ⟨RX9, "ask", "(II)I"⟩
abbrev cX9_stale : ByteArray := prog_1_method_36_code
def yX9_stale : MethodName := ⟨RX9, "stale", "(I)I"⟩
abbrev cX9_isWithin : ByteArray := prog_1_method_37_code
def yX9_isWithin : MethodName := ⟨RX9, "isWithin", "(III)Z"⟩
abbrev cX9_requireGate : ByteArray := prog_1_method_38_code
def yX9_requireGate : MethodName := ⟨RX9, "requireGate", "(I)V"⟩
abbrev cX9_requireSign : ByteArray := prog_1_method_39_code
def yX9_requireSign : MethodName := ⟨RX9, "requireSign", "(I)V"⟩
abbrev cX9_requireDriver : ByteArray := prog_1_method_40_code
def yX9_requireDriver : MethodName := ⟨RX9, "requireDriver", "(I)V"⟩
abbrev cX9_requireClass : ByteArray := prog_1_method_41_code
def yX9_requireClass : MethodName := ⟨RX9, "requireClass", "(I)V"⟩
abbrev cX9_requireMinute : ByteArray := prog_1_method_42_code
def yX9_requireMinute : MethodName := ⟨RX9, "requireMinute", "(I)V"⟩
abbrev cX9_requireRoomForSign : ByteArray := prog_1_method_43_code
def yX9_requireRoomForSign : MethodName := ⟨RX9, "requireRoomForSign", "()V"⟩
abbrev cX9_plateNumbered : ByteArray := prog_1_method_44_code
def yX9_plateNumbered : MethodName := ⟨RX9, "plateNumbered", "(I)LTollkeeper$Plate;"⟩
abbrev cX9_readingNumbered : ByteArray := prog_1_method_45_code
def yX9_readingNumbered : MethodName := ⟨RX9, "readingNumbered", "(I)LTollkeeper$Reading;"⟩
abbrev cX9_warrantNumbered : ByteArray := prog_1_method_46_code
def yX9_warrantNumbered : MethodName := ⟨RX9, "warrantNumbered", "(I)LTollkeeper$Warrant;"⟩
abbrev cX9_requiredBeginning : ByteArray := prog_1_method_47_code
def yX9_requiredBeginning : MethodName := ⟨RX9, "requiredBeginning", "(LTollkeeper$Plate;I)I"⟩
abbrev cX9_numberOf : ByteArray := prog_1_method_48_code
def yX9_numberOf : MethodName := ⟨RX9, "numberOf", "(LTollkeeper$Plate;)I"⟩
abbrev cX9_isTaken : ByteArray := prog_1_method_49_code
def yX9_isTaken : MethodName := ⟨RX9, "isTaken", "(LTollkeeper$Text;)Z"⟩
abbrev cX9_putInOrder : ByteArray := prog_1_method_50_code
def yX9_putInOrder : MethodName := ⟨RX9, "putInOrder", "(LTollkeeper$Plate;)V"⟩
abbrev cX9_plateByText : ByteArray := prog_1_method_51_code
def yX9_plateByText : MethodName := ⟨RX9, "plateByText", "(LTollkeeper$Reading;)LTollkeeper$Plate;"⟩
abbrev cX9_leadAllBack : ByteArray := prog_1_method_52_code
def yX9_leadAllBack : MethodName := ⟨RX9, "leadAllBack", "()V"⟩
abbrev cX9_move : ByteArray := prog_1_method_53_code
def yX9_move : MethodName := ⟨RX9, "move", "(LTollkeeper$Reading;LTollkeeper$Plate;)V"⟩
abbrev cX9_joinAllAgain : ByteArray := prog_1_method_54_code
def yX9_joinAllAgain : MethodName := ⟨RX9, "joinAllAgain", "()V"⟩
abbrev cX9_joinAnew : ByteArray := prog_1_method_55_code
def yX9_joinAnew : MethodName := ⟨RX9, "joinAnew", "(LTollkeeper$Plate;)LTollkeeper$Passings;"⟩
abbrev cX9_dueByKept : ByteArray := prog_1_method_56_code
def yX9_dueByKept : MethodName := ⟨RX9, "dueByKept", "(I)I"⟩
abbrev cX9_dueFor : ByteArray := prog_1_method_57_code
def yX9_dueFor : MethodName := ⟨RX9, "dueFor", "(LTollkeeper$Plate;LTollkeeper$Passings;I)I"⟩
abbrev cX9_tollFrom : ByteArray := prog_1_method_58_code
def yX9_tollFrom : MethodName := ⟨RX9, "tollFrom", "(LTollkeeper$Passings;ILTollkeeper$Plate;)I"⟩
def RX10 : String := "TollkeeperModel"
def TX10 : u_T := fun k => match k with
  | 0 => ("TollkeeperModel", "minute", "I", false)
  | 1 => ("TollkeeperModel", "pause", "I", false)
  | 2 => ("TollkeeperModel", "roads", "[I", true)
  | 3 => ("TollkeeperModel", "far", "[I", true)
  | 4 => ("TollkeeperModel", "rates", "[I", true)
  | 5 => ("TollkeeperModel", "spelled", "I", false)
  | 6 => ("TollkeeperModel", "sign", "[I", true)
  | 7 => ("TollkeeperModel", "isAlike", "[Z", true)
  | 8 => ("TollkeeperModel", "plates", "I", false)
  | 9 => ("TollkeeperModel", "plateLength", "[I", true)
  | 10 => ("TollkeeperModel", "plateSign", "[I", true)
  | 11 => ("TollkeeperModel", "kind", "[I", true)
  | 12 => ("TollkeeperModel", "holders", "I", false)
  | 13 => ("TollkeeperModel", "held", "[I", true)
  | 14 => ("TollkeeperModel", "holder", "[I", true)
  | 15 => ("TollkeeperModel", "since", "[I", true)
  | 16 => ("TollkeeperModel", "readings", "I", false)
  | 17 => ("TollkeeperModel", "gate", "[I", true)
  | 18 => ("TollkeeperModel", "read", "[I", true)
  | 19 => ("TollkeeperModel", "length", "[I", true)
  | 20 => ("TollkeeperModel", "readSign", "[I", true)
  | 21 => ("TollkeeperModel", "isCorrected", "[Z", true)
  | 22 => ("TollkeeperModel", "told", "[I", true)
  | 23 => ("TollkeeperModel", "its", "[I", true)
  | 24 => ("TollkeeperModel", "tripIn", "[I", true)
  | 25 => ("TollkeeperModel", "billed", "[J", true)
  | 26 => ("TollkeeperModel", "paid", "[J", true)
  | 27 => ("TollkeeperModel", "warrants", "I", false)
  | 28 => ("TollkeeperModel", "sought", "[I", true)
  | 29 => ("TollkeeperModel", "firstDay", "[I", true)
  | 30 => ("TollkeeperModel", "lastDay", "[I", true)
  | 31 => ("TollkeeperModel", "askings", "I", false)
  | 32 => ("TollkeeperModel", "under", "[I", true)
  | 33 => ("TollkeeperModel", "askedFor", "[I", true)
  | 34 => ("TollkeeperModel", "answer", "[I", true)
  | _ => ("TollkeeperModel", "thrown", "I", false)
def tyX10 : Nat → FieldType := fun k => match k with
  | 0 => .int
  | 1 => .int
  | 2 => .array .int
  | 3 => .array .int
  | 4 => .array .int
  | 5 => .int
  | 6 => .array .int
  | 7 => .array .boolean
  | 8 => .int
  | 9 => .array .int
  | 10 => .array .int
  | 11 => .array .int
  | 12 => .int
  | 13 => .array .int
  | 14 => .array .int
  | 15 => .array .int
  | 16 => .int
  | 17 => .array .int
  | 18 => .array .int
  | 19 => .array .int
  | 20 => .array .int
  | 21 => .array .boolean
  | 22 => .array .int
  | 23 => .array .int
  | 24 => .array .int
  | 25 => .array .long
  | 26 => .array .long
  | 27 => .int
  | 28 => .array .int
  | 29 => .array .int
  | 30 => .array .int
  | 31 => .int
  | 32 => .array .int
  | 33 => .array .int
  | 34 => .array .int
  | _ => .int
abbrev wsX100 : List Cond := u_ws RX10 TX10 36
theorem nmX10 : ∀ a, a < 36 → ∀ b, b < 36 → a ≠ b → (TX10 a).2.1 ≠ (TX10 b).2.1 := by decide +kernel
theorem tyX10_ok : ∀ k, k < 36 → parseFieldDescriptor (TX10 k).2.2.1 = some (tyX10 k) := by decide +kernel
abbrev cX10_init : ByteArray := prog_12_method_1_code
def yX10_init : MethodName := ⟨RX10, "<init>", "()V"⟩
abbrev cX10_thrown : ByteArray := prog_12_method_2_code
def yX10_thrown : MethodName := ⟨RX10, "thrown", "()I"⟩
abbrev cX10_can : ByteArray := prog_12_method_3_code
def yX10_can : MethodName := ⟨RX10, "can", "(I)Z"⟩
abbrev cX10_isIn : ByteArray := prog_12_method_4_code
def yX10_isIn : MethodName := ⟨RX10, "isIn", "(III)Z"⟩
abbrev cX10_isGate : ByteArray := prog_12_method_5_code
def yX10_isGate : MethodName := ⟨RX10, "isGate", "(I)Z"⟩
abbrev cX10_isPlate : ByteArray := prog_12_method_6_code
def yX10_isPlate : MethodName := ⟨RX10, "isPlate", "(I)Z"⟩
abbrev cX10_isDriver : ByteArray := prog_12_method_7_code
def yX10_isDriver : MethodName := ⟨RX10, "isDriver", "(I)Z"⟩
abbrev cX10_isReading : ByteArray := prog_12_method_8_code
def yX10_isReading : MethodName := ⟨RX10, "isReading", "(I)Z"⟩
abbrev cX10_pass : ByteArray := prog_12_method_9_code
def yX10_pass : MethodName := ⟨RX10, "pass", "(I)I"⟩
abbrev cX10_now : ByteArray := prog_12_method_10_code
def yX10_now : MethodName := ⟨RX10, "now", "()I"⟩
abbrev cX10_measures : ByteArray := prog_12_method_11_code
def yX10_measures : MethodName := ⟨RX10, "measures", "()V"⟩
abbrev cX10_road : ByteArray := prog_12_method_12_code
def yX10_road : MethodName := ⟨RX10, "road", "(III)I"⟩
abbrev cX10_distance : ByteArray := prog_12_method_13_code
def yX10_distance : MethodName := ⟨RX10, "distance", "(II)I"⟩
abbrev cX10_setPause : ByteArray := prog_12_method_14_code
def yX10_setPause : MethodName := ⟨RX10, "setPause", "(I)I"⟩
abbrev cX10_setRate : ByteArray := prog_12_method_15_code
def yX10_setRate : MethodName := ⟨RX10, "setRate", "(II)I"⟩
abbrev cX10_isSign : ByteArray := prog_12_method_16_code
def yX10_isSign : MethodName := ⟨RX10, "isSign", "(I)Z"⟩
abbrev cX10_isPair : ByteArray := prog_12_method_17_code
def yX10_isPair : MethodName := ⟨RX10, "isPair", "(I)Z"⟩
abbrev cX10_chars : ByteArray := prog_12_method_18_code
def yX10_chars : MethodName := ⟨RX10, "chars", "()I"⟩
abbrev cX10_puts : ByteArray := prog_12_method_19_code
def yX10_puts : MethodName := ⟨RX10, "puts", "(II)I"⟩
abbrev cX10_spell : ByteArray := prog_12_method_20_code
def yX10_spell : MethodName := ⟨RX10, "spell", "(I)I"⟩
abbrev cX10_insert : ByteArray := prog_12_method_21_code
def yX10_insert : MethodName := ⟨RX10, "insert", "(II)I"⟩
abbrev cX10_mirror : ByteArray := prog_12_method_22_code
def yX10_mirror : MethodName := ⟨RX10, "mirror", "()I"⟩
abbrev cX10_clearSpelled : ByteArray := prog_12_method_23_code
def yX10_clearSpelled : MethodName := ⟨RX10, "clearSpelled", "()I"⟩
abbrev cX10_charAt : ByteArray := prog_12_method_24_code
def yX10_charAt : MethodName := ⟨RX10, "charAt", "(I)C"⟩
abbrev cX10_alike : ByteArray := prog_12_method_25_code
def yX10_alike : MethodName := ⟨RX10, "alike", "(II)Z"⟩
abbrev cX10_isTaken : ByteArray := prog_12_method_26_code
def yX10_isTaken : MethodName := ⟨RX10, "isTaken", "()Z"⟩
abbrev cX10_isPlain : ByteArray := prog_12_method_27_code
def yX10_isPlain : MethodName := ⟨RX10, "isPlain", "()Z"⟩
abbrev cX10_holds : ByteArray := prog_12_method_28_code
def yX10_holds : MethodName := ⟨RX10, "holds", "(II)V"⟩
abbrev cX10_register : ByteArray := prog_12_method_29_code
def yX10_register : MethodName := ⟨RX10, "register", "(II)I"⟩
abbrev cX10_holderAt : ByteArray := prog_12_method_30_code
def yX10_holderAt : MethodName := ⟨RX10, "holderAt", "(II)I"⟩
abbrev cX10_sell : ByteArray := prog_12_method_31_code
def yX10_sell : MethodName := ⟨RX10, "sell", "(II)I"⟩
abbrev cX10_plates : ByteArray := prog_12_method_32_code
def yX10_plates : MethodName := ⟨RX10, "plates", "()I"⟩
abbrev cX10_isAhead : ByteArray := prog_12_method_33_code
def yX10_isAhead : MethodName := ⟨RX10, "isAhead", "(II)Z"⟩
abbrev cX10_signAt : ByteArray := prog_12_method_34_code
def yX10_signAt : MethodName := ⟨RX10, "signAt", "(II)I"⟩
abbrev cX10_plateAt : ByteArray := prog_12_method_35_code
def yX10_plateAt : MethodName := ⟨RX10, "plateAt", "(I)I"⟩
abbrev cX10_holder : ByteArray := prog_12_method_36_code
def yX10_holder : MethodName := ⟨RX10, "holder", "(II)I"⟩
abbrev cX10_read : ByteArray := prog_12_method_37_code
def yX10_read : MethodName := ⟨RX10, "read", "(II)I"⟩
abbrev cX10_costOf : ByteArray := prog_12_method_38_code
def yX10_costOf : MethodName := ⟨RX10, "costOf", "(II)I"⟩
abbrev cX10_plateFor : ByteArray := prog_12_method_39_code
def yX10_plateFor : MethodName := ⟨RX10, "plateFor", "(I)I"⟩
abbrev cX10_correct : ByteArray := prog_12_method_40_code
def yX10_correct : MethodName := ⟨RX10, "correct", "(II)I"⟩
abbrev cX10_uncorrect : ByteArray := prog_12_method_41_code
def yX10_uncorrect : MethodName := ⟨RX10, "uncorrect", "(I)I"⟩
abbrev cX10_plateOf : ByteArray := prog_12_method_42_code
def yX10_plateOf : MethodName := ⟨RX10, "plateOf", "(I)I"⟩
abbrev cX10_cost : ByteArray := prog_12_method_43_code
def yX10_cost : MethodName := ⟨RX10, "cost", "(II)I"⟩
abbrev cX10_isBefore : ByteArray := prog_12_method_44_code
def yX10_isBefore : MethodName := ⟨RX10, "isBefore", "(II)Z"⟩
abbrev cX10_next : ByteArray := prog_12_method_45_code
def yX10_next : MethodName := ⟨RX10, "next", "(II)I"⟩
abbrev cX10_begins : ByteArray := prog_12_method_46_code
def yX10_begins : MethodName := ⟨RX10, "begins", "(II)Z"⟩
abbrev cX10_joins : ByteArray := prog_12_method_47_code
def yX10_joins : MethodName := ⟨RX10, "joins", "(I)I"⟩
abbrev cX10_joinsAgain : ByteArray := prog_12_method_48_code
def yX10_joinsAgain : MethodName := ⟨RX10, "joinsAgain", "(I)I"⟩
abbrev cX10_trips : ByteArray := prog_12_method_49_code
def yX10_trips : MethodName := ⟨RX10, "trips", "(I)I"⟩
abbrev cX10_tripsAnew : ByteArray := prog_12_method_50_code
def yX10_tripsAnew : MethodName := ⟨RX10, "tripsAnew", "(I)I"⟩
abbrev cX10_tripOf : ByteArray := prog_12_method_51_code
def yX10_tripOf : MethodName := ⟨RX10, "tripOf", "(I)I"⟩
abbrev cX10_firstOf : ByteArray := prog_12_method_52_code
def yX10_firstOf : MethodName := ⟨RX10, "firstOf", "(II)I"⟩
abbrev cX10_tollOf : ByteArray := prog_12_method_53_code
def yX10_tollOf : MethodName := ⟨RX10, "tollOf", "(II)I"⟩
abbrev cX10_isTrip : ByteArray := prog_12_method_54_code
def yX10_isTrip : MethodName := ⟨RX10, "isTrip", "(II)Z"⟩
abbrev cX10_toll : ByteArray := prog_12_method_55_code
def yX10_toll : MethodName := ⟨RX10, "toll", "(II)I"⟩
abbrev cX10_driverOf : ByteArray := prog_12_method_56_code
def yX10_driverOf : MethodName := ⟨RX10, "driverOf", "(II)I"⟩
abbrev cX10_dueFrom : ByteArray := prog_12_method_57_code
def yX10_dueFrom : MethodName := ⟨RX10, "dueFrom", "(I)I"⟩
abbrev cX10_due : ByteArray := prog_12_method_58_code
def yX10_due : MethodName := ⟨RX10, "due", "(I)I"⟩
abbrev cX10_dueAnew : ByteArray := prog_12_method_59_code
def yX10_dueAnew : MethodName := ⟨RX10, "dueAnew", "(I)I"⟩
abbrev cX10_settle : ByteArray := prog_12_method_60_code
def yX10_settle : MethodName := ⟨RX10, "settle", "()I"⟩
abbrev cX10_billed : ByteArray := prog_12_method_61_code
def yX10_billed : MethodName := ⟨RX10, "billed", "(I)J"⟩
abbrev cX10_paidBack : ByteArray := prog_12_method_62_code
def yX10_paidBack : MethodName := ⟨RX10, "paidBack", "(I)J"⟩
abbrev cX10_warrant : ByteArray := prog_12_method_63_code
def yX10_warrant : MethodName := ⟨RX10, "warrant", "(III)I"⟩
abbrev cX10_shows : ByteArray := prog_12_method_64_code
def yX10_shows : MethodName := ⟨RX10, "shows", "(II)I"⟩
abbrev cX10_isWarrant : ByteArray := prog_12_method_65_code
def yX10_isWarrant : MethodName := ⟨RX10, "isWarrant", "(I)Z"⟩
abbrev cX10_ask : ByteArray := prog_12_method_66_code
def yX10_ask : MethodName := ⟨RX10, "ask", "(II)I"⟩
abbrev cX10_stale : ByteArray := prog_12_method_67_code
def yX10_stale : MethodName := ⟨RX10, "stale", "(I)I"⟩
def RL : String := "TollkeeperLaw"
abbrev cL_pass : ByteArray := method_3_code
def yL_pass : MethodName := ⟨RL, "pass", "(LTollkeeper;I[J)I"⟩
abbrev cL_road : ByteArray := method_4_code
def yL_road : MethodName := ⟨RL, "road", "(LTollkeeper;III[J)I"⟩
abbrev cL_distance : ByteArray := method_5_code
def yL_distance : MethodName := ⟨RL, "distance", "(LTollkeeper;II[J)I"⟩
abbrev cL_setPause : ByteArray := method_6_code
def yL_setPause : MethodName := ⟨RL, "setPause", "(LTollkeeper;I[J)I"⟩
abbrev cL_setRate : ByteArray := method_7_code
def yL_setRate : MethodName := ⟨RL, "setRate", "(LTollkeeper;II[J)I"⟩
abbrev cL_spell : ByteArray := method_8_code
def yL_spell : MethodName := ⟨RL, "spell", "(LTollkeeper;I[J)I"⟩
abbrev cL_insert : ByteArray := method_9_code
def yL_insert : MethodName := ⟨RL, "insert", "(LTollkeeper;II[J)I"⟩
abbrev cL_charAt : ByteArray := method_10_code
def yL_charAt : MethodName := ⟨RL, "charAt", "(LTollkeeper;I[J)I"⟩
abbrev cL_alike : ByteArray := method_11_code
def yL_alike : MethodName := ⟨RL, "alike", "(LTollkeeper;II[J)I"⟩
abbrev cL_register : ByteArray := method_12_code
def yL_register : MethodName := ⟨RL, "register", "(LTollkeeper;II[J)I"⟩
abbrev cL_sell : ByteArray := method_13_code
def yL_sell : MethodName := ⟨RL, "sell", "(LTollkeeper;II[J)I"⟩
abbrev cL_plateAt : ByteArray := method_14_code
def yL_plateAt : MethodName := ⟨RL, "plateAt", "(LTollkeeper;I[J)I"⟩
abbrev cL_holder : ByteArray := method_15_code
def yL_holder : MethodName := ⟨RL, "holder", "(LTollkeeper;II[J)I"⟩
abbrev cL_read : ByteArray := method_16_code
def yL_read : MethodName := ⟨RL, "read", "(LTollkeeper;II[J)I"⟩
abbrev cL_correct : ByteArray := method_17_code
def yL_correct : MethodName := ⟨RL, "correct", "(LTollkeeper;II[J)I"⟩
abbrev cL_uncorrect : ByteArray := method_18_code
def yL_uncorrect : MethodName := ⟨RL, "uncorrect", "(LTollkeeper;I[J)I"⟩
abbrev cL_plateOf : ByteArray := method_19_code
def yL_plateOf : MethodName := ⟨RL, "plateOf", "(LTollkeeper;I[J)I"⟩
abbrev cL_cost : ByteArray := method_20_code
def yL_cost : MethodName := ⟨RL, "cost", "(LTollkeeper;II[J)I"⟩
abbrev cL_trips : ByteArray := method_21_code
def yL_trips : MethodName := ⟨RL, "trips", "(LTollkeeper;I[J)I"⟩
abbrev cL_tripsAnew : ByteArray := method_22_code
def yL_tripsAnew : MethodName := ⟨RL, "tripsAnew", "(LTollkeeper;I[J)I"⟩
abbrev cL_tripOf : ByteArray := method_23_code
def yL_tripOf : MethodName := ⟨RL, "tripOf", "(LTollkeeper;I[J)I"⟩
abbrev cL_toll : ByteArray := method_24_code
def yL_toll : MethodName := ⟨RL, "toll", "(LTollkeeper;II[J)I"⟩
abbrev cL_driverOf : ByteArray := method_25_code
def yL_driverOf : MethodName := ⟨RL, "driverOf", "(LTollkeeper;II[J)I"⟩
abbrev cL_due : ByteArray := method_26_code
def yL_due : MethodName := ⟨RL, "due", "(LTollkeeper;I[J)I"⟩
abbrev cL_dueAnew : ByteArray := method_27_code
def yL_dueAnew : MethodName := ⟨RL, "dueAnew", "(LTollkeeper;I[J)I"⟩
abbrev cL_billed : ByteArray := method_28_code
def yL_billed : MethodName := ⟨RL, "billed", "(LTollkeeper;I[J)I"⟩
abbrev cL_paidBack : ByteArray := method_29_code
def yL_paidBack : MethodName := ⟨RL, "paidBack", "(LTollkeeper;I[J)I"⟩
abbrev cL_warrant : ByteArray := method_30_code
def yL_warrant : MethodName := ⟨RL, "warrant", "(LTollkeeper;III[J)I"⟩
abbrev cL_ask : ByteArray := method_31_code
def yL_ask : MethodName := ⟨RL, "ask", "(LTollkeeper;II[J)I"⟩
abbrev cL_stale : ByteArray := method_32_code
def yL_stale : MethodName := ⟨RL, "stale", "(LTollkeeper;I[J)I"⟩
abbrev cL_law : ByteArray := code
def yL_law : MethodName := ⟨RL, "law", "([I)Z"⟩
abbrev vwCl : List vw_C := [(RX0, TX0, 4), (RX1, TX1, 3), (RX2, TX2, 1), (RX3, TX3, 3), (RX4, TX4, 5), (RX5, TX5, 6), (RX6, TX6, 4), (RX7, TX7, 2), (RX8, TX8, 4), (RX9, TX9, 17), (RX10, TX10, 36)]
end
section
theorem dX0_init_0 : decode cX0_init 0 = .ok (.aload_n 0, 1) := by decide +kernel
theorem dX0_init_1 : decode cX0_init 1 = .ok (.invokespecial 1, 3) := by decide +kernel
theorem dX0_init_4 : decode cX0_init 4 = .ok (.aload_n 0, 1) := by decide +kernel
theorem dX0_init_5 : decode cX0_init 5 = .ok (.iload_n 1, 1) := by decide +kernel
theorem dX0_init_6 : decode cX0_init 6 = .ok (.putfield 7, 3) := by decide +kernel
theorem dX0_init_9 : decode cX0_init 9 = .ok (.aload_n 0, 1) := by decide +kernel
theorem dX0_init_10 : decode cX0_init 10 = .ok (.iload_n 2, 1) := by decide +kernel
theorem dX0_init_11 : decode cX0_init 11 = .ok (.putfield 13, 3) := by decide +kernel
theorem dX0_init_14 : decode cX0_init 14 = .ok (.aload_n 0, 1) := by decide +kernel
theorem dX0_init_15 : decode cX0_init 15 = .ok (.iload_n 3, 1) := by decide +kernel
theorem dX0_init_16 : decode cX0_init 16 = .ok (.putfield 16, 3) := by decide +kernel
theorem dX0_init_19 : decode cX0_init 19 = .ok (.aload_n 0, 1) := by decide +kernel
theorem dX0_init_20 : decode cX0_init 20 = .ok (.iload 4, 2) := by decide +kernel
theorem dX0_init_22 : decode cX0_init 22 = .ok (.putfield 19, 3) := by decide +kernel
theorem dX0_init_25 : decode cX0_init 25 = .ok (.return_, 1) := by decide +kernel
theorem dX0_tells_0 : decode cX0_tells 0 = .ok (.aload_n 1, 1) := by decide +kernel
theorem dX0_tells_1 : decode cX0_tells 1 = .ok (.ifnull 29, 3) := by decide +kernel
theorem dX0_tells_4 : decode cX0_tells 4 = .ok (.aload_n 1, 1) := by decide +kernel
theorem dX0_tells_5 : decode cX0_tells 5 = .ok (.getfield 22, 3) := by decide +kernel
theorem dX0_tells_8 : decode cX0_tells 8 = .ok (.aload_n 0, 1) := by decide +kernel
theorem dX0_tells_9 : decode cX0_tells 9 = .ok (.getfield 16, 3) := by decide +kernel
theorem dX0_tells_12 : decode cX0_tells 12 = .ok (.if_icmp .ne 18, 3) := by decide +kernel
theorem dX0_tells_15 : decode cX0_tells 15 = .ok (.aload_n 1, 1) := by decide +kernel
theorem dX0_tells_16 : decode cX0_tells 16 = .ok (.getfield 25, 3) := by decide +kernel
theorem dX0_tells_19 : decode cX0_tells 19 = .ok (.aload_n 0, 1) := by decide +kernel
theorem dX0_tells_20 : decode cX0_tells 20 = .ok (.getfield 19, 3) := by decide +kernel
theorem dX0_tells_23 : decode cX0_tells 23 = .ok (.if_icmp .ne 7, 3) := by decide +kernel
theorem dX0_tells_26 : decode cX0_tells 26 = .ok (.iconst 1, 1) := by decide +kernel
theorem dX0_tells_27 : decode cX0_tells 27 = .ok (.goto 4, 3) := by decide +kernel
theorem dX0_tells_30 : decode cX0_tells 30 = .ok (.iconst 0, 1) := by decide +kernel
theorem dX0_tells_31 : decode cX0_tells 31 = .ok (.ireturn, 1) := by decide +kernel
theorem dX1_init_0 : decode cX1_init 0 = .ok (.aload_n 0, 1) := by decide +kernel
theorem dX1_init_1 : decode cX1_init 1 = .ok (.invokespecial 1, 3) := by decide +kernel
theorem dX1_init_4 : decode cX1_init 4 = .ok (.aload_n 0, 1) := by decide +kernel
theorem dX1_init_5 : decode cX1_init 5 = .ok (.iload_n 1, 1) := by decide +kernel
theorem dX1_init_6 : decode cX1_init 6 = .ok (.putfield 7, 3) := by decide +kernel
theorem dX1_init_9 : decode cX1_init 9 = .ok (.aload_n 0, 1) := by decide +kernel
theorem dX1_init_10 : decode cX1_init 10 = .ok (.iload_n 2, 1) := by decide +kernel
theorem dX1_init_11 : decode cX1_init 11 = .ok (.putfield 13, 3) := by decide +kernel
theorem dX1_init_14 : decode cX1_init 14 = .ok (.aload_n 0, 1) := by decide +kernel
theorem dX1_init_15 : decode cX1_init 15 = .ok (.aload_n 3, 1) := by decide +kernel
theorem dX1_init_16 : decode cX1_init 16 = .ok (.putfield 16, 3) := by decide +kernel
theorem dX1_init_19 : decode cX1_init 19 = .ok (.return_, 1) := by decide +kernel
theorem dX2_init_0 : decode cX2_init 0 = .ok (.aload_n 0, 1) := by decide +kernel
theorem dX2_init_1 : decode cX2_init 1 = .ok (.invokespecial 3, 3) := by decide +kernel
theorem dX2_init_4 : decode cX2_init 4 = .ok (.aload_n 0, 1) := by decide +kernel
theorem dX2_init_5 : decode cX2_init 5 = .ok (.bipush 15, 2) := by decide +kernel
theorem dX2_init_7 : decode cX2_init 7 = .ok (.newarray .int, 2) := by decide +kernel
theorem dX2_init_9 : decode cX2_init 9 = .ok (.putfield 9, 3) := by decide +kernel
theorem dX2_init_12 : decode cX2_init 12 = .ok (.return_, 1) := by decide +kernel
theorem dX2_turn_0 : decode cX2_turn 0 = .ok (.aload_n 0, 1) := by decide +kernel
theorem dX2_turn_1 : decode cX2_turn 1 = .ok (.getfield 9, 3) := by decide +kernel
theorem dX2_turn_4 : decode cX2_turn 4 = .ok (.iload_n 1, 1) := by decide +kernel
theorem dX2_turn_5 : decode cX2_turn 5 = .ok (.dup2, 1) := by decide +kernel
theorem dX2_turn_6 : decode cX2_turn 6 = .ok (.iaload, 1) := by decide +kernel
theorem dX2_turn_7 : decode cX2_turn 7 = .ok (.iconst 1, 1) := by decide +kernel
theorem dX2_turn_8 : decode cX2_turn 8 = .ok (.iload_n 2, 1) := by decide +kernel
theorem dX2_turn_9 : decode cX2_turn 9 = .ok (.ishl, 1) := by decide +kernel
theorem dX2_turn_10 : decode cX2_turn 10 = .ok (.ixor, 1) := by decide +kernel
theorem dX2_turn_11 : decode cX2_turn 11 = .ok (.iastore, 1) := by decide +kernel
theorem dX2_turn_12 : decode cX2_turn 12 = .ok (.aload_n 0, 1) := by decide +kernel
theorem dX2_turn_13 : decode cX2_turn 13 = .ok (.getfield 9, 3) := by decide +kernel
theorem dX2_turn_16 : decode cX2_turn 16 = .ok (.iload_n 2, 1) := by decide +kernel
theorem dX2_turn_17 : decode cX2_turn 17 = .ok (.dup2, 1) := by decide +kernel
theorem dX2_turn_18 : decode cX2_turn 18 = .ok (.iaload, 1) := by decide +kernel
theorem dX2_turn_19 : decode cX2_turn 19 = .ok (.iconst 1, 1) := by decide +kernel
theorem dX2_turn_20 : decode cX2_turn 20 = .ok (.iload_n 1, 1) := by decide +kernel
theorem dX2_turn_21 : decode cX2_turn 21 = .ok (.ishl, 1) := by decide +kernel
theorem dX2_turn_22 : decode cX2_turn 22 = .ok (.ixor, 1) := by decide +kernel
theorem dX2_turn_23 : decode cX2_turn 23 = .ok (.iastore, 1) := by decide +kernel
theorem dX2_turn_24 : decode cX2_turn 24 = .ok (.return_, 1) := by decide +kernel
theorem dX2_holds_0 : decode cX2_holds 0 = .ok (.aload_n 0, 1) := by decide +kernel
theorem dX2_holds_1 : decode cX2_holds 1 = .ok (.getfield 9, 3) := by decide +kernel
theorem dX2_holds_4 : decode cX2_holds 4 = .ok (.iload_n 1, 1) := by decide +kernel
theorem dX2_holds_5 : decode cX2_holds 5 = .ok (.iaload, 1) := by decide +kernel
theorem dX2_holds_6 : decode cX2_holds 6 = .ok (.iload_n 2, 1) := by decide +kernel
theorem dX2_holds_7 : decode cX2_holds 7 = .ok (.ishr, 1) := by decide +kernel
theorem dX2_holds_8 : decode cX2_holds 8 = .ok (.iconst 1, 1) := by decide +kernel
theorem dX2_holds_9 : decode cX2_holds 9 = .ok (.iand, 1) := by decide +kernel
theorem dX2_holds_10 : decode cX2_holds 10 = .ok (.iconst 1, 1) := by decide +kernel
theorem dX2_holds_11 : decode cX2_holds 11 = .ok (.if_icmp .ne 7, 3) := by decide +kernel
theorem dX2_holds_14 : decode cX2_holds 14 = .ok (.iconst 1, 1) := by decide +kernel
theorem dX2_holds_15 : decode cX2_holds 15 = .ok (.goto 4, 3) := by decide +kernel
theorem dX2_holds_18 : decode cX2_holds 18 = .ok (.iconst 0, 1) := by decide +kernel
theorem dX2_holds_19 : decode cX2_holds 19 = .ok (.ireturn, 1) := by decide +kernel
theorem dX2_costOf_0 : decode cX2_costOf 0 = .ok (.aload_n 1, 1) := by decide +kernel
theorem dX2_costOf_1 : decode cX2_costOf 1 = .ok (.getfield 15, 3) := by decide +kernel
theorem dX2_costOf_4 : decode cX2_costOf 4 = .ok (.aload_n 2, 1) := by decide +kernel
theorem dX2_costOf_5 : decode cX2_costOf 5 = .ok (.getfield 15, 3) := by decide +kernel
theorem dX2_costOf_8 : decode cX2_costOf 8 = .ok (.if_icmp .eq 5, 3) := by decide +kernel
theorem dX2_costOf_11 : decode cX2_costOf 11 = .ok (.iconst (-1), 1) := by decide +kernel
theorem dX2_costOf_12 : decode cX2_costOf 12 = .ok (.ireturn, 1) := by decide +kernel
theorem dX2_costOf_13 : decode cX2_costOf 13 = .ok (.iconst 0, 1) := by decide +kernel
theorem dX2_costOf_14 : decode cX2_costOf 14 = .ok (.istore_n 3, 1) := by decide +kernel
theorem dX2_costOf_15 : decode cX2_costOf 15 = .ok (.iconst 0, 1) := by decide +kernel
theorem dX2_costOf_16 : decode cX2_costOf 16 = .ok (.istore 4, 2) := by decide +kernel
theorem dX2_costOf_18 : decode cX2_costOf 18 = .ok (.iload 4, 2) := by decide +kernel
theorem dX2_costOf_20 : decode cX2_costOf 20 = .ok (.aload_n 1, 1) := by decide +kernel
theorem dX2_costOf_21 : decode cX2_costOf 21 = .ok (.getfield 15, 3) := by decide +kernel
theorem dX2_costOf_24 : decode cX2_costOf 24 = .ok (.if_icmp .ge 42, 3) := by decide +kernel
theorem dX2_costOf_27 : decode cX2_costOf 27 = .ok (.aload_n 0, 1) := by decide +kernel
theorem dX2_costOf_28 : decode cX2_costOf 28 = .ok (.aload_n 1, 1) := by decide +kernel
theorem dX2_costOf_29 : decode cX2_costOf 29 = .ok (.getfield 21, 3) := by decide +kernel
theorem dX2_costOf_32 : decode cX2_costOf 32 = .ok (.iload 4, 2) := by decide +kernel
theorem dX2_costOf_34 : decode cX2_costOf 34 = .ok (.iaload, 1) := by decide +kernel
theorem dX2_costOf_35 : decode cX2_costOf 35 = .ok (.aload_n 2, 1) := by decide +kernel
theorem dX2_costOf_36 : decode cX2_costOf 36 = .ok (.getfield 21, 3) := by decide +kernel
theorem dX2_costOf_39 : decode cX2_costOf 39 = .ok (.iload 4, 2) := by decide +kernel
theorem dX2_costOf_41 : decode cX2_costOf 41 = .ok (.iaload, 1) := by decide +kernel
theorem dX2_costOf_42 : decode cX2_costOf 42 = .ok (.invokevirtual 24, 3) := by decide +kernel
theorem dX2_costOf_45 : decode cX2_costOf 45 = .ok (.istore 5, 2) := by decide +kernel
theorem dX2_costOf_47 : decode cX2_costOf 47 = .ok (.iload 5, 2) := by decide +kernel
theorem dX2_costOf_49 : decode cX2_costOf 49 = .ok (.iconst (-1), 1) := by decide +kernel
theorem dX2_costOf_50 : decode cX2_costOf 50 = .ok (.if_icmp .ne 5, 3) := by decide +kernel
theorem dX2_costOf_53 : decode cX2_costOf 53 = .ok (.iconst (-1), 1) := by decide +kernel
theorem dX2_costOf_54 : decode cX2_costOf 54 = .ok (.ireturn, 1) := by decide +kernel
theorem dX2_costOf_55 : decode cX2_costOf 55 = .ok (.iload_n 3, 1) := by decide +kernel
theorem dX2_costOf_56 : decode cX2_costOf 56 = .ok (.iload 5, 2) := by decide +kernel
theorem dX2_costOf_58 : decode cX2_costOf 58 = .ok (.iadd, 1) := by decide +kernel
theorem dX2_costOf_59 : decode cX2_costOf 59 = .ok (.istore_n 3, 1) := by decide +kernel
theorem dX2_costOf_60 : decode cX2_costOf 60 = .ok (.iinc 4 1, 3) := by decide +kernel
theorem dX2_costOf_63 : decode cX2_costOf 63 = .ok (.goto (-45), 3) := by decide +kernel
theorem dX2_costOf_66 : decode cX2_costOf 66 = .ok (.iload_n 3, 1) := by decide +kernel
theorem dX2_costOf_67 : decode cX2_costOf 67 = .ok (.ireturn, 1) := by decide +kernel
theorem dX2_costOfSign_0 : decode cX2_costOfSign 0 = .ok (.iload_n 1, 1) := by decide +kernel
theorem dX2_costOfSign_1 : decode cX2_costOfSign 1 = .ok (.iload_n 2, 1) := by decide +kernel
theorem dX2_costOfSign_2 : decode cX2_costOfSign 2 = .ok (.if_icmp .ne 5, 3) := by decide +kernel
theorem dX2_costOfSign_5 : decode cX2_costOfSign 5 = .ok (.iconst 0, 1) := by decide +kernel
theorem dX2_costOfSign_6 : decode cX2_costOfSign 6 = .ok (.ireturn, 1) := by decide +kernel
theorem dX2_costOfSign_7 : decode cX2_costOfSign 7 = .ok (.iload_n 1, 1) := by decide +kernel
theorem dX2_costOfSign_8 : decode cX2_costOfSign 8 = .ok (.bipush 14, 2) := by decide +kernel
theorem dX2_costOfSign_10 : decode cX2_costOfSign 10 = .ok (.if_icmp .ne 5, 3) := by decide +kernel
theorem dX2_costOfSign_13 : decode cX2_costOfSign 13 = .ok (.iconst 2, 1) := by decide +kernel
theorem dX2_costOfSign_14 : decode cX2_costOfSign 14 = .ok (.ireturn, 1) := by decide +kernel
theorem dX2_costOfSign_15 : decode cX2_costOfSign 15 = .ok (.aload_n 0, 1) := by decide +kernel
theorem dX2_costOfSign_16 : decode cX2_costOfSign 16 = .ok (.iload_n 1, 1) := by decide +kernel
theorem dX2_costOfSign_17 : decode cX2_costOfSign 17 = .ok (.iload_n 2, 1) := by decide +kernel
theorem dX2_costOfSign_18 : decode cX2_costOfSign 18 = .ok (.invokevirtual 28, 3) := by decide +kernel
theorem dX2_costOfSign_21 : decode cX2_costOfSign 21 = .ok (.ifCond .eq 7, 3) := by decide +kernel
theorem dX2_costOfSign_24 : decode cX2_costOfSign 24 = .ok (.iconst 1, 1) := by decide +kernel
theorem dX2_costOfSign_25 : decode cX2_costOfSign 25 = .ok (.goto 4, 3) := by decide +kernel
theorem dX2_costOfSign_28 : decode cX2_costOfSign 28 = .ok (.iconst (-1), 1) := by decide +kernel
theorem dX2_costOfSign_29 : decode cX2_costOfSign 29 = .ok (.ireturn, 1) := by decide +kernel
theorem dX3_init_0 : decode cX3_init 0 = .ok (.aload_n 0, 1) := by decide +kernel
theorem dX3_init_1 : decode cX3_init 1 = .ok (.invokespecial 3, 3) := by decide +kernel
theorem dX3_init_4 : decode cX3_init 4 = .ok (.aload_n 0, 1) := by decide +kernel
theorem dX3_init_5 : decode cX3_init 5 = .ok (.bipush 60, 2) := by decide +kernel
theorem dX3_init_7 : decode cX3_init 7 = .ok (.anewarray 9, 3) := by decide +kernel
theorem dX3_init_10 : decode cX3_init 10 = .ok (.putfield 11, 3) := by decide +kernel
theorem dX3_init_13 : decode cX3_init 13 = .ok (.aload_n 0, 1) := by decide +kernel
theorem dX3_init_14 : decode cX3_init 14 = .ok (.bipush 60, 2) := by decide +kernel
theorem dX3_init_16 : decode cX3_init 16 = .ok (.newarray .boolean, 2) := by decide +kernel
theorem dX3_init_18 : decode cX3_init 18 = .ok (.putfield 17, 3) := by decide +kernel
theorem dX3_init_21 : decode cX3_init 21 = .ok (.aload_n 0, 1) := by decide +kernel
theorem dX3_init_22 : decode cX3_init 22 = .ok (.iconst 0, 1) := by decide +kernel
theorem dX3_init_23 : decode cX3_init 23 = .ok (.putfield 21, 3) := by decide +kernel
theorem dX3_init_26 : decode cX3_init 26 = .ok (.return_, 1) := by decide +kernel
theorem dX3_put_0 : decode cX3_put 0 = .ok (.aload_n 0, 1) := by decide +kernel
theorem dX3_put_1 : decode cX3_put 1 = .ok (.aload_n 1, 1) := by decide +kernel
theorem dX3_put_2 : decode cX3_put 2 = .ok (.invokevirtual 25, 3) := by decide +kernel
theorem dX3_put_5 : decode cX3_put 5 = .ok (.istore_n 3, 1) := by decide +kernel
theorem dX3_put_6 : decode cX3_put 6 = .ok (.aload_n 0, 1) := by decide +kernel
theorem dX3_put_7 : decode cX3_put 7 = .ok (.iload_n 3, 1) := by decide +kernel
theorem dX3_put_8 : decode cX3_put 8 = .ok (.aload_n 2, 1) := by decide +kernel
theorem dX3_put_9 : decode cX3_put 9 = .ok (.invokevirtual 29, 3) := by decide +kernel
theorem dX3_put_12 : decode cX3_put 12 = .ok (.aload_n 0, 1) := by decide +kernel
theorem dX3_put_13 : decode cX3_put 13 = .ok (.iload_n 3, 1) := by decide +kernel
theorem dX3_put_14 : decode cX3_put 14 = .ok (.iconst 1, 1) := by decide +kernel
theorem dX3_put_15 : decode cX3_put 15 = .ok (.iadd, 1) := by decide +kernel
theorem dX3_put_16 : decode cX3_put 16 = .ok (.aload_n 2, 1) := by decide +kernel
theorem dX3_put_17 : decode cX3_put 17 = .ok (.invokevirtual 29, 3) := by decide +kernel
theorem dX3_put_20 : decode cX3_put 20 = .ok (.return_, 1) := by decide +kernel
theorem dX3_take_0 : decode cX3_take 0 = .ok (.aload_n 0, 1) := by decide +kernel
theorem dX3_take_1 : decode cX3_take 1 = .ok (.aload_n 1, 1) := by decide +kernel
theorem dX3_take_2 : decode cX3_take 2 = .ok (.invokevirtual 33, 3) := by decide +kernel
theorem dX3_take_5 : decode cX3_take 5 = .ok (.istore_n 3, 1) := by decide +kernel
theorem dX3_take_6 : decode cX3_take 6 = .ok (.iload_n 3, 1) := by decide +kernel
theorem dX3_take_7 : decode cX3_take 7 = .ok (.iconst (-1), 1) := by decide +kernel
theorem dX3_take_8 : decode cX3_take 8 = .ok (.if_icmp .ne 4, 3) := by decide +kernel
theorem dX3_take_11 : decode cX3_take 11 = .ok (.return_, 1) := by decide +kernel
theorem dX3_take_12 : decode cX3_take 12 = .ok (.aload_n 0, 1) := by decide +kernel
theorem dX3_take_13 : decode cX3_take 13 = .ok (.dup, 1) := by decide +kernel
theorem dX3_take_14 : decode cX3_take 14 = .ok (.getfield 21, 3) := by decide +kernel
theorem dX3_take_17 : decode cX3_take 17 = .ok (.iconst 1, 1) := by decide +kernel
theorem dX3_take_18 : decode cX3_take 18 = .ok (.isub, 1) := by decide +kernel
theorem dX3_take_19 : decode cX3_take 19 = .ok (.putfield 21, 3) := by decide +kernel
theorem dX3_take_22 : decode cX3_take 22 = .ok (.iload_n 3, 1) := by decide +kernel
theorem dX3_take_23 : decode cX3_take 23 = .ok (.istore 4, 2) := by decide +kernel
theorem dX3_take_25 : decode cX3_take 25 = .ok (.iload 4, 2) := by decide +kernel
theorem dX3_take_27 : decode cX3_take 27 = .ok (.aload_n 0, 1) := by decide +kernel
theorem dX3_take_28 : decode cX3_take 28 = .ok (.getfield 21, 3) := by decide +kernel
theorem dX3_take_31 : decode cX3_take 31 = .ok (.if_icmp .ge 41, 3) := by decide +kernel
theorem dX3_take_34 : decode cX3_take 34 = .ok (.aload_n 0, 1) := by decide +kernel
theorem dX3_take_35 : decode cX3_take 35 = .ok (.getfield 11, 3) := by decide +kernel
theorem dX3_take_38 : decode cX3_take 38 = .ok (.iload 4, 2) := by decide +kernel
theorem dX3_take_40 : decode cX3_take 40 = .ok (.aload_n 0, 1) := by decide +kernel
theorem dX3_take_41 : decode cX3_take 41 = .ok (.getfield 11, 3) := by decide +kernel
theorem dX3_take_44 : decode cX3_take 44 = .ok (.iload 4, 2) := by decide +kernel
theorem dX3_take_46 : decode cX3_take 46 = .ok (.iconst 1, 1) := by decide +kernel
theorem dX3_take_47 : decode cX3_take 47 = .ok (.iadd, 1) := by decide +kernel
theorem dX3_take_48 : decode cX3_take 48 = .ok (.aaload, 1) := by decide +kernel
theorem dX3_take_49 : decode cX3_take 49 = .ok (.aastore, 1) := by decide +kernel
theorem dX3_take_50 : decode cX3_take 50 = .ok (.aload_n 0, 1) := by decide +kernel
theorem dX3_take_51 : decode cX3_take 51 = .ok (.getfield 17, 3) := by decide +kernel
theorem dX3_take_54 : decode cX3_take 54 = .ok (.iload 4, 2) := by decide +kernel
theorem dX3_take_56 : decode cX3_take 56 = .ok (.aload_n 0, 1) := by decide +kernel
theorem dX3_take_57 : decode cX3_take 57 = .ok (.getfield 17, 3) := by decide +kernel
theorem dX3_take_60 : decode cX3_take 60 = .ok (.iload 4, 2) := by decide +kernel
theorem dX3_take_62 : decode cX3_take 62 = .ok (.iconst 1, 1) := by decide +kernel
theorem dX3_take_63 : decode cX3_take 63 = .ok (.iadd, 1) := by decide +kernel
theorem dX3_take_64 : decode cX3_take 64 = .ok (.baload, 1) := by decide +kernel
theorem dX3_take_65 : decode cX3_take 65 = .ok (.bastore, 1) := by decide +kernel
theorem dX3_take_66 : decode cX3_take 66 = .ok (.iinc 4 1, 3) := by decide +kernel
theorem dX3_take_69 : decode cX3_take 69 = .ok (.goto (-44), 3) := by decide +kernel
theorem dX3_take_72 : decode cX3_take 72 = .ok (.aload_n 0, 1) := by decide +kernel
theorem dX3_take_73 : decode cX3_take 73 = .ok (.iload_n 3, 1) := by decide +kernel
theorem dX3_take_74 : decode cX3_take 74 = .ok (.aload_n 2, 1) := by decide +kernel
theorem dX3_take_75 : decode cX3_take 75 = .ok (.invokevirtual 29, 3) := by decide +kernel
theorem dX3_take_78 : decode cX3_take 78 = .ok (.return_, 1) := by decide +kernel
theorem dX3_insertInOrder_0 : decode cX3_insertInOrder 0 = .ok (.aload_n 0, 1) := by decide +kernel
theorem dX3_insertInOrder_1 : decode cX3_insertInOrder 1 = .ok (.getfield 21, 3) := by decide +kernel
theorem dX3_insertInOrder_4 : decode cX3_insertInOrder 4 = .ok (.istore_n 2, 1) := by decide +kernel
theorem dX3_insertInOrder_5 : decode cX3_insertInOrder 5 = .ok (.iload_n 2, 1) := by decide +kernel
theorem dX3_insertInOrder_6 : decode cX3_insertInOrder 6 = .ok (.ifCond .le 52, 3) := by decide +kernel
theorem dX3_insertInOrder_9 : decode cX3_insertInOrder 9 = .ok (.aload_n 1, 1) := by decide +kernel
theorem dX3_insertInOrder_10 : decode cX3_insertInOrder 10 = .ok (.aload_n 0, 1) := by decide +kernel
theorem dX3_insertInOrder_11 : decode cX3_insertInOrder 11 = .ok (.getfield 11, 3) := by decide +kernel
theorem dX3_insertInOrder_14 : decode cX3_insertInOrder 14 = .ok (.iload_n 2, 1) := by decide +kernel
theorem dX3_insertInOrder_15 : decode cX3_insertInOrder 15 = .ok (.iconst 1, 1) := by decide +kernel
theorem dX3_insertInOrder_16 : decode cX3_insertInOrder 16 = .ok (.isub, 1) := by decide +kernel
theorem dX3_insertInOrder_17 : decode cX3_insertInOrder 17 = .ok (.aaload, 1) := by decide +kernel
theorem dX3_insertInOrder_18 : decode cX3_insertInOrder 18 = .ok (.invokevirtual 36, 3) := by decide +kernel
theorem dX3_insertInOrder_21 : decode cX3_insertInOrder 21 = .ok (.ifCond .eq 37, 3) := by decide +kernel
theorem dX3_insertInOrder_24 : decode cX3_insertInOrder 24 = .ok (.aload_n 0, 1) := by decide +kernel
theorem dX3_insertInOrder_25 : decode cX3_insertInOrder 25 = .ok (.getfield 11, 3) := by decide +kernel
theorem dX3_insertInOrder_28 : decode cX3_insertInOrder 28 = .ok (.iload_n 2, 1) := by decide +kernel
theorem dX3_insertInOrder_29 : decode cX3_insertInOrder 29 = .ok (.aload_n 0, 1) := by decide +kernel
theorem dX3_insertInOrder_30 : decode cX3_insertInOrder 30 = .ok (.getfield 11, 3) := by decide +kernel
theorem dX3_insertInOrder_33 : decode cX3_insertInOrder 33 = .ok (.iload_n 2, 1) := by decide +kernel
theorem dX3_insertInOrder_34 : decode cX3_insertInOrder 34 = .ok (.iconst 1, 1) := by decide +kernel
theorem dX3_insertInOrder_35 : decode cX3_insertInOrder 35 = .ok (.isub, 1) := by decide +kernel
theorem dX3_insertInOrder_36 : decode cX3_insertInOrder 36 = .ok (.aaload, 1) := by decide +kernel
theorem dX3_insertInOrder_37 : decode cX3_insertInOrder 37 = .ok (.aastore, 1) := by decide +kernel
theorem dX3_insertInOrder_38 : decode cX3_insertInOrder 38 = .ok (.aload_n 0, 1) := by decide +kernel
theorem dX3_insertInOrder_39 : decode cX3_insertInOrder 39 = .ok (.getfield 17, 3) := by decide +kernel
theorem dX3_insertInOrder_42 : decode cX3_insertInOrder 42 = .ok (.iload_n 2, 1) := by decide +kernel
theorem dX3_insertInOrder_43 : decode cX3_insertInOrder 43 = .ok (.aload_n 0, 1) := by decide +kernel
theorem dX3_insertInOrder_44 : decode cX3_insertInOrder 44 = .ok (.getfield 17, 3) := by decide +kernel
theorem dX3_insertInOrder_47 : decode cX3_insertInOrder 47 = .ok (.iload_n 2, 1) := by decide +kernel
theorem dX3_insertInOrder_48 : decode cX3_insertInOrder 48 = .ok (.iconst 1, 1) := by decide +kernel
theorem dX3_insertInOrder_49 : decode cX3_insertInOrder 49 = .ok (.isub, 1) := by decide +kernel
theorem dX3_insertInOrder_50 : decode cX3_insertInOrder 50 = .ok (.baload, 1) := by decide +kernel
theorem dX3_insertInOrder_51 : decode cX3_insertInOrder 51 = .ok (.bastore, 1) := by decide +kernel
theorem dX3_insertInOrder_52 : decode cX3_insertInOrder 52 = .ok (.iinc 2 (-1), 3) := by decide +kernel
theorem dX3_insertInOrder_55 : decode cX3_insertInOrder 55 = .ok (.goto (-50), 3) := by decide +kernel
theorem dX3_insertInOrder_58 : decode cX3_insertInOrder 58 = .ok (.aload_n 0, 1) := by decide +kernel
theorem dX3_insertInOrder_59 : decode cX3_insertInOrder 59 = .ok (.getfield 11, 3) := by decide +kernel
theorem dX3_insertInOrder_62 : decode cX3_insertInOrder 62 = .ok (.iload_n 2, 1) := by decide +kernel
theorem dX3_insertInOrder_63 : decode cX3_insertInOrder 63 = .ok (.aload_n 1, 1) := by decide +kernel
theorem dX3_insertInOrder_64 : decode cX3_insertInOrder 64 = .ok (.aastore, 1) := by decide +kernel
theorem dX3_insertInOrder_65 : decode cX3_insertInOrder 65 = .ok (.aload_n 0, 1) := by decide +kernel
theorem dX3_insertInOrder_66 : decode cX3_insertInOrder 66 = .ok (.dup, 1) := by decide +kernel
theorem dX3_insertInOrder_67 : decode cX3_insertInOrder 67 = .ok (.getfield 21, 3) := by decide +kernel
theorem dX3_insertInOrder_70 : decode cX3_insertInOrder 70 = .ok (.iconst 1, 1) := by decide +kernel
theorem dX3_insertInOrder_71 : decode cX3_insertInOrder 71 = .ok (.iadd, 1) := by decide +kernel
theorem dX3_insertInOrder_72 : decode cX3_insertInOrder 72 = .ok (.putfield 21, 3) := by decide +kernel
theorem dX3_insertInOrder_75 : decode cX3_insertInOrder 75 = .ok (.iload_n 2, 1) := by decide +kernel
theorem dX3_insertInOrder_76 : decode cX3_insertInOrder 76 = .ok (.ireturn, 1) := by decide +kernel
theorem dX3_joinAll_0 : decode cX3_joinAll 0 = .ok (.iconst 0, 1) := by decide +kernel
theorem dX3_joinAll_1 : decode cX3_joinAll 1 = .ok (.istore_n 2, 1) := by decide +kernel
theorem dX3_joinAll_2 : decode cX3_joinAll 2 = .ok (.iload_n 2, 1) := by decide +kernel
theorem dX3_joinAll_3 : decode cX3_joinAll 3 = .ok (.aload_n 0, 1) := by decide +kernel
theorem dX3_joinAll_4 : decode cX3_joinAll 4 = .ok (.getfield 21, 3) := by decide +kernel
theorem dX3_joinAll_7 : decode cX3_joinAll 7 = .ok (.if_icmp .ge 15, 3) := by decide +kernel
theorem dX3_joinAll_10 : decode cX3_joinAll 10 = .ok (.aload_n 0, 1) := by decide +kernel
theorem dX3_joinAll_11 : decode cX3_joinAll 11 = .ok (.iload_n 2, 1) := by decide +kernel
theorem dX3_joinAll_12 : decode cX3_joinAll 12 = .ok (.aload_n 1, 1) := by decide +kernel
theorem dX3_joinAll_13 : decode cX3_joinAll 13 = .ok (.invokevirtual 29, 3) := by decide +kernel
theorem dX3_joinAll_16 : decode cX3_joinAll 16 = .ok (.iinc 2 1, 3) := by decide +kernel
theorem dX3_joinAll_19 : decode cX3_joinAll 19 = .ok (.goto (-17), 3) := by decide +kernel
theorem dX3_joinAll_22 : decode cX3_joinAll 22 = .ok (.return_, 1) := by decide +kernel
theorem dX3_tripCount_0 : decode cX3_tripCount 0 = .ok (.aload_n 0, 1) := by decide +kernel
theorem dX3_tripCount_1 : decode cX3_tripCount 1 = .ok (.aload_n 0, 1) := by decide +kernel
theorem dX3_tripCount_2 : decode cX3_tripCount 2 = .ok (.getfield 21, 3) := by decide +kernel
theorem dX3_tripCount_5 : decode cX3_tripCount 5 = .ok (.invokevirtual 40, 3) := by decide +kernel
theorem dX3_tripCount_8 : decode cX3_tripCount 8 = .ok (.ireturn, 1) := by decide +kernel
theorem dX3_tripWith_0 : decode cX3_tripWith 0 = .ok (.aload_n 0, 1) := by decide +kernel
theorem dX3_tripWith_1 : decode cX3_tripWith 1 = .ok (.aload_n 0, 1) := by decide +kernel
theorem dX3_tripWith_2 : decode cX3_tripWith 2 = .ok (.aload_n 1, 1) := by decide +kernel
theorem dX3_tripWith_3 : decode cX3_tripWith 3 = .ok (.invokevirtual 33, 3) := by decide +kernel
theorem dX3_tripWith_6 : decode cX3_tripWith 6 = .ok (.iconst 1, 1) := by decide +kernel
theorem dX3_tripWith_7 : decode cX3_tripWith 7 = .ok (.iadd, 1) := by decide +kernel
theorem dX3_tripWith_8 : decode cX3_tripWith 8 = .ok (.invokevirtual 40, 3) := by decide +kernel
theorem dX3_tripWith_11 : decode cX3_tripWith 11 = .ok (.iconst 1, 1) := by decide +kernel
theorem dX3_tripWith_12 : decode cX3_tripWith 12 = .ok (.isub, 1) := by decide +kernel
theorem dX3_tripWith_13 : decode cX3_tripWith 13 = .ok (.ireturn, 1) := by decide +kernel
theorem dX3_beginningOf_0 : decode cX3_beginningOf 0 = .ok (.iconst 0, 1) := by decide +kernel
theorem dX3_beginningOf_1 : decode cX3_beginningOf 1 = .ok (.istore_n 2, 1) := by decide +kernel
theorem dX3_beginningOf_2 : decode cX3_beginningOf 2 = .ok (.iconst 0, 1) := by decide +kernel
theorem dX3_beginningOf_3 : decode cX3_beginningOf 3 = .ok (.istore_n 3, 1) := by decide +kernel
theorem dX3_beginningOf_4 : decode cX3_beginningOf 4 = .ok (.iload_n 3, 1) := by decide +kernel
theorem dX3_beginningOf_5 : decode cX3_beginningOf 5 = .ok (.aload_n 0, 1) := by decide +kernel
theorem dX3_beginningOf_6 : decode cX3_beginningOf 6 = .ok (.getfield 21, 3) := by decide +kernel
theorem dX3_beginningOf_9 : decode cX3_beginningOf 9 = .ok (.if_icmp .ge 28, 3) := by decide +kernel
theorem dX3_beginningOf_12 : decode cX3_beginningOf 12 = .ok (.aload_n 0, 1) := by decide +kernel
theorem dX3_beginningOf_13 : decode cX3_beginningOf 13 = .ok (.getfield 17, 3) := by decide +kernel
theorem dX3_beginningOf_16 : decode cX3_beginningOf 16 = .ok (.iload_n 3, 1) := by decide +kernel
theorem dX3_beginningOf_17 : decode cX3_beginningOf 17 = .ok (.baload, 1) := by decide +kernel
theorem dX3_beginningOf_18 : decode cX3_beginningOf 18 = .ok (.ifCond .eq 13, 3) := by decide +kernel
theorem dX3_beginningOf_21 : decode cX3_beginningOf 21 = .ok (.iload_n 2, 1) := by decide +kernel
theorem dX3_beginningOf_22 : decode cX3_beginningOf 22 = .ok (.iload_n 1, 1) := by decide +kernel
theorem dX3_beginningOf_23 : decode cX3_beginningOf 23 = .ok (.if_icmp .ne 5, 3) := by decide +kernel
theorem dX3_beginningOf_26 : decode cX3_beginningOf 26 = .ok (.iload_n 3, 1) := by decide +kernel
theorem dX3_beginningOf_27 : decode cX3_beginningOf 27 = .ok (.ireturn, 1) := by decide +kernel
theorem dX3_beginningOf_28 : decode cX3_beginningOf 28 = .ok (.iinc 2 1, 3) := by decide +kernel
theorem dX3_beginningOf_31 : decode cX3_beginningOf 31 = .ok (.iinc 3 1, 3) := by decide +kernel
theorem dX3_beginningOf_34 : decode cX3_beginningOf 34 = .ok (.goto (-30), 3) := by decide +kernel
theorem dX3_beginningOf_37 : decode cX3_beginningOf 37 = .ok (.iconst (-1), 1) := by decide +kernel
theorem dX3_beginningOf_38 : decode cX3_beginningOf 38 = .ok (.ireturn, 1) := by decide +kernel
theorem dX3_wayFrom_0 : decode cX3_wayFrom 0 = .ok (.iconst 0, 1) := by decide +kernel
theorem dX3_wayFrom_1 : decode cX3_wayFrom 1 = .ok (.istore_n 3, 1) := by decide +kernel
theorem dX3_wayFrom_2 : decode cX3_wayFrom 2 = .ok (.iload_n 1, 1) := by decide +kernel
theorem dX3_wayFrom_3 : decode cX3_wayFrom 3 = .ok (.iconst 1, 1) := by decide +kernel
theorem dX3_wayFrom_4 : decode cX3_wayFrom 4 = .ok (.iadd, 1) := by decide +kernel
theorem dX3_wayFrom_5 : decode cX3_wayFrom 5 = .ok (.istore 4, 2) := by decide +kernel
theorem dX3_wayFrom_7 : decode cX3_wayFrom 7 = .ok (.iload 4, 2) := by decide +kernel
theorem dX3_wayFrom_9 : decode cX3_wayFrom 9 = .ok (.aload_n 0, 1) := by decide +kernel
theorem dX3_wayFrom_10 : decode cX3_wayFrom 10 = .ok (.getfield 21, 3) := by decide +kernel
theorem dX3_wayFrom_13 : decode cX3_wayFrom 13 = .ok (.if_icmp .ge 48, 3) := by decide +kernel
theorem dX3_wayFrom_16 : decode cX3_wayFrom 16 = .ok (.aload_n 0, 1) := by decide +kernel
theorem dX3_wayFrom_17 : decode cX3_wayFrom 17 = .ok (.getfield 17, 3) := by decide +kernel
theorem dX3_wayFrom_20 : decode cX3_wayFrom 20 = .ok (.iload 4, 2) := by decide +kernel
theorem dX3_wayFrom_22 : decode cX3_wayFrom 22 = .ok (.baload, 1) := by decide +kernel
theorem dX3_wayFrom_23 : decode cX3_wayFrom 23 = .ok (.ifCond .ne 38, 3) := by decide +kernel
theorem dX3_wayFrom_26 : decode cX3_wayFrom 26 = .ok (.iload_n 3, 1) := by decide +kernel
theorem dX3_wayFrom_27 : decode cX3_wayFrom 27 = .ok (.aload_n 2, 1) := by decide +kernel
theorem dX3_wayFrom_28 : decode cX3_wayFrom 28 = .ok (.aload_n 0, 1) := by decide +kernel
theorem dX3_wayFrom_29 : decode cX3_wayFrom 29 = .ok (.getfield 11, 3) := by decide +kernel
theorem dX3_wayFrom_32 : decode cX3_wayFrom 32 = .ok (.iload 4, 2) := by decide +kernel
theorem dX3_wayFrom_34 : decode cX3_wayFrom 34 = .ok (.iconst 1, 1) := by decide +kernel
theorem dX3_wayFrom_35 : decode cX3_wayFrom 35 = .ok (.isub, 1) := by decide +kernel
theorem dX3_wayFrom_36 : decode cX3_wayFrom 36 = .ok (.aaload, 1) := by decide +kernel
theorem dX3_wayFrom_37 : decode cX3_wayFrom 37 = .ok (.getfield 44, 3) := by decide +kernel
theorem dX3_wayFrom_40 : decode cX3_wayFrom 40 = .ok (.aload_n 0, 1) := by decide +kernel
theorem dX3_wayFrom_41 : decode cX3_wayFrom 41 = .ok (.getfield 11, 3) := by decide +kernel
theorem dX3_wayFrom_44 : decode cX3_wayFrom 44 = .ok (.iload 4, 2) := by decide +kernel
theorem dX3_wayFrom_46 : decode cX3_wayFrom 46 = .ok (.aaload, 1) := by decide +kernel
theorem dX3_wayFrom_47 : decode cX3_wayFrom 47 = .ok (.getfield 44, 3) := by decide +kernel
theorem dX3_wayFrom_50 : decode cX3_wayFrom 50 = .ok (.invokevirtual 47, 3) := by decide +kernel
theorem dX3_wayFrom_53 : decode cX3_wayFrom 53 = .ok (.iadd, 1) := by decide +kernel
theorem dX3_wayFrom_54 : decode cX3_wayFrom 54 = .ok (.istore_n 3, 1) := by decide +kernel
theorem dX3_wayFrom_55 : decode cX3_wayFrom 55 = .ok (.iinc 4 1, 3) := by decide +kernel
theorem dX3_wayFrom_58 : decode cX3_wayFrom 58 = .ok (.goto (-51), 3) := by decide +kernel
theorem dX3_wayFrom_61 : decode cX3_wayFrom 61 = .ok (.iload_n 3, 1) := by decide +kernel
theorem dX3_wayFrom_62 : decode cX3_wayFrom 62 = .ok (.ireturn, 1) := by decide +kernel
theorem dX3_seeBeginning_0 : decode cX3_seeBeginning 0 = .ok (.iload_n 1, 1) := by decide +kernel
theorem dX3_seeBeginning_1 : decode cX3_seeBeginning 1 = .ok (.aload_n 0, 1) := by decide +kernel
theorem dX3_seeBeginning_2 : decode cX3_seeBeginning 2 = .ok (.getfield 21, 3) := by decide +kernel
theorem dX3_seeBeginning_5 : decode cX3_seeBeginning 5 = .ok (.if_icmp .ge 39, 3) := by decide +kernel
theorem dX3_seeBeginning_8 : decode cX3_seeBeginning 8 = .ok (.aload_n 0, 1) := by decide +kernel
theorem dX3_seeBeginning_9 : decode cX3_seeBeginning 9 = .ok (.getfield 17, 3) := by decide +kernel
theorem dX3_seeBeginning_12 : decode cX3_seeBeginning 12 = .ok (.iload_n 1, 1) := by decide +kernel
theorem dX3_seeBeginning_13 : decode cX3_seeBeginning 13 = .ok (.iload_n 1, 1) := by decide +kernel
theorem dX3_seeBeginning_14 : decode cX3_seeBeginning 14 = .ok (.ifCond .eq 24, 3) := by decide +kernel
theorem dX3_seeBeginning_17 : decode cX3_seeBeginning 17 = .ok (.aload_n 2, 1) := by decide +kernel
theorem dX3_seeBeginning_18 : decode cX3_seeBeginning 18 = .ok (.aload_n 0, 1) := by decide +kernel
theorem dX3_seeBeginning_19 : decode cX3_seeBeginning 19 = .ok (.getfield 11, 3) := by decide +kernel
theorem dX3_seeBeginning_22 : decode cX3_seeBeginning 22 = .ok (.iload_n 1, 1) := by decide +kernel
theorem dX3_seeBeginning_23 : decode cX3_seeBeginning 23 = .ok (.iconst 1, 1) := by decide +kernel
theorem dX3_seeBeginning_24 : decode cX3_seeBeginning 24 = .ok (.isub, 1) := by decide +kernel
theorem dX3_seeBeginning_25 : decode cX3_seeBeginning 25 = .ok (.aaload, 1) := by decide +kernel
theorem dX3_seeBeginning_26 : decode cX3_seeBeginning 26 = .ok (.aload_n 0, 1) := by decide +kernel
theorem dX3_seeBeginning_27 : decode cX3_seeBeginning 27 = .ok (.getfield 11, 3) := by decide +kernel
theorem dX3_seeBeginning_30 : decode cX3_seeBeginning 30 = .ok (.iload_n 1, 1) := by decide +kernel
theorem dX3_seeBeginning_31 : decode cX3_seeBeginning 31 = .ok (.aaload, 1) := by decide +kernel
theorem dX3_seeBeginning_32 : decode cX3_seeBeginning 32 = .ok (.invokevirtual 53, 3) := by decide +kernel
theorem dX3_seeBeginning_35 : decode cX3_seeBeginning 35 = .ok (.ifCond .ne 7, 3) := by decide +kernel
theorem dX3_seeBeginning_38 : decode cX3_seeBeginning 38 = .ok (.iconst 1, 1) := by decide +kernel
theorem dX3_seeBeginning_39 : decode cX3_seeBeginning 39 = .ok (.goto 4, 3) := by decide +kernel
theorem dX3_seeBeginning_42 : decode cX3_seeBeginning 42 = .ok (.iconst 0, 1) := by decide +kernel
theorem dX3_seeBeginning_43 : decode cX3_seeBeginning 43 = .ok (.bastore, 1) := by decide +kernel
theorem dX3_seeBeginning_44 : decode cX3_seeBeginning 44 = .ok (.return_, 1) := by decide +kernel
theorem dX3_placeOf_0 : decode cX3_placeOf 0 = .ok (.iconst 0, 1) := by decide +kernel
theorem dX3_placeOf_1 : decode cX3_placeOf 1 = .ok (.istore_n 2, 1) := by decide +kernel
theorem dX3_placeOf_2 : decode cX3_placeOf 2 = .ok (.iload_n 2, 1) := by decide +kernel
theorem dX3_placeOf_3 : decode cX3_placeOf 3 = .ok (.aload_n 0, 1) := by decide +kernel
theorem dX3_placeOf_4 : decode cX3_placeOf 4 = .ok (.getfield 21, 3) := by decide +kernel
theorem dX3_placeOf_7 : decode cX3_placeOf 7 = .ok (.if_icmp .ge 27, 3) := by decide +kernel
theorem dX3_placeOf_10 : decode cX3_placeOf 10 = .ok (.aload_n 0, 1) := by decide +kernel
theorem dX3_placeOf_11 : decode cX3_placeOf 11 = .ok (.getfield 11, 3) := by decide +kernel
theorem dX3_placeOf_14 : decode cX3_placeOf 14 = .ok (.iload_n 2, 1) := by decide +kernel
theorem dX3_placeOf_15 : decode cX3_placeOf 15 = .ok (.aaload, 1) := by decide +kernel
theorem dX3_placeOf_16 : decode cX3_placeOf 16 = .ok (.getfield 57, 3) := by decide +kernel
theorem dX3_placeOf_19 : decode cX3_placeOf 19 = .ok (.aload_n 1, 1) := by decide +kernel
theorem dX3_placeOf_20 : decode cX3_placeOf 20 = .ok (.getfield 57, 3) := by decide +kernel
theorem dX3_placeOf_23 : decode cX3_placeOf 23 = .ok (.if_icmp .ne 5, 3) := by decide +kernel
theorem dX3_placeOf_26 : decode cX3_placeOf 26 = .ok (.iload_n 2, 1) := by decide +kernel
theorem dX3_placeOf_27 : decode cX3_placeOf 27 = .ok (.ireturn, 1) := by decide +kernel
theorem dX3_placeOf_28 : decode cX3_placeOf 28 = .ok (.iinc 2 1, 3) := by decide +kernel
theorem dX3_placeOf_31 : decode cX3_placeOf 31 = .ok (.goto (-29), 3) := by decide +kernel
theorem dX3_placeOf_34 : decode cX3_placeOf 34 = .ok (.iconst (-1), 1) := by decide +kernel
theorem dX3_placeOf_35 : decode cX3_placeOf 35 = .ok (.ireturn, 1) := by decide +kernel
theorem dX3_beginningsAhead_0 : decode cX3_beginningsAhead 0 = .ok (.iconst 0, 1) := by decide +kernel
theorem dX3_beginningsAhead_1 : decode cX3_beginningsAhead 1 = .ok (.istore_n 2, 1) := by decide +kernel
theorem dX3_beginningsAhead_2 : decode cX3_beginningsAhead 2 = .ok (.iconst 0, 1) := by decide +kernel
theorem dX3_beginningsAhead_3 : decode cX3_beginningsAhead 3 = .ok (.istore_n 3, 1) := by decide +kernel
theorem dX3_beginningsAhead_4 : decode cX3_beginningsAhead 4 = .ok (.iload_n 3, 1) := by decide +kernel
theorem dX3_beginningsAhead_5 : decode cX3_beginningsAhead 5 = .ok (.iload_n 1, 1) := by decide +kernel
theorem dX3_beginningsAhead_6 : decode cX3_beginningsAhead 6 = .ok (.if_icmp .ge 21, 3) := by decide +kernel
theorem dX3_beginningsAhead_9 : decode cX3_beginningsAhead 9 = .ok (.aload_n 0, 1) := by decide +kernel
theorem dX3_beginningsAhead_10 : decode cX3_beginningsAhead 10 = .ok (.getfield 17, 3) := by decide +kernel
theorem dX3_beginningsAhead_13 : decode cX3_beginningsAhead 13 = .ok (.iload_n 3, 1) := by decide +kernel
theorem dX3_beginningsAhead_14 : decode cX3_beginningsAhead 14 = .ok (.baload, 1) := by decide +kernel
theorem dX3_beginningsAhead_15 : decode cX3_beginningsAhead 15 = .ok (.ifCond .eq 6, 3) := by decide +kernel
theorem dX3_beginningsAhead_18 : decode cX3_beginningsAhead 18 = .ok (.iinc 2 1, 3) := by decide +kernel
theorem dX3_beginningsAhead_21 : decode cX3_beginningsAhead 21 = .ok (.iinc 3 1, 3) := by decide +kernel
theorem dX3_beginningsAhead_24 : decode cX3_beginningsAhead 24 = .ok (.goto (-20), 3) := by decide +kernel
theorem dX3_beginningsAhead_27 : decode cX3_beginningsAhead 27 = .ok (.iload_n 2, 1) := by decide +kernel
theorem dX3_beginningsAhead_28 : decode cX3_beginningsAhead 28 = .ok (.ireturn, 1) := by decide +kernel
theorem dX4_init_0 : decode cX4_init 0 = .ok (.aload_n 0, 1) := by decide +kernel
theorem dX4_init_1 : decode cX4_init 1 = .ok (.invokespecial 3, 3) := by decide +kernel
theorem dX4_init_4 : decode cX4_init 4 = .ok (.aload_n 0, 1) := by decide +kernel
theorem dX4_init_5 : decode cX4_init 5 = .ok (.new 9, 3) := by decide +kernel
theorem dX4_init_8 : decode cX4_init 8 = .ok (.dup, 1) := by decide +kernel
theorem dX4_init_9 : decode cX4_init 9 = .ok (.invokespecial 11, 3) := by decide +kernel
theorem dX4_init_12 : decode cX4_init 12 = .ok (.putfield 12, 3) := by decide +kernel
theorem dX4_init_15 : decode cX4_init 15 = .ok (.aload_n 0, 1) := by decide +kernel
theorem dX4_init_16 : decode cX4_init 16 = .ok (.iload_n 1, 1) := by decide +kernel
theorem dX4_init_17 : decode cX4_init 17 = .ok (.putfield 18, 3) := by decide +kernel
theorem dX4_init_20 : decode cX4_init 20 = .ok (.aload_n 0, 1) := by decide +kernel
theorem dX4_init_21 : decode cX4_init 21 = .ok (.aload_n 2, 1) := by decide +kernel
theorem dX4_init_22 : decode cX4_init 22 = .ok (.putfield 22, 3) := by decide +kernel
theorem dX4_init_25 : decode cX4_init 25 = .ok (.aload_n 0, 1) := by decide +kernel
theorem dX4_init_26 : decode cX4_init 26 = .ok (.iload_n 3, 1) := by decide +kernel
theorem dX4_init_27 : decode cX4_init 27 = .ok (.putfield 26, 3) := by decide +kernel
theorem dX4_init_30 : decode cX4_init 30 = .ok (.aload_n 0, 1) := by decide +kernel
theorem dX4_init_31 : decode cX4_init 31 = .ok (.aload 4, 2) := by decide +kernel
theorem dX4_init_33 : decode cX4_init 33 = .ok (.putfield 29, 3) := by decide +kernel
theorem dX4_init_36 : decode cX4_init 36 = .ok (.return_, 1) := by decide +kernel
theorem dX4_sellTo_0 : decode cX4_sellTo 0 = .ok (.aload_n 0, 1) := by decide +kernel
theorem dX4_sellTo_1 : decode cX4_sellTo 1 = .ok (.getfield 29, 3) := by decide +kernel
theorem dX4_sellTo_4 : decode cX4_sellTo 4 = .ok (.getfield 33, 3) := by decide +kernel
theorem dX4_sellTo_7 : decode cX4_sellTo 7 = .ok (.iload_n 2, 1) := by decide +kernel
theorem dX4_sellTo_8 : decode cX4_sellTo 8 = .ok (.if_icmp .ne 13, 3) := by decide +kernel
theorem dX4_sellTo_11 : decode cX4_sellTo 11 = .ok (.aload_n 0, 1) := by decide +kernel
theorem dX4_sellTo_12 : decode cX4_sellTo 12 = .ok (.getfield 29, 3) := by decide +kernel
theorem dX4_sellTo_15 : decode cX4_sellTo 15 = .ok (.getfield 38, 3) := by decide +kernel
theorem dX4_sellTo_18 : decode cX4_sellTo 18 = .ok (.goto 7, 3) := by decide +kernel
theorem dX4_sellTo_21 : decode cX4_sellTo 21 = .ok (.aload_n 0, 1) := by decide +kernel
theorem dX4_sellTo_22 : decode cX4_sellTo 22 = .ok (.getfield 29, 3) := by decide +kernel
theorem dX4_sellTo_25 : decode cX4_sellTo 25 = .ok (.astore_n 3, 1) := by decide +kernel
theorem dX4_sellTo_26 : decode cX4_sellTo 26 = .ok (.aload_n 0, 1) := by decide +kernel
theorem dX4_sellTo_27 : decode cX4_sellTo 27 = .ok (.new 34, 3) := by decide +kernel
theorem dX4_sellTo_30 : decode cX4_sellTo 30 = .ok (.dup, 1) := by decide +kernel
theorem dX4_sellTo_31 : decode cX4_sellTo 31 = .ok (.iload_n 1, 1) := by decide +kernel
theorem dX4_sellTo_32 : decode cX4_sellTo 32 = .ok (.iload_n 2, 1) := by decide +kernel
theorem dX4_sellTo_33 : decode cX4_sellTo 33 = .ok (.aload_n 3, 1) := by decide +kernel
theorem dX4_sellTo_34 : decode cX4_sellTo 34 = .ok (.invokespecial 41, 3) := by decide +kernel
theorem dX4_sellTo_37 : decode cX4_sellTo 37 = .ok (.putfield 29, 3) := by decide +kernel
theorem dX4_sellTo_40 : decode cX4_sellTo 40 = .ok (.return_, 1) := by decide +kernel
theorem dX4_driverIn_0 : decode cX4_driverIn 0 = .ok (.aload_n 0, 1) := by decide +kernel
theorem dX4_driverIn_1 : decode cX4_driverIn 1 = .ok (.getfield 29, 3) := by decide +kernel
theorem dX4_driverIn_4 : decode cX4_driverIn 4 = .ok (.astore_n 2, 1) := by decide +kernel
theorem dX4_driverIn_5 : decode cX4_driverIn 5 = .ok (.aload_n 2, 1) := by decide +kernel
theorem dX4_driverIn_6 : decode cX4_driverIn 6 = .ok (.ifnull 24, 3) := by decide +kernel
theorem dX4_driverIn_9 : decode cX4_driverIn 9 = .ok (.aload_n 2, 1) := by decide +kernel
theorem dX4_driverIn_10 : decode cX4_driverIn 10 = .ok (.getfield 33, 3) := by decide +kernel
theorem dX4_driverIn_13 : decode cX4_driverIn 13 = .ok (.iload_n 1, 1) := by decide +kernel
theorem dX4_driverIn_14 : decode cX4_driverIn 14 = .ok (.if_icmp .gt 8, 3) := by decide +kernel
theorem dX4_driverIn_17 : decode cX4_driverIn 17 = .ok (.aload_n 2, 1) := by decide +kernel
theorem dX4_driverIn_18 : decode cX4_driverIn 18 = .ok (.getfield 44, 3) := by decide +kernel
theorem dX4_driverIn_21 : decode cX4_driverIn 21 = .ok (.ireturn, 1) := by decide +kernel
theorem dX4_driverIn_22 : decode cX4_driverIn 22 = .ok (.aload_n 2, 1) := by decide +kernel
theorem dX4_driverIn_23 : decode cX4_driverIn 23 = .ok (.getfield 38, 3) := by decide +kernel
theorem dX4_driverIn_26 : decode cX4_driverIn 26 = .ok (.astore_n 2, 1) := by decide +kernel
theorem dX4_driverIn_27 : decode cX4_driverIn 27 = .ok (.goto (-22), 3) := by decide +kernel
theorem dX4_driverIn_30 : decode cX4_driverIn 30 = .ok (.iconst (-1), 1) := by decide +kernel
theorem dX4_driverIn_31 : decode cX4_driverIn 31 = .ok (.ireturn, 1) := by decide +kernel
theorem dX5_init_0 : decode cX5_init 0 = .ok (.aload_n 0, 1) := by decide +kernel
theorem dX5_init_1 : decode cX5_init 1 = .ok (.invokespecial 1, 3) := by decide +kernel
theorem dX5_init_4 : decode cX5_init 4 = .ok (.aload_n 0, 1) := by decide +kernel
theorem dX5_init_5 : decode cX5_init 5 = .ok (.iconst 0, 1) := by decide +kernel
theorem dX5_init_6 : decode cX5_init 6 = .ok (.putfield 7, 3) := by decide +kernel
theorem dX5_init_9 : decode cX5_init 9 = .ok (.aload_n 0, 1) := by decide +kernel
theorem dX5_init_10 : decode cX5_init 10 = .ok (.aconst_null, 1) := by decide +kernel
theorem dX5_init_11 : decode cX5_init 11 = .ok (.putfield 13, 3) := by decide +kernel
theorem dX5_init_14 : decode cX5_init 14 = .ok (.aload_n 0, 1) := by decide +kernel
theorem dX5_init_15 : decode cX5_init 15 = .ok (.iload_n 1, 1) := by decide +kernel
theorem dX5_init_16 : decode cX5_init 16 = .ok (.putfield 17, 3) := by decide +kernel
theorem dX5_init_19 : decode cX5_init 19 = .ok (.aload_n 0, 1) := by decide +kernel
theorem dX5_init_20 : decode cX5_init 20 = .ok (.iload_n 2, 1) := by decide +kernel
theorem dX5_init_21 : decode cX5_init 21 = .ok (.putfield 21, 3) := by decide +kernel
theorem dX5_init_24 : decode cX5_init 24 = .ok (.aload_n 0, 1) := by decide +kernel
theorem dX5_init_25 : decode cX5_init 25 = .ok (.iload_n 3, 1) := by decide +kernel
theorem dX5_init_26 : decode cX5_init 26 = .ok (.putfield 24, 3) := by decide +kernel
theorem dX5_init_29 : decode cX5_init 29 = .ok (.aload_n 0, 1) := by decide +kernel
theorem dX5_init_30 : decode cX5_init 30 = .ok (.aload 4, 2) := by decide +kernel
theorem dX5_init_32 : decode cX5_init 32 = .ok (.putfield 27, 3) := by decide +kernel
theorem dX5_init_35 : decode cX5_init 35 = .ok (.return_, 1) := by decide +kernel
theorem dX5_isAheadOf_0 : decode cX5_isAheadOf 0 = .ok (.aload_n 0, 1) := by decide +kernel
theorem dX5_isAheadOf_1 : decode cX5_isAheadOf 1 = .ok (.getfield 24, 3) := by decide +kernel
theorem dX5_isAheadOf_4 : decode cX5_isAheadOf 4 = .ok (.aload_n 1, 1) := by decide +kernel
theorem dX5_isAheadOf_5 : decode cX5_isAheadOf 5 = .ok (.getfield 24, 3) := by decide +kernel
theorem dX5_isAheadOf_8 : decode cX5_isAheadOf 8 = .ok (.if_icmp .lt 25, 3) := by decide +kernel
theorem dX5_isAheadOf_11 : decode cX5_isAheadOf 11 = .ok (.aload_n 0, 1) := by decide +kernel
theorem dX5_isAheadOf_12 : decode cX5_isAheadOf 12 = .ok (.getfield 24, 3) := by decide +kernel
theorem dX5_isAheadOf_15 : decode cX5_isAheadOf 15 = .ok (.aload_n 1, 1) := by decide +kernel
theorem dX5_isAheadOf_16 : decode cX5_isAheadOf 16 = .ok (.getfield 24, 3) := by decide +kernel
theorem dX5_isAheadOf_19 : decode cX5_isAheadOf 19 = .ok (.if_icmp .ne 18, 3) := by decide +kernel
theorem dX5_isAheadOf_22 : decode cX5_isAheadOf 22 = .ok (.aload_n 0, 1) := by decide +kernel
theorem dX5_isAheadOf_23 : decode cX5_isAheadOf 23 = .ok (.getfield 17, 3) := by decide +kernel
theorem dX5_isAheadOf_26 : decode cX5_isAheadOf 26 = .ok (.aload_n 1, 1) := by decide +kernel
theorem dX5_isAheadOf_27 : decode cX5_isAheadOf 27 = .ok (.getfield 17, 3) := by decide +kernel
theorem dX5_isAheadOf_30 : decode cX5_isAheadOf 30 = .ok (.if_icmp .ge 7, 3) := by decide +kernel
theorem dX5_isAheadOf_33 : decode cX5_isAheadOf 33 = .ok (.iconst 1, 1) := by decide +kernel
theorem dX5_isAheadOf_34 : decode cX5_isAheadOf 34 = .ok (.goto 4, 3) := by decide +kernel
theorem dX5_isAheadOf_37 : decode cX5_isAheadOf 37 = .ok (.iconst 0, 1) := by decide +kernel
theorem dX5_isAheadOf_38 : decode cX5_isAheadOf 38 = .ok (.ireturn, 1) := by decide +kernel
theorem dX6_init_0 : decode cX6_init 0 = .ok (.aload_n 0, 1) := by decide +kernel
theorem dX6_init_1 : decode cX6_init 1 = .ok (.invokespecial 3, 3) := by decide +kernel
theorem dX6_init_4 : decode cX6_init 4 = .ok (.aload_n 0, 1) := by decide +kernel
theorem dX6_init_5 : decode cX6_init 5 = .ok (.bipush 8, 2) := by decide +kernel
theorem dX6_init_7 : decode cX6_init 7 = .ok (.bipush 8, 2) := by decide +kernel
theorem dX6_init_9 : decode cX6_init 9 = .ok (.multianewarray 9 2, 4) := by decide +kernel
theorem dX6_init_13 : decode cX6_init 13 = .ok (.putfield 11, 3) := by decide +kernel
theorem dX6_init_16 : decode cX6_init 16 = .ok (.aload_n 0, 1) := by decide +kernel
theorem dX6_init_17 : decode cX6_init 17 = .ok (.bipush 8, 2) := by decide +kernel
theorem dX6_init_19 : decode cX6_init 19 = .ok (.bipush 8, 2) := by decide +kernel
theorem dX6_init_21 : decode cX6_init 21 = .ok (.multianewarray 9 2, 4) := by decide +kernel
theorem dX6_init_25 : decode cX6_init 25 = .ok (.putfield 16, 3) := by decide +kernel
theorem dX6_init_28 : decode cX6_init 28 = .ok (.aload_n 0, 1) := by decide +kernel
theorem dX6_init_29 : decode cX6_init 29 = .ok (.bipush 8, 2) := by decide +kernel
theorem dX6_init_31 : decode cX6_init 31 = .ok (.newarray .boolean, 2) := by decide +kernel
theorem dX6_init_33 : decode cX6_init 33 = .ok (.putfield 19, 3) := by decide +kernel
theorem dX6_init_36 : decode cX6_init 36 = .ok (.aload_n 0, 1) := by decide +kernel
theorem dX6_init_37 : decode cX6_init 37 = .ok (.bipush 30, 2) := by decide +kernel
theorem dX6_init_39 : decode cX6_init 39 = .ok (.putfield 23, 3) := by decide +kernel
theorem dX6_init_42 : decode cX6_init 42 = .ok (.aload_n 0, 1) := by decide +kernel
theorem dX6_init_43 : decode cX6_init 43 = .ok (.invokevirtual 27, 3) := by decide +kernel
theorem dX6_init_46 : decode cX6_init 46 = .ok (.return_, 1) := by decide +kernel
theorem dX6_lengthOf_0 : decode cX6_lengthOf 0 = .ok (.aload_n 0, 1) := by decide +kernel
theorem dX6_lengthOf_1 : decode cX6_lengthOf 1 = .ok (.getfield 11, 3) := by decide +kernel
theorem dX6_lengthOf_4 : decode cX6_lengthOf 4 = .ok (.iload_n 1, 1) := by decide +kernel
theorem dX6_lengthOf_5 : decode cX6_lengthOf 5 = .ok (.aaload, 1) := by decide +kernel
theorem dX6_lengthOf_6 : decode cX6_lengthOf 6 = .ok (.iload_n 2, 1) := by decide +kernel
theorem dX6_lengthOf_7 : decode cX6_lengthOf 7 = .ok (.iaload, 1) := by decide +kernel
theorem dX6_lengthOf_8 : decode cX6_lengthOf 8 = .ok (.ireturn, 1) := by decide +kernel
theorem dX6_build_0 : decode cX6_build 0 = .ok (.aload_n 0, 1) := by decide +kernel
theorem dX6_build_1 : decode cX6_build 1 = .ok (.getfield 11, 3) := by decide +kernel
theorem dX6_build_4 : decode cX6_build 4 = .ok (.iload_n 1, 1) := by decide +kernel
theorem dX6_build_5 : decode cX6_build 5 = .ok (.aaload, 1) := by decide +kernel
theorem dX6_build_6 : decode cX6_build 6 = .ok (.iload_n 2, 1) := by decide +kernel
theorem dX6_build_7 : decode cX6_build 7 = .ok (.iload_n 3, 1) := by decide +kernel
theorem dX6_build_8 : decode cX6_build 8 = .ok (.iastore, 1) := by decide +kernel
theorem dX6_build_9 : decode cX6_build 9 = .ok (.aload_n 0, 1) := by decide +kernel
theorem dX6_build_10 : decode cX6_build 10 = .ok (.getfield 11, 3) := by decide +kernel
theorem dX6_build_13 : decode cX6_build 13 = .ok (.iload_n 2, 1) := by decide +kernel
theorem dX6_build_14 : decode cX6_build 14 = .ok (.aaload, 1) := by decide +kernel
theorem dX6_build_15 : decode cX6_build 15 = .ok (.iload_n 1, 1) := by decide +kernel
theorem dX6_build_16 : decode cX6_build 16 = .ok (.iload_n 3, 1) := by decide +kernel
theorem dX6_build_17 : decode cX6_build 17 = .ok (.iastore, 1) := by decide +kernel
theorem dX6_build_18 : decode cX6_build 18 = .ok (.aload_n 0, 1) := by decide +kernel
theorem dX6_build_19 : decode cX6_build 19 = .ok (.invokevirtual 27, 3) := by decide +kernel
theorem dX6_build_22 : decode cX6_build 22 = .ok (.return_, 1) := by decide +kernel
theorem dX6_between_0 : decode cX6_between 0 = .ok (.aload_n 0, 1) := by decide +kernel
theorem dX6_between_1 : decode cX6_between 1 = .ok (.getfield 16, 3) := by decide +kernel
theorem dX6_between_4 : decode cX6_between 4 = .ok (.iload_n 1, 1) := by decide +kernel
theorem dX6_between_5 : decode cX6_between 5 = .ok (.aaload, 1) := by decide +kernel
theorem dX6_between_6 : decode cX6_between 6 = .ok (.iload_n 2, 1) := by decide +kernel
theorem dX6_between_7 : decode cX6_between 7 = .ok (.iaload, 1) := by decide +kernel
theorem dX6_between_8 : decode cX6_between 8 = .ok (.ireturn, 1) := by decide +kernel
theorem dX6_isOneTrip_0 : decode cX6_isOneTrip 0 = .ok (.aload_n 0, 1) := by decide +kernel
theorem dX6_isOneTrip_1 : decode cX6_isOneTrip 1 = .ok (.aload_n 1, 1) := by decide +kernel
theorem dX6_isOneTrip_2 : decode cX6_isOneTrip 2 = .ok (.getfield 30, 3) := by decide +kernel
theorem dX6_isOneTrip_5 : decode cX6_isOneTrip 5 = .ok (.aload_n 2, 1) := by decide +kernel
theorem dX6_isOneTrip_6 : decode cX6_isOneTrip 6 = .ok (.getfield 30, 3) := by decide +kernel
theorem dX6_isOneTrip_9 : decode cX6_isOneTrip 9 = .ok (.invokevirtual 35, 3) := by decide +kernel
theorem dX6_isOneTrip_12 : decode cX6_isOneTrip 12 = .ok (.istore_n 3, 1) := by decide +kernel
theorem dX6_isOneTrip_13 : decode cX6_isOneTrip 13 = .ok (.aload_n 2, 1) := by decide +kernel
theorem dX6_isOneTrip_14 : decode cX6_isOneTrip 14 = .ok (.getfield 39, 3) := by decide +kernel
theorem dX6_isOneTrip_17 : decode cX6_isOneTrip 17 = .ok (.aload_n 1, 1) := by decide +kernel
theorem dX6_isOneTrip_18 : decode cX6_isOneTrip 18 = .ok (.getfield 39, 3) := by decide +kernel
theorem dX6_isOneTrip_21 : decode cX6_isOneTrip 21 = .ok (.isub, 1) := by decide +kernel
theorem dX6_isOneTrip_22 : decode cX6_isOneTrip 22 = .ok (.istore 4, 2) := by decide +kernel
theorem dX6_isOneTrip_24 : decode cX6_isOneTrip 24 = .ok (.iload_n 3, 1) := by decide +kernel
theorem dX6_isOneTrip_25 : decode cX6_isOneTrip 25 = .ok (.iconst (-1), 1) := by decide +kernel
theorem dX6_isOneTrip_26 : decode cX6_isOneTrip 26 = .ok (.if_icmp .eq 28, 3) := by decide +kernel
theorem dX6_isOneTrip_29 : decode cX6_isOneTrip 29 = .ok (.iload 4, 2) := by decide +kernel
theorem dX6_isOneTrip_31 : decode cX6_isOneTrip 31 = .ok (.iconst 2, 1) := by decide +kernel
theorem dX6_isOneTrip_32 : decode cX6_isOneTrip 32 = .ok (.iload_n 3, 1) := by decide +kernel
theorem dX6_isOneTrip_33 : decode cX6_isOneTrip 33 = .ok (.imul, 1) := by decide +kernel
theorem dX6_isOneTrip_34 : decode cX6_isOneTrip 34 = .ok (.aload_n 0, 1) := by decide +kernel
theorem dX6_isOneTrip_35 : decode cX6_isOneTrip 35 = .ok (.getfield 23, 3) := by decide +kernel
theorem dX6_isOneTrip_38 : decode cX6_isOneTrip 38 = .ok (.iadd, 1) := by decide +kernel
theorem dX6_isOneTrip_39 : decode cX6_isOneTrip 39 = .ok (.if_icmp .gt 15, 3) := by decide +kernel
theorem dX6_isOneTrip_42 : decode cX6_isOneTrip 42 = .ok (.iconst 4, 1) := by decide +kernel
theorem dX6_isOneTrip_43 : decode cX6_isOneTrip 43 = .ok (.iload 4, 2) := by decide +kernel
theorem dX6_isOneTrip_45 : decode cX6_isOneTrip 45 = .ok (.imul, 1) := by decide +kernel
theorem dX6_isOneTrip_46 : decode cX6_isOneTrip 46 = .ok (.iload_n 3, 1) := by decide +kernel
theorem dX6_isOneTrip_47 : decode cX6_isOneTrip 47 = .ok (.if_icmp .lt 7, 3) := by decide +kernel
theorem dX6_isOneTrip_50 : decode cX6_isOneTrip 50 = .ok (.iconst 1, 1) := by decide +kernel
theorem dX6_isOneTrip_51 : decode cX6_isOneTrip 51 = .ok (.goto 4, 3) := by decide +kernel
theorem dX6_isOneTrip_54 : decode cX6_isOneTrip 54 = .ok (.iconst 0, 1) := by decide +kernel
theorem dX6_isOneTrip_55 : decode cX6_isOneTrip 55 = .ok (.ireturn, 1) := by decide +kernel
theorem dX6_measureAll_0 : decode cX6_measureAll 0 = .ok (.iconst 0, 1) := by decide +kernel
theorem dX6_measureAll_1 : decode cX6_measureAll 1 = .ok (.istore_n 1, 1) := by decide +kernel
theorem dX6_measureAll_2 : decode cX6_measureAll 2 = .ok (.iload_n 1, 1) := by decide +kernel
theorem dX6_measureAll_3 : decode cX6_measureAll 3 = .ok (.bipush 8, 2) := by decide +kernel
theorem dX6_measureAll_5 : decode cX6_measureAll 5 = .ok (.if_icmp .ge 14, 3) := by decide +kernel
theorem dX6_measureAll_8 : decode cX6_measureAll 8 = .ok (.aload_n 0, 1) := by decide +kernel
theorem dX6_measureAll_9 : decode cX6_measureAll 9 = .ok (.iload_n 1, 1) := by decide +kernel
theorem dX6_measureAll_10 : decode cX6_measureAll 10 = .ok (.invokevirtual 42, 3) := by decide +kernel
theorem dX6_measureAll_13 : decode cX6_measureAll 13 = .ok (.iinc 1 1, 3) := by decide +kernel
theorem dX6_measureAll_16 : decode cX6_measureAll 16 = .ok (.goto (-14), 3) := by decide +kernel
theorem dX6_measureAll_19 : decode cX6_measureAll 19 = .ok (.return_, 1) := by decide +kernel
theorem dX6_measureFrom_0 : decode cX6_measureFrom 0 = .ok (.aload_n 0, 1) := by decide +kernel
theorem dX6_measureFrom_1 : decode cX6_measureFrom 1 = .ok (.getfield 16, 3) := by decide +kernel
theorem dX6_measureFrom_4 : decode cX6_measureFrom 4 = .ok (.iload_n 1, 1) := by decide +kernel
theorem dX6_measureFrom_5 : decode cX6_measureFrom 5 = .ok (.aaload, 1) := by decide +kernel
theorem dX6_measureFrom_6 : decode cX6_measureFrom 6 = .ok (.astore_n 2, 1) := by decide +kernel
theorem dX6_measureFrom_7 : decode cX6_measureFrom 7 = .ok (.iconst 0, 1) := by decide +kernel
theorem dX6_measureFrom_8 : decode cX6_measureFrom 8 = .ok (.istore_n 3, 1) := by decide +kernel
theorem dX6_measureFrom_9 : decode cX6_measureFrom 9 = .ok (.iload_n 3, 1) := by decide +kernel
theorem dX6_measureFrom_10 : decode cX6_measureFrom 10 = .ok (.bipush 8, 2) := by decide +kernel
theorem dX6_measureFrom_12 : decode cX6_measureFrom 12 = .ok (.if_icmp .ge 20, 3) := by decide +kernel
theorem dX6_measureFrom_15 : decode cX6_measureFrom 15 = .ok (.aload_n 2, 1) := by decide +kernel
theorem dX6_measureFrom_16 : decode cX6_measureFrom 16 = .ok (.iload_n 3, 1) := by decide +kernel
theorem dX6_measureFrom_17 : decode cX6_measureFrom 17 = .ok (.iconst (-1), 1) := by decide +kernel
theorem dX6_measureFrom_18 : decode cX6_measureFrom 18 = .ok (.iastore, 1) := by decide +kernel
theorem dX6_measureFrom_19 : decode cX6_measureFrom 19 = .ok (.aload_n 0, 1) := by decide +kernel
theorem dX6_measureFrom_20 : decode cX6_measureFrom 20 = .ok (.getfield 19, 3) := by decide +kernel
theorem dX6_measureFrom_23 : decode cX6_measureFrom 23 = .ok (.iload_n 3, 1) := by decide +kernel
theorem dX6_measureFrom_24 : decode cX6_measureFrom 24 = .ok (.iconst 0, 1) := by decide +kernel
theorem dX6_measureFrom_25 : decode cX6_measureFrom 25 = .ok (.bastore, 1) := by decide +kernel
theorem dX6_measureFrom_26 : decode cX6_measureFrom 26 = .ok (.iinc 3 1, 3) := by decide +kernel
theorem dX6_measureFrom_29 : decode cX6_measureFrom 29 = .ok (.goto (-20), 3) := by decide +kernel
theorem dX6_measureFrom_32 : decode cX6_measureFrom 32 = .ok (.aload_n 2, 1) := by decide +kernel
theorem dX6_measureFrom_33 : decode cX6_measureFrom 33 = .ok (.iload_n 1, 1) := by decide +kernel
theorem dX6_measureFrom_34 : decode cX6_measureFrom 34 = .ok (.iconst 0, 1) := by decide +kernel
theorem dX6_measureFrom_35 : decode cX6_measureFrom 35 = .ok (.iastore, 1) := by decide +kernel
theorem dX6_measureFrom_36 : decode cX6_measureFrom 36 = .ok (.iconst 0, 1) := by decide +kernel
theorem dX6_measureFrom_37 : decode cX6_measureFrom 37 = .ok (.istore_n 3, 1) := by decide +kernel
theorem dX6_measureFrom_38 : decode cX6_measureFrom 38 = .ok (.iload_n 3, 1) := by decide +kernel
theorem dX6_measureFrom_39 : decode cX6_measureFrom 39 = .ok (.bipush 8, 2) := by decide +kernel
theorem dX6_measureFrom_41 : decode cX6_measureFrom 41 = .ok (.if_icmp .ge 38, 3) := by decide +kernel
theorem dX6_measureFrom_44 : decode cX6_measureFrom 44 = .ok (.aload_n 0, 1) := by decide +kernel
theorem dX6_measureFrom_45 : decode cX6_measureFrom 45 = .ok (.aload_n 2, 1) := by decide +kernel
theorem dX6_measureFrom_46 : decode cX6_measureFrom 46 = .ok (.invokevirtual 46, 3) := by decide +kernel
theorem dX6_measureFrom_49 : decode cX6_measureFrom 49 = .ok (.istore 4, 2) := by decide +kernel
theorem dX6_measureFrom_51 : decode cX6_measureFrom 51 = .ok (.iload 4, 2) := by decide +kernel
theorem dX6_measureFrom_53 : decode cX6_measureFrom 53 = .ok (.iconst (-1), 1) := by decide +kernel
theorem dX6_measureFrom_54 : decode cX6_measureFrom 54 = .ok (.if_icmp .ne 4, 3) := by decide +kernel
theorem dX6_measureFrom_57 : decode cX6_measureFrom 57 = .ok (.return_, 1) := by decide +kernel
theorem dX6_measureFrom_58 : decode cX6_measureFrom 58 = .ok (.aload_n 0, 1) := by decide +kernel
theorem dX6_measureFrom_59 : decode cX6_measureFrom 59 = .ok (.getfield 19, 3) := by decide +kernel
theorem dX6_measureFrom_62 : decode cX6_measureFrom 62 = .ok (.iload 4, 2) := by decide +kernel
theorem dX6_measureFrom_64 : decode cX6_measureFrom 64 = .ok (.iconst 1, 1) := by decide +kernel
theorem dX6_measureFrom_65 : decode cX6_measureFrom 65 = .ok (.bastore, 1) := by decide +kernel
theorem dX6_measureFrom_66 : decode cX6_measureFrom 66 = .ok (.aload_n 0, 1) := by decide +kernel
theorem dX6_measureFrom_67 : decode cX6_measureFrom 67 = .ok (.iload 4, 2) := by decide +kernel
theorem dX6_measureFrom_69 : decode cX6_measureFrom 69 = .ok (.aload_n 2, 1) := by decide +kernel
theorem dX6_measureFrom_70 : decode cX6_measureFrom 70 = .ok (.invokevirtual 50, 3) := by decide +kernel
theorem dX6_measureFrom_73 : decode cX6_measureFrom 73 = .ok (.iinc 3 1, 3) := by decide +kernel
theorem dX6_measureFrom_76 : decode cX6_measureFrom 76 = .ok (.goto (-38), 3) := by decide +kernel
theorem dX6_measureFrom_79 : decode cX6_measureFrom 79 = .ok (.return_, 1) := by decide +kernel
theorem dX6_nearestOpen_0 : decode cX6_nearestOpen 0 = .ok (.iconst (-1), 1) := by decide +kernel
theorem dX6_nearestOpen_1 : decode cX6_nearestOpen 1 = .ok (.istore_n 2, 1) := by decide +kernel
theorem dX6_nearestOpen_2 : decode cX6_nearestOpen 2 = .ok (.iconst 0, 1) := by decide +kernel
theorem dX6_nearestOpen_3 : decode cX6_nearestOpen 3 = .ok (.istore_n 3, 1) := by decide +kernel
theorem dX6_nearestOpen_4 : decode cX6_nearestOpen 4 = .ok (.iload_n 3, 1) := by decide +kernel
theorem dX6_nearestOpen_5 : decode cX6_nearestOpen 5 = .ok (.bipush 8, 2) := by decide +kernel
theorem dX6_nearestOpen_7 : decode cX6_nearestOpen 7 = .ok (.if_icmp .ge 41, 3) := by decide +kernel
theorem dX6_nearestOpen_10 : decode cX6_nearestOpen 10 = .ok (.aload_n 0, 1) := by decide +kernel
theorem dX6_nearestOpen_11 : decode cX6_nearestOpen 11 = .ok (.getfield 19, 3) := by decide +kernel
theorem dX6_nearestOpen_14 : decode cX6_nearestOpen 14 = .ok (.iload_n 3, 1) := by decide +kernel
theorem dX6_nearestOpen_15 : decode cX6_nearestOpen 15 = .ok (.baload, 1) := by decide +kernel
theorem dX6_nearestOpen_16 : decode cX6_nearestOpen 16 = .ok (.ifCond .ne 26, 3) := by decide +kernel
theorem dX6_nearestOpen_19 : decode cX6_nearestOpen 19 = .ok (.aload_n 1, 1) := by decide +kernel
theorem dX6_nearestOpen_20 : decode cX6_nearestOpen 20 = .ok (.iload_n 3, 1) := by decide +kernel
theorem dX6_nearestOpen_21 : decode cX6_nearestOpen 21 = .ok (.iaload, 1) := by decide +kernel
theorem dX6_nearestOpen_22 : decode cX6_nearestOpen 22 = .ok (.iconst (-1), 1) := by decide +kernel
theorem dX6_nearestOpen_23 : decode cX6_nearestOpen 23 = .ok (.if_icmp .eq 19, 3) := by decide +kernel
theorem dX6_nearestOpen_26 : decode cX6_nearestOpen 26 = .ok (.iload_n 2, 1) := by decide +kernel
theorem dX6_nearestOpen_27 : decode cX6_nearestOpen 27 = .ok (.iconst (-1), 1) := by decide +kernel
theorem dX6_nearestOpen_28 : decode cX6_nearestOpen 28 = .ok (.if_icmp .eq 12, 3) := by decide +kernel
theorem dX6_nearestOpen_31 : decode cX6_nearestOpen 31 = .ok (.aload_n 1, 1) := by decide +kernel
theorem dX6_nearestOpen_32 : decode cX6_nearestOpen 32 = .ok (.iload_n 3, 1) := by decide +kernel
theorem dX6_nearestOpen_33 : decode cX6_nearestOpen 33 = .ok (.iaload, 1) := by decide +kernel
theorem dX6_nearestOpen_34 : decode cX6_nearestOpen 34 = .ok (.aload_n 1, 1) := by decide +kernel
theorem dX6_nearestOpen_35 : decode cX6_nearestOpen 35 = .ok (.iload_n 2, 1) := by decide +kernel
theorem dX6_nearestOpen_36 : decode cX6_nearestOpen 36 = .ok (.iaload, 1) := by decide +kernel
theorem dX6_nearestOpen_37 : decode cX6_nearestOpen 37 = .ok (.if_icmp .ge 5, 3) := by decide +kernel
theorem dX6_nearestOpen_40 : decode cX6_nearestOpen 40 = .ok (.iload_n 3, 1) := by decide +kernel
theorem dX6_nearestOpen_41 : decode cX6_nearestOpen 41 = .ok (.istore_n 2, 1) := by decide +kernel
theorem dX6_nearestOpen_42 : decode cX6_nearestOpen 42 = .ok (.iinc 3 1, 3) := by decide +kernel
theorem dX6_nearestOpen_45 : decode cX6_nearestOpen 45 = .ok (.goto (-41), 3) := by decide +kernel
theorem dX6_nearestOpen_48 : decode cX6_nearestOpen 48 = .ok (.iload_n 2, 1) := by decide +kernel
theorem dX6_nearestOpen_49 : decode cX6_nearestOpen 49 = .ok (.ireturn, 1) := by decide +kernel
theorem dX6_goOnFrom_0 : decode cX6_goOnFrom 0 = .ok (.iconst 0, 1) := by decide +kernel
theorem dX6_goOnFrom_1 : decode cX6_goOnFrom 1 = .ok (.istore_n 3, 1) := by decide +kernel
theorem dX6_goOnFrom_2 : decode cX6_goOnFrom 2 = .ok (.iload_n 3, 1) := by decide +kernel
theorem dX6_goOnFrom_3 : decode cX6_goOnFrom 3 = .ok (.bipush 8, 2) := by decide +kernel
theorem dX6_goOnFrom_5 : decode cX6_goOnFrom 5 = .ok (.if_icmp .ge 52, 3) := by decide +kernel
theorem dX6_goOnFrom_8 : decode cX6_goOnFrom 8 = .ok (.aload_n 0, 1) := by decide +kernel
theorem dX6_goOnFrom_9 : decode cX6_goOnFrom 9 = .ok (.getfield 11, 3) := by decide +kernel
theorem dX6_goOnFrom_12 : decode cX6_goOnFrom 12 = .ok (.iload_n 1, 1) := by decide +kernel
theorem dX6_goOnFrom_13 : decode cX6_goOnFrom 13 = .ok (.aaload, 1) := by decide +kernel
theorem dX6_goOnFrom_14 : decode cX6_goOnFrom 14 = .ok (.iload_n 3, 1) := by decide +kernel
theorem dX6_goOnFrom_15 : decode cX6_goOnFrom 15 = .ok (.iaload, 1) := by decide +kernel
theorem dX6_goOnFrom_16 : decode cX6_goOnFrom 16 = .ok (.istore 4, 2) := by decide +kernel
theorem dX6_goOnFrom_18 : decode cX6_goOnFrom 18 = .ok (.aload_n 2, 1) := by decide +kernel
theorem dX6_goOnFrom_19 : decode cX6_goOnFrom 19 = .ok (.iload_n 1, 1) := by decide +kernel
theorem dX6_goOnFrom_20 : decode cX6_goOnFrom 20 = .ok (.iaload, 1) := by decide +kernel
theorem dX6_goOnFrom_21 : decode cX6_goOnFrom 21 = .ok (.iload 4, 2) := by decide +kernel
theorem dX6_goOnFrom_23 : decode cX6_goOnFrom 23 = .ok (.iadd, 1) := by decide +kernel
theorem dX6_goOnFrom_24 : decode cX6_goOnFrom 24 = .ok (.istore 5, 2) := by decide +kernel
theorem dX6_goOnFrom_26 : decode cX6_goOnFrom 26 = .ok (.iload 4, 2) := by decide +kernel
theorem dX6_goOnFrom_28 : decode cX6_goOnFrom 28 = .ok (.ifCond .eq 23, 3) := by decide +kernel
theorem dX6_goOnFrom_31 : decode cX6_goOnFrom 31 = .ok (.aload_n 2, 1) := by decide +kernel
theorem dX6_goOnFrom_32 : decode cX6_goOnFrom 32 = .ok (.iload_n 3, 1) := by decide +kernel
theorem dX6_goOnFrom_33 : decode cX6_goOnFrom 33 = .ok (.iaload, 1) := by decide +kernel
theorem dX6_goOnFrom_34 : decode cX6_goOnFrom 34 = .ok (.iconst (-1), 1) := by decide +kernel
theorem dX6_goOnFrom_35 : decode cX6_goOnFrom 35 = .ok (.if_icmp .eq 11, 3) := by decide +kernel
theorem dX6_goOnFrom_38 : decode cX6_goOnFrom 38 = .ok (.iload 5, 2) := by decide +kernel
theorem dX6_goOnFrom_40 : decode cX6_goOnFrom 40 = .ok (.aload_n 2, 1) := by decide +kernel
theorem dX6_goOnFrom_41 : decode cX6_goOnFrom 41 = .ok (.iload_n 3, 1) := by decide +kernel
theorem dX6_goOnFrom_42 : decode cX6_goOnFrom 42 = .ok (.iaload, 1) := by decide +kernel
theorem dX6_goOnFrom_43 : decode cX6_goOnFrom 43 = .ok (.if_icmp .ge 8, 3) := by decide +kernel
theorem dX6_goOnFrom_46 : decode cX6_goOnFrom 46 = .ok (.aload_n 2, 1) := by decide +kernel
theorem dX6_goOnFrom_47 : decode cX6_goOnFrom 47 = .ok (.iload_n 3, 1) := by decide +kernel
theorem dX6_goOnFrom_48 : decode cX6_goOnFrom 48 = .ok (.iload 5, 2) := by decide +kernel
theorem dX6_goOnFrom_50 : decode cX6_goOnFrom 50 = .ok (.iastore, 1) := by decide +kernel
theorem dX6_goOnFrom_51 : decode cX6_goOnFrom 51 = .ok (.iinc 3 1, 3) := by decide +kernel
theorem dX6_goOnFrom_54 : decode cX6_goOnFrom 54 = .ok (.goto (-52), 3) := by decide +kernel
theorem dX6_goOnFrom_57 : decode cX6_goOnFrom 57 = .ok (.return_, 1) := by decide +kernel
theorem dX7_init_0 : decode cX7_init 0 = .ok (.aload_n 0, 1) := by decide +kernel
theorem dX7_init_1 : decode cX7_init 1 = .ok (.invokespecial 3, 3) := by decide +kernel
theorem dX7_init_4 : decode cX7_init 4 = .ok (.aload_n 0, 1) := by decide +kernel
theorem dX7_init_5 : decode cX7_init 5 = .ok (.bipush 6, 2) := by decide +kernel
theorem dX7_init_7 : decode cX7_init 7 = .ok (.newarray .int, 2) := by decide +kernel
theorem dX7_init_9 : decode cX7_init 9 = .ok (.putfield 9, 3) := by decide +kernel
theorem dX7_init_12 : decode cX7_init 12 = .ok (.aload_n 0, 1) := by decide +kernel
theorem dX7_init_13 : decode cX7_init 13 = .ok (.iconst 0, 1) := by decide +kernel
theorem dX7_init_14 : decode cX7_init 14 = .ok (.putfield 15, 3) := by decide +kernel
theorem dX7_init_17 : decode cX7_init 17 = .ok (.return_, 1) := by decide +kernel
theorem dX7_put_0 : decode cX7_put 0 = .ok (.aload_n 0, 1) := by decide +kernel
theorem dX7_put_1 : decode cX7_put 1 = .ok (.getfield 15, 3) := by decide +kernel
theorem dX7_put_4 : decode cX7_put 4 = .ok (.istore_n 3, 1) := by decide +kernel
theorem dX7_put_5 : decode cX7_put 5 = .ok (.iload_n 3, 1) := by decide +kernel
theorem dX7_put_6 : decode cX7_put 6 = .ok (.iload_n 2, 1) := by decide +kernel
theorem dX7_put_7 : decode cX7_put 7 = .ok (.if_icmp .le 23, 3) := by decide +kernel
theorem dX7_put_10 : decode cX7_put 10 = .ok (.aload_n 0, 1) := by decide +kernel
theorem dX7_put_11 : decode cX7_put 11 = .ok (.getfield 9, 3) := by decide +kernel
theorem dX7_put_14 : decode cX7_put 14 = .ok (.iload_n 3, 1) := by decide +kernel
theorem dX7_put_15 : decode cX7_put 15 = .ok (.aload_n 0, 1) := by decide +kernel
theorem dX7_put_16 : decode cX7_put 16 = .ok (.getfield 9, 3) := by decide +kernel
theorem dX7_put_19 : decode cX7_put 19 = .ok (.iload_n 3, 1) := by decide +kernel
theorem dX7_put_20 : decode cX7_put 20 = .ok (.iconst 1, 1) := by decide +kernel
theorem dX7_put_21 : decode cX7_put 21 = .ok (.isub, 1) := by decide +kernel
theorem dX7_put_22 : decode cX7_put 22 = .ok (.iaload, 1) := by decide +kernel
theorem dX7_put_23 : decode cX7_put 23 = .ok (.iastore, 1) := by decide +kernel
theorem dX7_put_24 : decode cX7_put 24 = .ok (.iinc 3 (-1), 3) := by decide +kernel
theorem dX7_put_27 : decode cX7_put 27 = .ok (.goto (-22), 3) := by decide +kernel
theorem dX7_put_30 : decode cX7_put 30 = .ok (.aload_n 0, 1) := by decide +kernel
theorem dX7_put_31 : decode cX7_put 31 = .ok (.getfield 9, 3) := by decide +kernel
theorem dX7_put_34 : decode cX7_put 34 = .ok (.iload_n 2, 1) := by decide +kernel
theorem dX7_put_35 : decode cX7_put 35 = .ok (.iload_n 1, 1) := by decide +kernel
theorem dX7_put_36 : decode cX7_put 36 = .ok (.iastore, 1) := by decide +kernel
theorem dX7_put_37 : decode cX7_put 37 = .ok (.aload_n 0, 1) := by decide +kernel
theorem dX7_put_38 : decode cX7_put 38 = .ok (.dup, 1) := by decide +kernel
theorem dX7_put_39 : decode cX7_put 39 = .ok (.getfield 15, 3) := by decide +kernel
theorem dX7_put_42 : decode cX7_put 42 = .ok (.iconst 1, 1) := by decide +kernel
theorem dX7_put_43 : decode cX7_put 43 = .ok (.iadd, 1) := by decide +kernel
theorem dX7_put_44 : decode cX7_put 44 = .ok (.putfield 15, 3) := by decide +kernel
theorem dX7_put_47 : decode cX7_put 47 = .ok (.return_, 1) := by decide +kernel
theorem dX7_turnRound_0 : decode cX7_turnRound 0 = .ok (.aload_n 0, 1) := by decide +kernel
theorem dX7_turnRound_1 : decode cX7_turnRound 1 = .ok (.getfield 15, 3) := by decide +kernel
theorem dX7_turnRound_4 : decode cX7_turnRound 4 = .ok (.iconst 1, 1) := by decide +kernel
theorem dX7_turnRound_5 : decode cX7_turnRound 5 = .ok (.isub, 1) := by decide +kernel
theorem dX7_turnRound_6 : decode cX7_turnRound 6 = .ok (.istore_n 1, 1) := by decide +kernel
theorem dX7_turnRound_7 : decode cX7_turnRound 7 = .ok (.iconst 0, 1) := by decide +kernel
theorem dX7_turnRound_8 : decode cX7_turnRound 8 = .ok (.istore_n 2, 1) := by decide +kernel
theorem dX7_turnRound_9 : decode cX7_turnRound 9 = .ok (.iload_n 2, 1) := by decide +kernel
theorem dX7_turnRound_10 : decode cX7_turnRound 10 = .ok (.iload_n 1, 1) := by decide +kernel
theorem dX7_turnRound_11 : decode cX7_turnRound 11 = .ok (.if_icmp .ge 38, 3) := by decide +kernel
theorem dX7_turnRound_14 : decode cX7_turnRound 14 = .ok (.aload_n 0, 1) := by decide +kernel
theorem dX7_turnRound_15 : decode cX7_turnRound 15 = .ok (.getfield 9, 3) := by decide +kernel
theorem dX7_turnRound_18 : decode cX7_turnRound 18 = .ok (.iload_n 2, 1) := by decide +kernel
theorem dX7_turnRound_19 : decode cX7_turnRound 19 = .ok (.iaload, 1) := by decide +kernel
theorem dX7_turnRound_20 : decode cX7_turnRound 20 = .ok (.istore_n 3, 1) := by decide +kernel
theorem dX7_turnRound_21 : decode cX7_turnRound 21 = .ok (.aload_n 0, 1) := by decide +kernel
theorem dX7_turnRound_22 : decode cX7_turnRound 22 = .ok (.getfield 9, 3) := by decide +kernel
theorem dX7_turnRound_25 : decode cX7_turnRound 25 = .ok (.iload_n 2, 1) := by decide +kernel
theorem dX7_turnRound_26 : decode cX7_turnRound 26 = .ok (.aload_n 0, 1) := by decide +kernel
theorem dX7_turnRound_27 : decode cX7_turnRound 27 = .ok (.getfield 9, 3) := by decide +kernel
theorem dX7_turnRound_30 : decode cX7_turnRound 30 = .ok (.iload_n 1, 1) := by decide +kernel
theorem dX7_turnRound_31 : decode cX7_turnRound 31 = .ok (.iaload, 1) := by decide +kernel
theorem dX7_turnRound_32 : decode cX7_turnRound 32 = .ok (.iastore, 1) := by decide +kernel
theorem dX7_turnRound_33 : decode cX7_turnRound 33 = .ok (.aload_n 0, 1) := by decide +kernel
theorem dX7_turnRound_34 : decode cX7_turnRound 34 = .ok (.getfield 9, 3) := by decide +kernel
theorem dX7_turnRound_37 : decode cX7_turnRound 37 = .ok (.iload_n 1, 1) := by decide +kernel
theorem dX7_turnRound_38 : decode cX7_turnRound 38 = .ok (.iload_n 3, 1) := by decide +kernel
theorem dX7_turnRound_39 : decode cX7_turnRound 39 = .ok (.iastore, 1) := by decide +kernel
theorem dX7_turnRound_40 : decode cX7_turnRound 40 = .ok (.iinc 1 (-1), 3) := by decide +kernel
theorem dX7_turnRound_43 : decode cX7_turnRound 43 = .ok (.iinc 2 1, 3) := by decide +kernel
theorem dX7_turnRound_46 : decode cX7_turnRound 46 = .ok (.goto (-37), 3) := by decide +kernel
theorem dX7_turnRound_49 : decode cX7_turnRound 49 = .ok (.return_, 1) := by decide +kernel
theorem dX7_copy_0 : decode cX7_copy 0 = .ok (.new 10, 3) := by decide +kernel
theorem dX7_copy_3 : decode cX7_copy 3 = .ok (.dup, 1) := by decide +kernel
theorem dX7_copy_4 : decode cX7_copy 4 = .ok (.invokespecial 19, 3) := by decide +kernel
theorem dX7_copy_7 : decode cX7_copy 7 = .ok (.astore_n 1, 1) := by decide +kernel
theorem dX7_copy_8 : decode cX7_copy 8 = .ok (.iconst 0, 1) := by decide +kernel
theorem dX7_copy_9 : decode cX7_copy 9 = .ok (.istore_n 2, 1) := by decide +kernel
theorem dX7_copy_10 : decode cX7_copy 10 = .ok (.iload_n 2, 1) := by decide +kernel
theorem dX7_copy_11 : decode cX7_copy 11 = .ok (.aload_n 0, 1) := by decide +kernel
theorem dX7_copy_12 : decode cX7_copy 12 = .ok (.getfield 15, 3) := by decide +kernel
theorem dX7_copy_15 : decode cX7_copy 15 = .ok (.if_icmp .ge 21, 3) := by decide +kernel
theorem dX7_copy_18 : decode cX7_copy 18 = .ok (.aload_n 1, 1) := by decide +kernel
theorem dX7_copy_19 : decode cX7_copy 19 = .ok (.getfield 9, 3) := by decide +kernel
theorem dX7_copy_22 : decode cX7_copy 22 = .ok (.iload_n 2, 1) := by decide +kernel
theorem dX7_copy_23 : decode cX7_copy 23 = .ok (.aload_n 0, 1) := by decide +kernel
theorem dX7_copy_24 : decode cX7_copy 24 = .ok (.getfield 9, 3) := by decide +kernel
theorem dX7_copy_27 : decode cX7_copy 27 = .ok (.iload_n 2, 1) := by decide +kernel
theorem dX7_copy_28 : decode cX7_copy 28 = .ok (.iaload, 1) := by decide +kernel
theorem dX7_copy_29 : decode cX7_copy 29 = .ok (.iastore, 1) := by decide +kernel
theorem dX7_copy_30 : decode cX7_copy 30 = .ok (.iinc 2 1, 3) := by decide +kernel
theorem dX7_copy_33 : decode cX7_copy 33 = .ok (.goto (-23), 3) := by decide +kernel
theorem dX7_copy_36 : decode cX7_copy 36 = .ok (.aload_n 1, 1) := by decide +kernel
theorem dX7_copy_37 : decode cX7_copy 37 = .ok (.aload_n 0, 1) := by decide +kernel
theorem dX7_copy_38 : decode cX7_copy 38 = .ok (.getfield 15, 3) := by decide +kernel
theorem dX7_copy_41 : decode cX7_copy 41 = .ok (.putfield 15, 3) := by decide +kernel
theorem dX7_copy_44 : decode cX7_copy 44 = .ok (.aload_n 1, 1) := by decide +kernel
theorem dX7_copy_45 : decode cX7_copy 45 = .ok (.areturn, 1) := by decide +kernel
theorem dX7_hasQuestionMark_0 : decode cX7_hasQuestionMark 0 = .ok (.iconst 0, 1) := by decide +kernel
theorem dX7_hasQuestionMark_1 : decode cX7_hasQuestionMark 1 = .ok (.istore_n 1, 1) := by decide +kernel
theorem dX7_hasQuestionMark_2 : decode cX7_hasQuestionMark 2 = .ok (.iload_n 1, 1) := by decide +kernel
theorem dX7_hasQuestionMark_3 : decode cX7_hasQuestionMark 3 = .ok (.aload_n 0, 1) := by decide +kernel
theorem dX7_hasQuestionMark_4 : decode cX7_hasQuestionMark 4 = .ok (.getfield 15, 3) := by decide +kernel
theorem dX7_hasQuestionMark_7 : decode cX7_hasQuestionMark 7 = .ok (.if_icmp .ge 22, 3) := by decide +kernel
theorem dX7_hasQuestionMark_10 : decode cX7_hasQuestionMark 10 = .ok (.aload_n 0, 1) := by decide +kernel
theorem dX7_hasQuestionMark_11 : decode cX7_hasQuestionMark 11 = .ok (.getfield 9, 3) := by decide +kernel
theorem dX7_hasQuestionMark_14 : decode cX7_hasQuestionMark 14 = .ok (.iload_n 1, 1) := by decide +kernel
theorem dX7_hasQuestionMark_15 : decode cX7_hasQuestionMark 15 = .ok (.iaload, 1) := by decide +kernel
theorem dX7_hasQuestionMark_16 : decode cX7_hasQuestionMark 16 = .ok (.bipush 14, 2) := by decide +kernel
theorem dX7_hasQuestionMark_18 : decode cX7_hasQuestionMark 18 = .ok (.if_icmp .ne 5, 3) := by decide +kernel
theorem dX7_hasQuestionMark_21 : decode cX7_hasQuestionMark 21 = .ok (.iconst 1, 1) := by decide +kernel
theorem dX7_hasQuestionMark_22 : decode cX7_hasQuestionMark 22 = .ok (.ireturn, 1) := by decide +kernel
theorem dX7_hasQuestionMark_23 : decode cX7_hasQuestionMark 23 = .ok (.iinc 1 1, 3) := by decide +kernel
theorem dX7_hasQuestionMark_26 : decode cX7_hasQuestionMark 26 = .ok (.goto (-24), 3) := by decide +kernel
theorem dX7_hasQuestionMark_29 : decode cX7_hasQuestionMark 29 = .ok (.iconst 0, 1) := by decide +kernel
theorem dX7_hasQuestionMark_30 : decode cX7_hasQuestionMark 30 = .ok (.ireturn, 1) := by decide +kernel
theorem dX7_equalsText_0 : decode cX7_equalsText 0 = .ok (.aload_n 0, 1) := by decide +kernel
theorem dX7_equalsText_1 : decode cX7_equalsText 1 = .ok (.getfield 15, 3) := by decide +kernel
theorem dX7_equalsText_4 : decode cX7_equalsText 4 = .ok (.aload_n 1, 1) := by decide +kernel
theorem dX7_equalsText_5 : decode cX7_equalsText 5 = .ok (.getfield 15, 3) := by decide +kernel
theorem dX7_equalsText_8 : decode cX7_equalsText 8 = .ok (.if_icmp .eq 5, 3) := by decide +kernel
theorem dX7_equalsText_11 : decode cX7_equalsText 11 = .ok (.iconst 0, 1) := by decide +kernel
theorem dX7_equalsText_12 : decode cX7_equalsText 12 = .ok (.ireturn, 1) := by decide +kernel
theorem dX7_equalsText_13 : decode cX7_equalsText 13 = .ok (.iconst 0, 1) := by decide +kernel
theorem dX7_equalsText_14 : decode cX7_equalsText 14 = .ok (.istore_n 2, 1) := by decide +kernel
theorem dX7_equalsText_15 : decode cX7_equalsText 15 = .ok (.iload_n 2, 1) := by decide +kernel
theorem dX7_equalsText_16 : decode cX7_equalsText 16 = .ok (.aload_n 0, 1) := by decide +kernel
theorem dX7_equalsText_17 : decode cX7_equalsText 17 = .ok (.getfield 15, 3) := by decide +kernel
theorem dX7_equalsText_20 : decode cX7_equalsText 20 = .ok (.if_icmp .ge 26, 3) := by decide +kernel
theorem dX7_equalsText_23 : decode cX7_equalsText 23 = .ok (.aload_n 0, 1) := by decide +kernel
theorem dX7_equalsText_24 : decode cX7_equalsText 24 = .ok (.getfield 9, 3) := by decide +kernel
theorem dX7_equalsText_27 : decode cX7_equalsText 27 = .ok (.iload_n 2, 1) := by decide +kernel
theorem dX7_equalsText_28 : decode cX7_equalsText 28 = .ok (.iaload, 1) := by decide +kernel
theorem dX7_equalsText_29 : decode cX7_equalsText 29 = .ok (.aload_n 1, 1) := by decide +kernel
theorem dX7_equalsText_30 : decode cX7_equalsText 30 = .ok (.getfield 9, 3) := by decide +kernel
theorem dX7_equalsText_33 : decode cX7_equalsText 33 = .ok (.iload_n 2, 1) := by decide +kernel
theorem dX7_equalsText_34 : decode cX7_equalsText 34 = .ok (.iaload, 1) := by decide +kernel
theorem dX7_equalsText_35 : decode cX7_equalsText 35 = .ok (.if_icmp .eq 5, 3) := by decide +kernel
theorem dX7_equalsText_38 : decode cX7_equalsText 38 = .ok (.iconst 0, 1) := by decide +kernel
theorem dX7_equalsText_39 : decode cX7_equalsText 39 = .ok (.ireturn, 1) := by decide +kernel
theorem dX7_equalsText_40 : decode cX7_equalsText 40 = .ok (.iinc 2 1, 3) := by decide +kernel
theorem dX7_equalsText_43 : decode cX7_equalsText 43 = .ok (.goto (-28), 3) := by decide +kernel
theorem dX7_equalsText_46 : decode cX7_equalsText 46 = .ok (.iconst 1, 1) := by decide +kernel
theorem dX7_equalsText_47 : decode cX7_equalsText 47 = .ok (.ireturn, 1) := by decide +kernel
theorem dX7_comesBefore_0 : decode cX7_comesBefore 0 = .ok (.aload_n 0, 1) := by decide +kernel
theorem dX7_comesBefore_1 : decode cX7_comesBefore 1 = .ok (.getfield 15, 3) := by decide +kernel
theorem dX7_comesBefore_4 : decode cX7_comesBefore 4 = .ok (.aload_n 1, 1) := by decide +kernel
theorem dX7_comesBefore_5 : decode cX7_comesBefore 5 = .ok (.getfield 15, 3) := by decide +kernel
theorem dX7_comesBefore_8 : decode cX7_comesBefore 8 = .ok (.invokestatic 20, 3) := by decide +kernel
theorem dX7_comesBefore_11 : decode cX7_comesBefore 11 = .ok (.istore_n 2, 1) := by decide +kernel
theorem dX7_comesBefore_12 : decode cX7_comesBefore 12 = .ok (.iconst 1, 1) := by decide +kernel
theorem dX7_comesBefore_13 : decode cX7_comesBefore 13 = .ok (.istore_n 3, 1) := by decide +kernel
theorem dX7_comesBefore_14 : decode cX7_comesBefore 14 = .ok (.iload_n 3, 1) := by decide +kernel
theorem dX7_comesBefore_15 : decode cX7_comesBefore 15 = .ok (.iload_n 2, 1) := by decide +kernel
theorem dX7_comesBefore_16 : decode cX7_comesBefore 16 = .ok (.if_icmp .gt 55, 3) := by decide +kernel
theorem dX7_comesBefore_19 : decode cX7_comesBefore 19 = .ok (.aload_n 0, 1) := by decide +kernel
theorem dX7_comesBefore_20 : decode cX7_comesBefore 20 = .ok (.getfield 9, 3) := by decide +kernel
theorem dX7_comesBefore_23 : decode cX7_comesBefore 23 = .ok (.aload_n 0, 1) := by decide +kernel
theorem dX7_comesBefore_24 : decode cX7_comesBefore 24 = .ok (.getfield 15, 3) := by decide +kernel
theorem dX7_comesBefore_27 : decode cX7_comesBefore 27 = .ok (.iload_n 3, 1) := by decide +kernel
theorem dX7_comesBefore_28 : decode cX7_comesBefore 28 = .ok (.isub, 1) := by decide +kernel
theorem dX7_comesBefore_29 : decode cX7_comesBefore 29 = .ok (.iaload, 1) := by decide +kernel
theorem dX7_comesBefore_30 : decode cX7_comesBefore 30 = .ok (.istore 4, 2) := by decide +kernel
theorem dX7_comesBefore_32 : decode cX7_comesBefore 32 = .ok (.aload_n 1, 1) := by decide +kernel
theorem dX7_comesBefore_33 : decode cX7_comesBefore 33 = .ok (.getfield 9, 3) := by decide +kernel
theorem dX7_comesBefore_36 : decode cX7_comesBefore 36 = .ok (.aload_n 1, 1) := by decide +kernel
theorem dX7_comesBefore_37 : decode cX7_comesBefore 37 = .ok (.getfield 15, 3) := by decide +kernel
theorem dX7_comesBefore_40 : decode cX7_comesBefore 40 = .ok (.iload_n 3, 1) := by decide +kernel
theorem dX7_comesBefore_41 : decode cX7_comesBefore 41 = .ok (.isub, 1) := by decide +kernel
theorem dX7_comesBefore_42 : decode cX7_comesBefore 42 = .ok (.iaload, 1) := by decide +kernel
theorem dX7_comesBefore_43 : decode cX7_comesBefore 43 = .ok (.istore 5, 2) := by decide +kernel
theorem dX7_comesBefore_45 : decode cX7_comesBefore 45 = .ok (.iload 4, 2) := by decide +kernel
theorem dX7_comesBefore_47 : decode cX7_comesBefore 47 = .ok (.iload 5, 2) := by decide +kernel
theorem dX7_comesBefore_49 : decode cX7_comesBefore 49 = .ok (.if_icmp .eq 16, 3) := by decide +kernel
theorem dX7_comesBefore_52 : decode cX7_comesBefore 52 = .ok (.iload 4, 2) := by decide +kernel
theorem dX7_comesBefore_54 : decode cX7_comesBefore 54 = .ok (.iload 5, 2) := by decide +kernel
theorem dX7_comesBefore_56 : decode cX7_comesBefore 56 = .ok (.if_icmp .ge 7, 3) := by decide +kernel
theorem dX7_comesBefore_59 : decode cX7_comesBefore 59 = .ok (.iconst 1, 1) := by decide +kernel
theorem dX7_comesBefore_60 : decode cX7_comesBefore 60 = .ok (.goto 4, 3) := by decide +kernel
theorem dX7_comesBefore_63 : decode cX7_comesBefore 63 = .ok (.iconst 0, 1) := by decide +kernel
theorem dX7_comesBefore_64 : decode cX7_comesBefore 64 = .ok (.ireturn, 1) := by decide +kernel
theorem dX7_comesBefore_65 : decode cX7_comesBefore 65 = .ok (.iinc 3 1, 3) := by decide +kernel
theorem dX7_comesBefore_68 : decode cX7_comesBefore 68 = .ok (.goto (-54), 3) := by decide +kernel
theorem dX7_comesBefore_71 : decode cX7_comesBefore 71 = .ok (.aload_n 0, 1) := by decide +kernel
theorem dX7_comesBefore_72 : decode cX7_comesBefore 72 = .ok (.getfield 15, 3) := by decide +kernel
theorem dX7_comesBefore_75 : decode cX7_comesBefore 75 = .ok (.aload_n 1, 1) := by decide +kernel
theorem dX7_comesBefore_76 : decode cX7_comesBefore 76 = .ok (.getfield 15, 3) := by decide +kernel
theorem dX7_comesBefore_79 : decode cX7_comesBefore 79 = .ok (.if_icmp .ge 7, 3) := by decide +kernel
theorem dX7_comesBefore_82 : decode cX7_comesBefore 82 = .ok (.iconst 1, 1) := by decide +kernel
theorem dX7_comesBefore_83 : decode cX7_comesBefore 83 = .ok (.goto 4, 3) := by decide +kernel
theorem dX7_comesBefore_86 : decode cX7_comesBefore 86 = .ok (.iconst 0, 1) := by decide +kernel
theorem dX7_comesBefore_87 : decode cX7_comesBefore 87 = .ok (.ireturn, 1) := by decide +kernel
theorem dX7_charCount_0 : decode cX7_charCount 0 = .ok (.iconst 0, 1) := by decide +kernel
theorem dX7_charCount_1 : decode cX7_charCount 1 = .ok (.istore_n 1, 1) := by decide +kernel
theorem dX7_charCount_2 : decode cX7_charCount 2 = .ok (.iconst 0, 1) := by decide +kernel
theorem dX7_charCount_3 : decode cX7_charCount 3 = .ok (.istore_n 2, 1) := by decide +kernel
theorem dX7_charCount_4 : decode cX7_charCount 4 = .ok (.iload_n 2, 1) := by decide +kernel
theorem dX7_charCount_5 : decode cX7_charCount 5 = .ok (.aload_n 0, 1) := by decide +kernel
theorem dX7_charCount_6 : decode cX7_charCount 6 = .ok (.getfield 15, 3) := by decide +kernel
theorem dX7_charCount_9 : decode cX7_charCount 9 = .ok (.if_icmp .ge 21, 3) := by decide +kernel
theorem dX7_charCount_12 : decode cX7_charCount 12 = .ok (.iload_n 1, 1) := by decide +kernel
theorem dX7_charCount_13 : decode cX7_charCount 13 = .ok (.aload_n 0, 1) := by decide +kernel
theorem dX7_charCount_14 : decode cX7_charCount 14 = .ok (.getfield 9, 3) := by decide +kernel
theorem dX7_charCount_17 : decode cX7_charCount 17 = .ok (.iload_n 2, 1) := by decide +kernel
theorem dX7_charCount_18 : decode cX7_charCount 18 = .ok (.iaload, 1) := by decide +kernel
theorem dX7_charCount_19 : decode cX7_charCount 19 = .ok (.invokestatic 26, 3) := by decide +kernel
theorem dX7_charCount_22 : decode cX7_charCount 22 = .ok (.iadd, 1) := by decide +kernel
theorem dX7_charCount_23 : decode cX7_charCount 23 = .ok (.istore_n 1, 1) := by decide +kernel
theorem dX7_charCount_24 : decode cX7_charCount 24 = .ok (.iinc 2 1, 3) := by decide +kernel
theorem dX7_charCount_27 : decode cX7_charCount 27 = .ok (.goto (-23), 3) := by decide +kernel
theorem dX7_charCount_30 : decode cX7_charCount 30 = .ok (.iload_n 1, 1) := by decide +kernel
theorem dX7_charCount_31 : decode cX7_charCount 31 = .ok (.ireturn, 1) := by decide +kernel
theorem dX7_charNumberAt_0 : decode cX7_charNumberAt 0 = .ok (.iconst 0, 1) := by decide +kernel
theorem dX7_charNumberAt_1 : decode cX7_charNumberAt 1 = .ok (.istore_n 2, 1) := by decide +kernel
theorem dX7_charNumberAt_2 : decode cX7_charNumberAt 2 = .ok (.iconst 0, 1) := by decide +kernel
theorem dX7_charNumberAt_3 : decode cX7_charNumberAt 3 = .ok (.istore_n 3, 1) := by decide +kernel
theorem dX7_charNumberAt_4 : decode cX7_charNumberAt 4 = .ok (.iload_n 3, 1) := by decide +kernel
theorem dX7_charNumberAt_5 : decode cX7_charNumberAt 5 = .ok (.aload_n 0, 1) := by decide +kernel
theorem dX7_charNumberAt_6 : decode cX7_charNumberAt 6 = .ok (.getfield 15, 3) := by decide +kernel
theorem dX7_charNumberAt_9 : decode cX7_charNumberAt 9 = .ok (.if_icmp .ge 48, 3) := by decide +kernel
theorem dX7_charNumberAt_12 : decode cX7_charNumberAt 12 = .ok (.iload_n 1, 1) := by decide +kernel
theorem dX7_charNumberAt_13 : decode cX7_charNumberAt 13 = .ok (.iload_n 2, 1) := by decide +kernel
theorem dX7_charNumberAt_14 : decode cX7_charNumberAt 14 = .ok (.if_icmp .lt 43, 3) := by decide +kernel
theorem dX7_charNumberAt_17 : decode cX7_charNumberAt 17 = .ok (.iload_n 2, 1) := by decide +kernel
theorem dX7_charNumberAt_18 : decode cX7_charNumberAt 18 = .ok (.istore 4, 2) := by decide +kernel
theorem dX7_charNumberAt_20 : decode cX7_charNumberAt 20 = .ok (.iload_n 2, 1) := by decide +kernel
theorem dX7_charNumberAt_21 : decode cX7_charNumberAt 21 = .ok (.aload_n 0, 1) := by decide +kernel
theorem dX7_charNumberAt_22 : decode cX7_charNumberAt 22 = .ok (.getfield 9, 3) := by decide +kernel
theorem dX7_charNumberAt_25 : decode cX7_charNumberAt 25 = .ok (.iload_n 3, 1) := by decide +kernel
theorem dX7_charNumberAt_26 : decode cX7_charNumberAt 26 = .ok (.iaload, 1) := by decide +kernel
theorem dX7_charNumberAt_27 : decode cX7_charNumberAt 27 = .ok (.invokestatic 26, 3) := by decide +kernel
theorem dX7_charNumberAt_30 : decode cX7_charNumberAt 30 = .ok (.iadd, 1) := by decide +kernel
theorem dX7_charNumberAt_31 : decode cX7_charNumberAt 31 = .ok (.istore_n 2, 1) := by decide +kernel
theorem dX7_charNumberAt_32 : decode cX7_charNumberAt 32 = .ok (.iload_n 1, 1) := by decide +kernel
theorem dX7_charNumberAt_33 : decode cX7_charNumberAt 33 = .ok (.iload_n 2, 1) := by decide +kernel
theorem dX7_charNumberAt_34 : decode cX7_charNumberAt 34 = .ok (.if_icmp .ge 17, 3) := by decide +kernel
theorem dX7_charNumberAt_37 : decode cX7_charNumberAt 37 = .ok (.aload_n 0, 1) := by decide +kernel
theorem dX7_charNumberAt_38 : decode cX7_charNumberAt 38 = .ok (.getfield 9, 3) := by decide +kernel
theorem dX7_charNumberAt_41 : decode cX7_charNumberAt 41 = .ok (.iload_n 3, 1) := by decide +kernel
theorem dX7_charNumberAt_42 : decode cX7_charNumberAt 42 = .ok (.iaload, 1) := by decide +kernel
theorem dX7_charNumberAt_43 : decode cX7_charNumberAt 43 = .ok (.iload_n 1, 1) := by decide +kernel
theorem dX7_charNumberAt_44 : decode cX7_charNumberAt 44 = .ok (.iload 4, 2) := by decide +kernel
theorem dX7_charNumberAt_46 : decode cX7_charNumberAt 46 = .ok (.isub, 1) := by decide +kernel
theorem dX7_charNumberAt_47 : decode cX7_charNumberAt 47 = .ok (.invokestatic 30, 3) := by decide +kernel
theorem dX7_charNumberAt_50 : decode cX7_charNumberAt 50 = .ok (.ireturn, 1) := by decide +kernel
theorem dX7_charNumberAt_51 : decode cX7_charNumberAt 51 = .ok (.iinc 3 1, 3) := by decide +kernel
theorem dX7_charNumberAt_54 : decode cX7_charNumberAt 54 = .ok (.goto (-50), 3) := by decide +kernel
theorem dX7_charNumberAt_57 : decode cX7_charNumberAt 57 = .ok (.iconst (-1), 1) := by decide +kernel
theorem dX7_charNumberAt_58 : decode cX7_charNumberAt 58 = .ok (.ireturn, 1) := by decide +kernel
theorem dX7_isPair_0 : decode cX7_isPair 0 = .ok (.iload_n 0, 1) := by decide +kernel
theorem dX7_isPair_1 : decode cX7_isPair 1 = .ok (.bipush 10, 2) := by decide +kernel
theorem dX7_isPair_3 : decode cX7_isPair 3 = .ok (.if_icmp .lt 13, 3) := by decide +kernel
theorem dX7_isPair_6 : decode cX7_isPair 6 = .ok (.iload_n 0, 1) := by decide +kernel
theorem dX7_isPair_7 : decode cX7_isPair 7 = .ok (.bipush 14, 2) := by decide +kernel
theorem dX7_isPair_9 : decode cX7_isPair 9 = .ok (.if_icmp .ge 7, 3) := by decide +kernel
theorem dX7_isPair_12 : decode cX7_isPair 12 = .ok (.iconst 1, 1) := by decide +kernel
theorem dX7_isPair_13 : decode cX7_isPair 13 = .ok (.goto 4, 3) := by decide +kernel
theorem dX7_isPair_16 : decode cX7_isPair 16 = .ok (.iconst 0, 1) := by decide +kernel
theorem dX7_isPair_17 : decode cX7_isPair 17 = .ok (.ireturn, 1) := by decide +kernel
theorem dX7_charsOf_0 : decode cX7_charsOf 0 = .ok (.iload_n 0, 1) := by decide +kernel
theorem dX7_charsOf_1 : decode cX7_charsOf 1 = .ok (.invokestatic 33, 3) := by decide +kernel
theorem dX7_charsOf_4 : decode cX7_charsOf 4 = .ok (.ifCond .eq 7, 3) := by decide +kernel
theorem dX7_charsOf_7 : decode cX7_charsOf 7 = .ok (.iconst 2, 1) := by decide +kernel
theorem dX7_charsOf_8 : decode cX7_charsOf 8 = .ok (.goto 4, 3) := by decide +kernel
theorem dX7_charsOf_11 : decode cX7_charsOf 11 = .ok (.iconst 1, 1) := by decide +kernel
theorem dX7_charsOf_12 : decode cX7_charsOf 12 = .ok (.ireturn, 1) := by decide +kernel
theorem dX7_charNumberOf_0 : decode cX7_charNumberOf 0 = .ok (.iload_n 0, 1) := by decide +kernel
theorem dX7_charNumberOf_1 : decode cX7_charNumberOf 1 = .ok (.bipush 14, 2) := by decide +kernel
theorem dX7_charNumberOf_3 : decode cX7_charNumberOf 3 = .ok (.if_icmp .ne 6, 3) := by decide +kernel
theorem dX7_charNumberOf_6 : decode cX7_charNumberOf 6 = .ok (.bipush 63, 2) := by decide +kernel
theorem dX7_charNumberOf_8 : decode cX7_charNumberOf 8 = .ok (.ireturn, 1) := by decide +kernel
theorem dX7_charNumberOf_9 : decode cX7_charNumberOf 9 = .ok (.iload_n 0, 1) := by decide +kernel
theorem dX7_charNumberOf_10 : decode cX7_charNumberOf 10 = .ok (.invokestatic 33, 3) := by decide +kernel
theorem dX7_charNumberOf_13 : decode cX7_charNumberOf 13 = .ok (.ifCond .ne 8, 3) := by decide +kernel
theorem dX7_charNumberOf_16 : decode cX7_charNumberOf 16 = .ok (.bipush 65, 2) := by decide +kernel
theorem dX7_charNumberOf_18 : decode cX7_charNumberOf 18 = .ok (.iload_n 0, 1) := by decide +kernel
theorem dX7_charNumberOf_19 : decode cX7_charNumberOf 19 = .ok (.iadd, 1) := by decide +kernel
theorem dX7_charNumberOf_20 : decode cX7_charNumberOf 20 = .ok (.ireturn, 1) := by decide +kernel
theorem dX7_charNumberOf_21 : decode cX7_charNumberOf 21 = .ok (.iload_n 1, 1) := by decide +kernel
theorem dX7_charNumberOf_22 : decode cX7_charNumberOf 22 = .ok (.ifCond .ne 8, 3) := by decide +kernel
theorem dX7_charNumberOf_25 : decode cX7_charNumberOf 25 = .ok (.ldc 37, 2) := by decide +kernel
theorem dX7_charNumberOf_27 : decode cX7_charNumberOf 27 = .ok (.goto 10, 3) := by decide +kernel
theorem dX7_charNumberOf_30 : decode cX7_charNumberOf 30 = .ok (.ldc 38, 2) := by decide +kernel
theorem dX7_charNumberOf_32 : decode cX7_charNumberOf 32 = .ok (.iload_n 0, 1) := by decide +kernel
theorem dX7_charNumberOf_33 : decode cX7_charNumberOf 33 = .ok (.iadd, 1) := by decide +kernel
theorem dX7_charNumberOf_34 : decode cX7_charNumberOf 34 = .ok (.bipush 10, 2) := by decide +kernel
theorem dX7_charNumberOf_36 : decode cX7_charNumberOf 36 = .ok (.isub, 1) := by decide +kernel
theorem dX7_charNumberOf_37 : decode cX7_charNumberOf 37 = .ok (.ireturn, 1) := by decide +kernel
theorem dX8_init_0 : decode cX8_init 0 = .ok (.aload_n 0, 1) := by decide +kernel
theorem dX8_init_1 : decode cX8_init 1 = .ok (.invokespecial 3, 3) := by decide +kernel
theorem dX8_init_4 : decode cX8_init 4 = .ok (.aload_n 0, 1) := by decide +kernel
theorem dX8_init_5 : decode cX8_init 5 = .ok (.iload_n 1, 1) := by decide +kernel
theorem dX8_init_6 : decode cX8_init 6 = .ok (.putfield 9, 3) := by decide +kernel
theorem dX8_init_9 : decode cX8_init 9 = .ok (.aload_n 0, 1) := by decide +kernel
theorem dX8_init_10 : decode cX8_init 10 = .ok (.aload_n 2, 1) := by decide +kernel
theorem dX8_init_11 : decode cX8_init 11 = .ok (.putfield 15, 3) := by decide +kernel
theorem dX8_init_14 : decode cX8_init 14 = .ok (.aload_n 0, 1) := by decide +kernel
theorem dX8_init_15 : decode cX8_init 15 = .ok (.iload_n 3, 1) := by decide +kernel
theorem dX8_init_16 : decode cX8_init 16 = .ok (.putfield 19, 3) := by decide +kernel
theorem dX8_init_19 : decode cX8_init 19 = .ok (.aload_n 0, 1) := by decide +kernel
theorem dX8_init_20 : decode cX8_init 20 = .ok (.iload 4, 2) := by decide +kernel
theorem dX8_init_22 : decode cX8_init 22 = .ok (.putfield 22, 3) := by decide +kernel
theorem dX8_init_25 : decode cX8_init 25 = .ok (.return_, 1) := by decide +kernel
theorem dX8_shownAt_0 : decode cX8_shownAt 0 = .ok (.iconst 0, 1) := by decide +kernel
theorem dX8_shownAt_1 : decode cX8_shownAt 1 = .ok (.istore_n 2, 1) := by decide +kernel
theorem dX8_shownAt_2 : decode cX8_shownAt 2 = .ok (.iconst 0, 1) := by decide +kernel
theorem dX8_shownAt_3 : decode cX8_shownAt 3 = .ok (.istore_n 3, 1) := by decide +kernel
theorem dX8_shownAt_4 : decode cX8_shownAt 4 = .ok (.iconst 0, 1) := by decide +kernel
theorem dX8_shownAt_5 : decode cX8_shownAt 5 = .ok (.istore 4, 2) := by decide +kernel
theorem dX8_shownAt_7 : decode cX8_shownAt 7 = .ok (.iload 4, 2) := by decide +kernel
theorem dX8_shownAt_9 : decode cX8_shownAt 9 = .ok (.aload_n 0, 1) := by decide +kernel
theorem dX8_shownAt_10 : decode cX8_shownAt 10 = .ok (.getfield 15, 3) := by decide +kernel
theorem dX8_shownAt_13 : decode cX8_shownAt 13 = .ok (.getfield 25, 3) := by decide +kernel
theorem dX8_shownAt_16 : decode cX8_shownAt 16 = .ok (.if_icmp .ge 74, 3) := by decide +kernel
theorem dX8_shownAt_19 : decode cX8_shownAt 19 = .ok (.aload_n 0, 1) := by decide +kernel
theorem dX8_shownAt_20 : decode cX8_shownAt 20 = .ok (.getfield 15, 3) := by decide +kernel
theorem dX8_shownAt_23 : decode cX8_shownAt 23 = .ok (.getfield 30, 3) := by decide +kernel
theorem dX8_shownAt_26 : decode cX8_shownAt 26 = .ok (.iload 4, 2) := by decide +kernel
theorem dX8_shownAt_28 : decode cX8_shownAt 28 = .ok (.aaload, 1) := by decide +kernel
theorem dX8_shownAt_29 : decode cX8_shownAt 29 = .ok (.astore 5, 2) := by decide +kernel
theorem dX8_shownAt_31 : decode cX8_shownAt 31 = .ok (.aload_n 0, 1) := by decide +kernel
theorem dX8_shownAt_32 : decode cX8_shownAt 32 = .ok (.getfield 15, 3) := by decide +kernel
theorem dX8_shownAt_35 : decode cX8_shownAt 35 = .ok (.getfield 34, 3) := by decide +kernel
theorem dX8_shownAt_38 : decode cX8_shownAt 38 = .ok (.iload 4, 2) := by decide +kernel
theorem dX8_shownAt_40 : decode cX8_shownAt 40 = .ok (.baload, 1) := by decide +kernel
theorem dX8_shownAt_41 : decode cX8_shownAt 41 = .ok (.ifCond .eq 24, 3) := by decide +kernel
theorem dX8_shownAt_44 : decode cX8_shownAt 44 = .ok (.aload 5, 2) := by decide +kernel
theorem dX8_shownAt_46 : decode cX8_shownAt 46 = .ok (.getfield 38, 3) := by decide +kernel
theorem dX8_shownAt_49 : decode cX8_shownAt 49 = .ok (.sipush 1440, 3) := by decide +kernel
theorem dX8_shownAt_52 : decode cX8_shownAt 52 = .ok (.idiv, 1) := by decide +kernel
theorem dX8_shownAt_53 : decode cX8_shownAt 53 = .ok (.aload_n 0, 1) := by decide +kernel
theorem dX8_shownAt_54 : decode cX8_shownAt 54 = .ok (.getfield 19, 3) := by decide +kernel
theorem dX8_shownAt_57 : decode cX8_shownAt 57 = .ok (.aload_n 0, 1) := by decide +kernel
theorem dX8_shownAt_58 : decode cX8_shownAt 58 = .ok (.getfield 22, 3) := by decide +kernel
theorem dX8_shownAt_61 : decode cX8_shownAt 61 = .ok (.invokestatic 43, 3) := by decide +kernel
theorem dX8_shownAt_64 : decode cX8_shownAt 64 = .ok (.istore_n 3, 1) := by decide +kernel
theorem dX8_shownAt_65 : decode cX8_shownAt 65 = .ok (.iload_n 3, 1) := by decide +kernel
theorem dX8_shownAt_66 : decode cX8_shownAt 66 = .ok (.ifCond .eq 11, 3) := by decide +kernel
theorem dX8_shownAt_69 : decode cX8_shownAt 69 = .ok (.iload_n 2, 1) := by decide +kernel
theorem dX8_shownAt_70 : decode cX8_shownAt 70 = .ok (.iload_n 1, 1) := by decide +kernel
theorem dX8_shownAt_71 : decode cX8_shownAt 71 = .ok (.if_icmp .ne 6, 3) := by decide +kernel
theorem dX8_shownAt_74 : decode cX8_shownAt 74 = .ok (.aload 5, 2) := by decide +kernel
theorem dX8_shownAt_76 : decode cX8_shownAt 76 = .ok (.areturn, 1) := by decide +kernel
theorem dX8_shownAt_77 : decode cX8_shownAt 77 = .ok (.iload_n 3, 1) := by decide +kernel
theorem dX8_shownAt_78 : decode cX8_shownAt 78 = .ok (.ifCond .eq 6, 3) := by decide +kernel
theorem dX8_shownAt_81 : decode cX8_shownAt 81 = .ok (.iinc 2 1, 3) := by decide +kernel
theorem dX8_shownAt_84 : decode cX8_shownAt 84 = .ok (.iinc 4 1, 3) := by decide +kernel
theorem dX8_shownAt_87 : decode cX8_shownAt 87 = .ok (.goto (-80), 3) := by decide +kernel
theorem dX8_shownAt_90 : decode cX8_shownAt 90 = .ok (.aconst_null, 1) := by decide +kernel
theorem dX8_shownAt_91 : decode cX8_shownAt 91 = .ok (.areturn, 1) := by decide +kernel
theorem dX9_init_0 : decode cX9_init 0 = .ok (.aload_n 0, 1) := by decide +kernel
theorem dX9_init_1 : decode cX9_init 1 = .ok (.invokespecial 1, 3) := by decide +kernel
theorem dX9_init_4 : decode cX9_init 4 = .ok (.aload_n 0, 1) := by decide +kernel
theorem dX9_init_5 : decode cX9_init 5 = .ok (.new 7, 3) := by decide +kernel
theorem dX9_init_8 : decode cX9_init 8 = .ok (.dup, 1) := by decide +kernel
theorem dX9_init_9 : decode cX9_init 9 = .ok (.invokespecial 9, 3) := by decide +kernel
theorem dX9_init_12 : decode cX9_init 12 = .ok (.putfield 10, 3) := by decide +kernel
theorem dX9_init_15 : decode cX9_init 15 = .ok (.aload_n 0, 1) := by decide +kernel
theorem dX9_init_16 : decode cX9_init 16 = .ok (.iconst 4, 1) := by decide +kernel
theorem dX9_init_17 : decode cX9_init 17 = .ok (.newarray .int, 2) := by decide +kernel
theorem dX9_init_19 : decode cX9_init 19 = .ok (.dup, 1) := by decide +kernel
theorem dX9_init_20 : decode cX9_init 20 = .ok (.iconst 0, 1) := by decide +kernel
theorem dX9_init_21 : decode cX9_init 21 = .ok (.iconst 1, 1) := by decide +kernel
theorem dX9_init_22 : decode cX9_init 22 = .ok (.iastore, 1) := by decide +kernel
theorem dX9_init_23 : decode cX9_init 23 = .ok (.dup, 1) := by decide +kernel
theorem dX9_init_24 : decode cX9_init 24 = .ok (.iconst 1, 1) := by decide +kernel
theorem dX9_init_25 : decode cX9_init 25 = .ok (.iconst 2, 1) := by decide +kernel
theorem dX9_init_26 : decode cX9_init 26 = .ok (.iastore, 1) := by decide +kernel
theorem dX9_init_27 : decode cX9_init 27 = .ok (.dup, 1) := by decide +kernel
theorem dX9_init_28 : decode cX9_init 28 = .ok (.iconst 2, 1) := by decide +kernel
theorem dX9_init_29 : decode cX9_init 29 = .ok (.iconst 4, 1) := by decide +kernel
theorem dX9_init_30 : decode cX9_init 30 = .ok (.iastore, 1) := by decide +kernel
theorem dX9_init_31 : decode cX9_init 31 = .ok (.dup, 1) := by decide +kernel
theorem dX9_init_32 : decode cX9_init 32 = .ok (.iconst 3, 1) := by decide +kernel
theorem dX9_init_33 : decode cX9_init 33 = .ok (.bipush 8, 2) := by decide +kernel
theorem dX9_init_35 : decode cX9_init 35 = .ok (.iastore, 1) := by decide +kernel
theorem dX9_init_36 : decode cX9_init 36 = .ok (.putfield 16, 3) := by decide +kernel
theorem dX9_init_39 : decode cX9_init 39 = .ok (.aload_n 0, 1) := by decide +kernel
theorem dX9_init_40 : decode cX9_init 40 = .ok (.new 20, 3) := by decide +kernel
theorem dX9_init_43 : decode cX9_init 43 = .ok (.dup, 1) := by decide +kernel
theorem dX9_init_44 : decode cX9_init 44 = .ok (.invokespecial 22, 3) := by decide +kernel
theorem dX9_init_47 : decode cX9_init 47 = .ok (.putfield 23, 3) := by decide +kernel
theorem dX9_init_50 : decode cX9_init 50 = .ok (.aload_n 0, 1) := by decide +kernel
theorem dX9_init_51 : decode cX9_init 51 = .ok (.new 27, 3) := by decide +kernel
theorem dX9_init_54 : decode cX9_init 54 = .ok (.dup, 1) := by decide +kernel
theorem dX9_init_55 : decode cX9_init 55 = .ok (.invokespecial 29, 3) := by decide +kernel
theorem dX9_init_58 : decode cX9_init 58 = .ok (.putfield 30, 3) := by decide +kernel
theorem dX9_init_61 : decode cX9_init 61 = .ok (.aload_n 0, 1) := by decide +kernel
theorem dX9_init_62 : decode cX9_init 62 = .ok (.bipush 10, 2) := by decide +kernel
theorem dX9_init_64 : decode cX9_init 64 = .ok (.anewarray 34, 3) := by decide +kernel
theorem dX9_init_67 : decode cX9_init 67 = .ok (.putfield 36, 3) := by decide +kernel
theorem dX9_init_70 : decode cX9_init 70 = .ok (.aload_n 0, 1) := by decide +kernel
theorem dX9_init_71 : decode cX9_init 71 = .ok (.bipush 10, 2) := by decide +kernel
theorem dX9_init_73 : decode cX9_init 73 = .ok (.anewarray 34, 3) := by decide +kernel
theorem dX9_init_76 : decode cX9_init 76 = .ok (.putfield 40, 3) := by decide +kernel
theorem dX9_init_79 : decode cX9_init 79 = .ok (.aload_n 0, 1) := by decide +kernel
theorem dX9_init_80 : decode cX9_init 80 = .ok (.bipush 60, 2) := by decide +kernel
theorem dX9_init_82 : decode cX9_init 82 = .ok (.anewarray 43, 3) := by decide +kernel
theorem dX9_init_85 : decode cX9_init 85 = .ok (.putfield 45, 3) := by decide +kernel
theorem dX9_init_88 : decode cX9_init 88 = .ok (.aload_n 0, 1) := by decide +kernel
theorem dX9_init_89 : decode cX9_init 89 = .ok (.bipush 8, 2) := by decide +kernel
theorem dX9_init_91 : decode cX9_init 91 = .ok (.anewarray 49, 3) := by decide +kernel
theorem dX9_init_94 : decode cX9_init 94 = .ok (.putfield 51, 3) := by decide +kernel
theorem dX9_init_97 : decode cX9_init 97 = .ok (.aload_n 0, 1) := by decide +kernel
theorem dX9_init_98 : decode cX9_init 98 = .ok (.bipush 40, 2) := by decide +kernel
theorem dX9_init_100 : decode cX9_init 100 = .ok (.anewarray 55, 3) := by decide +kernel
theorem dX9_init_103 : decode cX9_init 103 = .ok (.putfield 57, 3) := by decide +kernel
theorem dX9_init_106 : decode cX9_init 106 = .ok (.aload_n 0, 1) := by decide +kernel
theorem dX9_init_107 : decode cX9_init 107 = .ok (.bipush 6, 2) := by decide +kernel
theorem dX9_init_109 : decode cX9_init 109 = .ok (.newarray .long, 2) := by decide +kernel
theorem dX9_init_111 : decode cX9_init 111 = .ok (.putfield 61, 3) := by decide +kernel
theorem dX9_init_114 : decode cX9_init 114 = .ok (.aload_n 0, 1) := by decide +kernel
theorem dX9_init_115 : decode cX9_init 115 = .ok (.bipush 6, 2) := by decide +kernel
theorem dX9_init_117 : decode cX9_init 117 = .ok (.newarray .long, 2) := by decide +kernel
theorem dX9_init_119 : decode cX9_init 119 = .ok (.putfield 65, 3) := by decide +kernel
theorem dX9_init_122 : decode cX9_init 122 = .ok (.aload_n 0, 1) := by decide +kernel
theorem dX9_init_123 : decode cX9_init 123 = .ok (.new 68, 3) := by decide +kernel
theorem dX9_init_126 : decode cX9_init 126 = .ok (.dup, 1) := by decide +kernel
theorem dX9_init_127 : decode cX9_init 127 = .ok (.invokespecial 70, 3) := by decide +kernel
theorem dX9_init_130 : decode cX9_init 130 = .ok (.putfield 71, 3) := by decide +kernel
theorem dX9_init_133 : decode cX9_init 133 = .ok (.aload_n 0, 1) := by decide +kernel
theorem dX9_init_134 : decode cX9_init 134 = .ok (.iconst 0, 1) := by decide +kernel
theorem dX9_init_135 : decode cX9_init 135 = .ok (.putfield 75, 3) := by decide +kernel
theorem dX9_init_138 : decode cX9_init 138 = .ok (.aload_n 0, 1) := by decide +kernel
theorem dX9_init_139 : decode cX9_init 139 = .ok (.iconst 0, 1) := by decide +kernel
theorem dX9_init_140 : decode cX9_init 140 = .ok (.putfield 79, 3) := by decide +kernel
theorem dX9_init_143 : decode cX9_init 143 = .ok (.aload_n 0, 1) := by decide +kernel
theorem dX9_init_144 : decode cX9_init 144 = .ok (.iconst 0, 1) := by decide +kernel
theorem dX9_init_145 : decode cX9_init 145 = .ok (.putfield 82, 3) := by decide +kernel
theorem dX9_init_148 : decode cX9_init 148 = .ok (.aload_n 0, 1) := by decide +kernel
theorem dX9_init_149 : decode cX9_init 149 = .ok (.iconst 0, 1) := by decide +kernel
theorem dX9_init_150 : decode cX9_init 150 = .ok (.putfield 85, 3) := by decide +kernel
theorem dX9_init_153 : decode cX9_init 153 = .ok (.aload_n 0, 1) := by decide +kernel
theorem dX9_init_154 : decode cX9_init 154 = .ok (.iconst 0, 1) := by decide +kernel
theorem dX9_init_155 : decode cX9_init 155 = .ok (.putfield 88, 3) := by decide +kernel
theorem dX9_init_158 : decode cX9_init 158 = .ok (.return_, 1) := by decide +kernel
theorem dX9_pass_0 : decode cX9_pass 0 = .ok (.iload_n 1, 1) := by decide +kernel
theorem dX9_pass_1 : decode cX9_pass 1 = .ok (.iconst 1, 1) := by decide +kernel
theorem dX9_pass_2 : decode cX9_pass 2 = .ok (.sipush 2000, 3) := by decide +kernel
theorem dX9_pass_5 : decode cX9_pass 5 = .ok (.invokestatic 91, 3) := by decide +kernel
theorem dX9_pass_8 : decode cX9_pass 8 = .ok (.ifCond .ne 13, 3) := by decide +kernel
theorem dX9_pass_11 : decode cX9_pass 11 = .ok (.new 95, 3) := by decide +kernel
theorem dX9_pass_14 : decode cX9_pass 14 = .ok (.dup, 1) := by decide +kernel
theorem dX9_pass_15 : decode cX9_pass 15 = .ok (.ldc 97, 2) := by decide +kernel
theorem dX9_pass_17 : decode cX9_pass 17 = .ok (.invokespecial 99, 3) := by decide +kernel
theorem dX9_pass_20 : decode cX9_pass 20 = .ok (.athrow, 1) := by decide +kernel
theorem dX9_pass_21 : decode cX9_pass 21 = .ok (.aload_n 0, 1) := by decide +kernel
theorem dX9_pass_22 : decode cX9_pass 22 = .ok (.getfield 75, 3) := by decide +kernel
theorem dX9_pass_25 : decode cX9_pass 25 = .ok (.iload_n 1, 1) := by decide +kernel
theorem dX9_pass_26 : decode cX9_pass 26 = .ok (.iadd, 1) := by decide +kernel
theorem dX9_pass_27 : decode cX9_pass 27 = .ok (.ldc 102, 2) := by decide +kernel
theorem dX9_pass_29 : decode cX9_pass 29 = .ok (.if_icmp .le 13, 3) := by decide +kernel
theorem dX9_pass_32 : decode cX9_pass 32 = .ok (.new 103, 3) := by decide +kernel
theorem dX9_pass_35 : decode cX9_pass 35 = .ok (.dup, 1) := by decide +kernel
theorem dX9_pass_36 : decode cX9_pass 36 = .ok (.ldc 105, 2) := by decide +kernel
theorem dX9_pass_38 : decode cX9_pass 38 = .ok (.invokespecial 107, 3) := by decide +kernel
theorem dX9_pass_41 : decode cX9_pass 41 = .ok (.athrow, 1) := by decide +kernel
theorem dX9_pass_42 : decode cX9_pass 42 = .ok (.aload_n 0, 1) := by decide +kernel
theorem dX9_pass_43 : decode cX9_pass 43 = .ok (.dup, 1) := by decide +kernel
theorem dX9_pass_44 : decode cX9_pass 44 = .ok (.getfield 75, 3) := by decide +kernel
theorem dX9_pass_47 : decode cX9_pass 47 = .ok (.iload_n 1, 1) := by decide +kernel
theorem dX9_pass_48 : decode cX9_pass 48 = .ok (.iadd, 1) := by decide +kernel
theorem dX9_pass_49 : decode cX9_pass 49 = .ok (.putfield 75, 3) := by decide +kernel
theorem dX9_pass_52 : decode cX9_pass 52 = .ok (.aload_n 0, 1) := by decide +kernel
theorem dX9_pass_53 : decode cX9_pass 53 = .ok (.getfield 75, 3) := by decide +kernel
theorem dX9_pass_56 : decode cX9_pass 56 = .ok (.ireturn, 1) := by decide +kernel
theorem dX9_now_0 : decode cX9_now 0 = .ok (.aload_n 0, 1) := by decide +kernel
theorem dX9_now_1 : decode cX9_now 1 = .ok (.getfield 75, 3) := by decide +kernel
theorem dX9_now_4 : decode cX9_now 4 = .ok (.ireturn, 1) := by decide +kernel
theorem dX9_road_0 : decode cX9_road 0 = .ok (.iload_n 1, 1) := by decide +kernel
theorem dX9_road_1 : decode cX9_road 1 = .ok (.invokestatic 108, 3) := by decide +kernel
theorem dX9_road_4 : decode cX9_road 4 = .ok (.iload_n 2, 1) := by decide +kernel
theorem dX9_road_5 : decode cX9_road 5 = .ok (.invokestatic 108, 3) := by decide +kernel
theorem dX9_road_8 : decode cX9_road 8 = .ok (.iload_n 1, 1) := by decide +kernel
theorem dX9_road_9 : decode cX9_road 9 = .ok (.iload_n 2, 1) := by decide +kernel
theorem dX9_road_10 : decode cX9_road 10 = .ok (.if_icmp .eq 14, 3) := by decide +kernel
theorem dX9_road_13 : decode cX9_road 13 = .ok (.iload_n 3, 1) := by decide +kernel
theorem dX9_road_14 : decode cX9_road 14 = .ok (.iconst 0, 1) := by decide +kernel
theorem dX9_road_15 : decode cX9_road 15 = .ok (.sipush 200, 3) := by decide +kernel
theorem dX9_road_18 : decode cX9_road 18 = .ok (.invokestatic 91, 3) := by decide +kernel
theorem dX9_road_21 : decode cX9_road 21 = .ok (.ifCond .ne 13, 3) := by decide +kernel
theorem dX9_road_24 : decode cX9_road 24 = .ok (.new 95, 3) := by decide +kernel
theorem dX9_road_27 : decode cX9_road 27 = .ok (.dup, 1) := by decide +kernel
theorem dX9_road_28 : decode cX9_road 28 = .ok (.ldc 112, 2) := by decide +kernel
theorem dX9_road_30 : decode cX9_road 30 = .ok (.invokespecial 99, 3) := by decide +kernel
theorem dX9_road_33 : decode cX9_road 33 = .ok (.athrow, 1) := by decide +kernel
theorem dX9_road_34 : decode cX9_road 34 = .ok (.aload_n 0, 1) := by decide +kernel
theorem dX9_road_35 : decode cX9_road 35 = .ok (.getfield 10, 3) := by decide +kernel
theorem dX9_road_38 : decode cX9_road 38 = .ok (.iload_n 1, 1) := by decide +kernel
theorem dX9_road_39 : decode cX9_road 39 = .ok (.iload_n 2, 1) := by decide +kernel
theorem dX9_road_40 : decode cX9_road 40 = .ok (.invokevirtual 114, 3) := by decide +kernel
theorem dX9_road_43 : decode cX9_road 43 = .ok (.istore 4, 2) := by decide +kernel
theorem dX9_road_45 : decode cX9_road 45 = .ok (.aload_n 0, 1) := by decide +kernel
theorem dX9_road_46 : decode cX9_road 46 = .ok (.getfield 10, 3) := by decide +kernel
theorem dX9_road_49 : decode cX9_road 49 = .ok (.iload_n 1, 1) := by decide +kernel
theorem dX9_road_50 : decode cX9_road 50 = .ok (.iload_n 2, 1) := by decide +kernel
theorem dX9_road_51 : decode cX9_road 51 = .ok (.iload_n 3, 1) := by decide +kernel
theorem dX9_road_52 : decode cX9_road 52 = .ok (.invokevirtual 118, 3) := by decide +kernel
theorem dX9_road_55 : decode cX9_road 55 = .ok (.aload_n 0, 1) := by decide +kernel
theorem dX9_road_56 : decode cX9_road 56 = .ok (.invokevirtual 122, 3) := by decide +kernel
theorem dX9_road_59 : decode cX9_road 59 = .ok (.iload 4, 2) := by decide +kernel
theorem dX9_road_61 : decode cX9_road 61 = .ok (.ireturn, 1) := by decide +kernel
theorem dX9_distance_0 : decode cX9_distance 0 = .ok (.iload_n 1, 1) := by decide +kernel
theorem dX9_distance_1 : decode cX9_distance 1 = .ok (.invokestatic 108, 3) := by decide +kernel
theorem dX9_distance_4 : decode cX9_distance 4 = .ok (.iload_n 2, 1) := by decide +kernel
theorem dX9_distance_5 : decode cX9_distance 5 = .ok (.invokestatic 108, 3) := by decide +kernel
theorem dX9_distance_8 : decode cX9_distance 8 = .ok (.aload_n 0, 1) := by decide +kernel
theorem dX9_distance_9 : decode cX9_distance 9 = .ok (.getfield 10, 3) := by decide +kernel
theorem dX9_distance_12 : decode cX9_distance 12 = .ok (.iload_n 1, 1) := by decide +kernel
theorem dX9_distance_13 : decode cX9_distance 13 = .ok (.iload_n 2, 1) := by decide +kernel
theorem dX9_distance_14 : decode cX9_distance 14 = .ok (.invokevirtual 125, 3) := by decide +kernel
theorem dX9_distance_17 : decode cX9_distance 17 = .ok (.ireturn, 1) := by decide +kernel
theorem dX9_setPause_0 : decode cX9_setPause 0 = .ok (.iload_n 1, 1) := by decide +kernel
theorem dX9_setPause_1 : decode cX9_setPause 1 = .ok (.iconst 0, 1) := by decide +kernel
theorem dX9_setPause_2 : decode cX9_setPause 2 = .ok (.sipush 500, 3) := by decide +kernel
theorem dX9_setPause_5 : decode cX9_setPause 5 = .ok (.invokestatic 91, 3) := by decide +kernel
theorem dX9_setPause_8 : decode cX9_setPause 8 = .ok (.ifCond .ne 13, 3) := by decide +kernel
theorem dX9_setPause_11 : decode cX9_setPause 11 = .ok (.new 95, 3) := by decide +kernel
theorem dX9_setPause_14 : decode cX9_setPause 14 = .ok (.dup, 1) := by decide +kernel
theorem dX9_setPause_15 : decode cX9_setPause 15 = .ok (.ldc 128, 2) := by decide +kernel
theorem dX9_setPause_17 : decode cX9_setPause 17 = .ok (.invokespecial 99, 3) := by decide +kernel
theorem dX9_setPause_20 : decode cX9_setPause 20 = .ok (.athrow, 1) := by decide +kernel
theorem dX9_setPause_21 : decode cX9_setPause 21 = .ok (.aload_n 0, 1) := by decide +kernel
theorem dX9_setPause_22 : decode cX9_setPause 22 = .ok (.getfield 10, 3) := by decide +kernel
theorem dX9_setPause_25 : decode cX9_setPause 25 = .ok (.getfield 130, 3) := by decide +kernel
theorem dX9_setPause_28 : decode cX9_setPause 28 = .ok (.istore_n 2, 1) := by decide +kernel
theorem dX9_setPause_29 : decode cX9_setPause 29 = .ok (.aload_n 0, 1) := by decide +kernel
theorem dX9_setPause_30 : decode cX9_setPause 30 = .ok (.getfield 10, 3) := by decide +kernel
theorem dX9_setPause_33 : decode cX9_setPause 33 = .ok (.iload_n 1, 1) := by decide +kernel
theorem dX9_setPause_34 : decode cX9_setPause 34 = .ok (.putfield 130, 3) := by decide +kernel
theorem dX9_setPause_37 : decode cX9_setPause 37 = .ok (.aload_n 0, 1) := by decide +kernel
theorem dX9_setPause_38 : decode cX9_setPause 38 = .ok (.invokevirtual 122, 3) := by decide +kernel
theorem dX9_setPause_41 : decode cX9_setPause 41 = .ok (.iload_n 2, 1) := by decide +kernel
theorem dX9_setPause_42 : decode cX9_setPause 42 = .ok (.ireturn, 1) := by decide +kernel
theorem dX9_setRate_0 : decode cX9_setRate 0 = .ok (.iload_n 1, 1) := by decide +kernel
theorem dX9_setRate_1 : decode cX9_setRate 1 = .ok (.invokestatic 133, 3) := by decide +kernel
theorem dX9_setRate_4 : decode cX9_setRate 4 = .ok (.iload_n 2, 1) := by decide +kernel
theorem dX9_setRate_5 : decode cX9_setRate 5 = .ok (.iconst 0, 1) := by decide +kernel
theorem dX9_setRate_6 : decode cX9_setRate 6 = .ok (.bipush 50, 2) := by decide +kernel
theorem dX9_setRate_8 : decode cX9_setRate 8 = .ok (.invokestatic 91, 3) := by decide +kernel
theorem dX9_setRate_11 : decode cX9_setRate 11 = .ok (.ifCond .ne 13, 3) := by decide +kernel
theorem dX9_setRate_14 : decode cX9_setRate 14 = .ok (.new 95, 3) := by decide +kernel
theorem dX9_setRate_17 : decode cX9_setRate 17 = .ok (.dup, 1) := by decide +kernel
theorem dX9_setRate_18 : decode cX9_setRate 18 = .ok (.ldc 136, 2) := by decide +kernel
theorem dX9_setRate_20 : decode cX9_setRate 20 = .ok (.invokespecial 99, 3) := by decide +kernel
theorem dX9_setRate_23 : decode cX9_setRate 23 = .ok (.athrow, 1) := by decide +kernel
theorem dX9_setRate_24 : decode cX9_setRate 24 = .ok (.aload_n 0, 1) := by decide +kernel
theorem dX9_setRate_25 : decode cX9_setRate 25 = .ok (.getfield 16, 3) := by decide +kernel
theorem dX9_setRate_28 : decode cX9_setRate 28 = .ok (.iload_n 1, 1) := by decide +kernel
theorem dX9_setRate_29 : decode cX9_setRate 29 = .ok (.iaload, 1) := by decide +kernel
theorem dX9_setRate_30 : decode cX9_setRate 30 = .ok (.istore_n 3, 1) := by decide +kernel
theorem dX9_setRate_31 : decode cX9_setRate 31 = .ok (.aload_n 0, 1) := by decide +kernel
theorem dX9_setRate_32 : decode cX9_setRate 32 = .ok (.getfield 16, 3) := by decide +kernel
theorem dX9_setRate_35 : decode cX9_setRate 35 = .ok (.iload_n 1, 1) := by decide +kernel
theorem dX9_setRate_36 : decode cX9_setRate 36 = .ok (.iload_n 2, 1) := by decide +kernel
theorem dX9_setRate_37 : decode cX9_setRate 37 = .ok (.iastore, 1) := by decide +kernel
theorem dX9_setRate_38 : decode cX9_setRate 38 = .ok (.iload_n 3, 1) := by decide +kernel
theorem dX9_setRate_39 : decode cX9_setRate 39 = .ok (.ireturn, 1) := by decide +kernel
theorem dX9_spell_0 : decode cX9_spell 0 = .ok (.iload_n 1, 1) := by decide +kernel
theorem dX9_spell_1 : decode cX9_spell 1 = .ok (.invokestatic 138, 3) := by decide +kernel
theorem dX9_spell_4 : decode cX9_spell 4 = .ok (.aload_n 0, 1) := by decide +kernel
theorem dX9_spell_5 : decode cX9_spell 5 = .ok (.invokevirtual 141, 3) := by decide +kernel
theorem dX9_spell_8 : decode cX9_spell 8 = .ok (.aload_n 0, 1) := by decide +kernel
theorem dX9_spell_9 : decode cX9_spell 9 = .ok (.getfield 23, 3) := by decide +kernel
theorem dX9_spell_12 : decode cX9_spell 12 = .ok (.iload_n 1, 1) := by decide +kernel
theorem dX9_spell_13 : decode cX9_spell 13 = .ok (.aload_n 0, 1) := by decide +kernel
theorem dX9_spell_14 : decode cX9_spell 14 = .ok (.getfield 23, 3) := by decide +kernel
theorem dX9_spell_17 : decode cX9_spell 17 = .ok (.getfield 144, 3) := by decide +kernel
theorem dX9_spell_20 : decode cX9_spell 20 = .ok (.invokevirtual 147, 3) := by decide +kernel
theorem dX9_spell_23 : decode cX9_spell 23 = .ok (.aload_n 0, 1) := by decide +kernel
theorem dX9_spell_24 : decode cX9_spell 24 = .ok (.getfield 23, 3) := by decide +kernel
theorem dX9_spell_27 : decode cX9_spell 27 = .ok (.invokevirtual 151, 3) := by decide +kernel
theorem dX9_spell_30 : decode cX9_spell 30 = .ok (.ireturn, 1) := by decide +kernel
theorem dX9_insert_0 : decode cX9_insert 0 = .ok (.iload_n 1, 1) := by decide +kernel
theorem dX9_insert_1 : decode cX9_insert 1 = .ok (.invokestatic 138, 3) := by decide +kernel
theorem dX9_insert_4 : decode cX9_insert 4 = .ok (.iload_n 2, 1) := by decide +kernel
theorem dX9_insert_5 : decode cX9_insert 5 = .ok (.iconst 0, 1) := by decide +kernel
theorem dX9_insert_6 : decode cX9_insert 6 = .ok (.aload_n 0, 1) := by decide +kernel
theorem dX9_insert_7 : decode cX9_insert 7 = .ok (.getfield 23, 3) := by decide +kernel
theorem dX9_insert_10 : decode cX9_insert 10 = .ok (.getfield 144, 3) := by decide +kernel
theorem dX9_insert_13 : decode cX9_insert 13 = .ok (.iconst 1, 1) := by decide +kernel
theorem dX9_insert_14 : decode cX9_insert 14 = .ok (.isub, 1) := by decide +kernel
theorem dX9_insert_15 : decode cX9_insert 15 = .ok (.invokestatic 91, 3) := by decide +kernel
theorem dX9_insert_18 : decode cX9_insert 18 = .ok (.ifCond .ne 13, 3) := by decide +kernel
theorem dX9_insert_21 : decode cX9_insert 21 = .ok (.new 95, 3) := by decide +kernel
theorem dX9_insert_24 : decode cX9_insert 24 = .ok (.dup, 1) := by decide +kernel
theorem dX9_insert_25 : decode cX9_insert 25 = .ok (.ldc 155, 2) := by decide +kernel
theorem dX9_insert_27 : decode cX9_insert 27 = .ok (.invokespecial 99, 3) := by decide +kernel
theorem dX9_insert_30 : decode cX9_insert 30 = .ok (.athrow, 1) := by decide +kernel
theorem dX9_insert_31 : decode cX9_insert 31 = .ok (.aload_n 0, 1) := by decide +kernel
theorem dX9_insert_32 : decode cX9_insert 32 = .ok (.invokevirtual 141, 3) := by decide +kernel
theorem dX9_insert_35 : decode cX9_insert 35 = .ok (.aload_n 0, 1) := by decide +kernel
theorem dX9_insert_36 : decode cX9_insert 36 = .ok (.getfield 23, 3) := by decide +kernel
theorem dX9_insert_39 : decode cX9_insert 39 = .ok (.iload_n 1, 1) := by decide +kernel
theorem dX9_insert_40 : decode cX9_insert 40 = .ok (.iload_n 2, 1) := by decide +kernel
theorem dX9_insert_41 : decode cX9_insert 41 = .ok (.invokevirtual 147, 3) := by decide +kernel
theorem dX9_insert_44 : decode cX9_insert 44 = .ok (.aload_n 0, 1) := by decide +kernel
theorem dX9_insert_45 : decode cX9_insert 45 = .ok (.getfield 23, 3) := by decide +kernel
theorem dX9_insert_48 : decode cX9_insert 48 = .ok (.invokevirtual 151, 3) := by decide +kernel
theorem dX9_insert_51 : decode cX9_insert 51 = .ok (.ireturn, 1) := by decide +kernel
theorem dX9_mirror_0 : decode cX9_mirror 0 = .ok (.aload_n 0, 1) := by decide +kernel
theorem dX9_mirror_1 : decode cX9_mirror 1 = .ok (.getfield 23, 3) := by decide +kernel
theorem dX9_mirror_4 : decode cX9_mirror 4 = .ok (.invokevirtual 157, 3) := by decide +kernel
theorem dX9_mirror_7 : decode cX9_mirror 7 = .ok (.aload_n 0, 1) := by decide +kernel
theorem dX9_mirror_8 : decode cX9_mirror 8 = .ok (.getfield 23, 3) := by decide +kernel
theorem dX9_mirror_11 : decode cX9_mirror 11 = .ok (.getfield 144, 3) := by decide +kernel
theorem dX9_mirror_14 : decode cX9_mirror 14 = .ok (.ireturn, 1) := by decide +kernel
theorem dX9_clearSpelled_0 : decode cX9_clearSpelled 0 = .ok (.aload_n 0, 1) := by decide +kernel
theorem dX9_clearSpelled_1 : decode cX9_clearSpelled 1 = .ok (.getfield 23, 3) := by decide +kernel
theorem dX9_clearSpelled_4 : decode cX9_clearSpelled 4 = .ok (.getfield 144, 3) := by decide +kernel
theorem dX9_clearSpelled_7 : decode cX9_clearSpelled 7 = .ok (.istore_n 1, 1) := by decide +kernel
theorem dX9_clearSpelled_8 : decode cX9_clearSpelled 8 = .ok (.aload_n 0, 1) := by decide +kernel
theorem dX9_clearSpelled_9 : decode cX9_clearSpelled 9 = .ok (.getfield 23, 3) := by decide +kernel
theorem dX9_clearSpelled_12 : decode cX9_clearSpelled 12 = .ok (.iconst 0, 1) := by decide +kernel
theorem dX9_clearSpelled_13 : decode cX9_clearSpelled 13 = .ok (.putfield 144, 3) := by decide +kernel
theorem dX9_clearSpelled_16 : decode cX9_clearSpelled 16 = .ok (.iload_n 1, 1) := by decide +kernel
theorem dX9_clearSpelled_17 : decode cX9_clearSpelled 17 = .ok (.ireturn, 1) := by decide +kernel
theorem dX9_charAt_0 : decode cX9_charAt 0 = .ok (.aload_n 0, 1) := by decide +kernel
theorem dX9_charAt_1 : decode cX9_charAt 1 = .ok (.getfield 23, 3) := by decide +kernel
theorem dX9_charAt_4 : decode cX9_charAt 4 = .ok (.iload_n 1, 1) := by decide +kernel
theorem dX9_charAt_5 : decode cX9_charAt 5 = .ok (.invokevirtual 160, 3) := by decide +kernel
theorem dX9_charAt_8 : decode cX9_charAt 8 = .ok (.istore_n 2, 1) := by decide +kernel
theorem dX9_charAt_9 : decode cX9_charAt 9 = .ok (.iload_n 2, 1) := by decide +kernel
theorem dX9_charAt_10 : decode cX9_charAt 10 = .ok (.iconst (-1), 1) := by decide +kernel
theorem dX9_charAt_11 : decode cX9_charAt 11 = .ok (.if_icmp .ne 13, 3) := by decide +kernel
theorem dX9_charAt_14 : decode cX9_charAt 14 = .ok (.new 164, 3) := by decide +kernel
theorem dX9_charAt_17 : decode cX9_charAt 17 = .ok (.dup, 1) := by decide +kernel
theorem dX9_charAt_18 : decode cX9_charAt 18 = .ok (.ldc 166, 2) := by decide +kernel
theorem dX9_charAt_20 : decode cX9_charAt 20 = .ok (.invokespecial 168, 3) := by decide +kernel
theorem dX9_charAt_23 : decode cX9_charAt 23 = .ok (.athrow, 1) := by decide +kernel
theorem dX9_charAt_24 : decode cX9_charAt 24 = .ok (.iload_n 2, 1) := by decide +kernel
theorem dX9_charAt_25 : decode cX9_charAt 25 = .ok (.i2c, 1) := by decide +kernel
theorem dX9_charAt_26 : decode cX9_charAt 26 = .ok (.ireturn, 1) := by decide +kernel
theorem dX9_alike_0 : decode cX9_alike 0 = .ok (.iload_n 1, 1) := by decide +kernel
theorem dX9_alike_1 : decode cX9_alike 1 = .ok (.invokestatic 138, 3) := by decide +kernel
theorem dX9_alike_4 : decode cX9_alike 4 = .ok (.iload_n 2, 1) := by decide +kernel
theorem dX9_alike_5 : decode cX9_alike 5 = .ok (.invokestatic 138, 3) := by decide +kernel
theorem dX9_alike_8 : decode cX9_alike 8 = .ok (.iload_n 1, 1) := by decide +kernel
theorem dX9_alike_9 : decode cX9_alike 9 = .ok (.iload_n 2, 1) := by decide +kernel
theorem dX9_alike_10 : decode cX9_alike 10 = .ok (.if_icmp .eq 15, 3) := by decide +kernel
theorem dX9_alike_13 : decode cX9_alike 13 = .ok (.iload_n 1, 1) := by decide +kernel
theorem dX9_alike_14 : decode cX9_alike 14 = .ok (.bipush 14, 2) := by decide +kernel
theorem dX9_alike_16 : decode cX9_alike 16 = .ok (.if_icmp .eq 9, 3) := by decide +kernel
theorem dX9_alike_19 : decode cX9_alike 19 = .ok (.iload_n 2, 1) := by decide +kernel
theorem dX9_alike_20 : decode cX9_alike 20 = .ok (.bipush 14, 2) := by decide +kernel
theorem dX9_alike_22 : decode cX9_alike 22 = .ok (.if_icmp .ne 13, 3) := by decide +kernel
theorem dX9_alike_25 : decode cX9_alike 25 = .ok (.new 95, 3) := by decide +kernel
theorem dX9_alike_28 : decode cX9_alike 28 = .ok (.dup, 1) := by decide +kernel
theorem dX9_alike_29 : decode cX9_alike 29 = .ok (.ldc 169, 2) := by decide +kernel
theorem dX9_alike_31 : decode cX9_alike 31 = .ok (.invokespecial 99, 3) := by decide +kernel
theorem dX9_alike_34 : decode cX9_alike 34 = .ok (.athrow, 1) := by decide +kernel
theorem dX9_alike_35 : decode cX9_alike 35 = .ok (.aload_n 0, 1) := by decide +kernel
theorem dX9_alike_36 : decode cX9_alike 36 = .ok (.getfield 30, 3) := by decide +kernel
theorem dX9_alike_39 : decode cX9_alike 39 = .ok (.iload_n 1, 1) := by decide +kernel
theorem dX9_alike_40 : decode cX9_alike 40 = .ok (.iload_n 2, 1) := by decide +kernel
theorem dX9_alike_41 : decode cX9_alike 41 = .ok (.invokevirtual 171, 3) := by decide +kernel
theorem dX9_alike_44 : decode cX9_alike 44 = .ok (.aload_n 0, 1) := by decide +kernel
theorem dX9_alike_45 : decode cX9_alike 45 = .ok (.invokevirtual 174, 3) := by decide +kernel
theorem dX9_alike_48 : decode cX9_alike 48 = .ok (.aload_n 0, 1) := by decide +kernel
theorem dX9_alike_49 : decode cX9_alike 49 = .ok (.getfield 30, 3) := by decide +kernel
theorem dX9_alike_52 : decode cX9_alike 52 = .ok (.iload_n 1, 1) := by decide +kernel
theorem dX9_alike_53 : decode cX9_alike 53 = .ok (.iload_n 2, 1) := by decide +kernel
theorem dX9_alike_54 : decode cX9_alike 54 = .ok (.invokevirtual 177, 3) := by decide +kernel
theorem dX9_alike_57 : decode cX9_alike 57 = .ok (.ireturn, 1) := by decide +kernel
theorem dX9_register_0 : decode cX9_register 0 = .ok (.iload_n 1, 1) := by decide +kernel
theorem dX9_register_1 : decode cX9_register 1 = .ok (.invokestatic 181, 3) := by decide +kernel
theorem dX9_register_4 : decode cX9_register 4 = .ok (.iload_n 2, 1) := by decide +kernel
theorem dX9_register_5 : decode cX9_register 5 = .ok (.invokestatic 133, 3) := by decide +kernel
theorem dX9_register_8 : decode cX9_register 8 = .ok (.aload_n 0, 1) := by decide +kernel
theorem dX9_register_9 : decode cX9_register 9 = .ok (.getfield 23, 3) := by decide +kernel
theorem dX9_register_12 : decode cX9_register 12 = .ok (.getfield 144, 3) := by decide +kernel
theorem dX9_register_15 : decode cX9_register 15 = .ok (.ifCond .eq 33, 3) := by decide +kernel
theorem dX9_register_18 : decode cX9_register 18 = .ok (.aload_n 0, 1) := by decide +kernel
theorem dX9_register_19 : decode cX9_register 19 = .ok (.getfield 23, 3) := by decide +kernel
theorem dX9_register_22 : decode cX9_register 22 = .ok (.invokevirtual 184, 3) := by decide +kernel
theorem dX9_register_25 : decode cX9_register 25 = .ok (.ifCond .ne 23, 3) := by decide +kernel
theorem dX9_register_28 : decode cX9_register 28 = .ok (.aload_n 0, 1) := by decide +kernel
theorem dX9_register_29 : decode cX9_register 29 = .ok (.aload_n 0, 1) := by decide +kernel
theorem dX9_register_30 : decode cX9_register 30 = .ok (.getfield 23, 3) := by decide +kernel
theorem dX9_register_33 : decode cX9_register 33 = .ok (.invokevirtual 188, 3) := by decide +kernel
theorem dX9_register_36 : decode cX9_register 36 = .ok (.ifCond .ne 12, 3) := by decide +kernel
theorem dX9_register_39 : decode cX9_register 39 = .ok (.aload_n 0, 1) := by decide +kernel
theorem dX9_register_40 : decode cX9_register 40 = .ok (.getfield 79, 3) := by decide +kernel
theorem dX9_register_43 : decode cX9_register 43 = .ok (.bipush 10, 2) := by decide +kernel
theorem dX9_register_45 : decode cX9_register 45 = .ok (.if_icmp .lt 13, 3) := by decide +kernel
theorem dX9_register_48 : decode cX9_register 48 = .ok (.new 103, 3) := by decide +kernel
theorem dX9_register_51 : decode cX9_register 51 = .ok (.dup, 1) := by decide +kernel
theorem dX9_register_52 : decode cX9_register 52 = .ok (.ldc 192, 2) := by decide +kernel
theorem dX9_register_54 : decode cX9_register 54 = .ok (.invokespecial 107, 3) := by decide +kernel
theorem dX9_register_57 : decode cX9_register 57 = .ok (.athrow, 1) := by decide +kernel
theorem dX9_register_58 : decode cX9_register 58 = .ok (.new 34, 3) := by decide +kernel
theorem dX9_register_61 : decode cX9_register 61 = .ok (.dup, 1) := by decide +kernel
theorem dX9_register_62 : decode cX9_register 62 = .ok (.aload_n 0, 1) := by decide +kernel
theorem dX9_register_63 : decode cX9_register 63 = .ok (.getfield 79, 3) := by decide +kernel
theorem dX9_register_66 : decode cX9_register 66 = .ok (.aload_n 0, 1) := by decide +kernel
theorem dX9_register_67 : decode cX9_register 67 = .ok (.getfield 23, 3) := by decide +kernel
theorem dX9_register_70 : decode cX9_register 70 = .ok (.invokevirtual 194, 3) := by decide +kernel
theorem dX9_register_73 : decode cX9_register 73 = .ok (.iload_n 2, 1) := by decide +kernel
theorem dX9_register_74 : decode cX9_register 74 = .ok (.new 198, 3) := by decide +kernel
theorem dX9_register_77 : decode cX9_register 77 = .ok (.dup, 1) := by decide +kernel
theorem dX9_register_78 : decode cX9_register 78 = .ok (.iload_n 1, 1) := by decide +kernel
theorem dX9_register_79 : decode cX9_register 79 = .ok (.aload_n 0, 1) := by decide +kernel
theorem dX9_register_80 : decode cX9_register 80 = .ok (.getfield 75, 3) := by decide +kernel
theorem dX9_register_83 : decode cX9_register 83 = .ok (.aconst_null, 1) := by decide +kernel
theorem dX9_register_84 : decode cX9_register 84 = .ok (.invokespecial 200, 3) := by decide +kernel
theorem dX9_register_87 : decode cX9_register 87 = .ok (.invokespecial 203, 3) := by decide +kernel
theorem dX9_register_90 : decode cX9_register 90 = .ok (.astore_n 3, 1) := by decide +kernel
theorem dX9_register_91 : decode cX9_register 91 = .ok (.aload_n 0, 1) := by decide +kernel
theorem dX9_register_92 : decode cX9_register 92 = .ok (.getfield 36, 3) := by decide +kernel
theorem dX9_register_95 : decode cX9_register 95 = .ok (.aload_n 0, 1) := by decide +kernel
theorem dX9_register_96 : decode cX9_register 96 = .ok (.getfield 79, 3) := by decide +kernel
theorem dX9_register_99 : decode cX9_register 99 = .ok (.aload_n 3, 1) := by decide +kernel
theorem dX9_register_100 : decode cX9_register 100 = .ok (.aastore, 1) := by decide +kernel
theorem dX9_register_101 : decode cX9_register 101 = .ok (.aload_n 0, 1) := by decide +kernel
theorem dX9_register_102 : decode cX9_register 102 = .ok (.aload_n 3, 1) := by decide +kernel
theorem dX9_register_103 : decode cX9_register 103 = .ok (.invokevirtual 206, 3) := by decide +kernel
theorem dX9_register_106 : decode cX9_register 106 = .ok (.aload_n 0, 1) := by decide +kernel
theorem dX9_register_107 : decode cX9_register 107 = .ok (.dup, 1) := by decide +kernel
theorem dX9_register_108 : decode cX9_register 108 = .ok (.getfield 79, 3) := by decide +kernel
theorem dX9_register_111 : decode cX9_register 111 = .ok (.iconst 1, 1) := by decide +kernel
theorem dX9_register_112 : decode cX9_register 112 = .ok (.iadd, 1) := by decide +kernel
theorem dX9_register_113 : decode cX9_register 113 = .ok (.putfield 79, 3) := by decide +kernel
theorem dX9_register_116 : decode cX9_register 116 = .ok (.aload_n 0, 1) := by decide +kernel
theorem dX9_register_117 : decode cX9_register 117 = .ok (.invokevirtual 174, 3) := by decide +kernel
theorem dX9_register_120 : decode cX9_register 120 = .ok (.aload_n 3, 1) := by decide +kernel
theorem dX9_register_121 : decode cX9_register 121 = .ok (.getfield 210, 3) := by decide +kernel
theorem dX9_register_124 : decode cX9_register 124 = .ok (.ireturn, 1) := by decide +kernel
theorem dX9_sell_0 : decode cX9_sell 0 = .ok (.aload_n 0, 1) := by decide +kernel
theorem dX9_sell_1 : decode cX9_sell 1 = .ok (.iload_n 1, 1) := by decide +kernel
theorem dX9_sell_2 : decode cX9_sell 2 = .ok (.invokevirtual 213, 3) := by decide +kernel
theorem dX9_sell_5 : decode cX9_sell 5 = .ok (.astore_n 3, 1) := by decide +kernel
theorem dX9_sell_6 : decode cX9_sell 6 = .ok (.iload_n 2, 1) := by decide +kernel
theorem dX9_sell_7 : decode cX9_sell 7 = .ok (.invokestatic 181, 3) := by decide +kernel
theorem dX9_sell_10 : decode cX9_sell 10 = .ok (.aload_n 3, 1) := by decide +kernel
theorem dX9_sell_11 : decode cX9_sell 11 = .ok (.getfield 217, 3) := by decide +kernel
theorem dX9_sell_14 : decode cX9_sell 14 = .ok (.getfield 221, 3) := by decide +kernel
theorem dX9_sell_17 : decode cX9_sell 17 = .ok (.istore 4, 2) := by decide +kernel
theorem dX9_sell_19 : decode cX9_sell 19 = .ok (.aload_n 3, 1) := by decide +kernel
theorem dX9_sell_20 : decode cX9_sell 20 = .ok (.iload_n 2, 1) := by decide +kernel
theorem dX9_sell_21 : decode cX9_sell 21 = .ok (.aload_n 0, 1) := by decide +kernel
theorem dX9_sell_22 : decode cX9_sell 22 = .ok (.getfield 75, 3) := by decide +kernel
theorem dX9_sell_25 : decode cX9_sell 25 = .ok (.invokevirtual 224, 3) := by decide +kernel
theorem dX9_sell_28 : decode cX9_sell 28 = .ok (.iload 4, 2) := by decide +kernel
theorem dX9_sell_30 : decode cX9_sell 30 = .ok (.ireturn, 1) := by decide +kernel
theorem dX9_plates_0 : decode cX9_plates 0 = .ok (.aload_n 0, 1) := by decide +kernel
theorem dX9_plates_1 : decode cX9_plates 1 = .ok (.getfield 79, 3) := by decide +kernel
theorem dX9_plates_4 : decode cX9_plates 4 = .ok (.ireturn, 1) := by decide +kernel
theorem dX9_plateAt_0 : decode cX9_plateAt 0 = .ok (.iload_n 1, 1) := by decide +kernel
theorem dX9_plateAt_1 : decode cX9_plateAt 1 = .ok (.iconst 0, 1) := by decide +kernel
theorem dX9_plateAt_2 : decode cX9_plateAt 2 = .ok (.aload_n 0, 1) := by decide +kernel
theorem dX9_plateAt_3 : decode cX9_plateAt 3 = .ok (.getfield 79, 3) := by decide +kernel
theorem dX9_plateAt_6 : decode cX9_plateAt 6 = .ok (.iconst 1, 1) := by decide +kernel
theorem dX9_plateAt_7 : decode cX9_plateAt 7 = .ok (.isub, 1) := by decide +kernel
theorem dX9_plateAt_8 : decode cX9_plateAt 8 = .ok (.invokestatic 91, 3) := by decide +kernel
theorem dX9_plateAt_11 : decode cX9_plateAt 11 = .ok (.ifCond .ne 13, 3) := by decide +kernel
theorem dX9_plateAt_14 : decode cX9_plateAt 14 = .ok (.new 164, 3) := by decide +kernel
theorem dX9_plateAt_17 : decode cX9_plateAt 17 = .ok (.dup, 1) := by decide +kernel
theorem dX9_plateAt_18 : decode cX9_plateAt 18 = .ok (.ldc 227, 2) := by decide +kernel
theorem dX9_plateAt_20 : decode cX9_plateAt 20 = .ok (.invokespecial 168, 3) := by decide +kernel
theorem dX9_plateAt_23 : decode cX9_plateAt 23 = .ok (.athrow, 1) := by decide +kernel
theorem dX9_plateAt_24 : decode cX9_plateAt 24 = .ok (.aload_n 0, 1) := by decide +kernel
theorem dX9_plateAt_25 : decode cX9_plateAt 25 = .ok (.getfield 40, 3) := by decide +kernel
theorem dX9_plateAt_28 : decode cX9_plateAt 28 = .ok (.iload_n 1, 1) := by decide +kernel
theorem dX9_plateAt_29 : decode cX9_plateAt 29 = .ok (.aaload, 1) := by decide +kernel
theorem dX9_plateAt_30 : decode cX9_plateAt 30 = .ok (.getfield 210, 3) := by decide +kernel
theorem dX9_plateAt_33 : decode cX9_plateAt 33 = .ok (.ireturn, 1) := by decide +kernel
theorem dX9_holder_0 : decode cX9_holder 0 = .ok (.aload_n 0, 1) := by decide +kernel
theorem dX9_holder_1 : decode cX9_holder 1 = .ok (.iload_n 1, 1) := by decide +kernel
theorem dX9_holder_2 : decode cX9_holder 2 = .ok (.invokevirtual 213, 3) := by decide +kernel
theorem dX9_holder_5 : decode cX9_holder 5 = .ok (.astore_n 3, 1) := by decide +kernel
theorem dX9_holder_6 : decode cX9_holder 6 = .ok (.aload_n 0, 1) := by decide +kernel
theorem dX9_holder_7 : decode cX9_holder 7 = .ok (.iload_n 2, 1) := by decide +kernel
theorem dX9_holder_8 : decode cX9_holder 8 = .ok (.invokevirtual 229, 3) := by decide +kernel
theorem dX9_holder_11 : decode cX9_holder 11 = .ok (.aload_n 3, 1) := by decide +kernel
theorem dX9_holder_12 : decode cX9_holder 12 = .ok (.iload_n 2, 1) := by decide +kernel
theorem dX9_holder_13 : decode cX9_holder 13 = .ok (.invokevirtual 232, 3) := by decide +kernel
theorem dX9_holder_16 : decode cX9_holder 16 = .ok (.ireturn, 1) := by decide +kernel
theorem dX9_read_0 : decode cX9_read 0 = .ok (.iload_n 1, 1) := by decide +kernel
theorem dX9_read_1 : decode cX9_read 1 = .ok (.invokestatic 108, 3) := by decide +kernel
theorem dX9_read_4 : decode cX9_read 4 = .ok (.aload_n 0, 1) := by decide +kernel
theorem dX9_read_5 : decode cX9_read 5 = .ok (.iload_n 2, 1) := by decide +kernel
theorem dX9_read_6 : decode cX9_read 6 = .ok (.invokevirtual 229, 3) := by decide +kernel
theorem dX9_read_9 : decode cX9_read 9 = .ok (.aload_n 0, 1) := by decide +kernel
theorem dX9_read_10 : decode cX9_read 10 = .ok (.getfield 23, 3) := by decide +kernel
theorem dX9_read_13 : decode cX9_read 13 = .ok (.getfield 144, 3) := by decide +kernel
theorem dX9_read_16 : decode cX9_read 16 = .ok (.ifCond .eq 12, 3) := by decide +kernel
theorem dX9_read_19 : decode cX9_read 19 = .ok (.aload_n 0, 1) := by decide +kernel
theorem dX9_read_20 : decode cX9_read 20 = .ok (.getfield 82, 3) := by decide +kernel
theorem dX9_read_23 : decode cX9_read 23 = .ok (.bipush 60, 2) := by decide +kernel
theorem dX9_read_25 : decode cX9_read 25 = .ok (.if_icmp .lt 13, 3) := by decide +kernel
theorem dX9_read_28 : decode cX9_read 28 = .ok (.new 103, 3) := by decide +kernel
theorem dX9_read_31 : decode cX9_read 31 = .ok (.dup, 1) := by decide +kernel
theorem dX9_read_32 : decode cX9_read 32 = .ok (.ldc 235, 2) := by decide +kernel
theorem dX9_read_34 : decode cX9_read 34 = .ok (.invokespecial 107, 3) := by decide +kernel
theorem dX9_read_37 : decode cX9_read 37 = .ok (.athrow, 1) := by decide +kernel
theorem dX9_read_38 : decode cX9_read 38 = .ok (.new 43, 3) := by decide +kernel
theorem dX9_read_41 : decode cX9_read 41 = .ok (.dup, 1) := by decide +kernel
theorem dX9_read_42 : decode cX9_read 42 = .ok (.aload_n 0, 1) := by decide +kernel
theorem dX9_read_43 : decode cX9_read 43 = .ok (.getfield 82, 3) := by decide +kernel
theorem dX9_read_46 : decode cX9_read 46 = .ok (.iload_n 1, 1) := by decide +kernel
theorem dX9_read_47 : decode cX9_read 47 = .ok (.iload_n 2, 1) := by decide +kernel
theorem dX9_read_48 : decode cX9_read 48 = .ok (.aload_n 0, 1) := by decide +kernel
theorem dX9_read_49 : decode cX9_read 49 = .ok (.getfield 23, 3) := by decide +kernel
theorem dX9_read_52 : decode cX9_read 52 = .ok (.invokevirtual 194, 3) := by decide +kernel
theorem dX9_read_55 : decode cX9_read 55 = .ok (.invokespecial 237, 3) := by decide +kernel
theorem dX9_read_58 : decode cX9_read 58 = .ok (.astore_n 3, 1) := by decide +kernel
theorem dX9_read_59 : decode cX9_read 59 = .ok (.aload_n 0, 1) := by decide +kernel
theorem dX9_read_60 : decode cX9_read 60 = .ok (.getfield 45, 3) := by decide +kernel
theorem dX9_read_63 : decode cX9_read 63 = .ok (.aload_n 0, 1) := by decide +kernel
theorem dX9_read_64 : decode cX9_read 64 = .ok (.getfield 82, 3) := by decide +kernel
theorem dX9_read_67 : decode cX9_read 67 = .ok (.aload_n 3, 1) := by decide +kernel
theorem dX9_read_68 : decode cX9_read 68 = .ok (.aastore, 1) := by decide +kernel
theorem dX9_read_69 : decode cX9_read 69 = .ok (.aload_n 0, 1) := by decide +kernel
theorem dX9_read_70 : decode cX9_read 70 = .ok (.dup, 1) := by decide +kernel
theorem dX9_read_71 : decode cX9_read 71 = .ok (.getfield 82, 3) := by decide +kernel
theorem dX9_read_74 : decode cX9_read 74 = .ok (.iconst 1, 1) := by decide +kernel
theorem dX9_read_75 : decode cX9_read 75 = .ok (.iadd, 1) := by decide +kernel
theorem dX9_read_76 : decode cX9_read 76 = .ok (.putfield 82, 3) := by decide +kernel
theorem dX9_read_79 : decode cX9_read 79 = .ok (.aload_n 0, 1) := by decide +kernel
theorem dX9_read_80 : decode cX9_read 80 = .ok (.aload_n 3, 1) := by decide +kernel
theorem dX9_read_81 : decode cX9_read 81 = .ok (.aload_n 0, 1) := by decide +kernel
theorem dX9_read_82 : decode cX9_read 82 = .ok (.aload_n 3, 1) := by decide +kernel
theorem dX9_read_83 : decode cX9_read 83 = .ok (.invokevirtual 240, 3) := by decide +kernel
theorem dX9_read_86 : decode cX9_read 86 = .ok (.invokevirtual 244, 3) := by decide +kernel
theorem dX9_read_89 : decode cX9_read 89 = .ok (.aload_n 3, 1) := by decide +kernel
theorem dX9_read_90 : decode cX9_read 90 = .ok (.getfield 248, 3) := by decide +kernel
theorem dX9_read_93 : decode cX9_read 93 = .ok (.ireturn, 1) := by decide +kernel
theorem dX9_correct_0 : decode cX9_correct 0 = .ok (.aload_n 0, 1) := by decide +kernel
theorem dX9_correct_1 : decode cX9_correct 1 = .ok (.iload_n 1, 1) := by decide +kernel
theorem dX9_correct_2 : decode cX9_correct 2 = .ok (.invokevirtual 249, 3) := by decide +kernel
theorem dX9_correct_5 : decode cX9_correct 5 = .ok (.astore_n 3, 1) := by decide +kernel
theorem dX9_correct_6 : decode cX9_correct 6 = .ok (.iload_n 2, 1) := by decide +kernel
theorem dX9_correct_7 : decode cX9_correct 7 = .ok (.iconst (-1), 1) := by decide +kernel
theorem dX9_correct_8 : decode cX9_correct 8 = .ok (.if_icmp .ne 7, 3) := by decide +kernel
theorem dX9_correct_11 : decode cX9_correct 11 = .ok (.aconst_null, 1) := by decide +kernel
theorem dX9_correct_12 : decode cX9_correct 12 = .ok (.goto 8, 3) := by decide +kernel
theorem dX9_correct_15 : decode cX9_correct 15 = .ok (.aload_n 0, 1) := by decide +kernel
theorem dX9_correct_16 : decode cX9_correct 16 = .ok (.iload_n 2, 1) := by decide +kernel
theorem dX9_correct_17 : decode cX9_correct 17 = .ok (.invokevirtual 213, 3) := by decide +kernel
theorem dX9_correct_20 : decode cX9_correct 20 = .ok (.astore 4, 2) := by decide +kernel
theorem dX9_correct_22 : decode cX9_correct 22 = .ok (.aload_n 3, 1) := by decide +kernel
theorem dX9_correct_23 : decode cX9_correct 23 = .ok (.getfield 253, 3) := by decide +kernel
theorem dX9_correct_26 : decode cX9_correct 26 = .ok (.invokestatic 257, 3) := by decide +kernel
theorem dX9_correct_29 : decode cX9_correct 29 = .ok (.istore 5, 2) := by decide +kernel
theorem dX9_correct_31 : decode cX9_correct 31 = .ok (.aload_n 3, 1) := by decide +kernel
theorem dX9_correct_32 : decode cX9_correct 32 = .ok (.iconst 1, 1) := by decide +kernel
theorem dX9_correct_33 : decode cX9_correct 33 = .ok (.putfield 261, 3) := by decide +kernel
theorem dX9_correct_36 : decode cX9_correct 36 = .ok (.aload_n 0, 1) := by decide +kernel
theorem dX9_correct_37 : decode cX9_correct 37 = .ok (.aload_n 3, 1) := by decide +kernel
theorem dX9_correct_38 : decode cX9_correct 38 = .ok (.aload 4, 2) := by decide +kernel
theorem dX9_correct_40 : decode cX9_correct 40 = .ok (.invokevirtual 244, 3) := by decide +kernel
theorem dX9_correct_43 : decode cX9_correct 43 = .ok (.iload 5, 2) := by decide +kernel
theorem dX9_correct_45 : decode cX9_correct 45 = .ok (.ireturn, 1) := by decide +kernel
theorem dX9_uncorrect_0 : decode cX9_uncorrect 0 = .ok (.aload_n 0, 1) := by decide +kernel
theorem dX9_uncorrect_1 : decode cX9_uncorrect 1 = .ok (.iload_n 1, 1) := by decide +kernel
theorem dX9_uncorrect_2 : decode cX9_uncorrect 2 = .ok (.invokevirtual 249, 3) := by decide +kernel
theorem dX9_uncorrect_5 : decode cX9_uncorrect 5 = .ok (.astore_n 2, 1) := by decide +kernel
theorem dX9_uncorrect_6 : decode cX9_uncorrect 6 = .ok (.aload_n 2, 1) := by decide +kernel
theorem dX9_uncorrect_7 : decode cX9_uncorrect 7 = .ok (.getfield 261, 3) := by decide +kernel
theorem dX9_uncorrect_10 : decode cX9_uncorrect 10 = .ok (.ifCond .ne 14, 3) := by decide +kernel
theorem dX9_uncorrect_13 : decode cX9_uncorrect 13 = .ok (.new 103, 3) := by decide +kernel
theorem dX9_uncorrect_16 : decode cX9_uncorrect 16 = .ok (.dup, 1) := by decide +kernel
theorem dX9_uncorrect_17 : decode cX9_uncorrect 17 = .ok (.ldc_w 265, 3) := by decide +kernel
theorem dX9_uncorrect_20 : decode cX9_uncorrect 20 = .ok (.invokespecial 107, 3) := by decide +kernel
theorem dX9_uncorrect_23 : decode cX9_uncorrect 23 = .ok (.athrow, 1) := by decide +kernel
theorem dX9_uncorrect_24 : decode cX9_uncorrect 24 = .ok (.aload_n 2, 1) := by decide +kernel
theorem dX9_uncorrect_25 : decode cX9_uncorrect 25 = .ok (.iconst 0, 1) := by decide +kernel
theorem dX9_uncorrect_26 : decode cX9_uncorrect 26 = .ok (.putfield 261, 3) := by decide +kernel
theorem dX9_uncorrect_29 : decode cX9_uncorrect 29 = .ok (.aload_n 0, 1) := by decide +kernel
theorem dX9_uncorrect_30 : decode cX9_uncorrect 30 = .ok (.aload_n 2, 1) := by decide +kernel
theorem dX9_uncorrect_31 : decode cX9_uncorrect 31 = .ok (.aload_n 0, 1) := by decide +kernel
theorem dX9_uncorrect_32 : decode cX9_uncorrect 32 = .ok (.aload_n 2, 1) := by decide +kernel
theorem dX9_uncorrect_33 : decode cX9_uncorrect 33 = .ok (.invokevirtual 240, 3) := by decide +kernel
theorem dX9_uncorrect_36 : decode cX9_uncorrect 36 = .ok (.invokevirtual 244, 3) := by decide +kernel
theorem dX9_uncorrect_39 : decode cX9_uncorrect 39 = .ok (.aload_n 2, 1) := by decide +kernel
theorem dX9_uncorrect_40 : decode cX9_uncorrect 40 = .ok (.getfield 253, 3) := by decide +kernel
theorem dX9_uncorrect_43 : decode cX9_uncorrect 43 = .ok (.invokestatic 257, 3) := by decide +kernel
theorem dX9_uncorrect_46 : decode cX9_uncorrect 46 = .ok (.ireturn, 1) := by decide +kernel
theorem dX9_plateOf_0 : decode cX9_plateOf 0 = .ok (.aload_n 0, 1) := by decide +kernel
theorem dX9_plateOf_1 : decode cX9_plateOf 1 = .ok (.iload_n 1, 1) := by decide +kernel
theorem dX9_plateOf_2 : decode cX9_plateOf 2 = .ok (.invokevirtual 249, 3) := by decide +kernel
theorem dX9_plateOf_5 : decode cX9_plateOf 5 = .ok (.getfield 253, 3) := by decide +kernel
theorem dX9_plateOf_8 : decode cX9_plateOf 8 = .ok (.invokestatic 257, 3) := by decide +kernel
theorem dX9_plateOf_11 : decode cX9_plateOf 11 = .ok (.ireturn, 1) := by decide +kernel
theorem dX9_cost_0 : decode cX9_cost 0 = .ok (.aload_n 0, 1) := by decide +kernel
theorem dX9_cost_1 : decode cX9_cost 1 = .ok (.iload_n 1, 1) := by decide +kernel
theorem dX9_cost_2 : decode cX9_cost 2 = .ok (.invokevirtual 249, 3) := by decide +kernel
theorem dX9_cost_5 : decode cX9_cost 5 = .ok (.astore_n 3, 1) := by decide +kernel
theorem dX9_cost_6 : decode cX9_cost 6 = .ok (.aload_n 0, 1) := by decide +kernel
theorem dX9_cost_7 : decode cX9_cost 7 = .ok (.getfield 30, 3) := by decide +kernel
theorem dX9_cost_10 : decode cX9_cost 10 = .ok (.aload_n 3, 1) := by decide +kernel
theorem dX9_cost_11 : decode cX9_cost 11 = .ok (.getfield 267, 3) := by decide +kernel
theorem dX9_cost_14 : decode cX9_cost 14 = .ok (.aload_n 0, 1) := by decide +kernel
theorem dX9_cost_15 : decode cX9_cost 15 = .ok (.iload_n 2, 1) := by decide +kernel
theorem dX9_cost_16 : decode cX9_cost 16 = .ok (.invokevirtual 213, 3) := by decide +kernel
theorem dX9_cost_19 : decode cX9_cost 19 = .ok (.getfield 270, 3) := by decide +kernel
theorem dX9_cost_22 : decode cX9_cost 22 = .ok (.invokevirtual 271, 3) := by decide +kernel
theorem dX9_cost_25 : decode cX9_cost 25 = .ok (.ireturn, 1) := by decide +kernel
theorem dX9_trips_0 : decode cX9_trips 0 = .ok (.aload_n 0, 1) := by decide +kernel
theorem dX9_trips_1 : decode cX9_trips 1 = .ok (.iload_n 1, 1) := by decide +kernel
theorem dX9_trips_2 : decode cX9_trips 2 = .ok (.invokevirtual 213, 3) := by decide +kernel
theorem dX9_trips_5 : decode cX9_trips 5 = .ok (.getfield 275, 3) := by decide +kernel
theorem dX9_trips_8 : decode cX9_trips 8 = .ok (.invokevirtual 278, 3) := by decide +kernel
theorem dX9_trips_11 : decode cX9_trips 11 = .ok (.ireturn, 1) := by decide +kernel
theorem dX9_tripsAnew_0 : decode cX9_tripsAnew 0 = .ok (.aload_n 0, 1) := by decide +kernel
theorem dX9_tripsAnew_1 : decode cX9_tripsAnew 1 = .ok (.aload_n 0, 1) := by decide +kernel
theorem dX9_tripsAnew_2 : decode cX9_tripsAnew 2 = .ok (.iload_n 1, 1) := by decide +kernel
theorem dX9_tripsAnew_3 : decode cX9_tripsAnew 3 = .ok (.invokevirtual 213, 3) := by decide +kernel
theorem dX9_tripsAnew_6 : decode cX9_tripsAnew 6 = .ok (.invokevirtual 281, 3) := by decide +kernel
theorem dX9_tripsAnew_9 : decode cX9_tripsAnew 9 = .ok (.invokevirtual 278, 3) := by decide +kernel
theorem dX9_tripsAnew_12 : decode cX9_tripsAnew 12 = .ok (.ireturn, 1) := by decide +kernel
theorem dX9_tripOf_0 : decode cX9_tripOf 0 = .ok (.aload_n 0, 1) := by decide +kernel
theorem dX9_tripOf_1 : decode cX9_tripOf 1 = .ok (.iload_n 1, 1) := by decide +kernel
theorem dX9_tripOf_2 : decode cX9_tripOf 2 = .ok (.invokevirtual 249, 3) := by decide +kernel
theorem dX9_tripOf_5 : decode cX9_tripOf 5 = .ok (.astore_n 2, 1) := by decide +kernel
theorem dX9_tripOf_6 : decode cX9_tripOf 6 = .ok (.aload_n 2, 1) := by decide +kernel
theorem dX9_tripOf_7 : decode cX9_tripOf 7 = .ok (.getfield 253, 3) := by decide +kernel
theorem dX9_tripOf_10 : decode cX9_tripOf 10 = .ok (.ifnonnull 7, 3) := by decide +kernel
theorem dX9_tripOf_13 : decode cX9_tripOf 13 = .ok (.iconst (-1), 1) := by decide +kernel
theorem dX9_tripOf_14 : decode cX9_tripOf 14 = .ok (.goto 14, 3) := by decide +kernel
theorem dX9_tripOf_17 : decode cX9_tripOf 17 = .ok (.aload_n 2, 1) := by decide +kernel
theorem dX9_tripOf_18 : decode cX9_tripOf 18 = .ok (.getfield 253, 3) := by decide +kernel
theorem dX9_tripOf_21 : decode cX9_tripOf 21 = .ok (.getfield 275, 3) := by decide +kernel
theorem dX9_tripOf_24 : decode cX9_tripOf 24 = .ok (.aload_n 2, 1) := by decide +kernel
theorem dX9_tripOf_25 : decode cX9_tripOf 25 = .ok (.invokevirtual 285, 3) := by decide +kernel
theorem dX9_tripOf_28 : decode cX9_tripOf 28 = .ok (.ireturn, 1) := by decide +kernel
theorem dX9_toll_0 : decode cX9_toll 0 = .ok (.aload_n 0, 1) := by decide +kernel
theorem dX9_toll_1 : decode cX9_toll 1 = .ok (.iload_n 1, 1) := by decide +kernel
theorem dX9_toll_2 : decode cX9_toll 2 = .ok (.invokevirtual 213, 3) := by decide +kernel
theorem dX9_toll_5 : decode cX9_toll 5 = .ok (.astore_n 3, 1) := by decide +kernel
theorem dX9_toll_6 : decode cX9_toll 6 = .ok (.aload_n 0, 1) := by decide +kernel
theorem dX9_toll_7 : decode cX9_toll 7 = .ok (.aload_n 3, 1) := by decide +kernel
theorem dX9_toll_8 : decode cX9_toll 8 = .ok (.getfield 275, 3) := by decide +kernel
theorem dX9_toll_11 : decode cX9_toll 11 = .ok (.aload_n 3, 1) := by decide +kernel
theorem dX9_toll_12 : decode cX9_toll 12 = .ok (.iload_n 2, 1) := by decide +kernel
theorem dX9_toll_13 : decode cX9_toll 13 = .ok (.invokestatic 289, 3) := by decide +kernel
theorem dX9_toll_16 : decode cX9_toll 16 = .ok (.aload_n 3, 1) := by decide +kernel
theorem dX9_toll_17 : decode cX9_toll 17 = .ok (.invokevirtual 293, 3) := by decide +kernel
theorem dX9_toll_20 : decode cX9_toll 20 = .ok (.ireturn, 1) := by decide +kernel
theorem dX9_driverOf_0 : decode cX9_driverOf 0 = .ok (.aload_n 0, 1) := by decide +kernel
theorem dX9_driverOf_1 : decode cX9_driverOf 1 = .ok (.iload_n 1, 1) := by decide +kernel
theorem dX9_driverOf_2 : decode cX9_driverOf 2 = .ok (.invokevirtual 213, 3) := by decide +kernel
theorem dX9_driverOf_5 : decode cX9_driverOf 5 = .ok (.astore_n 3, 1) := by decide +kernel
theorem dX9_driverOf_6 : decode cX9_driverOf 6 = .ok (.aload_n 3, 1) := by decide +kernel
theorem dX9_driverOf_7 : decode cX9_driverOf 7 = .ok (.iload_n 2, 1) := by decide +kernel
theorem dX9_driverOf_8 : decode cX9_driverOf 8 = .ok (.invokestatic 289, 3) := by decide +kernel
theorem dX9_driverOf_11 : decode cX9_driverOf 11 = .ok (.istore 4, 2) := by decide +kernel
theorem dX9_driverOf_13 : decode cX9_driverOf 13 = .ok (.aload_n 3, 1) := by decide +kernel
theorem dX9_driverOf_14 : decode cX9_driverOf 14 = .ok (.aload_n 3, 1) := by decide +kernel
theorem dX9_driverOf_15 : decode cX9_driverOf 15 = .ok (.getfield 275, 3) := by decide +kernel
theorem dX9_driverOf_18 : decode cX9_driverOf 18 = .ok (.getfield 297, 3) := by decide +kernel
theorem dX9_driverOf_21 : decode cX9_driverOf 21 = .ok (.iload 4, 2) := by decide +kernel
theorem dX9_driverOf_23 : decode cX9_driverOf 23 = .ok (.aaload, 1) := by decide +kernel
theorem dX9_driverOf_24 : decode cX9_driverOf 24 = .ok (.getfield 300, 3) := by decide +kernel
theorem dX9_driverOf_27 : decode cX9_driverOf 27 = .ok (.invokevirtual 232, 3) := by decide +kernel
theorem dX9_driverOf_30 : decode cX9_driverOf 30 = .ok (.ireturn, 1) := by decide +kernel
theorem dX9_due_0 : decode cX9_due 0 = .ok (.iload_n 1, 1) := by decide +kernel
theorem dX9_due_1 : decode cX9_due 1 = .ok (.invokestatic 181, 3) := by decide +kernel
theorem dX9_due_4 : decode cX9_due 4 = .ok (.aload_n 0, 1) := by decide +kernel
theorem dX9_due_5 : decode cX9_due 5 = .ok (.iload_n 1, 1) := by decide +kernel
theorem dX9_due_6 : decode cX9_due 6 = .ok (.invokevirtual 303, 3) := by decide +kernel
theorem dX9_due_9 : decode cX9_due 9 = .ok (.ireturn, 1) := by decide +kernel
theorem dX9_dueAnew_0 : decode cX9_dueAnew 0 = .ok (.iload_n 1, 1) := by decide +kernel
theorem dX9_dueAnew_1 : decode cX9_dueAnew 1 = .ok (.invokestatic 181, 3) := by decide +kernel
theorem dX9_dueAnew_4 : decode cX9_dueAnew 4 = .ok (.iconst 0, 1) := by decide +kernel
end
section
theorem dX9_dueAnew_5 : decode cX9_dueAnew 5 = .ok (.istore_n 2, 1) := by decide +kernel
theorem dX9_dueAnew_6 : decode cX9_dueAnew 6 = .ok (.iconst 0, 1) := by decide +kernel
theorem dX9_dueAnew_7 : decode cX9_dueAnew 7 = .ok (.istore_n 3, 1) := by decide +kernel
theorem dX9_dueAnew_8 : decode cX9_dueAnew 8 = .ok (.iload_n 3, 1) := by decide +kernel
theorem dX9_dueAnew_9 : decode cX9_dueAnew 9 = .ok (.aload_n 0, 1) := by decide +kernel
theorem dX9_dueAnew_10 : decode cX9_dueAnew 10 = .ok (.getfield 79, 3) := by decide +kernel
theorem dX9_dueAnew_13 : decode cX9_dueAnew 13 = .ok (.if_icmp .ge 33, 3) := by decide +kernel
theorem dX9_dueAnew_16 : decode cX9_dueAnew 16 = .ok (.aload_n 0, 1) := by decide +kernel
theorem dX9_dueAnew_17 : decode cX9_dueAnew 17 = .ok (.getfield 36, 3) := by decide +kernel
theorem dX9_dueAnew_20 : decode cX9_dueAnew 20 = .ok (.iload_n 3, 1) := by decide +kernel
theorem dX9_dueAnew_21 : decode cX9_dueAnew 21 = .ok (.aaload, 1) := by decide +kernel
theorem dX9_dueAnew_22 : decode cX9_dueAnew 22 = .ok (.astore 4, 2) := by decide +kernel
theorem dX9_dueAnew_24 : decode cX9_dueAnew 24 = .ok (.iload_n 2, 1) := by decide +kernel
theorem dX9_dueAnew_25 : decode cX9_dueAnew 25 = .ok (.aload_n 0, 1) := by decide +kernel
theorem dX9_dueAnew_26 : decode cX9_dueAnew 26 = .ok (.aload 4, 2) := by decide +kernel
theorem dX9_dueAnew_28 : decode cX9_dueAnew 28 = .ok (.aload_n 0, 1) := by decide +kernel
theorem dX9_dueAnew_29 : decode cX9_dueAnew 29 = .ok (.aload 4, 2) := by decide +kernel
theorem dX9_dueAnew_31 : decode cX9_dueAnew 31 = .ok (.invokevirtual 281, 3) := by decide +kernel
theorem dX9_dueAnew_34 : decode cX9_dueAnew 34 = .ok (.iload_n 1, 1) := by decide +kernel
theorem dX9_dueAnew_35 : decode cX9_dueAnew 35 = .ok (.invokevirtual 306, 3) := by decide +kernel
theorem dX9_dueAnew_38 : decode cX9_dueAnew 38 = .ok (.iadd, 1) := by decide +kernel
theorem dX9_dueAnew_39 : decode cX9_dueAnew 39 = .ok (.istore_n 2, 1) := by decide +kernel
theorem dX9_dueAnew_40 : decode cX9_dueAnew 40 = .ok (.iinc 3 1, 3) := by decide +kernel
theorem dX9_dueAnew_43 : decode cX9_dueAnew 43 = .ok (.goto (-35), 3) := by decide +kernel
theorem dX9_dueAnew_46 : decode cX9_dueAnew 46 = .ok (.iload_n 2, 1) := by decide +kernel
theorem dX9_dueAnew_47 : decode cX9_dueAnew 47 = .ok (.ireturn, 1) := by decide +kernel
theorem dX9_settle_0 : decode cX9_settle 0 = .ok (.lconst 0, 1) := by decide +kernel
theorem dX9_settle_1 : decode cX9_settle 1 = .ok (.lstore_n 1, 1) := by decide +kernel
theorem dX9_settle_2 : decode cX9_settle 2 = .ok (.iconst 0, 1) := by decide +kernel
theorem dX9_settle_3 : decode cX9_settle 3 = .ok (.istore_n 3, 1) := by decide +kernel
theorem dX9_settle_4 : decode cX9_settle 4 = .ok (.iload_n 3, 1) := by decide +kernel
theorem dX9_settle_5 : decode cX9_settle 5 = .ok (.bipush 6, 2) := by decide +kernel
theorem dX9_settle_7 : decode cX9_settle 7 = .ok (.if_icmp .ge 68, 3) := by decide +kernel
theorem dX9_settle_10 : decode cX9_settle 10 = .ok (.aload_n 0, 1) := by decide +kernel
theorem dX9_settle_11 : decode cX9_settle 11 = .ok (.iload_n 3, 1) := by decide +kernel
theorem dX9_settle_12 : decode cX9_settle 12 = .ok (.invokevirtual 303, 3) := by decide +kernel
theorem dX9_settle_15 : decode cX9_settle 15 = .ok (.i2l, 1) := by decide +kernel
theorem dX9_settle_16 : decode cX9_settle 16 = .ok (.aload_n 0, 1) := by decide +kernel
theorem dX9_settle_17 : decode cX9_settle 17 = .ok (.getfield 61, 3) := by decide +kernel
theorem dX9_settle_20 : decode cX9_settle 20 = .ok (.iload_n 3, 1) := by decide +kernel
theorem dX9_settle_21 : decode cX9_settle 21 = .ok (.laload, 1) := by decide +kernel
theorem dX9_settle_22 : decode cX9_settle 22 = .ok (.aload_n 0, 1) := by decide +kernel
theorem dX9_settle_23 : decode cX9_settle 23 = .ok (.getfield 65, 3) := by decide +kernel
theorem dX9_settle_26 : decode cX9_settle 26 = .ok (.iload_n 3, 1) := by decide +kernel
theorem dX9_settle_27 : decode cX9_settle 27 = .ok (.laload, 1) := by decide +kernel
theorem dX9_settle_28 : decode cX9_settle 28 = .ok (.lsub, 1) := by decide +kernel
theorem dX9_settle_29 : decode cX9_settle 29 = .ok (.lsub, 1) := by decide +kernel
theorem dX9_settle_30 : decode cX9_settle 30 = .ok (.lstore 4, 2) := by decide +kernel
theorem dX9_settle_32 : decode cX9_settle 32 = .ok (.lload 4, 2) := by decide +kernel
theorem dX9_settle_34 : decode cX9_settle 34 = .ok (.lconst 0, 1) := by decide +kernel
theorem dX9_settle_35 : decode cX9_settle 35 = .ok (.lcmp, 1) := by decide +kernel
theorem dX9_settle_36 : decode cX9_settle 36 = .ok (.ifCond .lt 17, 3) := by decide +kernel
theorem dX9_settle_39 : decode cX9_settle 39 = .ok (.aload_n 0, 1) := by decide +kernel
theorem dX9_settle_40 : decode cX9_settle 40 = .ok (.getfield 61, 3) := by decide +kernel
theorem dX9_settle_43 : decode cX9_settle 43 = .ok (.iload_n 3, 1) := by decide +kernel
theorem dX9_settle_44 : decode cX9_settle 44 = .ok (.dup2, 1) := by decide +kernel
theorem dX9_settle_45 : decode cX9_settle 45 = .ok (.laload, 1) := by decide +kernel
theorem dX9_settle_46 : decode cX9_settle 46 = .ok (.lload 4, 2) := by decide +kernel
theorem dX9_settle_48 : decode cX9_settle 48 = .ok (.ladd, 1) := by decide +kernel
theorem dX9_settle_49 : decode cX9_settle 49 = .ok (.lastore, 1) := by decide +kernel
theorem dX9_settle_50 : decode cX9_settle 50 = .ok (.goto 19, 3) := by decide +kernel
theorem dX9_settle_53 : decode cX9_settle 53 = .ok (.aload_n 0, 1) := by decide +kernel
theorem dX9_settle_54 : decode cX9_settle 54 = .ok (.getfield 65, 3) := by decide +kernel
theorem dX9_settle_57 : decode cX9_settle 57 = .ok (.iload_n 3, 1) := by decide +kernel
theorem dX9_settle_58 : decode cX9_settle 58 = .ok (.dup2, 1) := by decide +kernel
theorem dX9_settle_59 : decode cX9_settle 59 = .ok (.laload, 1) := by decide +kernel
theorem dX9_settle_60 : decode cX9_settle 60 = .ok (.lload 4, 2) := by decide +kernel
theorem dX9_settle_62 : decode cX9_settle 62 = .ok (.lsub, 1) := by decide +kernel
theorem dX9_settle_63 : decode cX9_settle 63 = .ok (.lastore, 1) := by decide +kernel
theorem dX9_settle_64 : decode cX9_settle 64 = .ok (.lload_n 1, 1) := by decide +kernel
theorem dX9_settle_65 : decode cX9_settle 65 = .ok (.lload 4, 2) := by decide +kernel
theorem dX9_settle_67 : decode cX9_settle 67 = .ok (.lsub, 1) := by decide +kernel
theorem dX9_settle_68 : decode cX9_settle 68 = .ok (.lstore_n 1, 1) := by decide +kernel
theorem dX9_settle_69 : decode cX9_settle 69 = .ok (.iinc 3 1, 3) := by decide +kernel
theorem dX9_settle_72 : decode cX9_settle 72 = .ok (.goto (-68), 3) := by decide +kernel
theorem dX9_settle_75 : decode cX9_settle 75 = .ok (.lload_n 1, 1) := by decide +kernel
theorem dX9_settle_76 : decode cX9_settle 76 = .ok (.l2i, 1) := by decide +kernel
theorem dX9_settle_77 : decode cX9_settle 77 = .ok (.ireturn, 1) := by decide +kernel
theorem dX9_billed_0 : decode cX9_billed 0 = .ok (.iload_n 1, 1) := by decide +kernel
theorem dX9_billed_1 : decode cX9_billed 1 = .ok (.invokestatic 181, 3) := by decide +kernel
theorem dX9_billed_4 : decode cX9_billed 4 = .ok (.aload_n 0, 1) := by decide +kernel
theorem dX9_billed_5 : decode cX9_billed 5 = .ok (.getfield 61, 3) := by decide +kernel
theorem dX9_billed_8 : decode cX9_billed 8 = .ok (.iload_n 1, 1) := by decide +kernel
theorem dX9_billed_9 : decode cX9_billed 9 = .ok (.laload, 1) := by decide +kernel
theorem dX9_billed_10 : decode cX9_billed 10 = .ok (.lreturn, 1) := by decide +kernel
theorem dX9_paidBack_0 : decode cX9_paidBack 0 = .ok (.iload_n 1, 1) := by decide +kernel
theorem dX9_paidBack_1 : decode cX9_paidBack 1 = .ok (.invokestatic 181, 3) := by decide +kernel
theorem dX9_paidBack_4 : decode cX9_paidBack 4 = .ok (.aload_n 0, 1) := by decide +kernel
theorem dX9_paidBack_5 : decode cX9_paidBack 5 = .ok (.getfield 65, 3) := by decide +kernel
theorem dX9_paidBack_8 : decode cX9_paidBack 8 = .ok (.iload_n 1, 1) := by decide +kernel
theorem dX9_paidBack_9 : decode cX9_paidBack 9 = .ok (.laload, 1) := by decide +kernel
theorem dX9_paidBack_10 : decode cX9_paidBack 10 = .ok (.lreturn, 1) := by decide +kernel
theorem dX9_warrant_0 : decode cX9_warrant 0 = .ok (.aload_n 0, 1) := by decide +kernel
theorem dX9_warrant_1 : decode cX9_warrant 1 = .ok (.iload_n 1, 1) := by decide +kernel
theorem dX9_warrant_2 : decode cX9_warrant 2 = .ok (.invokevirtual 213, 3) := by decide +kernel
theorem dX9_warrant_5 : decode cX9_warrant 5 = .ok (.astore 4, 2) := by decide +kernel
theorem dX9_warrant_7 : decode cX9_warrant 7 = .ok (.iload_n 2, 1) := by decide +kernel
theorem dX9_warrant_8 : decode cX9_warrant 8 = .ok (.iconst 0, 1) := by decide +kernel
theorem dX9_warrant_9 : decode cX9_warrant 9 = .ok (.bipush 34, 2) := by decide +kernel
theorem dX9_warrant_11 : decode cX9_warrant 11 = .ok (.invokestatic 91, 3) := by decide +kernel
theorem dX9_warrant_14 : decode cX9_warrant 14 = .ok (.ifCond .eq 13, 3) := by decide +kernel
theorem dX9_warrant_17 : decode cX9_warrant 17 = .ok (.iload_n 3, 1) := by decide +kernel
theorem dX9_warrant_18 : decode cX9_warrant 18 = .ok (.iload_n 2, 1) := by decide +kernel
theorem dX9_warrant_19 : decode cX9_warrant 19 = .ok (.bipush 34, 2) := by decide +kernel
theorem dX9_warrant_21 : decode cX9_warrant 21 = .ok (.invokestatic 91, 3) := by decide +kernel
theorem dX9_warrant_24 : decode cX9_warrant 24 = .ok (.ifCond .ne 14, 3) := by decide +kernel
theorem dX9_warrant_27 : decode cX9_warrant 27 = .ok (.new 95, 3) := by decide +kernel
theorem dX9_warrant_30 : decode cX9_warrant 30 = .ok (.dup, 1) := by decide +kernel
theorem dX9_warrant_31 : decode cX9_warrant 31 = .ok (.ldc_w 310, 3) := by decide +kernel
theorem dX9_warrant_34 : decode cX9_warrant 34 = .ok (.invokespecial 99, 3) := by decide +kernel
theorem dX9_warrant_37 : decode cX9_warrant 37 = .ok (.athrow, 1) := by decide +kernel
theorem dX9_warrant_38 : decode cX9_warrant 38 = .ok (.aload_n 0, 1) := by decide +kernel
theorem dX9_warrant_39 : decode cX9_warrant 39 = .ok (.getfield 85, 3) := by decide +kernel
theorem dX9_warrant_42 : decode cX9_warrant 42 = .ok (.bipush 8, 2) := by decide +kernel
theorem dX9_warrant_44 : decode cX9_warrant 44 = .ok (.if_icmp .lt 14, 3) := by decide +kernel
theorem dX9_warrant_47 : decode cX9_warrant 47 = .ok (.new 103, 3) := by decide +kernel
theorem dX9_warrant_50 : decode cX9_warrant 50 = .ok (.dup, 1) := by decide +kernel
theorem dX9_warrant_51 : decode cX9_warrant 51 = .ok (.ldc_w 312, 3) := by decide +kernel
theorem dX9_warrant_54 : decode cX9_warrant 54 = .ok (.invokespecial 107, 3) := by decide +kernel
theorem dX9_warrant_57 : decode cX9_warrant 57 = .ok (.athrow, 1) := by decide +kernel
theorem dX9_warrant_58 : decode cX9_warrant 58 = .ok (.aload_n 0, 1) := by decide +kernel
theorem dX9_warrant_59 : decode cX9_warrant 59 = .ok (.getfield 51, 3) := by decide +kernel
theorem dX9_warrant_62 : decode cX9_warrant 62 = .ok (.aload_n 0, 1) := by decide +kernel
theorem dX9_warrant_63 : decode cX9_warrant 63 = .ok (.getfield 85, 3) := by decide +kernel
theorem dX9_warrant_66 : decode cX9_warrant 66 = .ok (.new 49, 3) := by decide +kernel
theorem dX9_warrant_69 : decode cX9_warrant 69 = .ok (.dup, 1) := by decide +kernel
theorem dX9_warrant_70 : decode cX9_warrant 70 = .ok (.aload_n 0, 1) := by decide +kernel
theorem dX9_warrant_71 : decode cX9_warrant 71 = .ok (.getfield 85, 3) := by decide +kernel
theorem dX9_warrant_74 : decode cX9_warrant 74 = .ok (.aload 4, 2) := by decide +kernel
theorem dX9_warrant_76 : decode cX9_warrant 76 = .ok (.getfield 275, 3) := by decide +kernel
theorem dX9_warrant_79 : decode cX9_warrant 79 = .ok (.iload_n 2, 1) := by decide +kernel
theorem dX9_warrant_80 : decode cX9_warrant 80 = .ok (.iload_n 3, 1) := by decide +kernel
theorem dX9_warrant_81 : decode cX9_warrant 81 = .ok (.invokespecial 314, 3) := by decide +kernel
theorem dX9_warrant_84 : decode cX9_warrant 84 = .ok (.aastore, 1) := by decide +kernel
theorem dX9_warrant_85 : decode cX9_warrant 85 = .ok (.aload_n 0, 1) := by decide +kernel
theorem dX9_warrant_86 : decode cX9_warrant 86 = .ok (.dup, 1) := by decide +kernel
theorem dX9_warrant_87 : decode cX9_warrant 87 = .ok (.getfield 85, 3) := by decide +kernel
theorem dX9_warrant_90 : decode cX9_warrant 90 = .ok (.iconst 1, 1) := by decide +kernel
theorem dX9_warrant_91 : decode cX9_warrant 91 = .ok (.iadd, 1) := by decide +kernel
theorem dX9_warrant_92 : decode cX9_warrant 92 = .ok (.putfield 85, 3) := by decide +kernel
theorem dX9_warrant_95 : decode cX9_warrant 95 = .ok (.aload_n 0, 1) := by decide +kernel
theorem dX9_warrant_96 : decode cX9_warrant 96 = .ok (.getfield 85, 3) := by decide +kernel
theorem dX9_warrant_99 : decode cX9_warrant 99 = .ok (.iconst 1, 1) := by decide +kernel
theorem dX9_warrant_100 : decode cX9_warrant 100 = .ok (.isub, 1) := by decide +kernel
theorem dX9_warrant_101 : decode cX9_warrant 101 = .ok (.ireturn, 1) := by decide +kernel
theorem dX9_ask_0 : decode cX9_ask 0 = .ok (.aload_n 0, 1) := by decide +kernel
theorem dX9_ask_1 : decode cX9_ask 1 = .ok (.iload_n 1, 1) := by decide +kernel
theorem dX9_ask_2 : decode cX9_ask 2 = .ok (.invokevirtual 317, 3) := by decide +kernel
theorem dX9_ask_5 : decode cX9_ask 5 = .ok (.astore_n 3, 1) := by decide +kernel
theorem dX9_ask_6 : decode cX9_ask 6 = .ok (.aload_n 0, 1) := by decide +kernel
theorem dX9_ask_7 : decode cX9_ask 7 = .ok (.getfield 88, 3) := by decide +kernel
theorem dX9_ask_10 : decode cX9_ask 10 = .ok (.bipush 40, 2) := by decide +kernel
theorem dX9_ask_12 : decode cX9_ask 12 = .ok (.if_icmp .lt 14, 3) := by decide +kernel
theorem dX9_ask_15 : decode cX9_ask 15 = .ok (.new 103, 3) := by decide +kernel
theorem dX9_ask_18 : decode cX9_ask 18 = .ok (.dup, 1) := by decide +kernel
theorem dX9_ask_19 : decode cX9_ask 19 = .ok (.ldc_w 321, 3) := by decide +kernel
theorem dX9_ask_22 : decode cX9_ask 22 = .ok (.invokespecial 107, 3) := by decide +kernel
theorem dX9_ask_25 : decode cX9_ask 25 = .ok (.athrow, 1) := by decide +kernel
theorem dX9_ask_26 : decode cX9_ask 26 = .ok (.aload_n 3, 1) := by decide +kernel
theorem dX9_ask_27 : decode cX9_ask 27 = .ok (.iload_n 2, 1) := by decide +kernel
theorem dX9_ask_28 : decode cX9_ask 28 = .ok (.invokevirtual 323, 3) := by decide +kernel
theorem dX9_ask_31 : decode cX9_ask 31 = .ok (.astore 4, 2) := by decide +kernel
theorem dX9_ask_33 : decode cX9_ask 33 = .ok (.aload 4, 2) := by decide +kernel
theorem dX9_ask_35 : decode cX9_ask 35 = .ok (.ifnonnull 14, 3) := by decide +kernel
theorem dX9_ask_38 : decode cX9_ask 38 = .ok (.new 164, 3) := by decide +kernel
theorem dX9_ask_41 : decode cX9_ask 41 = .ok (.dup, 1) := by decide +kernel
theorem dX9_ask_42 : decode cX9_ask 42 = .ok (.ldc_w 326, 3) := by decide +kernel
theorem dX9_ask_45 : decode cX9_ask 45 = .ok (.invokespecial 168, 3) := by decide +kernel
theorem dX9_ask_48 : decode cX9_ask 48 = .ok (.athrow, 1) := by decide +kernel
theorem dX9_ask_49 : decode cX9_ask 49 = .ok (.aload_n 0, 1) := by decide +kernel
theorem dX9_ask_50 : decode cX9_ask 50 = .ok (.getfield 57, 3) := by decide +kernel
theorem dX9_ask_53 : decode cX9_ask 53 = .ok (.aload_n 0, 1) := by decide +kernel
theorem dX9_ask_54 : decode cX9_ask 54 = .ok (.getfield 88, 3) := by decide +kernel
theorem dX9_ask_57 : decode cX9_ask 57 = .ok (.new 55, 3) := by decide +kernel
theorem dX9_ask_60 : decode cX9_ask 60 = .ok (.dup, 1) := by decide +kernel
theorem dX9_ask_61 : decode cX9_ask 61 = .ok (.aload_n 3, 1) := by decide +kernel
theorem dX9_ask_62 : decode cX9_ask 62 = .ok (.getfield 328, 3) := by decide +kernel
theorem dX9_ask_65 : decode cX9_ask 65 = .ok (.iload_n 2, 1) := by decide +kernel
theorem dX9_ask_66 : decode cX9_ask 66 = .ok (.aload 4, 2) := by decide +kernel
theorem dX9_ask_68 : decode cX9_ask 68 = .ok (.getfield 329, 3) := by decide +kernel
theorem dX9_ask_71 : decode cX9_ask 71 = .ok (.aload 4, 2) := by decide +kernel
theorem dX9_ask_73 : decode cX9_ask 73 = .ok (.getfield 300, 3) := by decide +kernel
theorem dX9_ask_76 : decode cX9_ask 76 = .ok (.invokespecial 332, 3) := by decide +kernel
theorem dX9_ask_79 : decode cX9_ask 79 = .ok (.aastore, 1) := by decide +kernel
theorem dX9_ask_80 : decode cX9_ask 80 = .ok (.aload_n 0, 1) := by decide +kernel
theorem dX9_ask_81 : decode cX9_ask 81 = .ok (.dup, 1) := by decide +kernel
theorem dX9_ask_82 : decode cX9_ask 82 = .ok (.getfield 88, 3) := by decide +kernel
theorem dX9_ask_85 : decode cX9_ask 85 = .ok (.iconst 1, 1) := by decide +kernel
theorem dX9_ask_86 : decode cX9_ask 86 = .ok (.iadd, 1) := by decide +kernel
theorem dX9_ask_87 : decode cX9_ask 87 = .ok (.putfield 88, 3) := by decide +kernel
theorem dX9_ask_90 : decode cX9_ask 90 = .ok (.ldc_w 335, 3) := by decide +kernel
theorem dX9_ask_93 : decode cX9_ask 93 = .ok (.aload 4, 2) := by decide +kernel
theorem dX9_ask_95 : decode cX9_ask 95 = .ok (.getfield 329, 3) := by decide +kernel
theorem dX9_ask_98 : decode cX9_ask 98 = .ok (.imul, 1) := by decide +kernel
theorem dX9_ask_99 : decode cX9_ask 99 = .ok (.aload 4, 2) := by decide +kernel
theorem dX9_ask_101 : decode cX9_ask 101 = .ok (.getfield 300, 3) := by decide +kernel
theorem dX9_ask_104 : decode cX9_ask 104 = .ok (.iadd, 1) := by decide +kernel
theorem dX9_ask_105 : decode cX9_ask 105 = .ok (.ireturn, 1) := by decide +kernel
theorem dX9_stale_0 : decode cX9_stale 0 = .ok (.aload_n 0, 1) := by decide +kernel
theorem dX9_stale_1 : decode cX9_stale 1 = .ok (.iload_n 1, 1) := by decide +kernel
theorem dX9_stale_2 : decode cX9_stale 2 = .ok (.invokevirtual 317, 3) := by decide +kernel
theorem dX9_stale_5 : decode cX9_stale 5 = .ok (.astore_n 2, 1) := by decide +kernel
theorem dX9_stale_6 : decode cX9_stale 6 = .ok (.iconst 0, 1) := by decide +kernel
theorem dX9_stale_7 : decode cX9_stale 7 = .ok (.istore_n 3, 1) := by decide +kernel
theorem dX9_stale_8 : decode cX9_stale 8 = .ok (.iconst 0, 1) := by decide +kernel
theorem dX9_stale_9 : decode cX9_stale 9 = .ok (.istore 4, 2) := by decide +kernel
theorem dX9_stale_11 : decode cX9_stale 11 = .ok (.iload 4, 2) := by decide +kernel
theorem dX9_stale_13 : decode cX9_stale 13 = .ok (.aload_n 0, 1) := by decide +kernel
theorem dX9_stale_14 : decode cX9_stale 14 = .ok (.getfield 88, 3) := by decide +kernel
theorem dX9_stale_17 : decode cX9_stale 17 = .ok (.if_icmp .ge 50, 3) := by decide +kernel
theorem dX9_stale_20 : decode cX9_stale 20 = .ok (.aload_n 0, 1) := by decide +kernel
theorem dX9_stale_21 : decode cX9_stale 21 = .ok (.getfield 57, 3) := by decide +kernel
theorem dX9_stale_24 : decode cX9_stale 24 = .ok (.iload 4, 2) := by decide +kernel
theorem dX9_stale_26 : decode cX9_stale 26 = .ok (.aaload, 1) := by decide +kernel
theorem dX9_stale_27 : decode cX9_stale 27 = .ok (.astore 5, 2) := by decide +kernel
theorem dX9_stale_29 : decode cX9_stale 29 = .ok (.aload 5, 2) := by decide +kernel
theorem dX9_stale_31 : decode cX9_stale 31 = .ok (.getfield 336, 3) := by decide +kernel
theorem dX9_stale_34 : decode cX9_stale 34 = .ok (.aload_n 2, 1) := by decide +kernel
theorem dX9_stale_35 : decode cX9_stale 35 = .ok (.getfield 328, 3) := by decide +kernel
theorem dX9_stale_38 : decode cX9_stale 38 = .ok (.if_icmp .ne 23, 3) := by decide +kernel
theorem dX9_stale_41 : decode cX9_stale 41 = .ok (.aload 5, 2) := by decide +kernel
theorem dX9_stale_43 : decode cX9_stale 43 = .ok (.aload_n 2, 1) := by decide +kernel
theorem dX9_stale_44 : decode cX9_stale 44 = .ok (.aload 5, 2) := by decide +kernel
theorem dX9_stale_46 : decode cX9_stale 46 = .ok (.getfield 339, 3) := by decide +kernel
theorem dX9_stale_49 : decode cX9_stale 49 = .ok (.invokevirtual 323, 3) := by decide +kernel
theorem dX9_stale_52 : decode cX9_stale 52 = .ok (.invokevirtual 342, 3) := by decide +kernel
theorem dX9_stale_55 : decode cX9_stale 55 = .ok (.ifCond .ne 6, 3) := by decide +kernel
theorem dX9_stale_58 : decode cX9_stale 58 = .ok (.iinc 3 1, 3) := by decide +kernel
theorem dX9_stale_61 : decode cX9_stale 61 = .ok (.iinc 4 1, 3) := by decide +kernel
theorem dX9_stale_64 : decode cX9_stale 64 = .ok (.goto (-53), 3) := by decide +kernel
theorem dX9_stale_67 : decode cX9_stale 67 = .ok (.iload_n 3, 1) := by decide +kernel
theorem dX9_stale_68 : decode cX9_stale 68 = .ok (.ireturn, 1) := by decide +kernel
theorem dX9_isWithin_0 : decode cX9_isWithin 0 = .ok (.iload_n 1, 1) := by decide +kernel
theorem dX9_isWithin_1 : decode cX9_isWithin 1 = .ok (.iload_n 0, 1) := by decide +kernel
theorem dX9_isWithin_2 : decode cX9_isWithin 2 = .ok (.if_icmp .gt 12, 3) := by decide +kernel
theorem dX9_isWithin_5 : decode cX9_isWithin 5 = .ok (.iload_n 0, 1) := by decide +kernel
theorem dX9_isWithin_6 : decode cX9_isWithin 6 = .ok (.iload_n 2, 1) := by decide +kernel
theorem dX9_isWithin_7 : decode cX9_isWithin 7 = .ok (.if_icmp .gt 7, 3) := by decide +kernel
theorem dX9_isWithin_10 : decode cX9_isWithin 10 = .ok (.iconst 1, 1) := by decide +kernel
theorem dX9_isWithin_11 : decode cX9_isWithin 11 = .ok (.goto 4, 3) := by decide +kernel
theorem dX9_isWithin_14 : decode cX9_isWithin 14 = .ok (.iconst 0, 1) := by decide +kernel
theorem dX9_isWithin_15 : decode cX9_isWithin 15 = .ok (.ireturn, 1) := by decide +kernel
theorem dX9_requireGate_0 : decode cX9_requireGate 0 = .ok (.iload_n 0, 1) := by decide +kernel
theorem dX9_requireGate_1 : decode cX9_requireGate 1 = .ok (.iconst 0, 1) := by decide +kernel
theorem dX9_requireGate_2 : decode cX9_requireGate 2 = .ok (.bipush 7, 2) := by decide +kernel
theorem dX9_requireGate_4 : decode cX9_requireGate 4 = .ok (.invokestatic 91, 3) := by decide +kernel
theorem dX9_requireGate_7 : decode cX9_requireGate 7 = .ok (.ifCond .ne 14, 3) := by decide +kernel
theorem dX9_requireGate_10 : decode cX9_requireGate 10 = .ok (.new 346, 3) := by decide +kernel
theorem dX9_requireGate_13 : decode cX9_requireGate 13 = .ok (.dup, 1) := by decide +kernel
theorem dX9_requireGate_14 : decode cX9_requireGate 14 = .ok (.ldc_w 348, 3) := by decide +kernel
theorem dX9_requireGate_17 : decode cX9_requireGate 17 = .ok (.invokespecial 350, 3) := by decide +kernel
theorem dX9_requireGate_20 : decode cX9_requireGate 20 = .ok (.athrow, 1) := by decide +kernel
theorem dX9_requireGate_21 : decode cX9_requireGate 21 = .ok (.return_, 1) := by decide +kernel
theorem dX9_requireSign_0 : decode cX9_requireSign 0 = .ok (.iload_n 0, 1) := by decide +kernel
theorem dX9_requireSign_1 : decode cX9_requireSign 1 = .ok (.iconst 0, 1) := by decide +kernel
theorem dX9_requireSign_2 : decode cX9_requireSign 2 = .ok (.bipush 14, 2) := by decide +kernel
theorem dX9_requireSign_4 : decode cX9_requireSign 4 = .ok (.invokestatic 91, 3) := by decide +kernel
theorem dX9_requireSign_7 : decode cX9_requireSign 7 = .ok (.ifCond .ne 14, 3) := by decide +kernel
theorem dX9_requireSign_10 : decode cX9_requireSign 10 = .ok (.new 346, 3) := by decide +kernel
theorem dX9_requireSign_13 : decode cX9_requireSign 13 = .ok (.dup, 1) := by decide +kernel
theorem dX9_requireSign_14 : decode cX9_requireSign 14 = .ok (.ldc_w 351, 3) := by decide +kernel
theorem dX9_requireSign_17 : decode cX9_requireSign 17 = .ok (.invokespecial 350, 3) := by decide +kernel
theorem dX9_requireSign_20 : decode cX9_requireSign 20 = .ok (.athrow, 1) := by decide +kernel
theorem dX9_requireSign_21 : decode cX9_requireSign 21 = .ok (.return_, 1) := by decide +kernel
theorem dX9_requireDriver_0 : decode cX9_requireDriver 0 = .ok (.iload_n 0, 1) := by decide +kernel
theorem dX9_requireDriver_1 : decode cX9_requireDriver 1 = .ok (.iconst 0, 1) := by decide +kernel
theorem dX9_requireDriver_2 : decode cX9_requireDriver 2 = .ok (.iconst 5, 1) := by decide +kernel
theorem dX9_requireDriver_3 : decode cX9_requireDriver 3 = .ok (.invokestatic 91, 3) := by decide +kernel
theorem dX9_requireDriver_6 : decode cX9_requireDriver 6 = .ok (.ifCond .ne 14, 3) := by decide +kernel
theorem dX9_requireDriver_9 : decode cX9_requireDriver 9 = .ok (.new 346, 3) := by decide +kernel
theorem dX9_requireDriver_12 : decode cX9_requireDriver 12 = .ok (.dup, 1) := by decide +kernel
theorem dX9_requireDriver_13 : decode cX9_requireDriver 13 = .ok (.ldc_w 353, 3) := by decide +kernel
theorem dX9_requireDriver_16 : decode cX9_requireDriver 16 = .ok (.invokespecial 350, 3) := by decide +kernel
theorem dX9_requireDriver_19 : decode cX9_requireDriver 19 = .ok (.athrow, 1) := by decide +kernel
theorem dX9_requireDriver_20 : decode cX9_requireDriver 20 = .ok (.return_, 1) := by decide +kernel
theorem dX9_requireClass_0 : decode cX9_requireClass 0 = .ok (.iload_n 0, 1) := by decide +kernel
theorem dX9_requireClass_1 : decode cX9_requireClass 1 = .ok (.iconst 0, 1) := by decide +kernel
theorem dX9_requireClass_2 : decode cX9_requireClass 2 = .ok (.iconst 3, 1) := by decide +kernel
theorem dX9_requireClass_3 : decode cX9_requireClass 3 = .ok (.invokestatic 91, 3) := by decide +kernel
theorem dX9_requireClass_6 : decode cX9_requireClass 6 = .ok (.ifCond .ne 14, 3) := by decide +kernel
theorem dX9_requireClass_9 : decode cX9_requireClass 9 = .ok (.new 95, 3) := by decide +kernel
theorem dX9_requireClass_12 : decode cX9_requireClass 12 = .ok (.dup, 1) := by decide +kernel
theorem dX9_requireClass_13 : decode cX9_requireClass 13 = .ok (.ldc_w 355, 3) := by decide +kernel
theorem dX9_requireClass_16 : decode cX9_requireClass 16 = .ok (.invokespecial 99, 3) := by decide +kernel
theorem dX9_requireClass_19 : decode cX9_requireClass 19 = .ok (.athrow, 1) := by decide +kernel
theorem dX9_requireClass_20 : decode cX9_requireClass 20 = .ok (.return_, 1) := by decide +kernel
theorem dX9_requireMinute_0 : decode cX9_requireMinute 0 = .ok (.iload_n 1, 1) := by decide +kernel
theorem dX9_requireMinute_1 : decode cX9_requireMinute 1 = .ok (.iconst 0, 1) := by decide +kernel
theorem dX9_requireMinute_2 : decode cX9_requireMinute 2 = .ok (.aload_n 0, 1) := by decide +kernel
theorem dX9_requireMinute_3 : decode cX9_requireMinute 3 = .ok (.getfield 75, 3) := by decide +kernel
theorem dX9_requireMinute_6 : decode cX9_requireMinute 6 = .ok (.invokestatic 91, 3) := by decide +kernel
theorem dX9_requireMinute_9 : decode cX9_requireMinute 9 = .ok (.ifCond .ne 14, 3) := by decide +kernel
theorem dX9_requireMinute_12 : decode cX9_requireMinute 12 = .ok (.new 95, 3) := by decide +kernel
theorem dX9_requireMinute_15 : decode cX9_requireMinute 15 = .ok (.dup, 1) := by decide +kernel
theorem dX9_requireMinute_16 : decode cX9_requireMinute 16 = .ok (.ldc_w 357, 3) := by decide +kernel
theorem dX9_requireMinute_19 : decode cX9_requireMinute 19 = .ok (.invokespecial 99, 3) := by decide +kernel
theorem dX9_requireMinute_22 : decode cX9_requireMinute 22 = .ok (.athrow, 1) := by decide +kernel
theorem dX9_requireMinute_23 : decode cX9_requireMinute 23 = .ok (.return_, 1) := by decide +kernel
theorem dX9_requireRoomForSign_0 : decode cX9_requireRoomForSign 0 = .ok (.aload_n 0, 1) := by decide +kernel
theorem dX9_requireRoomForSign_1 : decode cX9_requireRoomForSign 1 = .ok (.getfield 23, 3) := by decide +kernel
theorem dX9_requireRoomForSign_4 : decode cX9_requireRoomForSign 4 = .ok (.getfield 144, 3) := by decide +kernel
theorem dX9_requireRoomForSign_7 : decode cX9_requireRoomForSign 7 = .ok (.bipush 6, 2) := by decide +kernel
theorem dX9_requireRoomForSign_9 : decode cX9_requireRoomForSign 9 = .ok (.if_icmp .lt 14, 3) := by decide +kernel
theorem dX9_requireRoomForSign_12 : decode cX9_requireRoomForSign 12 = .ok (.new 103, 3) := by decide +kernel
theorem dX9_requireRoomForSign_15 : decode cX9_requireRoomForSign 15 = .ok (.dup, 1) := by decide +kernel
theorem dX9_requireRoomForSign_16 : decode cX9_requireRoomForSign 16 = .ok (.ldc_w 359, 3) := by decide +kernel
theorem dX9_requireRoomForSign_19 : decode cX9_requireRoomForSign 19 = .ok (.invokespecial 107, 3) := by decide +kernel
theorem dX9_requireRoomForSign_22 : decode cX9_requireRoomForSign 22 = .ok (.athrow, 1) := by decide +kernel
theorem dX9_requireRoomForSign_23 : decode cX9_requireRoomForSign 23 = .ok (.return_, 1) := by decide +kernel
theorem dX9_plateNumbered_0 : decode cX9_plateNumbered 0 = .ok (.iload_n 1, 1) := by decide +kernel
theorem dX9_plateNumbered_1 : decode cX9_plateNumbered 1 = .ok (.iconst 0, 1) := by decide +kernel
theorem dX9_plateNumbered_2 : decode cX9_plateNumbered 2 = .ok (.aload_n 0, 1) := by decide +kernel
theorem dX9_plateNumbered_3 : decode cX9_plateNumbered 3 = .ok (.getfield 79, 3) := by decide +kernel
theorem dX9_plateNumbered_6 : decode cX9_plateNumbered 6 = .ok (.iconst 1, 1) := by decide +kernel
theorem dX9_plateNumbered_7 : decode cX9_plateNumbered 7 = .ok (.isub, 1) := by decide +kernel
theorem dX9_plateNumbered_8 : decode cX9_plateNumbered 8 = .ok (.invokestatic 91, 3) := by decide +kernel
theorem dX9_plateNumbered_11 : decode cX9_plateNumbered 11 = .ok (.ifCond .ne 14, 3) := by decide +kernel
theorem dX9_plateNumbered_14 : decode cX9_plateNumbered 14 = .ok (.new 346, 3) := by decide +kernel
theorem dX9_plateNumbered_17 : decode cX9_plateNumbered 17 = .ok (.dup, 1) := by decide +kernel
theorem dX9_plateNumbered_18 : decode cX9_plateNumbered 18 = .ok (.ldc_w 361, 3) := by decide +kernel
theorem dX9_plateNumbered_21 : decode cX9_plateNumbered 21 = .ok (.invokespecial 350, 3) := by decide +kernel
theorem dX9_plateNumbered_24 : decode cX9_plateNumbered 24 = .ok (.athrow, 1) := by decide +kernel
theorem dX9_plateNumbered_25 : decode cX9_plateNumbered 25 = .ok (.aload_n 0, 1) := by decide +kernel
theorem dX9_plateNumbered_26 : decode cX9_plateNumbered 26 = .ok (.getfield 36, 3) := by decide +kernel
theorem dX9_plateNumbered_29 : decode cX9_plateNumbered 29 = .ok (.iload_n 1, 1) := by decide +kernel
theorem dX9_plateNumbered_30 : decode cX9_plateNumbered 30 = .ok (.aaload, 1) := by decide +kernel
theorem dX9_plateNumbered_31 : decode cX9_plateNumbered 31 = .ok (.areturn, 1) := by decide +kernel
theorem dX9_readingNumbered_0 : decode cX9_readingNumbered 0 = .ok (.iload_n 1, 1) := by decide +kernel
theorem dX9_readingNumbered_1 : decode cX9_readingNumbered 1 = .ok (.iconst 0, 1) := by decide +kernel
theorem dX9_readingNumbered_2 : decode cX9_readingNumbered 2 = .ok (.aload_n 0, 1) := by decide +kernel
theorem dX9_readingNumbered_3 : decode cX9_readingNumbered 3 = .ok (.getfield 82, 3) := by decide +kernel
theorem dX9_readingNumbered_6 : decode cX9_readingNumbered 6 = .ok (.iconst 1, 1) := by decide +kernel
theorem dX9_readingNumbered_7 : decode cX9_readingNumbered 7 = .ok (.isub, 1) := by decide +kernel
theorem dX9_readingNumbered_8 : decode cX9_readingNumbered 8 = .ok (.invokestatic 91, 3) := by decide +kernel
theorem dX9_readingNumbered_11 : decode cX9_readingNumbered 11 = .ok (.ifCond .ne 14, 3) := by decide +kernel
theorem dX9_readingNumbered_14 : decode cX9_readingNumbered 14 = .ok (.new 346, 3) := by decide +kernel
theorem dX9_readingNumbered_17 : decode cX9_readingNumbered 17 = .ok (.dup, 1) := by decide +kernel
theorem dX9_readingNumbered_18 : decode cX9_readingNumbered 18 = .ok (.ldc_w 363, 3) := by decide +kernel
theorem dX9_readingNumbered_21 : decode cX9_readingNumbered 21 = .ok (.invokespecial 350, 3) := by decide +kernel
theorem dX9_readingNumbered_24 : decode cX9_readingNumbered 24 = .ok (.athrow, 1) := by decide +kernel
theorem dX9_readingNumbered_25 : decode cX9_readingNumbered 25 = .ok (.aload_n 0, 1) := by decide +kernel
theorem dX9_readingNumbered_26 : decode cX9_readingNumbered 26 = .ok (.getfield 45, 3) := by decide +kernel
theorem dX9_readingNumbered_29 : decode cX9_readingNumbered 29 = .ok (.iload_n 1, 1) := by decide +kernel
theorem dX9_readingNumbered_30 : decode cX9_readingNumbered 30 = .ok (.aaload, 1) := by decide +kernel
theorem dX9_readingNumbered_31 : decode cX9_readingNumbered 31 = .ok (.areturn, 1) := by decide +kernel
theorem dX9_warrantNumbered_0 : decode cX9_warrantNumbered 0 = .ok (.iload_n 1, 1) := by decide +kernel
theorem dX9_warrantNumbered_1 : decode cX9_warrantNumbered 1 = .ok (.iconst 0, 1) := by decide +kernel
theorem dX9_warrantNumbered_2 : decode cX9_warrantNumbered 2 = .ok (.aload_n 0, 1) := by decide +kernel
theorem dX9_warrantNumbered_3 : decode cX9_warrantNumbered 3 = .ok (.getfield 85, 3) := by decide +kernel
theorem dX9_warrantNumbered_6 : decode cX9_warrantNumbered 6 = .ok (.iconst 1, 1) := by decide +kernel
theorem dX9_warrantNumbered_7 : decode cX9_warrantNumbered 7 = .ok (.isub, 1) := by decide +kernel
theorem dX9_warrantNumbered_8 : decode cX9_warrantNumbered 8 = .ok (.invokestatic 91, 3) := by decide +kernel
theorem dX9_warrantNumbered_11 : decode cX9_warrantNumbered 11 = .ok (.ifCond .ne 14, 3) := by decide +kernel
theorem dX9_warrantNumbered_14 : decode cX9_warrantNumbered 14 = .ok (.new 346, 3) := by decide +kernel
theorem dX9_warrantNumbered_17 : decode cX9_warrantNumbered 17 = .ok (.dup, 1) := by decide +kernel
theorem dX9_warrantNumbered_18 : decode cX9_warrantNumbered 18 = .ok (.ldc_w 365, 3) := by decide +kernel
theorem dX9_warrantNumbered_21 : decode cX9_warrantNumbered 21 = .ok (.invokespecial 350, 3) := by decide +kernel
theorem dX9_warrantNumbered_24 : decode cX9_warrantNumbered 24 = .ok (.athrow, 1) := by decide +kernel
theorem dX9_warrantNumbered_25 : decode cX9_warrantNumbered 25 = .ok (.aload_n 0, 1) := by decide +kernel
theorem dX9_warrantNumbered_26 : decode cX9_warrantNumbered 26 = .ok (.getfield 51, 3) := by decide +kernel
theorem dX9_warrantNumbered_29 : decode cX9_warrantNumbered 29 = .ok (.iload_n 1, 1) := by decide +kernel
theorem dX9_warrantNumbered_30 : decode cX9_warrantNumbered 30 = .ok (.aaload, 1) := by decide +kernel
theorem dX9_warrantNumbered_31 : decode cX9_warrantNumbered 31 = .ok (.areturn, 1) := by decide +kernel
theorem dX9_requiredBeginning_0 : decode cX9_requiredBeginning 0 = .ok (.aload_n 0, 1) := by decide +kernel
theorem dX9_requiredBeginning_1 : decode cX9_requiredBeginning 1 = .ok (.getfield 275, 3) := by decide +kernel
theorem dX9_requiredBeginning_4 : decode cX9_requiredBeginning 4 = .ok (.iload_n 1, 1) := by decide +kernel
theorem dX9_requiredBeginning_5 : decode cX9_requiredBeginning 5 = .ok (.invokevirtual 367, 3) := by decide +kernel
theorem dX9_requiredBeginning_8 : decode cX9_requiredBeginning 8 = .ok (.istore_n 2, 1) := by decide +kernel
theorem dX9_requiredBeginning_9 : decode cX9_requiredBeginning 9 = .ok (.iload_n 2, 1) := by decide +kernel
theorem dX9_requiredBeginning_10 : decode cX9_requiredBeginning 10 = .ok (.iconst (-1), 1) := by decide +kernel
theorem dX9_requiredBeginning_11 : decode cX9_requiredBeginning 11 = .ok (.if_icmp .ne 14, 3) := by decide +kernel
theorem dX9_requiredBeginning_14 : decode cX9_requiredBeginning 14 = .ok (.new 346, 3) := by decide +kernel
theorem dX9_requiredBeginning_17 : decode cX9_requiredBeginning 17 = .ok (.dup, 1) := by decide +kernel
theorem dX9_requiredBeginning_18 : decode cX9_requiredBeginning 18 = .ok (.ldc_w 370, 3) := by decide +kernel
theorem dX9_requiredBeginning_21 : decode cX9_requiredBeginning 21 = .ok (.invokespecial 350, 3) := by decide +kernel
theorem dX9_requiredBeginning_24 : decode cX9_requiredBeginning 24 = .ok (.athrow, 1) := by decide +kernel
theorem dX9_requiredBeginning_25 : decode cX9_requiredBeginning 25 = .ok (.iload_n 2, 1) := by decide +kernel
theorem dX9_requiredBeginning_26 : decode cX9_requiredBeginning 26 = .ok (.ireturn, 1) := by decide +kernel
theorem dX9_numberOf_0 : decode cX9_numberOf 0 = .ok (.aload_n 0, 1) := by decide +kernel
theorem dX9_numberOf_1 : decode cX9_numberOf 1 = .ok (.ifnonnull 7, 3) := by decide +kernel
theorem dX9_numberOf_4 : decode cX9_numberOf 4 = .ok (.iconst (-1), 1) := by decide +kernel
theorem dX9_numberOf_5 : decode cX9_numberOf 5 = .ok (.goto 7, 3) := by decide +kernel
theorem dX9_numberOf_8 : decode cX9_numberOf 8 = .ok (.aload_n 0, 1) := by decide +kernel
theorem dX9_numberOf_9 : decode cX9_numberOf 9 = .ok (.getfield 210, 3) := by decide +kernel
theorem dX9_numberOf_12 : decode cX9_numberOf 12 = .ok (.ireturn, 1) := by decide +kernel
theorem dX9_isTaken_0 : decode cX9_isTaken 0 = .ok (.iconst 0, 1) := by decide +kernel
theorem dX9_isTaken_1 : decode cX9_isTaken 1 = .ok (.istore_n 2, 1) := by decide +kernel
theorem dX9_isTaken_2 : decode cX9_isTaken 2 = .ok (.iload_n 2, 1) := by decide +kernel
theorem dX9_isTaken_3 : decode cX9_isTaken 3 = .ok (.aload_n 0, 1) := by decide +kernel
theorem dX9_isTaken_4 : decode cX9_isTaken 4 = .ok (.getfield 79, 3) := by decide +kernel
theorem dX9_isTaken_7 : decode cX9_isTaken 7 = .ok (.if_icmp .ge 27, 3) := by decide +kernel
theorem dX9_isTaken_10 : decode cX9_isTaken 10 = .ok (.aload_n 0, 1) := by decide +kernel
theorem dX9_isTaken_11 : decode cX9_isTaken 11 = .ok (.getfield 36, 3) := by decide +kernel
theorem dX9_isTaken_14 : decode cX9_isTaken 14 = .ok (.iload_n 2, 1) := by decide +kernel
theorem dX9_isTaken_15 : decode cX9_isTaken 15 = .ok (.aaload, 1) := by decide +kernel
theorem dX9_isTaken_16 : decode cX9_isTaken 16 = .ok (.getfield 270, 3) := by decide +kernel
theorem dX9_isTaken_19 : decode cX9_isTaken 19 = .ok (.aload_n 1, 1) := by decide +kernel
theorem dX9_isTaken_20 : decode cX9_isTaken 20 = .ok (.invokevirtual 372, 3) := by decide +kernel
theorem dX9_isTaken_23 : decode cX9_isTaken 23 = .ok (.ifCond .eq 5, 3) := by decide +kernel
theorem dX9_isTaken_26 : decode cX9_isTaken 26 = .ok (.iconst 1, 1) := by decide +kernel
theorem dX9_isTaken_27 : decode cX9_isTaken 27 = .ok (.ireturn, 1) := by decide +kernel
theorem dX9_isTaken_28 : decode cX9_isTaken 28 = .ok (.iinc 2 1, 3) := by decide +kernel
theorem dX9_isTaken_31 : decode cX9_isTaken 31 = .ok (.goto (-29), 3) := by decide +kernel
theorem dX9_isTaken_34 : decode cX9_isTaken 34 = .ok (.iconst 0, 1) := by decide +kernel
theorem dX9_isTaken_35 : decode cX9_isTaken 35 = .ok (.ireturn, 1) := by decide +kernel
theorem dX9_putInOrder_0 : decode cX9_putInOrder 0 = .ok (.aload_n 0, 1) := by decide +kernel
theorem dX9_putInOrder_1 : decode cX9_putInOrder 1 = .ok (.getfield 79, 3) := by decide +kernel
theorem dX9_putInOrder_4 : decode cX9_putInOrder 4 = .ok (.istore_n 2, 1) := by decide +kernel
theorem dX9_putInOrder_5 : decode cX9_putInOrder 5 = .ok (.iload_n 2, 1) := by decide +kernel
theorem dX9_putInOrder_6 : decode cX9_putInOrder 6 = .ok (.ifCond .le 44, 3) := by decide +kernel
theorem dX9_putInOrder_9 : decode cX9_putInOrder 9 = .ok (.aload_n 1, 1) := by decide +kernel
theorem dX9_putInOrder_10 : decode cX9_putInOrder 10 = .ok (.getfield 270, 3) := by decide +kernel
theorem dX9_putInOrder_13 : decode cX9_putInOrder 13 = .ok (.aload_n 0, 1) := by decide +kernel
theorem dX9_putInOrder_14 : decode cX9_putInOrder 14 = .ok (.getfield 40, 3) := by decide +kernel
theorem dX9_putInOrder_17 : decode cX9_putInOrder 17 = .ok (.iload_n 2, 1) := by decide +kernel
theorem dX9_putInOrder_18 : decode cX9_putInOrder 18 = .ok (.iconst 1, 1) := by decide +kernel
theorem dX9_putInOrder_19 : decode cX9_putInOrder 19 = .ok (.isub, 1) := by decide +kernel
theorem dX9_putInOrder_20 : decode cX9_putInOrder 20 = .ok (.aaload, 1) := by decide +kernel
theorem dX9_putInOrder_21 : decode cX9_putInOrder 21 = .ok (.getfield 270, 3) := by decide +kernel
theorem dX9_putInOrder_24 : decode cX9_putInOrder 24 = .ok (.invokevirtual 375, 3) := by decide +kernel
theorem dX9_putInOrder_27 : decode cX9_putInOrder 27 = .ok (.ifCond .eq 23, 3) := by decide +kernel
theorem dX9_putInOrder_30 : decode cX9_putInOrder 30 = .ok (.aload_n 0, 1) := by decide +kernel
theorem dX9_putInOrder_31 : decode cX9_putInOrder 31 = .ok (.getfield 40, 3) := by decide +kernel
theorem dX9_putInOrder_34 : decode cX9_putInOrder 34 = .ok (.iload_n 2, 1) := by decide +kernel
theorem dX9_putInOrder_35 : decode cX9_putInOrder 35 = .ok (.aload_n 0, 1) := by decide +kernel
theorem dX9_putInOrder_36 : decode cX9_putInOrder 36 = .ok (.getfield 40, 3) := by decide +kernel
theorem dX9_putInOrder_39 : decode cX9_putInOrder 39 = .ok (.iload_n 2, 1) := by decide +kernel
theorem dX9_putInOrder_40 : decode cX9_putInOrder 40 = .ok (.iconst 1, 1) := by decide +kernel
theorem dX9_putInOrder_41 : decode cX9_putInOrder 41 = .ok (.isub, 1) := by decide +kernel
theorem dX9_putInOrder_42 : decode cX9_putInOrder 42 = .ok (.aaload, 1) := by decide +kernel
theorem dX9_putInOrder_43 : decode cX9_putInOrder 43 = .ok (.aastore, 1) := by decide +kernel
theorem dX9_putInOrder_44 : decode cX9_putInOrder 44 = .ok (.iinc 2 (-1), 3) := by decide +kernel
theorem dX9_putInOrder_47 : decode cX9_putInOrder 47 = .ok (.goto (-42), 3) := by decide +kernel
theorem dX9_putInOrder_50 : decode cX9_putInOrder 50 = .ok (.aload_n 0, 1) := by decide +kernel
theorem dX9_putInOrder_51 : decode cX9_putInOrder 51 = .ok (.getfield 40, 3) := by decide +kernel
theorem dX9_putInOrder_54 : decode cX9_putInOrder 54 = .ok (.iload_n 2, 1) := by decide +kernel
theorem dX9_putInOrder_55 : decode cX9_putInOrder 55 = .ok (.aload_n 1, 1) := by decide +kernel
theorem dX9_putInOrder_56 : decode cX9_putInOrder 56 = .ok (.aastore, 1) := by decide +kernel
theorem dX9_putInOrder_57 : decode cX9_putInOrder 57 = .ok (.return_, 1) := by decide +kernel
theorem dX9_plateByText_0 : decode cX9_plateByText 0 = .ok (.aconst_null, 1) := by decide +kernel
theorem dX9_plateByText_1 : decode cX9_plateByText 1 = .ok (.astore_n 2, 1) := by decide +kernel
theorem dX9_plateByText_2 : decode cX9_plateByText 2 = .ok (.iconst 0, 1) := by decide +kernel
theorem dX9_plateByText_3 : decode cX9_plateByText 3 = .ok (.istore_n 3, 1) := by decide +kernel
theorem dX9_plateByText_4 : decode cX9_plateByText 4 = .ok (.iconst 0, 1) := by decide +kernel
theorem dX9_plateByText_5 : decode cX9_plateByText 5 = .ok (.istore 4, 2) := by decide +kernel
theorem dX9_plateByText_7 : decode cX9_plateByText 7 = .ok (.iload 4, 2) := by decide +kernel
theorem dX9_plateByText_9 : decode cX9_plateByText 9 = .ok (.aload_n 0, 1) := by decide +kernel
theorem dX9_plateByText_10 : decode cX9_plateByText 10 = .ok (.getfield 79, 3) := by decide +kernel
theorem dX9_plateByText_13 : decode cX9_plateByText 13 = .ok (.if_icmp .ge 58, 3) := by decide +kernel
theorem dX9_plateByText_16 : decode cX9_plateByText 16 = .ok (.aload_n 0, 1) := by decide +kernel
theorem dX9_plateByText_17 : decode cX9_plateByText 17 = .ok (.getfield 40, 3) := by decide +kernel
theorem dX9_plateByText_20 : decode cX9_plateByText 20 = .ok (.iload 4, 2) := by decide +kernel
theorem dX9_plateByText_22 : decode cX9_plateByText 22 = .ok (.aaload, 1) := by decide +kernel
theorem dX9_plateByText_23 : decode cX9_plateByText 23 = .ok (.astore 5, 2) := by decide +kernel
theorem dX9_plateByText_25 : decode cX9_plateByText 25 = .ok (.aload_n 0, 1) := by decide +kernel
theorem dX9_plateByText_26 : decode cX9_plateByText 26 = .ok (.getfield 30, 3) := by decide +kernel
theorem dX9_plateByText_29 : decode cX9_plateByText 29 = .ok (.aload_n 1, 1) := by decide +kernel
theorem dX9_plateByText_30 : decode cX9_plateByText 30 = .ok (.getfield 267, 3) := by decide +kernel
theorem dX9_plateByText_33 : decode cX9_plateByText 33 = .ok (.aload 5, 2) := by decide +kernel
theorem dX9_plateByText_35 : decode cX9_plateByText 35 = .ok (.getfield 270, 3) := by decide +kernel
theorem dX9_plateByText_38 : decode cX9_plateByText 38 = .ok (.invokevirtual 271, 3) := by decide +kernel
theorem dX9_plateByText_41 : decode cX9_plateByText 41 = .ok (.istore 6, 2) := by decide +kernel
theorem dX9_plateByText_43 : decode cX9_plateByText 43 = .ok (.iload 6, 2) := by decide +kernel
theorem dX9_plateByText_45 : decode cX9_plateByText 45 = .ok (.iconst (-1), 1) := by decide +kernel
theorem dX9_plateByText_46 : decode cX9_plateByText 46 = .ok (.if_icmp .eq 19, 3) := by decide +kernel
theorem dX9_plateByText_49 : decode cX9_plateByText 49 = .ok (.aload_n 2, 1) := by decide +kernel
theorem dX9_plateByText_50 : decode cX9_plateByText 50 = .ok (.ifnull 9, 3) := by decide +kernel
theorem dX9_plateByText_53 : decode cX9_plateByText 53 = .ok (.iload 6, 2) := by decide +kernel
theorem dX9_plateByText_55 : decode cX9_plateByText 55 = .ok (.iload_n 3, 1) := by decide +kernel
theorem dX9_plateByText_56 : decode cX9_plateByText 56 = .ok (.if_icmp .ge 9, 3) := by decide +kernel
theorem dX9_plateByText_59 : decode cX9_plateByText 59 = .ok (.aload 5, 2) := by decide +kernel
theorem dX9_plateByText_61 : decode cX9_plateByText 61 = .ok (.astore_n 2, 1) := by decide +kernel
theorem dX9_plateByText_62 : decode cX9_plateByText 62 = .ok (.iload 6, 2) := by decide +kernel
theorem dX9_plateByText_64 : decode cX9_plateByText 64 = .ok (.istore_n 3, 1) := by decide +kernel
theorem dX9_plateByText_65 : decode cX9_plateByText 65 = .ok (.iinc 4 1, 3) := by decide +kernel
theorem dX9_plateByText_68 : decode cX9_plateByText 68 = .ok (.goto (-61), 3) := by decide +kernel
theorem dX9_plateByText_71 : decode cX9_plateByText 71 = .ok (.aload_n 2, 1) := by decide +kernel
theorem dX9_plateByText_72 : decode cX9_plateByText 72 = .ok (.areturn, 1) := by decide +kernel
theorem dX9_leadAllBack_0 : decode cX9_leadAllBack 0 = .ok (.iconst 0, 1) := by decide +kernel
theorem dX9_leadAllBack_1 : decode cX9_leadAllBack 1 = .ok (.istore_n 1, 1) := by decide +kernel
theorem dX9_leadAllBack_2 : decode cX9_leadAllBack 2 = .ok (.iload_n 1, 1) := by decide +kernel
theorem dX9_leadAllBack_3 : decode cX9_leadAllBack 3 = .ok (.aload_n 0, 1) := by decide +kernel
theorem dX9_leadAllBack_4 : decode cX9_leadAllBack 4 = .ok (.getfield 82, 3) := by decide +kernel
theorem dX9_leadAllBack_7 : decode cX9_leadAllBack 7 = .ok (.if_icmp .ge 33, 3) := by decide +kernel
theorem dX9_leadAllBack_10 : decode cX9_leadAllBack 10 = .ok (.aload_n 0, 1) := by decide +kernel
theorem dX9_leadAllBack_11 : decode cX9_leadAllBack 11 = .ok (.getfield 45, 3) := by decide +kernel
theorem dX9_leadAllBack_14 : decode cX9_leadAllBack 14 = .ok (.iload_n 1, 1) := by decide +kernel
theorem dX9_leadAllBack_15 : decode cX9_leadAllBack 15 = .ok (.aaload, 1) := by decide +kernel
theorem dX9_leadAllBack_16 : decode cX9_leadAllBack 16 = .ok (.astore_n 2, 1) := by decide +kernel
theorem dX9_leadAllBack_17 : decode cX9_leadAllBack 17 = .ok (.aload_n 2, 1) := by decide +kernel
theorem dX9_leadAllBack_18 : decode cX9_leadAllBack 18 = .ok (.getfield 261, 3) := by decide +kernel
theorem dX9_leadAllBack_21 : decode cX9_leadAllBack 21 = .ok (.ifCond .ne 13, 3) := by decide +kernel
theorem dX9_leadAllBack_24 : decode cX9_leadAllBack 24 = .ok (.aload_n 0, 1) := by decide +kernel
theorem dX9_leadAllBack_25 : decode cX9_leadAllBack 25 = .ok (.aload_n 2, 1) := by decide +kernel
theorem dX9_leadAllBack_26 : decode cX9_leadAllBack 26 = .ok (.aload_n 0, 1) := by decide +kernel
theorem dX9_leadAllBack_27 : decode cX9_leadAllBack 27 = .ok (.aload_n 2, 1) := by decide +kernel
theorem dX9_leadAllBack_28 : decode cX9_leadAllBack 28 = .ok (.invokevirtual 240, 3) := by decide +kernel
theorem dX9_leadAllBack_31 : decode cX9_leadAllBack 31 = .ok (.invokevirtual 244, 3) := by decide +kernel
theorem dX9_leadAllBack_34 : decode cX9_leadAllBack 34 = .ok (.iinc 1 1, 3) := by decide +kernel
theorem dX9_leadAllBack_37 : decode cX9_leadAllBack 37 = .ok (.goto (-35), 3) := by decide +kernel
theorem dX9_leadAllBack_40 : decode cX9_leadAllBack 40 = .ok (.return_, 1) := by decide +kernel
theorem dX9_move_0 : decode cX9_move 0 = .ok (.aload_n 1, 1) := by decide +kernel
theorem dX9_move_1 : decode cX9_move 1 = .ok (.getfield 253, 3) := by decide +kernel
theorem dX9_move_4 : decode cX9_move 4 = .ok (.invokestatic 257, 3) := by decide +kernel
theorem dX9_move_7 : decode cX9_move 7 = .ok (.aload_n 2, 1) := by decide +kernel
theorem dX9_move_8 : decode cX9_move 8 = .ok (.invokestatic 257, 3) := by decide +kernel
theorem dX9_move_11 : decode cX9_move 11 = .ok (.if_icmp .ne 4, 3) := by decide +kernel
theorem dX9_move_14 : decode cX9_move 14 = .ok (.return_, 1) := by decide +kernel
theorem dX9_move_15 : decode cX9_move 15 = .ok (.aload_n 1, 1) := by decide +kernel
theorem dX9_move_16 : decode cX9_move 16 = .ok (.getfield 253, 3) := by decide +kernel
theorem dX9_move_19 : decode cX9_move 19 = .ok (.ifnull 18, 3) := by decide +kernel
theorem dX9_move_22 : decode cX9_move 22 = .ok (.aload_n 1, 1) := by decide +kernel
theorem dX9_move_23 : decode cX9_move 23 = .ok (.getfield 253, 3) := by decide +kernel
theorem dX9_move_26 : decode cX9_move 26 = .ok (.getfield 275, 3) := by decide +kernel
theorem dX9_move_29 : decode cX9_move 29 = .ok (.aload_n 1, 1) := by decide +kernel
theorem dX9_move_30 : decode cX9_move 30 = .ok (.aload_n 0, 1) := by decide +kernel
theorem dX9_move_31 : decode cX9_move 31 = .ok (.getfield 10, 3) := by decide +kernel
theorem dX9_move_34 : decode cX9_move 34 = .ok (.invokevirtual 378, 3) := by decide +kernel
theorem dX9_move_37 : decode cX9_move 37 = .ok (.aload_n 1, 1) := by decide +kernel
theorem dX9_move_38 : decode cX9_move 38 = .ok (.aload_n 2, 1) := by decide +kernel
theorem dX9_move_39 : decode cX9_move 39 = .ok (.putfield 253, 3) := by decide +kernel
theorem dX9_move_42 : decode cX9_move 42 = .ok (.aload_n 2, 1) := by decide +kernel
theorem dX9_move_43 : decode cX9_move 43 = .ok (.ifnull 15, 3) := by decide +kernel
theorem dX9_move_46 : decode cX9_move 46 = .ok (.aload_n 2, 1) := by decide +kernel
theorem dX9_move_47 : decode cX9_move 47 = .ok (.getfield 275, 3) := by decide +kernel
theorem dX9_move_50 : decode cX9_move 50 = .ok (.aload_n 1, 1) := by decide +kernel
theorem dX9_move_51 : decode cX9_move 51 = .ok (.aload_n 0, 1) := by decide +kernel
theorem dX9_move_52 : decode cX9_move 52 = .ok (.getfield 10, 3) := by decide +kernel
theorem dX9_move_55 : decode cX9_move 55 = .ok (.invokevirtual 382, 3) := by decide +kernel
theorem dX9_move_58 : decode cX9_move 58 = .ok (.return_, 1) := by decide +kernel
theorem dX9_joinAllAgain_0 : decode cX9_joinAllAgain 0 = .ok (.iconst 0, 1) := by decide +kernel
theorem dX9_joinAllAgain_1 : decode cX9_joinAllAgain 1 = .ok (.istore_n 1, 1) := by decide +kernel
theorem dX9_joinAllAgain_2 : decode cX9_joinAllAgain 2 = .ok (.iload_n 1, 1) := by decide +kernel
theorem dX9_joinAllAgain_3 : decode cX9_joinAllAgain 3 = .ok (.aload_n 0, 1) := by decide +kernel
theorem dX9_joinAllAgain_4 : decode cX9_joinAllAgain 4 = .ok (.getfield 79, 3) := by decide +kernel
theorem dX9_joinAllAgain_7 : decode cX9_joinAllAgain 7 = .ok (.if_icmp .ge 25, 3) := by decide +kernel
theorem dX9_joinAllAgain_10 : decode cX9_joinAllAgain 10 = .ok (.aload_n 0, 1) := by decide +kernel
theorem dX9_joinAllAgain_11 : decode cX9_joinAllAgain 11 = .ok (.getfield 36, 3) := by decide +kernel
theorem dX9_joinAllAgain_14 : decode cX9_joinAllAgain 14 = .ok (.iload_n 1, 1) := by decide +kernel
theorem dX9_joinAllAgain_15 : decode cX9_joinAllAgain 15 = .ok (.aaload, 1) := by decide +kernel
theorem dX9_joinAllAgain_16 : decode cX9_joinAllAgain 16 = .ok (.getfield 275, 3) := by decide +kernel
theorem dX9_joinAllAgain_19 : decode cX9_joinAllAgain 19 = .ok (.aload_n 0, 1) := by decide +kernel
theorem dX9_joinAllAgain_20 : decode cX9_joinAllAgain 20 = .ok (.getfield 10, 3) := by decide +kernel
theorem dX9_joinAllAgain_23 : decode cX9_joinAllAgain 23 = .ok (.invokevirtual 384, 3) := by decide +kernel
theorem dX9_joinAllAgain_26 : decode cX9_joinAllAgain 26 = .ok (.iinc 1 1, 3) := by decide +kernel
theorem dX9_joinAllAgain_29 : decode cX9_joinAllAgain 29 = .ok (.goto (-27), 3) := by decide +kernel
theorem dX9_joinAllAgain_32 : decode cX9_joinAllAgain 32 = .ok (.return_, 1) := by decide +kernel
theorem dX9_joinAnew_0 : decode cX9_joinAnew 0 = .ok (.aload_n 0, 1) := by decide +kernel
theorem dX9_joinAnew_1 : decode cX9_joinAnew 1 = .ok (.getfield 71, 3) := by decide +kernel
theorem dX9_joinAnew_4 : decode cX9_joinAnew 4 = .ok (.iconst 0, 1) := by decide +kernel
theorem dX9_joinAnew_5 : decode cX9_joinAnew 5 = .ok (.putfield 388, 3) := by decide +kernel
theorem dX9_joinAnew_8 : decode cX9_joinAnew 8 = .ok (.iconst 0, 1) := by decide +kernel
theorem dX9_joinAnew_9 : decode cX9_joinAnew 9 = .ok (.istore_n 2, 1) := by decide +kernel
theorem dX9_joinAnew_10 : decode cX9_joinAnew 10 = .ok (.iload_n 2, 1) := by decide +kernel
theorem dX9_joinAnew_11 : decode cX9_joinAnew 11 = .ok (.aload_n 0, 1) := by decide +kernel
theorem dX9_joinAnew_12 : decode cX9_joinAnew 12 = .ok (.getfield 82, 3) := by decide +kernel
theorem dX9_joinAnew_15 : decode cX9_joinAnew 15 = .ok (.if_icmp .ge 39, 3) := by decide +kernel
theorem dX9_joinAnew_18 : decode cX9_joinAnew 18 = .ok (.aload_n 0, 1) := by decide +kernel
theorem dX9_joinAnew_19 : decode cX9_joinAnew 19 = .ok (.getfield 45, 3) := by decide +kernel
theorem dX9_joinAnew_22 : decode cX9_joinAnew 22 = .ok (.iload_n 2, 1) := by decide +kernel
theorem dX9_joinAnew_23 : decode cX9_joinAnew 23 = .ok (.aaload, 1) := by decide +kernel
theorem dX9_joinAnew_24 : decode cX9_joinAnew 24 = .ok (.astore_n 3, 1) := by decide +kernel
theorem dX9_joinAnew_25 : decode cX9_joinAnew 25 = .ok (.aload_n 3, 1) := by decide +kernel
theorem dX9_joinAnew_26 : decode cX9_joinAnew 26 = .ok (.getfield 253, 3) := by decide +kernel
theorem dX9_joinAnew_29 : decode cX9_joinAnew 29 = .ok (.invokestatic 257, 3) := by decide +kernel
theorem dX9_joinAnew_32 : decode cX9_joinAnew 32 = .ok (.aload_n 1, 1) := by decide +kernel
theorem dX9_joinAnew_33 : decode cX9_joinAnew 33 = .ok (.getfield 210, 3) := by decide +kernel
theorem dX9_joinAnew_36 : decode cX9_joinAnew 36 = .ok (.if_icmp .ne 12, 3) := by decide +kernel
theorem dX9_joinAnew_39 : decode cX9_joinAnew 39 = .ok (.aload_n 0, 1) := by decide +kernel
theorem dX9_joinAnew_40 : decode cX9_joinAnew 40 = .ok (.getfield 71, 3) := by decide +kernel
theorem dX9_joinAnew_43 : decode cX9_joinAnew 43 = .ok (.aload_n 3, 1) := by decide +kernel
theorem dX9_joinAnew_44 : decode cX9_joinAnew 44 = .ok (.invokevirtual 389, 3) := by decide +kernel
theorem dX9_joinAnew_47 : decode cX9_joinAnew 47 = .ok (.pop, 1) := by decide +kernel
theorem dX9_joinAnew_48 : decode cX9_joinAnew 48 = .ok (.iinc 2 1, 3) := by decide +kernel
theorem dX9_joinAnew_51 : decode cX9_joinAnew 51 = .ok (.goto (-41), 3) := by decide +kernel
theorem dX9_joinAnew_54 : decode cX9_joinAnew 54 = .ok (.aload_n 0, 1) := by decide +kernel
theorem dX9_joinAnew_55 : decode cX9_joinAnew 55 = .ok (.getfield 71, 3) := by decide +kernel
theorem dX9_joinAnew_58 : decode cX9_joinAnew 58 = .ok (.aload_n 0, 1) := by decide +kernel
theorem dX9_joinAnew_59 : decode cX9_joinAnew 59 = .ok (.getfield 10, 3) := by decide +kernel
theorem dX9_joinAnew_62 : decode cX9_joinAnew 62 = .ok (.invokevirtual 384, 3) := by decide +kernel
theorem dX9_joinAnew_65 : decode cX9_joinAnew 65 = .ok (.aload_n 0, 1) := by decide +kernel
theorem dX9_joinAnew_66 : decode cX9_joinAnew 66 = .ok (.getfield 71, 3) := by decide +kernel
theorem dX9_joinAnew_69 : decode cX9_joinAnew 69 = .ok (.areturn, 1) := by decide +kernel
theorem dX9_dueByKept_0 : decode cX9_dueByKept 0 = .ok (.iconst 0, 1) := by decide +kernel
theorem dX9_dueByKept_1 : decode cX9_dueByKept 1 = .ok (.istore_n 2, 1) := by decide +kernel
theorem dX9_dueByKept_2 : decode cX9_dueByKept 2 = .ok (.iconst 0, 1) := by decide +kernel
theorem dX9_dueByKept_3 : decode cX9_dueByKept 3 = .ok (.istore_n 3, 1) := by decide +kernel
theorem dX9_dueByKept_4 : decode cX9_dueByKept 4 = .ok (.iload_n 3, 1) := by decide +kernel
theorem dX9_dueByKept_5 : decode cX9_dueByKept 5 = .ok (.aload_n 0, 1) := by decide +kernel
theorem dX9_dueByKept_6 : decode cX9_dueByKept 6 = .ok (.getfield 79, 3) := by decide +kernel
theorem dX9_dueByKept_9 : decode cX9_dueByKept 9 = .ok (.if_icmp .ge 32, 3) := by decide +kernel
theorem dX9_dueByKept_12 : decode cX9_dueByKept 12 = .ok (.aload_n 0, 1) := by decide +kernel
theorem dX9_dueByKept_13 : decode cX9_dueByKept 13 = .ok (.getfield 36, 3) := by decide +kernel
theorem dX9_dueByKept_16 : decode cX9_dueByKept 16 = .ok (.iload_n 3, 1) := by decide +kernel
theorem dX9_dueByKept_17 : decode cX9_dueByKept 17 = .ok (.aaload, 1) := by decide +kernel
theorem dX9_dueByKept_18 : decode cX9_dueByKept 18 = .ok (.astore 4, 2) := by decide +kernel
theorem dX9_dueByKept_20 : decode cX9_dueByKept 20 = .ok (.iload_n 2, 1) := by decide +kernel
theorem dX9_dueByKept_21 : decode cX9_dueByKept 21 = .ok (.aload_n 0, 1) := by decide +kernel
theorem dX9_dueByKept_22 : decode cX9_dueByKept 22 = .ok (.aload 4, 2) := by decide +kernel
theorem dX9_dueByKept_24 : decode cX9_dueByKept 24 = .ok (.aload 4, 2) := by decide +kernel
theorem dX9_dueByKept_26 : decode cX9_dueByKept 26 = .ok (.getfield 275, 3) := by decide +kernel
theorem dX9_dueByKept_29 : decode cX9_dueByKept 29 = .ok (.iload_n 1, 1) := by decide +kernel
theorem dX9_dueByKept_30 : decode cX9_dueByKept 30 = .ok (.invokevirtual 306, 3) := by decide +kernel
theorem dX9_dueByKept_33 : decode cX9_dueByKept 33 = .ok (.iadd, 1) := by decide +kernel
theorem dX9_dueByKept_34 : decode cX9_dueByKept 34 = .ok (.istore_n 2, 1) := by decide +kernel
theorem dX9_dueByKept_35 : decode cX9_dueByKept 35 = .ok (.iinc 3 1, 3) := by decide +kernel
theorem dX9_dueByKept_38 : decode cX9_dueByKept 38 = .ok (.goto (-34), 3) := by decide +kernel
theorem dX9_dueByKept_41 : decode cX9_dueByKept 41 = .ok (.iload_n 2, 1) := by decide +kernel
theorem dX9_dueByKept_42 : decode cX9_dueByKept 42 = .ok (.ireturn, 1) := by decide +kernel
theorem dX9_dueFor_0 : decode cX9_dueFor 0 = .ok (.iconst 0, 1) := by decide +kernel
theorem dX9_dueFor_1 : decode cX9_dueFor 1 = .ok (.istore 4, 2) := by decide +kernel
theorem dX9_dueFor_3 : decode cX9_dueFor 3 = .ok (.iconst 0, 1) := by decide +kernel
theorem dX9_dueFor_4 : decode cX9_dueFor 4 = .ok (.istore 5, 2) := by decide +kernel
theorem dX9_dueFor_6 : decode cX9_dueFor 6 = .ok (.iload 5, 2) := by decide +kernel
theorem dX9_dueFor_8 : decode cX9_dueFor 8 = .ok (.aload_n 2, 1) := by decide +kernel
theorem dX9_dueFor_9 : decode cX9_dueFor 9 = .ok (.getfield 388, 3) := by decide +kernel
theorem dX9_dueFor_12 : decode cX9_dueFor 12 = .ok (.if_icmp .ge 50, 3) := by decide +kernel
theorem dX9_dueFor_15 : decode cX9_dueFor 15 = .ok (.aload_n 2, 1) := by decide +kernel
theorem dX9_dueFor_16 : decode cX9_dueFor 16 = .ok (.getfield 392, 3) := by decide +kernel
theorem dX9_dueFor_19 : decode cX9_dueFor 19 = .ok (.iload 5, 2) := by decide +kernel
theorem dX9_dueFor_21 : decode cX9_dueFor 21 = .ok (.baload, 1) := by decide +kernel
theorem dX9_dueFor_22 : decode cX9_dueFor 22 = .ok (.ifCond .eq 34, 3) := by decide +kernel
theorem dX9_dueFor_25 : decode cX9_dueFor 25 = .ok (.aload_n 1, 1) := by decide +kernel
theorem dX9_dueFor_26 : decode cX9_dueFor 26 = .ok (.aload_n 2, 1) := by decide +kernel
theorem dX9_dueFor_27 : decode cX9_dueFor 27 = .ok (.getfield 297, 3) := by decide +kernel
theorem dX9_dueFor_30 : decode cX9_dueFor 30 = .ok (.iload 5, 2) := by decide +kernel
theorem dX9_dueFor_32 : decode cX9_dueFor 32 = .ok (.aaload, 1) := by decide +kernel
theorem dX9_dueFor_33 : decode cX9_dueFor 33 = .ok (.getfield 300, 3) := by decide +kernel
theorem dX9_dueFor_36 : decode cX9_dueFor 36 = .ok (.invokevirtual 232, 3) := by decide +kernel
theorem dX9_dueFor_39 : decode cX9_dueFor 39 = .ok (.iload_n 3, 1) := by decide +kernel
theorem dX9_dueFor_40 : decode cX9_dueFor 40 = .ok (.if_icmp .ne 16, 3) := by decide +kernel
theorem dX9_dueFor_43 : decode cX9_dueFor 43 = .ok (.iload 4, 2) := by decide +kernel
theorem dX9_dueFor_45 : decode cX9_dueFor 45 = .ok (.aload_n 0, 1) := by decide +kernel
theorem dX9_dueFor_46 : decode cX9_dueFor 46 = .ok (.aload_n 2, 1) := by decide +kernel
theorem dX9_dueFor_47 : decode cX9_dueFor 47 = .ok (.iload 5, 2) := by decide +kernel
theorem dX9_dueFor_49 : decode cX9_dueFor 49 = .ok (.aload_n 1, 1) := by decide +kernel
theorem dX9_dueFor_50 : decode cX9_dueFor 50 = .ok (.invokevirtual 293, 3) := by decide +kernel
theorem dX9_dueFor_53 : decode cX9_dueFor 53 = .ok (.iadd, 1) := by decide +kernel
theorem dX9_dueFor_54 : decode cX9_dueFor 54 = .ok (.istore 4, 2) := by decide +kernel
theorem dX9_dueFor_56 : decode cX9_dueFor 56 = .ok (.iinc 5 1, 3) := by decide +kernel
theorem dX9_dueFor_59 : decode cX9_dueFor 59 = .ok (.goto (-53), 3) := by decide +kernel
theorem dX9_dueFor_62 : decode cX9_dueFor 62 = .ok (.iload 4, 2) := by decide +kernel
theorem dX9_dueFor_64 : decode cX9_dueFor 64 = .ok (.ireturn, 1) := by decide +kernel
theorem dX9_tollFrom_0 : decode cX9_tollFrom 0 = .ok (.aload_n 0, 1) := by decide +kernel
theorem dX9_tollFrom_1 : decode cX9_tollFrom 1 = .ok (.getfield 16, 3) := by decide +kernel
theorem dX9_tollFrom_4 : decode cX9_tollFrom 4 = .ok (.aload_n 3, 1) := by decide +kernel
theorem dX9_tollFrom_5 : decode cX9_tollFrom 5 = .ok (.getfield 396, 3) := by decide +kernel
theorem dX9_tollFrom_8 : decode cX9_tollFrom 8 = .ok (.iaload, 1) := by decide +kernel
theorem dX9_tollFrom_9 : decode cX9_tollFrom 9 = .ok (.aload_n 1, 1) := by decide +kernel
theorem dX9_tollFrom_10 : decode cX9_tollFrom 10 = .ok (.iload_n 2, 1) := by decide +kernel
theorem dX9_tollFrom_11 : decode cX9_tollFrom 11 = .ok (.aload_n 0, 1) := by decide +kernel
theorem dX9_tollFrom_12 : decode cX9_tollFrom 12 = .ok (.getfield 10, 3) := by decide +kernel
theorem dX9_tollFrom_15 : decode cX9_tollFrom 15 = .ok (.invokevirtual 399, 3) := by decide +kernel
theorem dX9_tollFrom_18 : decode cX9_tollFrom 18 = .ok (.iconst 2, 1) := by decide +kernel
theorem dX9_tollFrom_19 : decode cX9_tollFrom 19 = .ok (.iadd, 1) := by decide +kernel
theorem dX9_tollFrom_20 : decode cX9_tollFrom 20 = .ok (.imul, 1) := by decide +kernel
theorem dX9_tollFrom_21 : decode cX9_tollFrom 21 = .ok (.ireturn, 1) := by decide +kernel
theorem dX10_init_0 : decode cX10_init 0 = .ok (.aload_n 0, 1) := by decide +kernel
theorem dX10_init_1 : decode cX10_init 1 = .ok (.invokespecial 1, 3) := by decide +kernel
theorem dX10_init_4 : decode cX10_init 4 = .ok (.aload_n 0, 1) := by decide +kernel
theorem dX10_init_5 : decode cX10_init 5 = .ok (.bipush 30, 2) := by decide +kernel
theorem dX10_init_7 : decode cX10_init 7 = .ok (.putfield 7, 3) := by decide +kernel
theorem dX10_init_10 : decode cX10_init 10 = .ok (.aload_n 0, 1) := by decide +kernel
theorem dX10_init_11 : decode cX10_init 11 = .ok (.bipush 64, 2) := by decide +kernel
theorem dX10_init_13 : decode cX10_init 13 = .ok (.newarray .int, 2) := by decide +kernel
theorem dX10_init_15 : decode cX10_init 15 = .ok (.putfield 13, 3) := by decide +kernel
theorem dX10_init_18 : decode cX10_init 18 = .ok (.aload_n 0, 1) := by decide +kernel
theorem dX10_init_19 : decode cX10_init 19 = .ok (.bipush 64, 2) := by decide +kernel
theorem dX10_init_21 : decode cX10_init 21 = .ok (.newarray .int, 2) := by decide +kernel
theorem dX10_init_23 : decode cX10_init 23 = .ok (.putfield 17, 3) := by decide +kernel
theorem dX10_init_26 : decode cX10_init 26 = .ok (.aload_n 0, 1) := by decide +kernel
theorem dX10_init_27 : decode cX10_init 27 = .ok (.iconst 4, 1) := by decide +kernel
theorem dX10_init_28 : decode cX10_init 28 = .ok (.newarray .int, 2) := by decide +kernel
theorem dX10_init_30 : decode cX10_init 30 = .ok (.putfield 20, 3) := by decide +kernel
theorem dX10_init_33 : decode cX10_init 33 = .ok (.aload_n 0, 1) := by decide +kernel
theorem dX10_init_34 : decode cX10_init 34 = .ok (.bipush 6, 2) := by decide +kernel
theorem dX10_init_36 : decode cX10_init 36 = .ok (.newarray .int, 2) := by decide +kernel
theorem dX10_init_38 : decode cX10_init 38 = .ok (.putfield 23, 3) := by decide +kernel
theorem dX10_init_41 : decode cX10_init 41 = .ok (.aload_n 0, 1) := by decide +kernel
theorem dX10_init_42 : decode cX10_init 42 = .ok (.sipush 225, 3) := by decide +kernel
theorem dX10_init_45 : decode cX10_init 45 = .ok (.newarray .boolean, 2) := by decide +kernel
theorem dX10_init_47 : decode cX10_init 47 = .ok (.putfield 26, 3) := by decide +kernel
theorem dX10_init_50 : decode cX10_init 50 = .ok (.aload_n 0, 1) := by decide +kernel
theorem dX10_init_51 : decode cX10_init 51 = .ok (.bipush 10, 2) := by decide +kernel
theorem dX10_init_53 : decode cX10_init 53 = .ok (.newarray .int, 2) := by decide +kernel
theorem dX10_init_55 : decode cX10_init 55 = .ok (.putfield 30, 3) := by decide +kernel
theorem dX10_init_58 : decode cX10_init 58 = .ok (.aload_n 0, 1) := by decide +kernel
theorem dX10_init_59 : decode cX10_init 59 = .ok (.bipush 60, 2) := by decide +kernel
theorem dX10_init_61 : decode cX10_init 61 = .ok (.newarray .int, 2) := by decide +kernel
theorem dX10_init_63 : decode cX10_init 63 = .ok (.putfield 33, 3) := by decide +kernel
theorem dX10_init_66 : decode cX10_init 66 = .ok (.aload_n 0, 1) := by decide +kernel
theorem dX10_init_67 : decode cX10_init 67 = .ok (.bipush 10, 2) := by decide +kernel
theorem dX10_init_69 : decode cX10_init 69 = .ok (.newarray .int, 2) := by decide +kernel
theorem dX10_init_71 : decode cX10_init 71 = .ok (.putfield 36, 3) := by decide +kernel
theorem dX10_init_74 : decode cX10_init 74 = .ok (.aload_n 0, 1) := by decide +kernel
theorem dX10_init_75 : decode cX10_init 75 = .ok (.sipush 700, 3) := by decide +kernel
theorem dX10_init_78 : decode cX10_init 78 = .ok (.newarray .int, 2) := by decide +kernel
theorem dX10_init_80 : decode cX10_init 80 = .ok (.putfield 39, 3) := by decide +kernel
theorem dX10_init_83 : decode cX10_init 83 = .ok (.aload_n 0, 1) := by decide +kernel
theorem dX10_init_84 : decode cX10_init 84 = .ok (.sipush 700, 3) := by decide +kernel
theorem dX10_init_87 : decode cX10_init 87 = .ok (.newarray .int, 2) := by decide +kernel
theorem dX10_init_89 : decode cX10_init 89 = .ok (.putfield 42, 3) := by decide +kernel
theorem dX10_init_92 : decode cX10_init 92 = .ok (.aload_n 0, 1) := by decide +kernel
theorem dX10_init_93 : decode cX10_init 93 = .ok (.sipush 700, 3) := by decide +kernel
theorem dX10_init_96 : decode cX10_init 96 = .ok (.newarray .int, 2) := by decide +kernel
theorem dX10_init_98 : decode cX10_init 98 = .ok (.putfield 45, 3) := by decide +kernel
theorem dX10_init_101 : decode cX10_init 101 = .ok (.aload_n 0, 1) := by decide +kernel
theorem dX10_init_102 : decode cX10_init 102 = .ok (.bipush 60, 2) := by decide +kernel
theorem dX10_init_104 : decode cX10_init 104 = .ok (.newarray .int, 2) := by decide +kernel
theorem dX10_init_106 : decode cX10_init 106 = .ok (.putfield 48, 3) := by decide +kernel
theorem dX10_init_109 : decode cX10_init 109 = .ok (.aload_n 0, 1) := by decide +kernel
theorem dX10_init_110 : decode cX10_init 110 = .ok (.bipush 60, 2) := by decide +kernel
theorem dX10_init_112 : decode cX10_init 112 = .ok (.newarray .int, 2) := by decide +kernel
theorem dX10_init_114 : decode cX10_init 114 = .ok (.putfield 51, 3) := by decide +kernel
theorem dX10_init_117 : decode cX10_init 117 = .ok (.aload_n 0, 1) := by decide +kernel
theorem dX10_init_118 : decode cX10_init 118 = .ok (.bipush 60, 2) := by decide +kernel
theorem dX10_init_120 : decode cX10_init 120 = .ok (.newarray .int, 2) := by decide +kernel
theorem dX10_init_122 : decode cX10_init 122 = .ok (.putfield 54, 3) := by decide +kernel
theorem dX10_init_125 : decode cX10_init 125 = .ok (.aload_n 0, 1) := by decide +kernel
theorem dX10_init_126 : decode cX10_init 126 = .ok (.sipush 360, 3) := by decide +kernel
theorem dX10_init_129 : decode cX10_init 129 = .ok (.newarray .int, 2) := by decide +kernel
theorem dX10_init_131 : decode cX10_init 131 = .ok (.putfield 57, 3) := by decide +kernel
theorem dX10_init_134 : decode cX10_init 134 = .ok (.aload_n 0, 1) := by decide +kernel
theorem dX10_init_135 : decode cX10_init 135 = .ok (.bipush 60, 2) := by decide +kernel
theorem dX10_init_137 : decode cX10_init 137 = .ok (.newarray .boolean, 2) := by decide +kernel
theorem dX10_init_139 : decode cX10_init 139 = .ok (.putfield 60, 3) := by decide +kernel
theorem dX10_init_142 : decode cX10_init 142 = .ok (.aload_n 0, 1) := by decide +kernel
theorem dX10_init_143 : decode cX10_init 143 = .ok (.bipush 60, 2) := by decide +kernel
theorem dX10_init_145 : decode cX10_init 145 = .ok (.newarray .int, 2) := by decide +kernel
theorem dX10_init_147 : decode cX10_init 147 = .ok (.putfield 63, 3) := by decide +kernel
theorem dX10_init_150 : decode cX10_init 150 = .ok (.aload_n 0, 1) := by decide +kernel
theorem dX10_init_151 : decode cX10_init 151 = .ok (.bipush 60, 2) := by decide +kernel
theorem dX10_init_153 : decode cX10_init 153 = .ok (.newarray .int, 2) := by decide +kernel
theorem dX10_init_155 : decode cX10_init 155 = .ok (.putfield 66, 3) := by decide +kernel
theorem dX10_init_158 : decode cX10_init 158 = .ok (.aload_n 0, 1) := by decide +kernel
theorem dX10_init_159 : decode cX10_init 159 = .ok (.bipush 60, 2) := by decide +kernel
theorem dX10_init_161 : decode cX10_init 161 = .ok (.newarray .int, 2) := by decide +kernel
theorem dX10_init_163 : decode cX10_init 163 = .ok (.putfield 69, 3) := by decide +kernel
theorem dX10_init_166 : decode cX10_init 166 = .ok (.aload_n 0, 1) := by decide +kernel
theorem dX10_init_167 : decode cX10_init 167 = .ok (.bipush 6, 2) := by decide +kernel
theorem dX10_init_169 : decode cX10_init 169 = .ok (.newarray .long, 2) := by decide +kernel
theorem dX10_init_171 : decode cX10_init 171 = .ok (.putfield 72, 3) := by decide +kernel
theorem dX10_init_174 : decode cX10_init 174 = .ok (.aload_n 0, 1) := by decide +kernel
theorem dX10_init_175 : decode cX10_init 175 = .ok (.bipush 6, 2) := by decide +kernel
theorem dX10_init_177 : decode cX10_init 177 = .ok (.newarray .long, 2) := by decide +kernel
theorem dX10_init_179 : decode cX10_init 179 = .ok (.putfield 76, 3) := by decide +kernel
theorem dX10_init_182 : decode cX10_init 182 = .ok (.aload_n 0, 1) := by decide +kernel
theorem dX10_init_183 : decode cX10_init 183 = .ok (.bipush 8, 2) := by decide +kernel
theorem dX10_init_185 : decode cX10_init 185 = .ok (.newarray .int, 2) := by decide +kernel
theorem dX10_init_187 : decode cX10_init 187 = .ok (.putfield 79, 3) := by decide +kernel
theorem dX10_init_190 : decode cX10_init 190 = .ok (.aload_n 0, 1) := by decide +kernel
theorem dX10_init_191 : decode cX10_init 191 = .ok (.bipush 8, 2) := by decide +kernel
theorem dX10_init_193 : decode cX10_init 193 = .ok (.newarray .int, 2) := by decide +kernel
theorem dX10_init_195 : decode cX10_init 195 = .ok (.putfield 82, 3) := by decide +kernel
theorem dX10_init_198 : decode cX10_init 198 = .ok (.aload_n 0, 1) := by decide +kernel
theorem dX10_init_199 : decode cX10_init 199 = .ok (.bipush 8, 2) := by decide +kernel
theorem dX10_init_201 : decode cX10_init 201 = .ok (.newarray .int, 2) := by decide +kernel
theorem dX10_init_203 : decode cX10_init 203 = .ok (.putfield 85, 3) := by decide +kernel
theorem dX10_init_206 : decode cX10_init 206 = .ok (.aload_n 0, 1) := by decide +kernel
theorem dX10_init_207 : decode cX10_init 207 = .ok (.bipush 40, 2) := by decide +kernel
theorem dX10_init_209 : decode cX10_init 209 = .ok (.newarray .int, 2) := by decide +kernel
theorem dX10_init_211 : decode cX10_init 211 = .ok (.putfield 88, 3) := by decide +kernel
theorem dX10_init_214 : decode cX10_init 214 = .ok (.aload_n 0, 1) := by decide +kernel
theorem dX10_init_215 : decode cX10_init 215 = .ok (.bipush 40, 2) := by decide +kernel
theorem dX10_init_217 : decode cX10_init 217 = .ok (.newarray .int, 2) := by decide +kernel
theorem dX10_init_219 : decode cX10_init 219 = .ok (.putfield 91, 3) := by decide +kernel
theorem dX10_init_222 : decode cX10_init 222 = .ok (.aload_n 0, 1) := by decide +kernel
theorem dX10_init_223 : decode cX10_init 223 = .ok (.bipush 40, 2) := by decide +kernel
theorem dX10_init_225 : decode cX10_init 225 = .ok (.newarray .int, 2) := by decide +kernel
theorem dX10_init_227 : decode cX10_init 227 = .ok (.putfield 94, 3) := by decide +kernel
theorem dX10_init_230 : decode cX10_init 230 = .ok (.iconst 0, 1) := by decide +kernel
theorem dX10_init_231 : decode cX10_init 231 = .ok (.istore_n 1, 1) := by decide +kernel
theorem dX10_init_232 : decode cX10_init 232 = .ok (.iload_n 1, 1) := by decide +kernel
theorem dX10_init_233 : decode cX10_init 233 = .ok (.iconst 4, 1) := by decide +kernel
theorem dX10_init_234 : decode cX10_init 234 = .ok (.if_icmp .ge 18, 3) := by decide +kernel
theorem dX10_init_237 : decode cX10_init 237 = .ok (.aload_n 0, 1) := by decide +kernel
theorem dX10_init_238 : decode cX10_init 238 = .ok (.getfield 20, 3) := by decide +kernel
theorem dX10_init_241 : decode cX10_init 241 = .ok (.iload_n 1, 1) := by decide +kernel
theorem dX10_init_242 : decode cX10_init 242 = .ok (.iconst 1, 1) := by decide +kernel
theorem dX10_init_243 : decode cX10_init 243 = .ok (.iload_n 1, 1) := by decide +kernel
theorem dX10_init_244 : decode cX10_init 244 = .ok (.ishl, 1) := by decide +kernel
theorem dX10_init_245 : decode cX10_init 245 = .ok (.iastore, 1) := by decide +kernel
theorem dX10_init_246 : decode cX10_init 246 = .ok (.iinc 1 1, 3) := by decide +kernel
theorem dX10_init_249 : decode cX10_init 249 = .ok (.goto (-17), 3) := by decide +kernel
theorem dX10_init_252 : decode cX10_init 252 = .ok (.aload_n 0, 1) := by decide +kernel
theorem dX10_init_253 : decode cX10_init 253 = .ok (.invokevirtual 97, 3) := by decide +kernel
theorem dX10_init_256 : decode cX10_init 256 = .ok (.return_, 1) := by decide +kernel
theorem dX10_thrown_0 : decode cX10_thrown 0 = .ok (.aload_n 0, 1) := by decide +kernel
theorem dX10_thrown_1 : decode cX10_thrown 1 = .ok (.getfield 100, 3) := by decide +kernel
theorem dX10_thrown_4 : decode cX10_thrown 4 = .ok (.ireturn, 1) := by decide +kernel
theorem dX10_can_0 : decode cX10_can 0 = .ok (.aload_n 0, 1) := by decide +kernel
theorem dX10_can_1 : decode cX10_can 1 = .ok (.iload_n 1, 1) := by decide +kernel
theorem dX10_can_2 : decode cX10_can 2 = .ok (.putfield 100, 3) := by decide +kernel
theorem dX10_can_5 : decode cX10_can 5 = .ok (.iload_n 1, 1) := by decide +kernel
theorem dX10_can_6 : decode cX10_can 6 = .ok (.ifCond .ne 7, 3) := by decide +kernel
theorem dX10_can_9 : decode cX10_can 9 = .ok (.iconst 1, 1) := by decide +kernel
theorem dX10_can_10 : decode cX10_can 10 = .ok (.goto 4, 3) := by decide +kernel
theorem dX10_can_13 : decode cX10_can 13 = .ok (.iconst 0, 1) := by decide +kernel
theorem dX10_can_14 : decode cX10_can 14 = .ok (.ireturn, 1) := by decide +kernel
theorem dX10_isIn_0 : decode cX10_isIn 0 = .ok (.iload_n 0, 1) := by decide +kernel
theorem dX10_isIn_1 : decode cX10_isIn 1 = .ok (.iload_n 1, 1) := by decide +kernel
theorem dX10_isIn_2 : decode cX10_isIn 2 = .ok (.if_icmp .lt 12, 3) := by decide +kernel
theorem dX10_isIn_5 : decode cX10_isIn 5 = .ok (.iload_n 0, 1) := by decide +kernel
theorem dX10_isIn_6 : decode cX10_isIn 6 = .ok (.iload_n 2, 1) := by decide +kernel
theorem dX10_isIn_7 : decode cX10_isIn 7 = .ok (.if_icmp .gt 7, 3) := by decide +kernel
theorem dX10_isIn_10 : decode cX10_isIn 10 = .ok (.iconst 1, 1) := by decide +kernel
theorem dX10_isIn_11 : decode cX10_isIn 11 = .ok (.goto 4, 3) := by decide +kernel
theorem dX10_isIn_14 : decode cX10_isIn 14 = .ok (.iconst 0, 1) := by decide +kernel
theorem dX10_isIn_15 : decode cX10_isIn 15 = .ok (.ireturn, 1) := by decide +kernel
theorem dX10_isGate_0 : decode cX10_isGate 0 = .ok (.iload_n 0, 1) := by decide +kernel
theorem dX10_isGate_1 : decode cX10_isGate 1 = .ok (.iconst 0, 1) := by decide +kernel
theorem dX10_isGate_2 : decode cX10_isGate 2 = .ok (.bipush 7, 2) := by decide +kernel
theorem dX10_isGate_4 : decode cX10_isGate 4 = .ok (.invokestatic 103, 3) := by decide +kernel
theorem dX10_isGate_7 : decode cX10_isGate 7 = .ok (.ireturn, 1) := by decide +kernel
theorem dX10_isPlate_0 : decode cX10_isPlate 0 = .ok (.iload_n 1, 1) := by decide +kernel
theorem dX10_isPlate_1 : decode cX10_isPlate 1 = .ok (.iconst 0, 1) := by decide +kernel
theorem dX10_isPlate_2 : decode cX10_isPlate 2 = .ok (.aload_n 0, 1) := by decide +kernel
theorem dX10_isPlate_3 : decode cX10_isPlate 3 = .ok (.getfield 107, 3) := by decide +kernel
theorem dX10_isPlate_6 : decode cX10_isPlate 6 = .ok (.iconst 1, 1) := by decide +kernel
theorem dX10_isPlate_7 : decode cX10_isPlate 7 = .ok (.isub, 1) := by decide +kernel
theorem dX10_isPlate_8 : decode cX10_isPlate 8 = .ok (.invokestatic 103, 3) := by decide +kernel
theorem dX10_isPlate_11 : decode cX10_isPlate 11 = .ok (.ireturn, 1) := by decide +kernel
theorem dX10_isDriver_0 : decode cX10_isDriver 0 = .ok (.iload_n 0, 1) := by decide +kernel
theorem dX10_isDriver_1 : decode cX10_isDriver 1 = .ok (.iconst 0, 1) := by decide +kernel
theorem dX10_isDriver_2 : decode cX10_isDriver 2 = .ok (.iconst 5, 1) := by decide +kernel
theorem dX10_isDriver_3 : decode cX10_isDriver 3 = .ok (.invokestatic 103, 3) := by decide +kernel
theorem dX10_isDriver_6 : decode cX10_isDriver 6 = .ok (.ireturn, 1) := by decide +kernel
theorem dX10_isReading_0 : decode cX10_isReading 0 = .ok (.iload_n 1, 1) := by decide +kernel
theorem dX10_isReading_1 : decode cX10_isReading 1 = .ok (.iconst 0, 1) := by decide +kernel
theorem dX10_isReading_2 : decode cX10_isReading 2 = .ok (.aload_n 0, 1) := by decide +kernel
theorem dX10_isReading_3 : decode cX10_isReading 3 = .ok (.getfield 110, 3) := by decide +kernel
theorem dX10_isReading_6 : decode cX10_isReading 6 = .ok (.iconst 1, 1) := by decide +kernel
theorem dX10_isReading_7 : decode cX10_isReading 7 = .ok (.isub, 1) := by decide +kernel
theorem dX10_isReading_8 : decode cX10_isReading 8 = .ok (.invokestatic 103, 3) := by decide +kernel
theorem dX10_isReading_11 : decode cX10_isReading 11 = .ok (.ireturn, 1) := by decide +kernel
theorem dX10_pass_0 : decode cX10_pass 0 = .ok (.aload_n 0, 1) := by decide +kernel
theorem dX10_pass_1 : decode cX10_pass 1 = .ok (.iload_n 1, 1) := by decide +kernel
theorem dX10_pass_2 : decode cX10_pass 2 = .ok (.iconst 1, 1) := by decide +kernel
theorem dX10_pass_3 : decode cX10_pass 3 = .ok (.sipush 2000, 3) := by decide +kernel
theorem dX10_pass_6 : decode cX10_pass 6 = .ok (.invokestatic 103, 3) := by decide +kernel
theorem dX10_pass_9 : decode cX10_pass 9 = .ok (.ifCond .ne 7, 3) := by decide +kernel
theorem dX10_pass_12 : decode cX10_pass 12 = .ok (.iconst 1, 1) := by decide +kernel
theorem dX10_pass_13 : decode cX10_pass 13 = .ok (.goto 19, 3) := by decide +kernel
theorem dX10_pass_16 : decode cX10_pass 16 = .ok (.aload_n 0, 1) := by decide +kernel
theorem dX10_pass_17 : decode cX10_pass 17 = .ok (.getfield 113, 3) := by decide +kernel
theorem dX10_pass_20 : decode cX10_pass 20 = .ok (.iload_n 1, 1) := by decide +kernel
theorem dX10_pass_21 : decode cX10_pass 21 = .ok (.iadd, 1) := by decide +kernel
theorem dX10_pass_22 : decode cX10_pass 22 = .ok (.ldc 116, 2) := by decide +kernel
theorem dX10_pass_24 : decode cX10_pass 24 = .ok (.if_icmp .le 7, 3) := by decide +kernel
theorem dX10_pass_27 : decode cX10_pass 27 = .ok (.iconst 2, 1) := by decide +kernel
theorem dX10_pass_28 : decode cX10_pass 28 = .ok (.goto 4, 3) := by decide +kernel
theorem dX10_pass_31 : decode cX10_pass 31 = .ok (.iconst 0, 1) := by decide +kernel
theorem dX10_pass_32 : decode cX10_pass 32 = .ok (.invokevirtual 117, 3) := by decide +kernel
theorem dX10_pass_35 : decode cX10_pass 35 = .ok (.ifCond .ne 5, 3) := by decide +kernel
theorem dX10_pass_38 : decode cX10_pass 38 = .ok (.iconst 0, 1) := by decide +kernel
theorem dX10_pass_39 : decode cX10_pass 39 = .ok (.ireturn, 1) := by decide +kernel
theorem dX10_pass_40 : decode cX10_pass 40 = .ok (.aload_n 0, 1) := by decide +kernel
theorem dX10_pass_41 : decode cX10_pass 41 = .ok (.dup, 1) := by decide +kernel
theorem dX10_pass_42 : decode cX10_pass 42 = .ok (.getfield 113, 3) := by decide +kernel
theorem dX10_pass_45 : decode cX10_pass 45 = .ok (.iload_n 1, 1) := by decide +kernel
theorem dX10_pass_46 : decode cX10_pass 46 = .ok (.iadd, 1) := by decide +kernel
theorem dX10_pass_47 : decode cX10_pass 47 = .ok (.putfield 113, 3) := by decide +kernel
theorem dX10_pass_50 : decode cX10_pass 50 = .ok (.aload_n 0, 1) := by decide +kernel
theorem dX10_pass_51 : decode cX10_pass 51 = .ok (.getfield 113, 3) := by decide +kernel
theorem dX10_pass_54 : decode cX10_pass 54 = .ok (.ireturn, 1) := by decide +kernel
theorem dX10_now_0 : decode cX10_now 0 = .ok (.aload_n 0, 1) := by decide +kernel
theorem dX10_now_1 : decode cX10_now 1 = .ok (.iconst 0, 1) := by decide +kernel
theorem dX10_now_2 : decode cX10_now 2 = .ok (.putfield 100, 3) := by decide +kernel
theorem dX10_now_5 : decode cX10_now 5 = .ok (.aload_n 0, 1) := by decide +kernel
theorem dX10_now_6 : decode cX10_now 6 = .ok (.getfield 113, 3) := by decide +kernel
theorem dX10_now_9 : decode cX10_now 9 = .ok (.ireturn, 1) := by decide +kernel
theorem dX10_measures_0 : decode cX10_measures 0 = .ok (.iconst 0, 1) := by decide +kernel
theorem dX10_measures_1 : decode cX10_measures 1 = .ok (.istore_n 1, 1) := by decide +kernel
theorem dX10_measures_2 : decode cX10_measures 2 = .ok (.iload_n 1, 1) := by decide +kernel
theorem dX10_measures_3 : decode cX10_measures 3 = .ok (.bipush 64, 2) := by decide +kernel
theorem dX10_measures_5 : decode cX10_measures 5 = .ok (.if_icmp .ge 49, 3) := by decide +kernel
theorem dX10_measures_8 : decode cX10_measures 8 = .ok (.aload_n 0, 1) := by decide +kernel
theorem dX10_measures_9 : decode cX10_measures 9 = .ok (.getfield 17, 3) := by decide +kernel
theorem dX10_measures_12 : decode cX10_measures 12 = .ok (.iload_n 1, 1) := by decide +kernel
theorem dX10_measures_13 : decode cX10_measures 13 = .ok (.iload_n 1, 1) := by decide +kernel
theorem dX10_measures_14 : decode cX10_measures 14 = .ok (.bipush 8, 2) := by decide +kernel
theorem dX10_measures_16 : decode cX10_measures 16 = .ok (.idiv, 1) := by decide +kernel
theorem dX10_measures_17 : decode cX10_measures 17 = .ok (.iload_n 1, 1) := by decide +kernel
theorem dX10_measures_18 : decode cX10_measures 18 = .ok (.bipush 8, 2) := by decide +kernel
theorem dX10_measures_20 : decode cX10_measures 20 = .ok (.irem, 1) := by decide +kernel
theorem dX10_measures_21 : decode cX10_measures 21 = .ok (.if_icmp .ne 7, 3) := by decide +kernel
theorem dX10_measures_24 : decode cX10_measures 24 = .ok (.iconst 0, 1) := by decide +kernel
theorem dX10_measures_25 : decode cX10_measures 25 = .ok (.goto 22, 3) := by decide +kernel
theorem dX10_measures_28 : decode cX10_measures 28 = .ok (.aload_n 0, 1) := by decide +kernel
theorem dX10_measures_29 : decode cX10_measures 29 = .ok (.getfield 13, 3) := by decide +kernel
theorem dX10_measures_32 : decode cX10_measures 32 = .ok (.iload_n 1, 1) := by decide +kernel
theorem dX10_measures_33 : decode cX10_measures 33 = .ok (.iaload, 1) := by decide +kernel
theorem dX10_measures_34 : decode cX10_measures 34 = .ok (.ifCond .ne 7, 3) := by decide +kernel
theorem dX10_measures_37 : decode cX10_measures 37 = .ok (.iconst (-1), 1) := by decide +kernel
theorem dX10_measures_38 : decode cX10_measures 38 = .ok (.goto 9, 3) := by decide +kernel
theorem dX10_measures_41 : decode cX10_measures 41 = .ok (.aload_n 0, 1) := by decide +kernel
theorem dX10_measures_42 : decode cX10_measures 42 = .ok (.getfield 13, 3) := by decide +kernel
theorem dX10_measures_45 : decode cX10_measures 45 = .ok (.iload_n 1, 1) := by decide +kernel
theorem dX10_measures_46 : decode cX10_measures 46 = .ok (.iaload, 1) := by decide +kernel
theorem dX10_measures_47 : decode cX10_measures 47 = .ok (.iastore, 1) := by decide +kernel
theorem dX10_measures_48 : decode cX10_measures 48 = .ok (.iinc 1 1, 3) := by decide +kernel
theorem dX10_measures_51 : decode cX10_measures 51 = .ok (.goto (-49), 3) := by decide +kernel
theorem dX10_measures_54 : decode cX10_measures 54 = .ok (.iconst 0, 1) := by decide +kernel
theorem dX10_measures_55 : decode cX10_measures 55 = .ok (.istore_n 1, 1) := by decide +kernel
theorem dX10_measures_56 : decode cX10_measures 56 = .ok (.iload_n 1, 1) := by decide +kernel
theorem dX10_measures_57 : decode cX10_measures 57 = .ok (.bipush 8, 2) := by decide +kernel
theorem dX10_measures_59 : decode cX10_measures 59 = .ok (.if_icmp .ge 119, 3) := by decide +kernel
theorem dX10_measures_62 : decode cX10_measures 62 = .ok (.iconst 0, 1) := by decide +kernel
theorem dX10_measures_63 : decode cX10_measures 63 = .ok (.istore_n 2, 1) := by decide +kernel
theorem dX10_measures_64 : decode cX10_measures 64 = .ok (.iload_n 2, 1) := by decide +kernel
theorem dX10_measures_65 : decode cX10_measures 65 = .ok (.bipush 64, 2) := by decide +kernel
theorem dX10_measures_67 : decode cX10_measures 67 = .ok (.if_icmp .ge 105, 3) := by decide +kernel
theorem dX10_measures_70 : decode cX10_measures 70 = .ok (.aload_n 0, 1) := by decide +kernel
theorem dX10_measures_71 : decode cX10_measures 71 = .ok (.getfield 17, 3) := by decide +kernel
theorem dX10_measures_74 : decode cX10_measures 74 = .ok (.bipush 8, 2) := by decide +kernel
theorem dX10_measures_76 : decode cX10_measures 76 = .ok (.iload_n 2, 1) := by decide +kernel
theorem dX10_measures_77 : decode cX10_measures 77 = .ok (.bipush 8, 2) := by decide +kernel
theorem dX10_measures_79 : decode cX10_measures 79 = .ok (.idiv, 1) := by decide +kernel
theorem dX10_measures_80 : decode cX10_measures 80 = .ok (.imul, 1) := by decide +kernel
theorem dX10_measures_81 : decode cX10_measures 81 = .ok (.iload_n 1, 1) := by decide +kernel
theorem dX10_measures_82 : decode cX10_measures 82 = .ok (.iadd, 1) := by decide +kernel
theorem dX10_measures_83 : decode cX10_measures 83 = .ok (.iaload, 1) := by decide +kernel
theorem dX10_measures_84 : decode cX10_measures 84 = .ok (.istore_n 3, 1) := by decide +kernel
theorem dX10_measures_85 : decode cX10_measures 85 = .ok (.aload_n 0, 1) := by decide +kernel
theorem dX10_measures_86 : decode cX10_measures 86 = .ok (.getfield 17, 3) := by decide +kernel
theorem dX10_measures_89 : decode cX10_measures 89 = .ok (.bipush 8, 2) := by decide +kernel
theorem dX10_measures_91 : decode cX10_measures 91 = .ok (.iload_n 1, 1) := by decide +kernel
theorem dX10_measures_92 : decode cX10_measures 92 = .ok (.imul, 1) := by decide +kernel
theorem dX10_measures_93 : decode cX10_measures 93 = .ok (.iload_n 2, 1) := by decide +kernel
theorem dX10_measures_94 : decode cX10_measures 94 = .ok (.bipush 8, 2) := by decide +kernel
theorem dX10_measures_96 : decode cX10_measures 96 = .ok (.irem, 1) := by decide +kernel
theorem dX10_measures_97 : decode cX10_measures 97 = .ok (.iadd, 1) := by decide +kernel
theorem dX10_measures_98 : decode cX10_measures 98 = .ok (.iaload, 1) := by decide +kernel
theorem dX10_measures_99 : decode cX10_measures 99 = .ok (.istore 4, 2) := by decide +kernel
theorem dX10_measures_101 : decode cX10_measures 101 = .ok (.iload_n 3, 1) := by decide +kernel
theorem dX10_measures_102 : decode cX10_measures 102 = .ok (.iconst (-1), 1) := by decide +kernel
theorem dX10_measures_103 : decode cX10_measures 103 = .ok (.if_icmp .eq 36, 3) := by decide +kernel
theorem dX10_measures_106 : decode cX10_measures 106 = .ok (.iload 4, 2) := by decide +kernel
theorem dX10_measures_108 : decode cX10_measures 108 = .ok (.iconst (-1), 1) := by decide +kernel
theorem dX10_measures_109 : decode cX10_measures 109 = .ok (.if_icmp .eq 30, 3) := by decide +kernel
theorem dX10_measures_112 : decode cX10_measures 112 = .ok (.aload_n 0, 1) := by decide +kernel
theorem dX10_measures_113 : decode cX10_measures 113 = .ok (.getfield 17, 3) := by decide +kernel
theorem dX10_measures_116 : decode cX10_measures 116 = .ok (.iload_n 2, 1) := by decide +kernel
theorem dX10_measures_117 : decode cX10_measures 117 = .ok (.iaload, 1) := by decide +kernel
theorem dX10_measures_118 : decode cX10_measures 118 = .ok (.iconst (-1), 1) := by decide +kernel
theorem dX10_measures_119 : decode cX10_measures 119 = .ok (.if_icmp .eq 16, 3) := by decide +kernel
theorem dX10_measures_122 : decode cX10_measures 122 = .ok (.iload_n 3, 1) := by decide +kernel
theorem dX10_measures_123 : decode cX10_measures 123 = .ok (.iload 4, 2) := by decide +kernel
theorem dX10_measures_125 : decode cX10_measures 125 = .ok (.iadd, 1) := by decide +kernel
theorem dX10_measures_126 : decode cX10_measures 126 = .ok (.aload_n 0, 1) := by decide +kernel
theorem dX10_measures_127 : decode cX10_measures 127 = .ok (.getfield 17, 3) := by decide +kernel
theorem dX10_measures_130 : decode cX10_measures 130 = .ok (.iload_n 2, 1) := by decide +kernel
theorem dX10_measures_131 : decode cX10_measures 131 = .ok (.iaload, 1) := by decide +kernel
theorem dX10_measures_132 : decode cX10_measures 132 = .ok (.if_icmp .ge 7, 3) := by decide +kernel
theorem dX10_measures_135 : decode cX10_measures 135 = .ok (.iconst 1, 1) := by decide +kernel
theorem dX10_measures_136 : decode cX10_measures 136 = .ok (.goto 4, 3) := by decide +kernel
theorem dX10_measures_139 : decode cX10_measures 139 = .ok (.iconst 0, 1) := by decide +kernel
theorem dX10_measures_140 : decode cX10_measures 140 = .ok (.istore 5, 2) := by decide +kernel
theorem dX10_measures_142 : decode cX10_measures 142 = .ok (.aload_n 0, 1) := by decide +kernel
theorem dX10_measures_143 : decode cX10_measures 143 = .ok (.getfield 17, 3) := by decide +kernel
theorem dX10_measures_146 : decode cX10_measures 146 = .ok (.iload_n 2, 1) := by decide +kernel
theorem dX10_measures_147 : decode cX10_measures 147 = .ok (.iload 5, 2) := by decide +kernel
theorem dX10_measures_149 : decode cX10_measures 149 = .ok (.ifCond .eq 10, 3) := by decide +kernel
theorem dX10_measures_152 : decode cX10_measures 152 = .ok (.iload_n 3, 1) := by decide +kernel
theorem dX10_measures_153 : decode cX10_measures 153 = .ok (.iload 4, 2) := by decide +kernel
theorem dX10_measures_155 : decode cX10_measures 155 = .ok (.iadd, 1) := by decide +kernel
theorem dX10_measures_156 : decode cX10_measures 156 = .ok (.goto 9, 3) := by decide +kernel
theorem dX10_measures_159 : decode cX10_measures 159 = .ok (.aload_n 0, 1) := by decide +kernel
theorem dX10_measures_160 : decode cX10_measures 160 = .ok (.getfield 17, 3) := by decide +kernel
theorem dX10_measures_163 : decode cX10_measures 163 = .ok (.iload_n 2, 1) := by decide +kernel
theorem dX10_measures_164 : decode cX10_measures 164 = .ok (.iaload, 1) := by decide +kernel
theorem dX10_measures_165 : decode cX10_measures 165 = .ok (.iastore, 1) := by decide +kernel
theorem dX10_measures_166 : decode cX10_measures 166 = .ok (.iinc 2 1, 3) := by decide +kernel
theorem dX10_measures_169 : decode cX10_measures 169 = .ok (.goto (-105), 3) := by decide +kernel
theorem dX10_measures_172 : decode cX10_measures 172 = .ok (.iinc 1 1, 3) := by decide +kernel
theorem dX10_measures_175 : decode cX10_measures 175 = .ok (.goto (-119), 3) := by decide +kernel
theorem dX10_measures_178 : decode cX10_measures 178 = .ok (.return_, 1) := by decide +kernel
theorem dX10_road_0 : decode cX10_road 0 = .ok (.iload_n 1, 1) := by decide +kernel
theorem dX10_road_1 : decode cX10_road 1 = .ok (.invokestatic 121, 3) := by decide +kernel
theorem dX10_road_4 : decode cX10_road 4 = .ok (.ifCond .eq 14, 3) := by decide +kernel
theorem dX10_road_7 : decode cX10_road 7 = .ok (.iload_n 2, 1) := by decide +kernel
theorem dX10_road_8 : decode cX10_road 8 = .ok (.invokestatic 121, 3) := by decide +kernel
theorem dX10_road_11 : decode cX10_road 11 = .ok (.ifCond .eq 7, 3) := by decide +kernel
theorem dX10_road_14 : decode cX10_road 14 = .ok (.iconst 1, 1) := by decide +kernel
theorem dX10_road_15 : decode cX10_road 15 = .ok (.goto 4, 3) := by decide +kernel
theorem dX10_road_18 : decode cX10_road 18 = .ok (.iconst 0, 1) := by decide +kernel
theorem dX10_road_19 : decode cX10_road 19 = .ok (.istore 4, 2) := by decide +kernel
theorem dX10_road_21 : decode cX10_road 21 = .ok (.aload_n 0, 1) := by decide +kernel
theorem dX10_road_22 : decode cX10_road 22 = .ok (.iload 4, 2) := by decide +kernel
theorem dX10_road_24 : decode cX10_road 24 = .ok (.ifCond .ne 7, 3) := by decide +kernel
theorem dX10_road_27 : decode cX10_road 27 = .ok (.iconst 1, 1) := by decide +kernel
theorem dX10_road_28 : decode cX10_road 28 = .ok (.goto 24, 3) := by decide +kernel
theorem dX10_road_31 : decode cX10_road 31 = .ok (.iload_n 1, 1) := by decide +kernel
theorem dX10_road_32 : decode cX10_road 32 = .ok (.iload_n 2, 1) := by decide +kernel
theorem dX10_road_33 : decode cX10_road 33 = .ok (.if_icmp .eq 14, 3) := by decide +kernel
theorem dX10_road_36 : decode cX10_road 36 = .ok (.iload_n 3, 1) := by decide +kernel
theorem dX10_road_37 : decode cX10_road 37 = .ok (.iconst 0, 1) := by decide +kernel
theorem dX10_road_38 : decode cX10_road 38 = .ok (.sipush 200, 3) := by decide +kernel
theorem dX10_road_41 : decode cX10_road 41 = .ok (.invokestatic 103, 3) := by decide +kernel
theorem dX10_road_44 : decode cX10_road 44 = .ok (.ifCond .ne 7, 3) := by decide +kernel
theorem dX10_road_47 : decode cX10_road 47 = .ok (.iconst 2, 1) := by decide +kernel
theorem dX10_road_48 : decode cX10_road 48 = .ok (.goto 4, 3) := by decide +kernel
theorem dX10_road_51 : decode cX10_road 51 = .ok (.iconst 0, 1) := by decide +kernel
theorem dX10_road_52 : decode cX10_road 52 = .ok (.invokevirtual 117, 3) := by decide +kernel
theorem dX10_road_55 : decode cX10_road 55 = .ok (.ifCond .ne 5, 3) := by decide +kernel
theorem dX10_road_58 : decode cX10_road 58 = .ok (.iconst 0, 1) := by decide +kernel
theorem dX10_road_59 : decode cX10_road 59 = .ok (.ireturn, 1) := by decide +kernel
theorem dX10_road_60 : decode cX10_road 60 = .ok (.aload_n 0, 1) := by decide +kernel
theorem dX10_road_61 : decode cX10_road 61 = .ok (.getfield 13, 3) := by decide +kernel
theorem dX10_road_64 : decode cX10_road 64 = .ok (.bipush 8, 2) := by decide +kernel
theorem dX10_road_66 : decode cX10_road 66 = .ok (.iload_n 1, 1) := by decide +kernel
theorem dX10_road_67 : decode cX10_road 67 = .ok (.imul, 1) := by decide +kernel
theorem dX10_road_68 : decode cX10_road 68 = .ok (.iload_n 2, 1) := by decide +kernel
theorem dX10_road_69 : decode cX10_road 69 = .ok (.iadd, 1) := by decide +kernel
theorem dX10_road_70 : decode cX10_road 70 = .ok (.iaload, 1) := by decide +kernel
theorem dX10_road_71 : decode cX10_road 71 = .ok (.istore 5, 2) := by decide +kernel
theorem dX10_road_73 : decode cX10_road 73 = .ok (.aload_n 0, 1) := by decide +kernel
theorem dX10_road_74 : decode cX10_road 74 = .ok (.getfield 13, 3) := by decide +kernel
theorem dX10_road_77 : decode cX10_road 77 = .ok (.bipush 8, 2) := by decide +kernel
theorem dX10_road_79 : decode cX10_road 79 = .ok (.iload_n 1, 1) := by decide +kernel
theorem dX10_road_80 : decode cX10_road 80 = .ok (.imul, 1) := by decide +kernel
theorem dX10_road_81 : decode cX10_road 81 = .ok (.iload_n 2, 1) := by decide +kernel
theorem dX10_road_82 : decode cX10_road 82 = .ok (.iadd, 1) := by decide +kernel
theorem dX10_road_83 : decode cX10_road 83 = .ok (.iload_n 3, 1) := by decide +kernel
theorem dX10_road_84 : decode cX10_road 84 = .ok (.iastore, 1) := by decide +kernel
theorem dX10_road_85 : decode cX10_road 85 = .ok (.aload_n 0, 1) := by decide +kernel
theorem dX10_road_86 : decode cX10_road 86 = .ok (.getfield 13, 3) := by decide +kernel
theorem dX10_road_89 : decode cX10_road 89 = .ok (.bipush 8, 2) := by decide +kernel
theorem dX10_road_91 : decode cX10_road 91 = .ok (.iload_n 2, 1) := by decide +kernel
theorem dX10_road_92 : decode cX10_road 92 = .ok (.imul, 1) := by decide +kernel
theorem dX10_road_93 : decode cX10_road 93 = .ok (.iload_n 1, 1) := by decide +kernel
theorem dX10_road_94 : decode cX10_road 94 = .ok (.iadd, 1) := by decide +kernel
theorem dX10_road_95 : decode cX10_road 95 = .ok (.iload_n 3, 1) := by decide +kernel
theorem dX10_road_96 : decode cX10_road 96 = .ok (.iastore, 1) := by decide +kernel
theorem dX10_road_97 : decode cX10_road 97 = .ok (.aload_n 0, 1) := by decide +kernel
theorem dX10_road_98 : decode cX10_road 98 = .ok (.invokevirtual 97, 3) := by decide +kernel
theorem dX10_road_101 : decode cX10_road 101 = .ok (.iload 5, 2) := by decide +kernel
theorem dX10_road_103 : decode cX10_road 103 = .ok (.ireturn, 1) := by decide +kernel
theorem dX10_distance_0 : decode cX10_distance 0 = .ok (.aload_n 0, 1) := by decide +kernel
theorem dX10_distance_1 : decode cX10_distance 1 = .ok (.iload_n 1, 1) := by decide +kernel
theorem dX10_distance_2 : decode cX10_distance 2 = .ok (.invokestatic 121, 3) := by decide +kernel
theorem dX10_distance_5 : decode cX10_distance 5 = .ok (.ifCond .eq 14, 3) := by decide +kernel
theorem dX10_distance_8 : decode cX10_distance 8 = .ok (.iload_n 2, 1) := by decide +kernel
theorem dX10_distance_9 : decode cX10_distance 9 = .ok (.invokestatic 121, 3) := by decide +kernel
theorem dX10_distance_12 : decode cX10_distance 12 = .ok (.ifCond .eq 7, 3) := by decide +kernel
theorem dX10_distance_15 : decode cX10_distance 15 = .ok (.iconst 0, 1) := by decide +kernel
theorem dX10_distance_16 : decode cX10_distance 16 = .ok (.goto 4, 3) := by decide +kernel
theorem dX10_distance_19 : decode cX10_distance 19 = .ok (.iconst 1, 1) := by decide +kernel
theorem dX10_distance_20 : decode cX10_distance 20 = .ok (.invokevirtual 117, 3) := by decide +kernel
theorem dX10_distance_23 : decode cX10_distance 23 = .ok (.ifCond .eq 17, 3) := by decide +kernel
theorem dX10_distance_26 : decode cX10_distance 26 = .ok (.aload_n 0, 1) := by decide +kernel
theorem dX10_distance_27 : decode cX10_distance 27 = .ok (.getfield 17, 3) := by decide +kernel
theorem dX10_distance_30 : decode cX10_distance 30 = .ok (.bipush 8, 2) := by decide +kernel
theorem dX10_distance_32 : decode cX10_distance 32 = .ok (.iload_n 1, 1) := by decide +kernel
theorem dX10_distance_33 : decode cX10_distance 33 = .ok (.imul, 1) := by decide +kernel
theorem dX10_distance_34 : decode cX10_distance 34 = .ok (.iload_n 2, 1) := by decide +kernel
theorem dX10_distance_35 : decode cX10_distance 35 = .ok (.iadd, 1) := by decide +kernel
theorem dX10_distance_36 : decode cX10_distance 36 = .ok (.iaload, 1) := by decide +kernel
theorem dX10_distance_37 : decode cX10_distance 37 = .ok (.goto 4, 3) := by decide +kernel
theorem dX10_distance_40 : decode cX10_distance 40 = .ok (.iconst 0, 1) := by decide +kernel
theorem dX10_distance_41 : decode cX10_distance 41 = .ok (.ireturn, 1) := by decide +kernel
theorem dX10_setPause_0 : decode cX10_setPause 0 = .ok (.aload_n 0, 1) := by decide +kernel
theorem dX10_setPause_1 : decode cX10_setPause 1 = .ok (.iload_n 1, 1) := by decide +kernel
theorem dX10_setPause_2 : decode cX10_setPause 2 = .ok (.iconst 0, 1) := by decide +kernel
theorem dX10_setPause_3 : decode cX10_setPause 3 = .ok (.sipush 500, 3) := by decide +kernel
theorem dX10_setPause_6 : decode cX10_setPause 6 = .ok (.invokestatic 103, 3) := by decide +kernel
theorem dX10_setPause_9 : decode cX10_setPause 9 = .ok (.ifCond .eq 7, 3) := by decide +kernel
theorem dX10_setPause_12 : decode cX10_setPause 12 = .ok (.iconst 0, 1) := by decide +kernel
theorem dX10_setPause_13 : decode cX10_setPause 13 = .ok (.goto 4, 3) := by decide +kernel
theorem dX10_setPause_16 : decode cX10_setPause 16 = .ok (.iconst 1, 1) := by decide +kernel
theorem dX10_setPause_17 : decode cX10_setPause 17 = .ok (.invokevirtual 117, 3) := by decide +kernel
theorem dX10_setPause_20 : decode cX10_setPause 20 = .ok (.ifCond .ne 5, 3) := by decide +kernel
theorem dX10_setPause_23 : decode cX10_setPause 23 = .ok (.iconst 0, 1) := by decide +kernel
theorem dX10_setPause_24 : decode cX10_setPause 24 = .ok (.ireturn, 1) := by decide +kernel
theorem dX10_setPause_25 : decode cX10_setPause 25 = .ok (.aload_n 0, 1) := by decide +kernel
theorem dX10_setPause_26 : decode cX10_setPause 26 = .ok (.getfield 7, 3) := by decide +kernel
theorem dX10_setPause_29 : decode cX10_setPause 29 = .ok (.istore_n 2, 1) := by decide +kernel
theorem dX10_setPause_30 : decode cX10_setPause 30 = .ok (.aload_n 0, 1) := by decide +kernel
theorem dX10_setPause_31 : decode cX10_setPause 31 = .ok (.iload_n 1, 1) := by decide +kernel
theorem dX10_setPause_32 : decode cX10_setPause 32 = .ok (.putfield 7, 3) := by decide +kernel
theorem dX10_setPause_35 : decode cX10_setPause 35 = .ok (.iload_n 2, 1) := by decide +kernel
theorem dX10_setPause_36 : decode cX10_setPause 36 = .ok (.ireturn, 1) := by decide +kernel
theorem dX10_setRate_0 : decode cX10_setRate 0 = .ok (.aload_n 0, 1) := by decide +kernel
theorem dX10_setRate_1 : decode cX10_setRate 1 = .ok (.iload_n 1, 1) := by decide +kernel
theorem dX10_setRate_2 : decode cX10_setRate 2 = .ok (.iconst 0, 1) := by decide +kernel
theorem dX10_setRate_3 : decode cX10_setRate 3 = .ok (.iconst 3, 1) := by decide +kernel
theorem dX10_setRate_4 : decode cX10_setRate 4 = .ok (.invokestatic 103, 3) := by decide +kernel
theorem dX10_setRate_7 : decode cX10_setRate 7 = .ok (.ifCond .eq 17, 3) := by decide +kernel
theorem dX10_setRate_10 : decode cX10_setRate 10 = .ok (.iload_n 2, 1) := by decide +kernel
theorem dX10_setRate_11 : decode cX10_setRate 11 = .ok (.iconst 0, 1) := by decide +kernel
theorem dX10_setRate_12 : decode cX10_setRate 12 = .ok (.bipush 50, 2) := by decide +kernel
theorem dX10_setRate_14 : decode cX10_setRate 14 = .ok (.invokestatic 103, 3) := by decide +kernel
theorem dX10_setRate_17 : decode cX10_setRate 17 = .ok (.ifCond .eq 7, 3) := by decide +kernel
theorem dX10_setRate_20 : decode cX10_setRate 20 = .ok (.iconst 0, 1) := by decide +kernel
theorem dX10_setRate_21 : decode cX10_setRate 21 = .ok (.goto 4, 3) := by decide +kernel
theorem dX10_setRate_24 : decode cX10_setRate 24 = .ok (.iconst 1, 1) := by decide +kernel
theorem dX10_setRate_25 : decode cX10_setRate 25 = .ok (.invokevirtual 117, 3) := by decide +kernel
theorem dX10_setRate_28 : decode cX10_setRate 28 = .ok (.ifCond .ne 5, 3) := by decide +kernel
theorem dX10_setRate_31 : decode cX10_setRate 31 = .ok (.iconst 0, 1) := by decide +kernel
theorem dX10_setRate_32 : decode cX10_setRate 32 = .ok (.ireturn, 1) := by decide +kernel
theorem dX10_setRate_33 : decode cX10_setRate 33 = .ok (.aload_n 0, 1) := by decide +kernel
theorem dX10_setRate_34 : decode cX10_setRate 34 = .ok (.getfield 20, 3) := by decide +kernel
theorem dX10_setRate_37 : decode cX10_setRate 37 = .ok (.iload_n 1, 1) := by decide +kernel
theorem dX10_setRate_38 : decode cX10_setRate 38 = .ok (.iaload, 1) := by decide +kernel
theorem dX10_setRate_39 : decode cX10_setRate 39 = .ok (.istore_n 3, 1) := by decide +kernel
theorem dX10_setRate_40 : decode cX10_setRate 40 = .ok (.aload_n 0, 1) := by decide +kernel
theorem dX10_setRate_41 : decode cX10_setRate 41 = .ok (.getfield 20, 3) := by decide +kernel
theorem dX10_setRate_44 : decode cX10_setRate 44 = .ok (.iload_n 1, 1) := by decide +kernel
theorem dX10_setRate_45 : decode cX10_setRate 45 = .ok (.iload_n 2, 1) := by decide +kernel
theorem dX10_setRate_46 : decode cX10_setRate 46 = .ok (.iastore, 1) := by decide +kernel
theorem dX10_setRate_47 : decode cX10_setRate 47 = .ok (.iload_n 3, 1) := by decide +kernel
theorem dX10_setRate_48 : decode cX10_setRate 48 = .ok (.ireturn, 1) := by decide +kernel
theorem dX10_isSign_0 : decode cX10_isSign 0 = .ok (.iload_n 0, 1) := by decide +kernel
theorem dX10_isSign_1 : decode cX10_isSign 1 = .ok (.iconst 0, 1) := by decide +kernel
theorem dX10_isSign_2 : decode cX10_isSign 2 = .ok (.bipush 14, 2) := by decide +kernel
theorem dX10_isSign_4 : decode cX10_isSign 4 = .ok (.invokestatic 103, 3) := by decide +kernel
theorem dX10_isSign_7 : decode cX10_isSign 7 = .ok (.ireturn, 1) := by decide +kernel
theorem dX10_isPair_0 : decode cX10_isPair 0 = .ok (.iload_n 0, 1) := by decide +kernel
theorem dX10_isPair_1 : decode cX10_isPair 1 = .ok (.bipush 10, 2) := by decide +kernel
theorem dX10_isPair_3 : decode cX10_isPair 3 = .ok (.bipush 13, 2) := by decide +kernel
theorem dX10_isPair_5 : decode cX10_isPair 5 = .ok (.invokestatic 103, 3) := by decide +kernel
theorem dX10_isPair_8 : decode cX10_isPair 8 = .ok (.ireturn, 1) := by decide +kernel
theorem dX10_chars_0 : decode cX10_chars 0 = .ok (.iconst 0, 1) := by decide +kernel
theorem dX10_chars_1 : decode cX10_chars 1 = .ok (.istore_n 1, 1) := by decide +kernel
theorem dX10_chars_2 : decode cX10_chars 2 = .ok (.iconst 0, 1) := by decide +kernel
theorem dX10_chars_3 : decode cX10_chars 3 = .ok (.istore_n 2, 1) := by decide +kernel
theorem dX10_chars_4 : decode cX10_chars 4 = .ok (.iload_n 2, 1) := by decide +kernel
theorem dX10_chars_5 : decode cX10_chars 5 = .ok (.aload_n 0, 1) := by decide +kernel
theorem dX10_chars_6 : decode cX10_chars 6 = .ok (.getfield 124, 3) := by decide +kernel
theorem dX10_chars_9 : decode cX10_chars 9 = .ok (.if_icmp .ge 29, 3) := by decide +kernel
theorem dX10_chars_12 : decode cX10_chars 12 = .ok (.iload_n 1, 1) := by decide +kernel
theorem dX10_chars_13 : decode cX10_chars 13 = .ok (.aload_n 0, 1) := by decide +kernel
theorem dX10_chars_14 : decode cX10_chars 14 = .ok (.getfield 23, 3) := by decide +kernel
theorem dX10_chars_17 : decode cX10_chars 17 = .ok (.iload_n 2, 1) := by decide +kernel
theorem dX10_chars_18 : decode cX10_chars 18 = .ok (.iaload, 1) := by decide +kernel
theorem dX10_chars_19 : decode cX10_chars 19 = .ok (.invokestatic 127, 3) := by decide +kernel
theorem dX10_chars_22 : decode cX10_chars 22 = .ok (.ifCond .eq 7, 3) := by decide +kernel
theorem dX10_chars_25 : decode cX10_chars 25 = .ok (.iconst 2, 1) := by decide +kernel
theorem dX10_chars_26 : decode cX10_chars 26 = .ok (.goto 4, 3) := by decide +kernel
theorem dX10_chars_29 : decode cX10_chars 29 = .ok (.iconst 1, 1) := by decide +kernel
theorem dX10_chars_30 : decode cX10_chars 30 = .ok (.iadd, 1) := by decide +kernel
theorem dX10_chars_31 : decode cX10_chars 31 = .ok (.istore_n 1, 1) := by decide +kernel
theorem dX10_chars_32 : decode cX10_chars 32 = .ok (.iinc 2 1, 3) := by decide +kernel
theorem dX10_chars_35 : decode cX10_chars 35 = .ok (.goto (-31), 3) := by decide +kernel
theorem dX10_chars_38 : decode cX10_chars 38 = .ok (.iload_n 1, 1) := by decide +kernel
theorem dX10_chars_39 : decode cX10_chars 39 = .ok (.ireturn, 1) := by decide +kernel
theorem dX10_puts_0 : decode cX10_puts 0 = .ok (.aload_n 0, 1) := by decide +kernel
theorem dX10_puts_1 : decode cX10_puts 1 = .ok (.getfield 124, 3) := by decide +kernel
theorem dX10_puts_4 : decode cX10_puts 4 = .ok (.istore_n 3, 1) := by decide +kernel
theorem dX10_puts_5 : decode cX10_puts 5 = .ok (.iload_n 3, 1) := by decide +kernel
theorem dX10_puts_6 : decode cX10_puts 6 = .ok (.iload_n 2, 1) := by decide +kernel
theorem dX10_puts_7 : decode cX10_puts 7 = .ok (.if_icmp .le 23, 3) := by decide +kernel
theorem dX10_puts_10 : decode cX10_puts 10 = .ok (.aload_n 0, 1) := by decide +kernel
theorem dX10_puts_11 : decode cX10_puts 11 = .ok (.getfield 23, 3) := by decide +kernel
theorem dX10_puts_14 : decode cX10_puts 14 = .ok (.iload_n 3, 1) := by decide +kernel
theorem dX10_puts_15 : decode cX10_puts 15 = .ok (.aload_n 0, 1) := by decide +kernel
theorem dX10_puts_16 : decode cX10_puts 16 = .ok (.getfield 23, 3) := by decide +kernel
theorem dX10_puts_19 : decode cX10_puts 19 = .ok (.iload_n 3, 1) := by decide +kernel
theorem dX10_puts_20 : decode cX10_puts 20 = .ok (.iconst 1, 1) := by decide +kernel
theorem dX10_puts_21 : decode cX10_puts 21 = .ok (.isub, 1) := by decide +kernel
theorem dX10_puts_22 : decode cX10_puts 22 = .ok (.iaload, 1) := by decide +kernel
theorem dX10_puts_23 : decode cX10_puts 23 = .ok (.iastore, 1) := by decide +kernel
theorem dX10_puts_24 : decode cX10_puts 24 = .ok (.iinc 3 (-1), 3) := by decide +kernel
theorem dX10_puts_27 : decode cX10_puts 27 = .ok (.goto (-22), 3) := by decide +kernel
theorem dX10_puts_30 : decode cX10_puts 30 = .ok (.aload_n 0, 1) := by decide +kernel
theorem dX10_puts_31 : decode cX10_puts 31 = .ok (.getfield 23, 3) := by decide +kernel
theorem dX10_puts_34 : decode cX10_puts 34 = .ok (.iload_n 2, 1) := by decide +kernel
theorem dX10_puts_35 : decode cX10_puts 35 = .ok (.iload_n 1, 1) := by decide +kernel
theorem dX10_puts_36 : decode cX10_puts 36 = .ok (.iastore, 1) := by decide +kernel
theorem dX10_puts_37 : decode cX10_puts 37 = .ok (.aload_n 0, 1) := by decide +kernel
theorem dX10_puts_38 : decode cX10_puts 38 = .ok (.dup, 1) := by decide +kernel
theorem dX10_puts_39 : decode cX10_puts 39 = .ok (.getfield 124, 3) := by decide +kernel
theorem dX10_puts_42 : decode cX10_puts 42 = .ok (.iconst 1, 1) := by decide +kernel
theorem dX10_puts_43 : decode cX10_puts 43 = .ok (.iadd, 1) := by decide +kernel
theorem dX10_puts_44 : decode cX10_puts 44 = .ok (.putfield 124, 3) := by decide +kernel
theorem dX10_puts_47 : decode cX10_puts 47 = .ok (.aload_n 0, 1) := by decide +kernel
theorem dX10_puts_48 : decode cX10_puts 48 = .ok (.invokevirtual 130, 3) := by decide +kernel
theorem dX10_puts_51 : decode cX10_puts 51 = .ok (.ireturn, 1) := by decide +kernel
theorem dX10_spell_0 : decode cX10_spell 0 = .ok (.aload_n 0, 1) := by decide +kernel
theorem dX10_spell_1 : decode cX10_spell 1 = .ok (.iload_n 1, 1) := by decide +kernel
theorem dX10_spell_2 : decode cX10_spell 2 = .ok (.invokestatic 134, 3) := by decide +kernel
theorem dX10_spell_5 : decode cX10_spell 5 = .ok (.ifCond .ne 7, 3) := by decide +kernel
theorem dX10_spell_8 : decode cX10_spell 8 = .ok (.iconst 1, 1) := by decide +kernel
theorem dX10_spell_9 : decode cX10_spell 9 = .ok (.goto 17, 3) := by decide +kernel
theorem dX10_spell_12 : decode cX10_spell 12 = .ok (.aload_n 0, 1) := by decide +kernel
theorem dX10_spell_13 : decode cX10_spell 13 = .ok (.getfield 124, 3) := by decide +kernel
theorem dX10_spell_16 : decode cX10_spell 16 = .ok (.bipush 6, 2) := by decide +kernel
theorem dX10_spell_18 : decode cX10_spell 18 = .ok (.if_icmp .ne 7, 3) := by decide +kernel
theorem dX10_spell_21 : decode cX10_spell 21 = .ok (.iconst 2, 1) := by decide +kernel
theorem dX10_spell_22 : decode cX10_spell 22 = .ok (.goto 4, 3) := by decide +kernel
theorem dX10_spell_25 : decode cX10_spell 25 = .ok (.iconst 0, 1) := by decide +kernel
theorem dX10_spell_26 : decode cX10_spell 26 = .ok (.invokevirtual 117, 3) := by decide +kernel
theorem dX10_spell_29 : decode cX10_spell 29 = .ok (.ifCond .eq 15, 3) := by decide +kernel
theorem dX10_spell_32 : decode cX10_spell 32 = .ok (.aload_n 0, 1) := by decide +kernel
theorem dX10_spell_33 : decode cX10_spell 33 = .ok (.iload_n 1, 1) := by decide +kernel
theorem dX10_spell_34 : decode cX10_spell 34 = .ok (.aload_n 0, 1) := by decide +kernel
theorem dX10_spell_35 : decode cX10_spell 35 = .ok (.getfield 124, 3) := by decide +kernel
theorem dX10_spell_38 : decode cX10_spell 38 = .ok (.invokevirtual 137, 3) := by decide +kernel
theorem dX10_spell_41 : decode cX10_spell 41 = .ok (.goto 4, 3) := by decide +kernel
theorem dX10_spell_44 : decode cX10_spell 44 = .ok (.iconst 0, 1) := by decide +kernel
theorem dX10_spell_45 : decode cX10_spell 45 = .ok (.ireturn, 1) := by decide +kernel
theorem dX10_insert_0 : decode cX10_insert 0 = .ok (.aload_n 0, 1) := by decide +kernel
theorem dX10_insert_1 : decode cX10_insert 1 = .ok (.iload_n 1, 1) := by decide +kernel
theorem dX10_insert_2 : decode cX10_insert 2 = .ok (.invokestatic 134, 3) := by decide +kernel
theorem dX10_insert_5 : decode cX10_insert 5 = .ok (.ifCond .ne 7, 3) := by decide +kernel
theorem dX10_insert_8 : decode cX10_insert 8 = .ok (.iconst 1, 1) := by decide +kernel
theorem dX10_insert_9 : decode cX10_insert 9 = .ok (.goto 35, 3) := by decide +kernel
theorem dX10_insert_12 : decode cX10_insert 12 = .ok (.iload_n 2, 1) := by decide +kernel
theorem dX10_insert_13 : decode cX10_insert 13 = .ok (.iconst 0, 1) := by decide +kernel
theorem dX10_insert_14 : decode cX10_insert 14 = .ok (.aload_n 0, 1) := by decide +kernel
theorem dX10_insert_15 : decode cX10_insert 15 = .ok (.getfield 124, 3) := by decide +kernel
theorem dX10_insert_18 : decode cX10_insert 18 = .ok (.iconst 1, 1) := by decide +kernel
theorem dX10_insert_19 : decode cX10_insert 19 = .ok (.isub, 1) := by decide +kernel
theorem dX10_insert_20 : decode cX10_insert 20 = .ok (.invokestatic 103, 3) := by decide +kernel
theorem dX10_insert_23 : decode cX10_insert 23 = .ok (.ifCond .ne 7, 3) := by decide +kernel
theorem dX10_insert_26 : decode cX10_insert 26 = .ok (.iconst 2, 1) := by decide +kernel
theorem dX10_insert_27 : decode cX10_insert 27 = .ok (.goto 17, 3) := by decide +kernel
theorem dX10_insert_30 : decode cX10_insert 30 = .ok (.aload_n 0, 1) := by decide +kernel
theorem dX10_insert_31 : decode cX10_insert 31 = .ok (.getfield 124, 3) := by decide +kernel
theorem dX10_insert_34 : decode cX10_insert 34 = .ok (.bipush 6, 2) := by decide +kernel
theorem dX10_insert_36 : decode cX10_insert 36 = .ok (.if_icmp .ne 7, 3) := by decide +kernel
theorem dX10_insert_39 : decode cX10_insert 39 = .ok (.iconst 3, 1) := by decide +kernel
theorem dX10_insert_40 : decode cX10_insert 40 = .ok (.goto 4, 3) := by decide +kernel
theorem dX10_insert_43 : decode cX10_insert 43 = .ok (.iconst 0, 1) := by decide +kernel
theorem dX10_insert_44 : decode cX10_insert 44 = .ok (.invokevirtual 117, 3) := by decide +kernel
theorem dX10_insert_47 : decode cX10_insert 47 = .ok (.ifCond .eq 12, 3) := by decide +kernel
theorem dX10_insert_50 : decode cX10_insert 50 = .ok (.aload_n 0, 1) := by decide +kernel
theorem dX10_insert_51 : decode cX10_insert 51 = .ok (.iload_n 1, 1) := by decide +kernel
theorem dX10_insert_52 : decode cX10_insert 52 = .ok (.iload_n 2, 1) := by decide +kernel
theorem dX10_insert_53 : decode cX10_insert 53 = .ok (.invokevirtual 137, 3) := by decide +kernel
theorem dX10_insert_56 : decode cX10_insert 56 = .ok (.goto 4, 3) := by decide +kernel
theorem dX10_insert_59 : decode cX10_insert 59 = .ok (.iconst 0, 1) := by decide +kernel
theorem dX10_insert_60 : decode cX10_insert 60 = .ok (.ireturn, 1) := by decide +kernel
theorem dX10_mirror_0 : decode cX10_mirror 0 = .ok (.aload_n 0, 1) := by decide +kernel
theorem dX10_mirror_1 : decode cX10_mirror 1 = .ok (.iconst 0, 1) := by decide +kernel
theorem dX10_mirror_2 : decode cX10_mirror 2 = .ok (.putfield 100, 3) := by decide +kernel
theorem dX10_mirror_5 : decode cX10_mirror 5 = .ok (.iconst 0, 1) := by decide +kernel
theorem dX10_mirror_6 : decode cX10_mirror 6 = .ok (.istore_n 1, 1) := by decide +kernel
theorem dX10_mirror_7 : decode cX10_mirror 7 = .ok (.iload_n 1, 1) := by decide +kernel
theorem dX10_mirror_8 : decode cX10_mirror 8 = .ok (.aload_n 0, 1) := by decide +kernel
theorem dX10_mirror_9 : decode cX10_mirror 9 = .ok (.getfield 124, 3) := by decide +kernel
theorem dX10_mirror_12 : decode cX10_mirror 12 = .ok (.iconst 2, 1) := by decide +kernel
theorem dX10_mirror_13 : decode cX10_mirror 13 = .ok (.idiv, 1) := by decide +kernel
theorem dX10_mirror_14 : decode cX10_mirror 14 = .ok (.if_icmp .ge 49, 3) := by decide +kernel
theorem dX10_mirror_17 : decode cX10_mirror 17 = .ok (.aload_n 0, 1) := by decide +kernel
theorem dX10_mirror_18 : decode cX10_mirror 18 = .ok (.getfield 23, 3) := by decide +kernel
theorem dX10_mirror_21 : decode cX10_mirror 21 = .ok (.iload_n 1, 1) := by decide +kernel
theorem dX10_mirror_22 : decode cX10_mirror 22 = .ok (.iaload, 1) := by decide +kernel
theorem dX10_mirror_23 : decode cX10_mirror 23 = .ok (.istore_n 2, 1) := by decide +kernel
theorem dX10_mirror_24 : decode cX10_mirror 24 = .ok (.aload_n 0, 1) := by decide +kernel
theorem dX10_mirror_25 : decode cX10_mirror 25 = .ok (.getfield 23, 3) := by decide +kernel
theorem dX10_mirror_28 : decode cX10_mirror 28 = .ok (.iload_n 1, 1) := by decide +kernel
theorem dX10_mirror_29 : decode cX10_mirror 29 = .ok (.aload_n 0, 1) := by decide +kernel
theorem dX10_mirror_30 : decode cX10_mirror 30 = .ok (.getfield 23, 3) := by decide +kernel
theorem dX10_mirror_33 : decode cX10_mirror 33 = .ok (.aload_n 0, 1) := by decide +kernel
theorem dX10_mirror_34 : decode cX10_mirror 34 = .ok (.getfield 124, 3) := by decide +kernel
theorem dX10_mirror_37 : decode cX10_mirror 37 = .ok (.iconst 1, 1) := by decide +kernel
theorem dX10_mirror_38 : decode cX10_mirror 38 = .ok (.isub, 1) := by decide +kernel
theorem dX10_mirror_39 : decode cX10_mirror 39 = .ok (.iload_n 1, 1) := by decide +kernel
theorem dX10_mirror_40 : decode cX10_mirror 40 = .ok (.isub, 1) := by decide +kernel
theorem dX10_mirror_41 : decode cX10_mirror 41 = .ok (.iaload, 1) := by decide +kernel
theorem dX10_mirror_42 : decode cX10_mirror 42 = .ok (.iastore, 1) := by decide +kernel
theorem dX10_mirror_43 : decode cX10_mirror 43 = .ok (.aload_n 0, 1) := by decide +kernel
theorem dX10_mirror_44 : decode cX10_mirror 44 = .ok (.getfield 23, 3) := by decide +kernel
theorem dX10_mirror_47 : decode cX10_mirror 47 = .ok (.aload_n 0, 1) := by decide +kernel
theorem dX10_mirror_48 : decode cX10_mirror 48 = .ok (.getfield 124, 3) := by decide +kernel
theorem dX10_mirror_51 : decode cX10_mirror 51 = .ok (.iconst 1, 1) := by decide +kernel
theorem dX10_mirror_52 : decode cX10_mirror 52 = .ok (.isub, 1) := by decide +kernel
theorem dX10_mirror_53 : decode cX10_mirror 53 = .ok (.iload_n 1, 1) := by decide +kernel
theorem dX10_mirror_54 : decode cX10_mirror 54 = .ok (.isub, 1) := by decide +kernel
theorem dX10_mirror_55 : decode cX10_mirror 55 = .ok (.iload_n 2, 1) := by decide +kernel
theorem dX10_mirror_56 : decode cX10_mirror 56 = .ok (.iastore, 1) := by decide +kernel
theorem dX10_mirror_57 : decode cX10_mirror 57 = .ok (.iinc 1 1, 3) := by decide +kernel
theorem dX10_mirror_60 : decode cX10_mirror 60 = .ok (.goto (-53), 3) := by decide +kernel
theorem dX10_mirror_63 : decode cX10_mirror 63 = .ok (.aload_n 0, 1) := by decide +kernel
theorem dX10_mirror_64 : decode cX10_mirror 64 = .ok (.getfield 124, 3) := by decide +kernel
theorem dX10_mirror_67 : decode cX10_mirror 67 = .ok (.ireturn, 1) := by decide +kernel
theorem dX10_clearSpelled_0 : decode cX10_clearSpelled 0 = .ok (.aload_n 0, 1) := by decide +kernel
theorem dX10_clearSpelled_1 : decode cX10_clearSpelled 1 = .ok (.iconst 0, 1) := by decide +kernel
theorem dX10_clearSpelled_2 : decode cX10_clearSpelled 2 = .ok (.putfield 100, 3) := by decide +kernel
theorem dX10_clearSpelled_5 : decode cX10_clearSpelled 5 = .ok (.aload_n 0, 1) := by decide +kernel
theorem dX10_clearSpelled_6 : decode cX10_clearSpelled 6 = .ok (.getfield 124, 3) := by decide +kernel
theorem dX10_clearSpelled_9 : decode cX10_clearSpelled 9 = .ok (.istore_n 1, 1) := by decide +kernel
theorem dX10_clearSpelled_10 : decode cX10_clearSpelled 10 = .ok (.aload_n 0, 1) := by decide +kernel
theorem dX10_clearSpelled_11 : decode cX10_clearSpelled 11 = .ok (.iconst 0, 1) := by decide +kernel
theorem dX10_clearSpelled_12 : decode cX10_clearSpelled 12 = .ok (.putfield 124, 3) := by decide +kernel
theorem dX10_clearSpelled_15 : decode cX10_clearSpelled 15 = .ok (.iload_n 1, 1) := by decide +kernel
theorem dX10_clearSpelled_16 : decode cX10_clearSpelled 16 = .ok (.ireturn, 1) := by decide +kernel
theorem dX10_charAt_0 : decode cX10_charAt 0 = .ok (.iload_n 1, 1) := by decide +kernel
theorem dX10_charAt_1 : decode cX10_charAt 1 = .ok (.istore_n 2, 1) := by decide +kernel
theorem dX10_charAt_2 : decode cX10_charAt 2 = .ok (.iconst 0, 1) := by decide +kernel
theorem dX10_charAt_3 : decode cX10_charAt 3 = .ok (.istore_n 3, 1) := by decide +kernel
theorem dX10_charAt_4 : decode cX10_charAt 4 = .ok (.iload_n 3, 1) := by decide +kernel
theorem dX10_charAt_5 : decode cX10_charAt 5 = .ok (.aload_n 0, 1) := by decide +kernel
theorem dX10_charAt_6 : decode cX10_charAt 6 = .ok (.getfield 124, 3) := by decide +kernel
theorem dX10_charAt_9 : decode cX10_charAt 9 = .ok (.if_icmp .ge 98, 3) := by decide +kernel
theorem dX10_charAt_12 : decode cX10_charAt 12 = .ok (.iload_n 1, 1) := by decide +kernel
theorem dX10_charAt_13 : decode cX10_charAt 13 = .ok (.ifCond .lt 94, 3) := by decide +kernel
theorem dX10_charAt_16 : decode cX10_charAt 16 = .ok (.aload_n 0, 1) := by decide +kernel
theorem dX10_charAt_17 : decode cX10_charAt 17 = .ok (.getfield 23, 3) := by decide +kernel
theorem dX10_charAt_20 : decode cX10_charAt 20 = .ok (.iload_n 3, 1) := by decide +kernel
theorem dX10_charAt_21 : decode cX10_charAt 21 = .ok (.iaload, 1) := by decide +kernel
theorem dX10_charAt_22 : decode cX10_charAt 22 = .ok (.istore 4, 2) := by decide +kernel
theorem dX10_charAt_24 : decode cX10_charAt 24 = .ok (.iload 4, 2) := by decide +kernel
theorem dX10_charAt_26 : decode cX10_charAt 26 = .ok (.invokestatic 127, 3) := by decide +kernel
theorem dX10_charAt_29 : decode cX10_charAt 29 = .ok (.ifCond .eq 7, 3) := by decide +kernel
theorem dX10_charAt_32 : decode cX10_charAt 32 = .ok (.iconst 2, 1) := by decide +kernel
theorem dX10_charAt_33 : decode cX10_charAt 33 = .ok (.goto 4, 3) := by decide +kernel
theorem dX10_charAt_36 : decode cX10_charAt 36 = .ok (.iconst 1, 1) := by decide +kernel
theorem dX10_charAt_37 : decode cX10_charAt 37 = .ok (.istore 5, 2) := by decide +kernel
theorem dX10_charAt_39 : decode cX10_charAt 39 = .ok (.iload_n 2, 1) := by decide +kernel
theorem dX10_charAt_40 : decode cX10_charAt 40 = .ok (.iload 5, 2) := by decide +kernel
theorem dX10_charAt_42 : decode cX10_charAt 42 = .ok (.if_icmp .ge 54, 3) := by decide +kernel
theorem dX10_charAt_45 : decode cX10_charAt 45 = .ok (.aload_n 0, 1) := by decide +kernel
theorem dX10_charAt_46 : decode cX10_charAt 46 = .ok (.iconst 0, 1) := by decide +kernel
theorem dX10_charAt_47 : decode cX10_charAt 47 = .ok (.putfield 100, 3) := by decide +kernel
theorem dX10_charAt_50 : decode cX10_charAt 50 = .ok (.iload 4, 2) := by decide +kernel
theorem dX10_charAt_52 : decode cX10_charAt 52 = .ok (.bipush 14, 2) := by decide +kernel
theorem dX10_charAt_54 : decode cX10_charAt 54 = .ok (.if_icmp .ne 8, 3) := by decide +kernel
theorem dX10_charAt_57 : decode cX10_charAt 57 = .ok (.bipush 63, 2) := by decide +kernel
theorem dX10_charAt_59 : decode cX10_charAt 59 = .ok (.goto 35, 3) := by decide +kernel
theorem dX10_charAt_62 : decode cX10_charAt 62 = .ok (.iload 4, 2) := by decide +kernel
theorem dX10_charAt_64 : decode cX10_charAt 64 = .ok (.bipush 10, 2) := by decide +kernel
theorem dX10_charAt_66 : decode cX10_charAt 66 = .ok (.if_icmp .ge 11, 3) := by decide +kernel
theorem dX10_charAt_69 : decode cX10_charAt 69 = .ok (.bipush 65, 2) := by decide +kernel
theorem dX10_charAt_71 : decode cX10_charAt 71 = .ok (.iload 4, 2) := by decide +kernel
theorem dX10_charAt_73 : decode cX10_charAt 73 = .ok (.iadd, 1) := by decide +kernel
theorem dX10_charAt_74 : decode cX10_charAt 74 = .ok (.goto 20, 3) := by decide +kernel
theorem dX10_charAt_77 : decode cX10_charAt 77 = .ok (.iload_n 2, 1) := by decide +kernel
theorem dX10_charAt_78 : decode cX10_charAt 78 = .ok (.ifCond .ne 8, 3) := by decide +kernel
theorem dX10_charAt_81 : decode cX10_charAt 81 = .ok (.ldc 141, 2) := by decide +kernel
theorem dX10_charAt_83 : decode cX10_charAt 83 = .ok (.goto 11, 3) := by decide +kernel
theorem dX10_charAt_86 : decode cX10_charAt 86 = .ok (.ldc 142, 2) := by decide +kernel
theorem dX10_charAt_88 : decode cX10_charAt 88 = .ok (.iload 4, 2) := by decide +kernel
theorem dX10_charAt_90 : decode cX10_charAt 90 = .ok (.iadd, 1) := by decide +kernel
theorem dX10_charAt_91 : decode cX10_charAt 91 = .ok (.bipush 10, 2) := by decide +kernel
theorem dX10_charAt_93 : decode cX10_charAt 93 = .ok (.isub, 1) := by decide +kernel
theorem dX10_charAt_94 : decode cX10_charAt 94 = .ok (.i2c, 1) := by decide +kernel
theorem dX10_charAt_95 : decode cX10_charAt 95 = .ok (.ireturn, 1) := by decide +kernel
theorem dX10_charAt_96 : decode cX10_charAt 96 = .ok (.iload_n 2, 1) := by decide +kernel
theorem dX10_charAt_97 : decode cX10_charAt 97 = .ok (.iload 5, 2) := by decide +kernel
theorem dX10_charAt_99 : decode cX10_charAt 99 = .ok (.isub, 1) := by decide +kernel
theorem dX10_charAt_100 : decode cX10_charAt 100 = .ok (.istore_n 2, 1) := by decide +kernel
theorem dX10_charAt_101 : decode cX10_charAt 101 = .ok (.iinc 3 1, 3) := by decide +kernel
theorem dX10_charAt_104 : decode cX10_charAt 104 = .ok (.goto (-100), 3) := by decide +kernel
theorem dX10_charAt_107 : decode cX10_charAt 107 = .ok (.aload_n 0, 1) := by decide +kernel
theorem dX10_charAt_108 : decode cX10_charAt 108 = .ok (.iconst 1, 1) := by decide +kernel
theorem dX10_charAt_109 : decode cX10_charAt 109 = .ok (.putfield 100, 3) := by decide +kernel
theorem dX10_charAt_112 : decode cX10_charAt 112 = .ok (.bipush 97, 2) := by decide +kernel
theorem dX10_charAt_114 : decode cX10_charAt 114 = .ok (.ireturn, 1) := by decide +kernel
theorem dX10_alike_0 : decode cX10_alike 0 = .ok (.iload_n 1, 1) := by decide +kernel
theorem dX10_alike_1 : decode cX10_alike 1 = .ok (.invokestatic 134, 3) := by decide +kernel
theorem dX10_alike_4 : decode cX10_alike 4 = .ok (.ifCond .eq 14, 3) := by decide +kernel
theorem dX10_alike_7 : decode cX10_alike 7 = .ok (.iload_n 2, 1) := by decide +kernel
theorem dX10_alike_8 : decode cX10_alike 8 = .ok (.invokestatic 134, 3) := by decide +kernel
theorem dX10_alike_11 : decode cX10_alike 11 = .ok (.ifCond .eq 7, 3) := by decide +kernel
theorem dX10_alike_14 : decode cX10_alike 14 = .ok (.iconst 1, 1) := by decide +kernel
theorem dX10_alike_15 : decode cX10_alike 15 = .ok (.goto 4, 3) := by decide +kernel
theorem dX10_alike_18 : decode cX10_alike 18 = .ok (.iconst 0, 1) := by decide +kernel
theorem dX10_alike_19 : decode cX10_alike 19 = .ok (.istore_n 3, 1) := by decide +kernel
theorem dX10_alike_20 : decode cX10_alike 20 = .ok (.aload_n 0, 1) := by decide +kernel
theorem dX10_alike_21 : decode cX10_alike 21 = .ok (.iload_n 3, 1) := by decide +kernel
theorem dX10_alike_22 : decode cX10_alike 22 = .ok (.ifCond .ne 7, 3) := by decide +kernel
theorem dX10_alike_25 : decode cX10_alike 25 = .ok (.iconst 1, 1) := by decide +kernel
theorem dX10_alike_26 : decode cX10_alike 26 = .ok (.goto 25, 3) := by decide +kernel
theorem dX10_alike_29 : decode cX10_alike 29 = .ok (.iload_n 1, 1) := by decide +kernel
theorem dX10_alike_30 : decode cX10_alike 30 = .ok (.iload_n 2, 1) := by decide +kernel
theorem dX10_alike_31 : decode cX10_alike 31 = .ok (.if_icmp .eq 15, 3) := by decide +kernel
theorem dX10_alike_34 : decode cX10_alike 34 = .ok (.iload_n 1, 1) := by decide +kernel
theorem dX10_alike_35 : decode cX10_alike 35 = .ok (.bipush 14, 2) := by decide +kernel
theorem dX10_alike_37 : decode cX10_alike 37 = .ok (.if_icmp .eq 9, 3) := by decide +kernel
theorem dX10_alike_40 : decode cX10_alike 40 = .ok (.iload_n 2, 1) := by decide +kernel
theorem dX10_alike_41 : decode cX10_alike 41 = .ok (.bipush 14, 2) := by decide +kernel
theorem dX10_alike_43 : decode cX10_alike 43 = .ok (.if_icmp .ne 7, 3) := by decide +kernel
theorem dX10_alike_46 : decode cX10_alike 46 = .ok (.iconst 2, 1) := by decide +kernel
theorem dX10_alike_47 : decode cX10_alike 47 = .ok (.goto 4, 3) := by decide +kernel
theorem dX10_alike_50 : decode cX10_alike 50 = .ok (.iconst 0, 1) := by decide +kernel
theorem dX10_alike_51 : decode cX10_alike 51 = .ok (.invokevirtual 117, 3) := by decide +kernel
theorem dX10_alike_54 : decode cX10_alike 54 = .ok (.ifCond .ne 5, 3) := by decide +kernel
theorem dX10_alike_57 : decode cX10_alike 57 = .ok (.iconst 0, 1) := by decide +kernel
theorem dX10_alike_58 : decode cX10_alike 58 = .ok (.ireturn, 1) := by decide +kernel
theorem dX10_alike_59 : decode cX10_alike 59 = .ok (.aload_n 0, 1) := by decide +kernel
theorem dX10_alike_60 : decode cX10_alike 60 = .ok (.getfield 26, 3) := by decide +kernel
theorem dX10_alike_63 : decode cX10_alike 63 = .ok (.bipush 15, 2) := by decide +kernel
theorem dX10_alike_65 : decode cX10_alike 65 = .ok (.iload_n 1, 1) := by decide +kernel
theorem dX10_alike_66 : decode cX10_alike 66 = .ok (.imul, 1) := by decide +kernel
theorem dX10_alike_67 : decode cX10_alike 67 = .ok (.iload_n 2, 1) := by decide +kernel
theorem dX10_alike_68 : decode cX10_alike 68 = .ok (.iadd, 1) := by decide +kernel
theorem dX10_alike_69 : decode cX10_alike 69 = .ok (.baload, 1) := by decide +kernel
theorem dX10_alike_70 : decode cX10_alike 70 = .ok (.ifCond .ne 7, 3) := by decide +kernel
theorem dX10_alike_73 : decode cX10_alike 73 = .ok (.iconst 1, 1) := by decide +kernel
theorem dX10_alike_74 : decode cX10_alike 74 = .ok (.goto 4, 3) := by decide +kernel
theorem dX10_alike_77 : decode cX10_alike 77 = .ok (.iconst 0, 1) := by decide +kernel
theorem dX10_alike_78 : decode cX10_alike 78 = .ok (.istore 4, 2) := by decide +kernel
theorem dX10_alike_80 : decode cX10_alike 80 = .ok (.aload_n 0, 1) := by decide +kernel
theorem dX10_alike_81 : decode cX10_alike 81 = .ok (.getfield 26, 3) := by decide +kernel
theorem dX10_alike_84 : decode cX10_alike 84 = .ok (.bipush 15, 2) := by decide +kernel
theorem dX10_alike_86 : decode cX10_alike 86 = .ok (.iload_n 1, 1) := by decide +kernel
theorem dX10_alike_87 : decode cX10_alike 87 = .ok (.imul, 1) := by decide +kernel
theorem dX10_alike_88 : decode cX10_alike 88 = .ok (.iload_n 2, 1) := by decide +kernel
theorem dX10_alike_89 : decode cX10_alike 89 = .ok (.iadd, 1) := by decide +kernel
theorem dX10_alike_90 : decode cX10_alike 90 = .ok (.iload 4, 2) := by decide +kernel
theorem dX10_alike_92 : decode cX10_alike 92 = .ok (.bastore, 1) := by decide +kernel
theorem dX10_alike_93 : decode cX10_alike 93 = .ok (.aload_n 0, 1) := by decide +kernel
theorem dX10_alike_94 : decode cX10_alike 94 = .ok (.getfield 26, 3) := by decide +kernel
theorem dX10_alike_97 : decode cX10_alike 97 = .ok (.bipush 15, 2) := by decide +kernel
theorem dX10_alike_99 : decode cX10_alike 99 = .ok (.iload_n 2, 1) := by decide +kernel
theorem dX10_alike_100 : decode cX10_alike 100 = .ok (.imul, 1) := by decide +kernel
theorem dX10_alike_101 : decode cX10_alike 101 = .ok (.iload_n 1, 1) := by decide +kernel
theorem dX10_alike_102 : decode cX10_alike 102 = .ok (.iadd, 1) := by decide +kernel
theorem dX10_alike_103 : decode cX10_alike 103 = .ok (.iload 4, 2) := by decide +kernel
theorem dX10_alike_105 : decode cX10_alike 105 = .ok (.bastore, 1) := by decide +kernel
theorem dX10_alike_106 : decode cX10_alike 106 = .ok (.iload 4, 2) := by decide +kernel
theorem dX10_alike_108 : decode cX10_alike 108 = .ok (.ireturn, 1) := by decide +kernel
theorem dX10_isTaken_0 : decode cX10_isTaken 0 = .ok (.iconst 0, 1) := by decide +kernel
theorem dX10_isTaken_1 : decode cX10_isTaken 1 = .ok (.istore_n 1, 1) := by decide +kernel
theorem dX10_isTaken_2 : decode cX10_isTaken 2 = .ok (.iconst 0, 1) := by decide +kernel
theorem dX10_isTaken_3 : decode cX10_isTaken 3 = .ok (.istore_n 2, 1) := by decide +kernel
theorem dX10_isTaken_4 : decode cX10_isTaken 4 = .ok (.iload_n 2, 1) := by decide +kernel
theorem dX10_isTaken_5 : decode cX10_isTaken 5 = .ok (.aload_n 0, 1) := by decide +kernel
theorem dX10_isTaken_6 : decode cX10_isTaken 6 = .ok (.getfield 107, 3) := by decide +kernel
theorem dX10_isTaken_9 : decode cX10_isTaken 9 = .ok (.if_icmp .ge 92, 3) := by decide +kernel
theorem dX10_isTaken_12 : decode cX10_isTaken 12 = .ok (.aload_n 0, 1) := by decide +kernel
theorem dX10_isTaken_13 : decode cX10_isTaken 13 = .ok (.getfield 30, 3) := by decide +kernel
theorem dX10_isTaken_16 : decode cX10_isTaken 16 = .ok (.iload_n 2, 1) := by decide +kernel
theorem dX10_isTaken_17 : decode cX10_isTaken 17 = .ok (.iaload, 1) := by decide +kernel
theorem dX10_isTaken_18 : decode cX10_isTaken 18 = .ok (.aload_n 0, 1) := by decide +kernel
theorem dX10_isTaken_19 : decode cX10_isTaken 19 = .ok (.getfield 124, 3) := by decide +kernel
theorem dX10_isTaken_22 : decode cX10_isTaken 22 = .ok (.if_icmp .ne 7, 3) := by decide +kernel
theorem dX10_isTaken_25 : decode cX10_isTaken 25 = .ok (.iconst 1, 1) := by decide +kernel
theorem dX10_isTaken_26 : decode cX10_isTaken 26 = .ok (.goto 4, 3) := by decide +kernel
theorem dX10_isTaken_29 : decode cX10_isTaken 29 = .ok (.iconst 0, 1) := by decide +kernel
theorem dX10_isTaken_30 : decode cX10_isTaken 30 = .ok (.istore_n 3, 1) := by decide +kernel
theorem dX10_isTaken_31 : decode cX10_isTaken 31 = .ok (.iconst 0, 1) := by decide +kernel
theorem dX10_isTaken_32 : decode cX10_isTaken 32 = .ok (.istore 4, 2) := by decide +kernel
theorem dX10_isTaken_34 : decode cX10_isTaken 34 = .ok (.iload 4, 2) := by decide +kernel
theorem dX10_isTaken_36 : decode cX10_isTaken 36 = .ok (.aload_n 0, 1) := by decide +kernel
theorem dX10_isTaken_37 : decode cX10_isTaken 37 = .ok (.getfield 124, 3) := by decide +kernel
theorem dX10_isTaken_40 : decode cX10_isTaken 40 = .ok (.if_icmp .ge 41, 3) := by decide +kernel
theorem dX10_isTaken_43 : decode cX10_isTaken 43 = .ok (.iload_n 3, 1) := by decide +kernel
theorem dX10_isTaken_44 : decode cX10_isTaken 44 = .ok (.ifCond .eq 37, 3) := by decide +kernel
theorem dX10_isTaken_47 : decode cX10_isTaken 47 = .ok (.aload_n 0, 1) := by decide +kernel
theorem dX10_isTaken_48 : decode cX10_isTaken 48 = .ok (.getfield 33, 3) := by decide +kernel
theorem dX10_isTaken_51 : decode cX10_isTaken 51 = .ok (.bipush 6, 2) := by decide +kernel
theorem dX10_isTaken_53 : decode cX10_isTaken 53 = .ok (.iload_n 2, 1) := by decide +kernel
theorem dX10_isTaken_54 : decode cX10_isTaken 54 = .ok (.imul, 1) := by decide +kernel
theorem dX10_isTaken_55 : decode cX10_isTaken 55 = .ok (.iload 4, 2) := by decide +kernel
theorem dX10_isTaken_57 : decode cX10_isTaken 57 = .ok (.iadd, 1) := by decide +kernel
theorem dX10_isTaken_58 : decode cX10_isTaken 58 = .ok (.iaload, 1) := by decide +kernel
theorem dX10_isTaken_59 : decode cX10_isTaken 59 = .ok (.aload_n 0, 1) := by decide +kernel
theorem dX10_isTaken_60 : decode cX10_isTaken 60 = .ok (.getfield 23, 3) := by decide +kernel
theorem dX10_isTaken_63 : decode cX10_isTaken 63 = .ok (.iload 4, 2) := by decide +kernel
theorem dX10_isTaken_65 : decode cX10_isTaken 65 = .ok (.iaload, 1) := by decide +kernel
theorem dX10_isTaken_66 : decode cX10_isTaken 66 = .ok (.if_icmp .ne 7, 3) := by decide +kernel
theorem dX10_isTaken_69 : decode cX10_isTaken 69 = .ok (.iconst 1, 1) := by decide +kernel
theorem dX10_isTaken_70 : decode cX10_isTaken 70 = .ok (.goto 4, 3) := by decide +kernel
theorem dX10_isTaken_73 : decode cX10_isTaken 73 = .ok (.iconst 0, 1) := by decide +kernel
theorem dX10_isTaken_74 : decode cX10_isTaken 74 = .ok (.istore_n 3, 1) := by decide +kernel
theorem dX10_isTaken_75 : decode cX10_isTaken 75 = .ok (.iinc 4 1, 3) := by decide +kernel
theorem dX10_isTaken_78 : decode cX10_isTaken 78 = .ok (.goto (-44), 3) := by decide +kernel
theorem dX10_isTaken_81 : decode cX10_isTaken 81 = .ok (.iload_n 1, 1) := by decide +kernel
theorem dX10_isTaken_82 : decode cX10_isTaken 82 = .ok (.ifCond .ne 7, 3) := by decide +kernel
theorem dX10_isTaken_85 : decode cX10_isTaken 85 = .ok (.iload_n 3, 1) := by decide +kernel
theorem dX10_isTaken_86 : decode cX10_isTaken 86 = .ok (.ifCond .eq 7, 3) := by decide +kernel
theorem dX10_isTaken_89 : decode cX10_isTaken 89 = .ok (.iconst 1, 1) := by decide +kernel
theorem dX10_isTaken_90 : decode cX10_isTaken 90 = .ok (.goto 4, 3) := by decide +kernel
theorem dX10_isTaken_93 : decode cX10_isTaken 93 = .ok (.iconst 0, 1) := by decide +kernel
theorem dX10_isTaken_94 : decode cX10_isTaken 94 = .ok (.istore_n 1, 1) := by decide +kernel
theorem dX10_isTaken_95 : decode cX10_isTaken 95 = .ok (.iinc 2 1, 3) := by decide +kernel
theorem dX10_isTaken_98 : decode cX10_isTaken 98 = .ok (.goto (-94), 3) := by decide +kernel
theorem dX10_isTaken_101 : decode cX10_isTaken 101 = .ok (.iload_n 1, 1) := by decide +kernel
theorem dX10_isTaken_102 : decode cX10_isTaken 102 = .ok (.ireturn, 1) := by decide +kernel
theorem dX10_isPlain_0 : decode cX10_isPlain 0 = .ok (.aload_n 0, 1) := by decide +kernel
theorem dX10_isPlain_1 : decode cX10_isPlain 1 = .ok (.getfield 124, 3) := by decide +kernel
theorem dX10_isPlain_4 : decode cX10_isPlain 4 = .ok (.ifCond .le 7, 3) := by decide +kernel
theorem dX10_isPlain_7 : decode cX10_isPlain 7 = .ok (.iconst 1, 1) := by decide +kernel
theorem dX10_isPlain_8 : decode cX10_isPlain 8 = .ok (.goto 4, 3) := by decide +kernel
theorem dX10_isPlain_11 : decode cX10_isPlain 11 = .ok (.iconst 0, 1) := by decide +kernel
theorem dX10_isPlain_12 : decode cX10_isPlain 12 = .ok (.istore_n 1, 1) := by decide +kernel
theorem dX10_isPlain_13 : decode cX10_isPlain 13 = .ok (.iconst 0, 1) := by decide +kernel
theorem dX10_isPlain_14 : decode cX10_isPlain 14 = .ok (.istore_n 2, 1) := by decide +kernel
theorem dX10_isPlain_15 : decode cX10_isPlain 15 = .ok (.iload_n 2, 1) := by decide +kernel
theorem dX10_isPlain_16 : decode cX10_isPlain 16 = .ok (.aload_n 0, 1) := by decide +kernel
theorem dX10_isPlain_17 : decode cX10_isPlain 17 = .ok (.getfield 124, 3) := by decide +kernel
theorem dX10_isPlain_20 : decode cX10_isPlain 20 = .ok (.if_icmp .ge 30, 3) := by decide +kernel
theorem dX10_isPlain_23 : decode cX10_isPlain 23 = .ok (.iload_n 1, 1) := by decide +kernel
theorem dX10_isPlain_24 : decode cX10_isPlain 24 = .ok (.ifCond .eq 18, 3) := by decide +kernel
theorem dX10_isPlain_27 : decode cX10_isPlain 27 = .ok (.aload_n 0, 1) := by decide +kernel
theorem dX10_isPlain_28 : decode cX10_isPlain 28 = .ok (.getfield 23, 3) := by decide +kernel
theorem dX10_isPlain_31 : decode cX10_isPlain 31 = .ok (.iload_n 2, 1) := by decide +kernel
theorem dX10_isPlain_32 : decode cX10_isPlain 32 = .ok (.iaload, 1) := by decide +kernel
theorem dX10_isPlain_33 : decode cX10_isPlain 33 = .ok (.bipush 14, 2) := by decide +kernel
theorem dX10_isPlain_35 : decode cX10_isPlain 35 = .ok (.if_icmp .eq 7, 3) := by decide +kernel
theorem dX10_isPlain_38 : decode cX10_isPlain 38 = .ok (.iconst 1, 1) := by decide +kernel
theorem dX10_isPlain_39 : decode cX10_isPlain 39 = .ok (.goto 4, 3) := by decide +kernel
theorem dX10_isPlain_42 : decode cX10_isPlain 42 = .ok (.iconst 0, 1) := by decide +kernel
theorem dX10_isPlain_43 : decode cX10_isPlain 43 = .ok (.istore_n 1, 1) := by decide +kernel
theorem dX10_isPlain_44 : decode cX10_isPlain 44 = .ok (.iinc 2 1, 3) := by decide +kernel
theorem dX10_isPlain_47 : decode cX10_isPlain 47 = .ok (.goto (-32), 3) := by decide +kernel
theorem dX10_isPlain_50 : decode cX10_isPlain 50 = .ok (.iload_n 1, 1) := by decide +kernel
theorem dX10_isPlain_51 : decode cX10_isPlain 51 = .ok (.ireturn, 1) := by decide +kernel
theorem dX10_holds_0 : decode cX10_holds 0 = .ok (.aload_n 0, 1) := by decide +kernel
theorem dX10_holds_1 : decode cX10_holds 1 = .ok (.getfield 39, 3) := by decide +kernel
theorem dX10_holds_4 : decode cX10_holds 4 = .ok (.aload_n 0, 1) := by decide +kernel
theorem dX10_holds_5 : decode cX10_holds 5 = .ok (.getfield 143, 3) := by decide +kernel
theorem dX10_holds_8 : decode cX10_holds 8 = .ok (.iload_n 1, 1) := by decide +kernel
theorem dX10_holds_9 : decode cX10_holds 9 = .ok (.iastore, 1) := by decide +kernel
theorem dX10_holds_10 : decode cX10_holds 10 = .ok (.aload_n 0, 1) := by decide +kernel
theorem dX10_holds_11 : decode cX10_holds 11 = .ok (.getfield 42, 3) := by decide +kernel
theorem dX10_holds_14 : decode cX10_holds 14 = .ok (.aload_n 0, 1) := by decide +kernel
theorem dX10_holds_15 : decode cX10_holds 15 = .ok (.getfield 143, 3) := by decide +kernel
theorem dX10_holds_18 : decode cX10_holds 18 = .ok (.iload_n 2, 1) := by decide +kernel
theorem dX10_holds_19 : decode cX10_holds 19 = .ok (.iastore, 1) := by decide +kernel
theorem dX10_holds_20 : decode cX10_holds 20 = .ok (.aload_n 0, 1) := by decide +kernel
theorem dX10_holds_21 : decode cX10_holds 21 = .ok (.getfield 45, 3) := by decide +kernel
theorem dX10_holds_24 : decode cX10_holds 24 = .ok (.aload_n 0, 1) := by decide +kernel
theorem dX10_holds_25 : decode cX10_holds 25 = .ok (.getfield 143, 3) := by decide +kernel
theorem dX10_holds_28 : decode cX10_holds 28 = .ok (.aload_n 0, 1) := by decide +kernel
theorem dX10_holds_29 : decode cX10_holds 29 = .ok (.getfield 113, 3) := by decide +kernel
theorem dX10_holds_32 : decode cX10_holds 32 = .ok (.iastore, 1) := by decide +kernel
theorem dX10_holds_33 : decode cX10_holds 33 = .ok (.aload_n 0, 1) := by decide +kernel
theorem dX10_holds_34 : decode cX10_holds 34 = .ok (.dup, 1) := by decide +kernel
theorem dX10_holds_35 : decode cX10_holds 35 = .ok (.getfield 143, 3) := by decide +kernel
theorem dX10_holds_38 : decode cX10_holds 38 = .ok (.iconst 1, 1) := by decide +kernel
theorem dX10_holds_39 : decode cX10_holds 39 = .ok (.iadd, 1) := by decide +kernel
theorem dX10_holds_40 : decode cX10_holds 40 = .ok (.putfield 143, 3) := by decide +kernel
theorem dX10_holds_43 : decode cX10_holds 43 = .ok (.return_, 1) := by decide +kernel
theorem dX10_register_0 : decode cX10_register 0 = .ok (.iload_n 1, 1) := by decide +kernel
theorem dX10_register_1 : decode cX10_register 1 = .ok (.invokestatic 146, 3) := by decide +kernel
theorem dX10_register_4 : decode cX10_register 4 = .ok (.istore_n 3, 1) := by decide +kernel
theorem dX10_register_5 : decode cX10_register 5 = .ok (.iload_n 2, 1) := by decide +kernel
theorem dX10_register_6 : decode cX10_register 6 = .ok (.iconst 0, 1) := by decide +kernel
theorem dX10_register_7 : decode cX10_register 7 = .ok (.iconst 3, 1) := by decide +kernel
theorem dX10_register_8 : decode cX10_register 8 = .ok (.invokestatic 103, 3) := by decide +kernel
theorem dX10_register_11 : decode cX10_register 11 = .ok (.istore 4, 2) := by decide +kernel
theorem dX10_register_13 : decode cX10_register 13 = .ok (.aload_n 0, 1) := by decide +kernel
theorem dX10_register_14 : decode cX10_register 14 = .ok (.iload_n 3, 1) := by decide +kernel
theorem dX10_register_15 : decode cX10_register 15 = .ok (.ifCond .ne 7, 3) := by decide +kernel
theorem dX10_register_18 : decode cX10_register 18 = .ok (.iconst 1, 1) := by decide +kernel
theorem dX10_register_19 : decode cX10_register 19 = .ok (.goto 40, 3) := by decide +kernel
theorem dX10_register_22 : decode cX10_register 22 = .ok (.iload 4, 2) := by decide +kernel
theorem dX10_register_24 : decode cX10_register 24 = .ok (.ifCond .ne 7, 3) := by decide +kernel
theorem dX10_register_27 : decode cX10_register 27 = .ok (.iconst 2, 1) := by decide +kernel
theorem dX10_register_28 : decode cX10_register 28 = .ok (.goto 31, 3) := by decide +kernel
theorem dX10_register_31 : decode cX10_register 31 = .ok (.aload_n 0, 1) := by decide +kernel
theorem dX10_register_32 : decode cX10_register 32 = .ok (.invokevirtual 149, 3) := by decide +kernel
theorem dX10_register_35 : decode cX10_register 35 = .ok (.ifCond .eq 19, 3) := by decide +kernel
theorem dX10_register_38 : decode cX10_register 38 = .ok (.aload_n 0, 1) := by decide +kernel
theorem dX10_register_39 : decode cX10_register 39 = .ok (.invokevirtual 153, 3) := by decide +kernel
theorem dX10_register_42 : decode cX10_register 42 = .ok (.ifCond .ne 12, 3) := by decide +kernel
theorem dX10_register_45 : decode cX10_register 45 = .ok (.aload_n 0, 1) := by decide +kernel
theorem dX10_register_46 : decode cX10_register 46 = .ok (.getfield 107, 3) := by decide +kernel
theorem dX10_register_49 : decode cX10_register 49 = .ok (.bipush 10, 2) := by decide +kernel
theorem dX10_register_51 : decode cX10_register 51 = .ok (.if_icmp .ne 7, 3) := by decide +kernel
theorem dX10_register_54 : decode cX10_register 54 = .ok (.iconst 3, 1) := by decide +kernel
theorem dX10_register_55 : decode cX10_register 55 = .ok (.goto 4, 3) := by decide +kernel
theorem dX10_register_58 : decode cX10_register 58 = .ok (.iconst 0, 1) := by decide +kernel
theorem dX10_register_59 : decode cX10_register 59 = .ok (.invokevirtual 117, 3) := by decide +kernel
theorem dX10_register_62 : decode cX10_register 62 = .ok (.ifCond .ne 5, 3) := by decide +kernel
theorem dX10_register_65 : decode cX10_register 65 = .ok (.iconst 0, 1) := by decide +kernel
theorem dX10_register_66 : decode cX10_register 66 = .ok (.ireturn, 1) := by decide +kernel
theorem dX10_register_67 : decode cX10_register 67 = .ok (.aload_n 0, 1) := by decide +kernel
theorem dX10_register_68 : decode cX10_register 68 = .ok (.getfield 30, 3) := by decide +kernel
theorem dX10_register_71 : decode cX10_register 71 = .ok (.aload_n 0, 1) := by decide +kernel
theorem dX10_register_72 : decode cX10_register 72 = .ok (.getfield 107, 3) := by decide +kernel
theorem dX10_register_75 : decode cX10_register 75 = .ok (.aload_n 0, 1) := by decide +kernel
theorem dX10_register_76 : decode cX10_register 76 = .ok (.getfield 124, 3) := by decide +kernel
theorem dX10_register_79 : decode cX10_register 79 = .ok (.iastore, 1) := by decide +kernel
theorem dX10_register_80 : decode cX10_register 80 = .ok (.iconst 0, 1) := by decide +kernel
theorem dX10_register_81 : decode cX10_register 81 = .ok (.istore 5, 2) := by decide +kernel
theorem dX10_register_83 : decode cX10_register 83 = .ok (.iload 5, 2) := by decide +kernel
theorem dX10_register_85 : decode cX10_register 85 = .ok (.aload_n 0, 1) := by decide +kernel
theorem dX10_register_86 : decode cX10_register 86 = .ok (.getfield 124, 3) := by decide +kernel
theorem dX10_register_89 : decode cX10_register 89 = .ok (.if_icmp .ge 31, 3) := by decide +kernel
theorem dX10_register_92 : decode cX10_register 92 = .ok (.aload_n 0, 1) := by decide +kernel
theorem dX10_register_93 : decode cX10_register 93 = .ok (.getfield 33, 3) := by decide +kernel
theorem dX10_register_96 : decode cX10_register 96 = .ok (.bipush 6, 2) := by decide +kernel
theorem dX10_register_98 : decode cX10_register 98 = .ok (.aload_n 0, 1) := by decide +kernel
theorem dX10_register_99 : decode cX10_register 99 = .ok (.getfield 107, 3) := by decide +kernel
theorem dX10_register_102 : decode cX10_register 102 = .ok (.imul, 1) := by decide +kernel
theorem dX10_register_103 : decode cX10_register 103 = .ok (.iload 5, 2) := by decide +kernel
theorem dX10_register_105 : decode cX10_register 105 = .ok (.iadd, 1) := by decide +kernel
theorem dX10_register_106 : decode cX10_register 106 = .ok (.aload_n 0, 1) := by decide +kernel
theorem dX10_register_107 : decode cX10_register 107 = .ok (.getfield 23, 3) := by decide +kernel
theorem dX10_register_110 : decode cX10_register 110 = .ok (.iload 5, 2) := by decide +kernel
theorem dX10_register_112 : decode cX10_register 112 = .ok (.iaload, 1) := by decide +kernel
theorem dX10_register_113 : decode cX10_register 113 = .ok (.iastore, 1) := by decide +kernel
theorem dX10_register_114 : decode cX10_register 114 = .ok (.iinc 5 1, 3) := by decide +kernel
theorem dX10_register_117 : decode cX10_register 117 = .ok (.goto (-34), 3) := by decide +kernel
theorem dX10_register_120 : decode cX10_register 120 = .ok (.aload_n 0, 1) := by decide +kernel
theorem dX10_register_121 : decode cX10_register 121 = .ok (.getfield 36, 3) := by decide +kernel
theorem dX10_register_124 : decode cX10_register 124 = .ok (.aload_n 0, 1) := by decide +kernel
theorem dX10_register_125 : decode cX10_register 125 = .ok (.getfield 107, 3) := by decide +kernel
theorem dX10_register_128 : decode cX10_register 128 = .ok (.iload_n 2, 1) := by decide +kernel
theorem dX10_register_129 : decode cX10_register 129 = .ok (.iastore, 1) := by decide +kernel
theorem dX10_register_130 : decode cX10_register 130 = .ok (.aload_n 0, 1) := by decide +kernel
theorem dX10_register_131 : decode cX10_register 131 = .ok (.aload_n 0, 1) := by decide +kernel
theorem dX10_register_132 : decode cX10_register 132 = .ok (.getfield 107, 3) := by decide +kernel
theorem dX10_register_135 : decode cX10_register 135 = .ok (.iload_n 1, 1) := by decide +kernel
theorem dX10_register_136 : decode cX10_register 136 = .ok (.invokevirtual 156, 3) := by decide +kernel
theorem dX10_register_139 : decode cX10_register 139 = .ok (.aload_n 0, 1) := by decide +kernel
theorem dX10_register_140 : decode cX10_register 140 = .ok (.dup, 1) := by decide +kernel
theorem dX10_register_141 : decode cX10_register 141 = .ok (.getfield 107, 3) := by decide +kernel
theorem dX10_register_144 : decode cX10_register 144 = .ok (.iconst 1, 1) := by decide +kernel
theorem dX10_register_145 : decode cX10_register 145 = .ok (.iadd, 1) := by decide +kernel
theorem dX10_register_146 : decode cX10_register 146 = .ok (.putfield 107, 3) := by decide +kernel
theorem dX10_register_149 : decode cX10_register 149 = .ok (.aload_n 0, 1) := by decide +kernel
theorem dX10_register_150 : decode cX10_register 150 = .ok (.getfield 107, 3) := by decide +kernel
theorem dX10_register_153 : decode cX10_register 153 = .ok (.iconst 1, 1) := by decide +kernel
theorem dX10_register_154 : decode cX10_register 154 = .ok (.isub, 1) := by decide +kernel
theorem dX10_register_155 : decode cX10_register 155 = .ok (.ireturn, 1) := by decide +kernel
theorem dX10_holderAt_0 : decode cX10_holderAt 0 = .ok (.iconst (-1), 1) := by decide +kernel
theorem dX10_holderAt_1 : decode cX10_holderAt 1 = .ok (.istore_n 3, 1) := by decide +kernel
theorem dX10_holderAt_2 : decode cX10_holderAt 2 = .ok (.iconst 0, 1) := by decide +kernel
theorem dX10_holderAt_3 : decode cX10_holderAt 3 = .ok (.istore 4, 2) := by decide +kernel
theorem dX10_holderAt_5 : decode cX10_holderAt 5 = .ok (.iload 4, 2) := by decide +kernel
theorem dX10_holderAt_7 : decode cX10_holderAt 7 = .ok (.aload_n 0, 1) := by decide +kernel
theorem dX10_holderAt_8 : decode cX10_holderAt 8 = .ok (.getfield 143, 3) := by decide +kernel
theorem dX10_holderAt_11 : decode cX10_holderAt 11 = .ok (.if_icmp .ge 43, 3) := by decide +kernel
theorem dX10_holderAt_14 : decode cX10_holderAt 14 = .ok (.aload_n 0, 1) := by decide +kernel
theorem dX10_holderAt_15 : decode cX10_holderAt 15 = .ok (.getfield 39, 3) := by decide +kernel
theorem dX10_holderAt_18 : decode cX10_holderAt 18 = .ok (.iload 4, 2) := by decide +kernel
theorem dX10_holderAt_20 : decode cX10_holderAt 20 = .ok (.iaload, 1) := by decide +kernel
theorem dX10_holderAt_21 : decode cX10_holderAt 21 = .ok (.iload_n 1, 1) := by decide +kernel
theorem dX10_holderAt_22 : decode cX10_holderAt 22 = .ok (.if_icmp .ne 24, 3) := by decide +kernel
theorem dX10_holderAt_25 : decode cX10_holderAt 25 = .ok (.aload_n 0, 1) := by decide +kernel
theorem dX10_holderAt_26 : decode cX10_holderAt 26 = .ok (.getfield 45, 3) := by decide +kernel
theorem dX10_holderAt_29 : decode cX10_holderAt 29 = .ok (.iload 4, 2) := by decide +kernel
theorem dX10_holderAt_31 : decode cX10_holderAt 31 = .ok (.iaload, 1) := by decide +kernel
theorem dX10_holderAt_32 : decode cX10_holderAt 32 = .ok (.iload_n 2, 1) := by decide +kernel
theorem dX10_holderAt_33 : decode cX10_holderAt 33 = .ok (.if_icmp .gt 13, 3) := by decide +kernel
theorem dX10_holderAt_36 : decode cX10_holderAt 36 = .ok (.aload_n 0, 1) := by decide +kernel
theorem dX10_holderAt_37 : decode cX10_holderAt 37 = .ok (.getfield 42, 3) := by decide +kernel
theorem dX10_holderAt_40 : decode cX10_holderAt 40 = .ok (.iload 4, 2) := by decide +kernel
theorem dX10_holderAt_42 : decode cX10_holderAt 42 = .ok (.iaload, 1) := by decide +kernel
theorem dX10_holderAt_43 : decode cX10_holderAt 43 = .ok (.goto 4, 3) := by decide +kernel
theorem dX10_holderAt_46 : decode cX10_holderAt 46 = .ok (.iload_n 3, 1) := by decide +kernel
theorem dX10_holderAt_47 : decode cX10_holderAt 47 = .ok (.istore_n 3, 1) := by decide +kernel
theorem dX10_holderAt_48 : decode cX10_holderAt 48 = .ok (.iinc 4 1, 3) := by decide +kernel
theorem dX10_holderAt_51 : decode cX10_holderAt 51 = .ok (.goto (-46), 3) := by decide +kernel
theorem dX10_holderAt_54 : decode cX10_holderAt 54 = .ok (.iload_n 3, 1) := by decide +kernel
theorem dX10_holderAt_55 : decode cX10_holderAt 55 = .ok (.ireturn, 1) := by decide +kernel
theorem dX10_sell_0 : decode cX10_sell 0 = .ok (.aload_n 0, 1) := by decide +kernel
theorem dX10_sell_1 : decode cX10_sell 1 = .ok (.aload_n 0, 1) := by decide +kernel
theorem dX10_sell_2 : decode cX10_sell 2 = .ok (.iload_n 1, 1) := by decide +kernel
theorem dX10_sell_3 : decode cX10_sell 3 = .ok (.invokevirtual 160, 3) := by decide +kernel
theorem dX10_sell_6 : decode cX10_sell 6 = .ok (.ifCond .eq 14, 3) := by decide +kernel
theorem dX10_sell_9 : decode cX10_sell 9 = .ok (.iload_n 2, 1) := by decide +kernel
theorem dX10_sell_10 : decode cX10_sell 10 = .ok (.invokestatic 146, 3) := by decide +kernel
theorem dX10_sell_13 : decode cX10_sell 13 = .ok (.ifCond .eq 7, 3) := by decide +kernel
theorem dX10_sell_16 : decode cX10_sell 16 = .ok (.iconst 0, 1) := by decide +kernel
theorem dX10_sell_17 : decode cX10_sell 17 = .ok (.goto 4, 3) := by decide +kernel
theorem dX10_sell_20 : decode cX10_sell 20 = .ok (.iconst 1, 1) := by decide +kernel
theorem dX10_sell_21 : decode cX10_sell 21 = .ok (.invokevirtual 117, 3) := by decide +kernel
theorem dX10_sell_24 : decode cX10_sell 24 = .ok (.ifCond .ne 5, 3) := by decide +kernel
theorem dX10_sell_27 : decode cX10_sell 27 = .ok (.iconst 0, 1) := by decide +kernel
theorem dX10_sell_28 : decode cX10_sell 28 = .ok (.ireturn, 1) := by decide +kernel
theorem dX10_sell_29 : decode cX10_sell 29 = .ok (.aload_n 0, 1) := by decide +kernel
theorem dX10_sell_30 : decode cX10_sell 30 = .ok (.iload_n 1, 1) := by decide +kernel
theorem dX10_sell_31 : decode cX10_sell 31 = .ok (.aload_n 0, 1) := by decide +kernel
theorem dX10_sell_32 : decode cX10_sell 32 = .ok (.getfield 113, 3) := by decide +kernel
theorem dX10_sell_35 : decode cX10_sell 35 = .ok (.invokevirtual 163, 3) := by decide +kernel
theorem dX10_sell_38 : decode cX10_sell 38 = .ok (.istore_n 3, 1) := by decide +kernel
theorem dX10_sell_39 : decode cX10_sell 39 = .ok (.aload_n 0, 1) := by decide +kernel
theorem dX10_sell_40 : decode cX10_sell 40 = .ok (.iload_n 1, 1) := by decide +kernel
theorem dX10_sell_41 : decode cX10_sell 41 = .ok (.iload_n 2, 1) := by decide +kernel
theorem dX10_sell_42 : decode cX10_sell 42 = .ok (.invokevirtual 156, 3) := by decide +kernel
theorem dX10_sell_45 : decode cX10_sell 45 = .ok (.iload_n 3, 1) := by decide +kernel
theorem dX10_sell_46 : decode cX10_sell 46 = .ok (.ireturn, 1) := by decide +kernel
theorem dX10_plates_0 : decode cX10_plates 0 = .ok (.aload_n 0, 1) := by decide +kernel
theorem dX10_plates_1 : decode cX10_plates 1 = .ok (.iconst 0, 1) := by decide +kernel
theorem dX10_plates_2 : decode cX10_plates 2 = .ok (.putfield 100, 3) := by decide +kernel
theorem dX10_plates_5 : decode cX10_plates 5 = .ok (.aload_n 0, 1) := by decide +kernel
theorem dX10_plates_6 : decode cX10_plates 6 = .ok (.getfield 107, 3) := by decide +kernel
theorem dX10_plates_9 : decode cX10_plates 9 = .ok (.ireturn, 1) := by decide +kernel
theorem dX10_isAhead_0 : decode cX10_isAhead 0 = .ok (.iconst 1, 1) := by decide +kernel
theorem dX10_isAhead_1 : decode cX10_isAhead 1 = .ok (.istore_n 3, 1) := by decide +kernel
theorem dX10_isAhead_2 : decode cX10_isAhead 2 = .ok (.iload_n 3, 1) := by decide +kernel
theorem dX10_isAhead_3 : decode cX10_isAhead 3 = .ok (.aload_n 0, 1) := by decide +kernel
theorem dX10_isAhead_4 : decode cX10_isAhead 4 = .ok (.getfield 30, 3) := by decide +kernel
theorem dX10_isAhead_7 : decode cX10_isAhead 7 = .ok (.iload_n 1, 1) := by decide +kernel
theorem dX10_isAhead_8 : decode cX10_isAhead 8 = .ok (.iaload, 1) := by decide +kernel
theorem dX10_isAhead_9 : decode cX10_isAhead 9 = .ok (.if_icmp .gt 34, 3) := by decide +kernel
theorem dX10_isAhead_12 : decode cX10_isAhead 12 = .ok (.iload_n 3, 1) := by decide +kernel
theorem dX10_isAhead_13 : decode cX10_isAhead 13 = .ok (.aload_n 0, 1) := by decide +kernel
theorem dX10_isAhead_14 : decode cX10_isAhead 14 = .ok (.getfield 30, 3) := by decide +kernel
theorem dX10_isAhead_17 : decode cX10_isAhead 17 = .ok (.iload_n 2, 1) := by decide +kernel
theorem dX10_isAhead_18 : decode cX10_isAhead 18 = .ok (.iaload, 1) := by decide +kernel
theorem dX10_isAhead_19 : decode cX10_isAhead 19 = .ok (.if_icmp .gt 24, 3) := by decide +kernel
theorem dX10_isAhead_22 : decode cX10_isAhead 22 = .ok (.aload_n 0, 1) := by decide +kernel
theorem dX10_isAhead_23 : decode cX10_isAhead 23 = .ok (.iload_n 1, 1) := by decide +kernel
theorem dX10_isAhead_24 : decode cX10_isAhead 24 = .ok (.iload_n 3, 1) := by decide +kernel
theorem dX10_isAhead_25 : decode cX10_isAhead 25 = .ok (.invokevirtual 166, 3) := by decide +kernel
theorem dX10_isAhead_28 : decode cX10_isAhead 28 = .ok (.aload_n 0, 1) := by decide +kernel
theorem dX10_isAhead_29 : decode cX10_isAhead 29 = .ok (.iload_n 2, 1) := by decide +kernel
theorem dX10_isAhead_30 : decode cX10_isAhead 30 = .ok (.iload_n 3, 1) := by decide +kernel
theorem dX10_isAhead_31 : decode cX10_isAhead 31 = .ok (.invokevirtual 166, 3) := by decide +kernel
theorem dX10_isAhead_34 : decode cX10_isAhead 34 = .ok (.if_icmp .ne 9, 3) := by decide +kernel
theorem dX10_isAhead_37 : decode cX10_isAhead 37 = .ok (.iinc 3 1, 3) := by decide +kernel
theorem dX10_isAhead_40 : decode cX10_isAhead 40 = .ok (.goto (-38), 3) := by decide +kernel
end
section
theorem dX10_isAhead_43 : decode cX10_isAhead 43 = .ok (.iload_n 3, 1) := by decide +kernel
theorem dX10_isAhead_44 : decode cX10_isAhead 44 = .ok (.aload_n 0, 1) := by decide +kernel
theorem dX10_isAhead_45 : decode cX10_isAhead 45 = .ok (.getfield 30, 3) := by decide +kernel
theorem dX10_isAhead_48 : decode cX10_isAhead 48 = .ok (.iload_n 1, 1) := by decide +kernel
theorem dX10_isAhead_49 : decode cX10_isAhead 49 = .ok (.iaload, 1) := by decide +kernel
theorem dX10_isAhead_50 : decode cX10_isAhead 50 = .ok (.if_icmp .gt 13, 3) := by decide +kernel
theorem dX10_isAhead_53 : decode cX10_isAhead 53 = .ok (.iload_n 3, 1) := by decide +kernel
theorem dX10_isAhead_54 : decode cX10_isAhead 54 = .ok (.aload_n 0, 1) := by decide +kernel
theorem dX10_isAhead_55 : decode cX10_isAhead 55 = .ok (.getfield 30, 3) := by decide +kernel
theorem dX10_isAhead_58 : decode cX10_isAhead 58 = .ok (.iload_n 2, 1) := by decide +kernel
theorem dX10_isAhead_59 : decode cX10_isAhead 59 = .ok (.iaload, 1) := by decide +kernel
theorem dX10_isAhead_60 : decode cX10_isAhead 60 = .ok (.if_icmp .le 7, 3) := by decide +kernel
theorem dX10_isAhead_63 : decode cX10_isAhead 63 = .ok (.iconst 1, 1) := by decide +kernel
theorem dX10_isAhead_64 : decode cX10_isAhead 64 = .ok (.goto 4, 3) := by decide +kernel
theorem dX10_isAhead_67 : decode cX10_isAhead 67 = .ok (.iconst 0, 1) := by decide +kernel
theorem dX10_isAhead_68 : decode cX10_isAhead 68 = .ok (.istore 4, 2) := by decide +kernel
theorem dX10_isAhead_70 : decode cX10_isAhead 70 = .ok (.iload 4, 2) := by decide +kernel
theorem dX10_isAhead_72 : decode cX10_isAhead 72 = .ok (.ifCond .eq 26, 3) := by decide +kernel
theorem dX10_isAhead_75 : decode cX10_isAhead 75 = .ok (.aload_n 0, 1) := by decide +kernel
theorem dX10_isAhead_76 : decode cX10_isAhead 76 = .ok (.getfield 30, 3) := by decide +kernel
theorem dX10_isAhead_79 : decode cX10_isAhead 79 = .ok (.iload_n 1, 1) := by decide +kernel
theorem dX10_isAhead_80 : decode cX10_isAhead 80 = .ok (.iaload, 1) := by decide +kernel
theorem dX10_isAhead_81 : decode cX10_isAhead 81 = .ok (.aload_n 0, 1) := by decide +kernel
theorem dX10_isAhead_82 : decode cX10_isAhead 82 = .ok (.getfield 30, 3) := by decide +kernel
theorem dX10_isAhead_85 : decode cX10_isAhead 85 = .ok (.iload_n 2, 1) := by decide +kernel
theorem dX10_isAhead_86 : decode cX10_isAhead 86 = .ok (.iaload, 1) := by decide +kernel
theorem dX10_isAhead_87 : decode cX10_isAhead 87 = .ok (.if_icmp .ge 7, 3) := by decide +kernel
theorem dX10_isAhead_90 : decode cX10_isAhead 90 = .ok (.iconst 1, 1) := by decide +kernel
theorem dX10_isAhead_91 : decode cX10_isAhead 91 = .ok (.goto 27, 3) := by decide +kernel
theorem dX10_isAhead_94 : decode cX10_isAhead 94 = .ok (.iconst 0, 1) := by decide +kernel
theorem dX10_isAhead_95 : decode cX10_isAhead 95 = .ok (.goto 23, 3) := by decide +kernel
theorem dX10_isAhead_98 : decode cX10_isAhead 98 = .ok (.aload_n 0, 1) := by decide +kernel
theorem dX10_isAhead_99 : decode cX10_isAhead 99 = .ok (.iload_n 1, 1) := by decide +kernel
theorem dX10_isAhead_100 : decode cX10_isAhead 100 = .ok (.iload_n 3, 1) := by decide +kernel
theorem dX10_isAhead_101 : decode cX10_isAhead 101 = .ok (.invokevirtual 166, 3) := by decide +kernel
theorem dX10_isAhead_104 : decode cX10_isAhead 104 = .ok (.aload_n 0, 1) := by decide +kernel
theorem dX10_isAhead_105 : decode cX10_isAhead 105 = .ok (.iload_n 2, 1) := by decide +kernel
theorem dX10_isAhead_106 : decode cX10_isAhead 106 = .ok (.iload_n 3, 1) := by decide +kernel
theorem dX10_isAhead_107 : decode cX10_isAhead 107 = .ok (.invokevirtual 166, 3) := by decide +kernel
theorem dX10_isAhead_110 : decode cX10_isAhead 110 = .ok (.if_icmp .ge 7, 3) := by decide +kernel
theorem dX10_isAhead_113 : decode cX10_isAhead 113 = .ok (.iconst 1, 1) := by decide +kernel
theorem dX10_isAhead_114 : decode cX10_isAhead 114 = .ok (.goto 4, 3) := by decide +kernel
theorem dX10_isAhead_117 : decode cX10_isAhead 117 = .ok (.iconst 0, 1) := by decide +kernel
theorem dX10_isAhead_118 : decode cX10_isAhead 118 = .ok (.ireturn, 1) := by decide +kernel
theorem dX10_signAt_0 : decode cX10_signAt 0 = .ok (.aload_n 0, 1) := by decide +kernel
theorem dX10_signAt_1 : decode cX10_signAt 1 = .ok (.getfield 33, 3) := by decide +kernel
theorem dX10_signAt_4 : decode cX10_signAt 4 = .ok (.bipush 6, 2) := by decide +kernel
theorem dX10_signAt_6 : decode cX10_signAt 6 = .ok (.iload_n 1, 1) := by decide +kernel
theorem dX10_signAt_7 : decode cX10_signAt 7 = .ok (.imul, 1) := by decide +kernel
theorem dX10_signAt_8 : decode cX10_signAt 8 = .ok (.aload_n 0, 1) := by decide +kernel
theorem dX10_signAt_9 : decode cX10_signAt 9 = .ok (.getfield 30, 3) := by decide +kernel
theorem dX10_signAt_12 : decode cX10_signAt 12 = .ok (.iload_n 1, 1) := by decide +kernel
theorem dX10_signAt_13 : decode cX10_signAt 13 = .ok (.iaload, 1) := by decide +kernel
theorem dX10_signAt_14 : decode cX10_signAt 14 = .ok (.iadd, 1) := by decide +kernel
theorem dX10_signAt_15 : decode cX10_signAt 15 = .ok (.iload_n 2, 1) := by decide +kernel
theorem dX10_signAt_16 : decode cX10_signAt 16 = .ok (.isub, 1) := by decide +kernel
theorem dX10_signAt_17 : decode cX10_signAt 17 = .ok (.iaload, 1) := by decide +kernel
theorem dX10_signAt_18 : decode cX10_signAt 18 = .ok (.ireturn, 1) := by decide +kernel
theorem dX10_plateAt_0 : decode cX10_plateAt 0 = .ok (.iconst (-1), 1) := by decide +kernel
theorem dX10_plateAt_1 : decode cX10_plateAt 1 = .ok (.istore_n 2, 1) := by decide +kernel
theorem dX10_plateAt_2 : decode cX10_plateAt 2 = .ok (.iconst 0, 1) := by decide +kernel
theorem dX10_plateAt_3 : decode cX10_plateAt 3 = .ok (.istore_n 3, 1) := by decide +kernel
theorem dX10_plateAt_4 : decode cX10_plateAt 4 = .ok (.iload_n 3, 1) := by decide +kernel
theorem dX10_plateAt_5 : decode cX10_plateAt 5 = .ok (.aload_n 0, 1) := by decide +kernel
theorem dX10_plateAt_6 : decode cX10_plateAt 6 = .ok (.getfield 107, 3) := by decide +kernel
theorem dX10_plateAt_9 : decode cX10_plateAt 9 = .ok (.if_icmp .ge 62, 3) := by decide +kernel
theorem dX10_plateAt_12 : decode cX10_plateAt 12 = .ok (.iconst 0, 1) := by decide +kernel
theorem dX10_plateAt_13 : decode cX10_plateAt 13 = .ok (.istore 4, 2) := by decide +kernel
theorem dX10_plateAt_15 : decode cX10_plateAt 15 = .ok (.iconst 0, 1) := by decide +kernel
theorem dX10_plateAt_16 : decode cX10_plateAt 16 = .ok (.istore 5, 2) := by decide +kernel
theorem dX10_plateAt_18 : decode cX10_plateAt 18 = .ok (.iload 5, 2) := by decide +kernel
theorem dX10_plateAt_20 : decode cX10_plateAt 20 = .ok (.aload_n 0, 1) := by decide +kernel
theorem dX10_plateAt_21 : decode cX10_plateAt 21 = .ok (.getfield 107, 3) := by decide +kernel
theorem dX10_plateAt_24 : decode cX10_plateAt 24 = .ok (.if_icmp .ge 29, 3) := by decide +kernel
theorem dX10_plateAt_27 : decode cX10_plateAt 27 = .ok (.iload 4, 2) := by decide +kernel
theorem dX10_plateAt_29 : decode cX10_plateAt 29 = .ok (.aload_n 0, 1) := by decide +kernel
theorem dX10_plateAt_30 : decode cX10_plateAt 30 = .ok (.iload 5, 2) := by decide +kernel
theorem dX10_plateAt_32 : decode cX10_plateAt 32 = .ok (.iload_n 3, 1) := by decide +kernel
theorem dX10_plateAt_33 : decode cX10_plateAt 33 = .ok (.invokevirtual 169, 3) := by decide +kernel
theorem dX10_plateAt_36 : decode cX10_plateAt 36 = .ok (.ifCond .eq 7, 3) := by decide +kernel
theorem dX10_plateAt_39 : decode cX10_plateAt 39 = .ok (.iconst 1, 1) := by decide +kernel
theorem dX10_plateAt_40 : decode cX10_plateAt 40 = .ok (.goto 4, 3) := by decide +kernel
theorem dX10_plateAt_43 : decode cX10_plateAt 43 = .ok (.iconst 0, 1) := by decide +kernel
theorem dX10_plateAt_44 : decode cX10_plateAt 44 = .ok (.iadd, 1) := by decide +kernel
theorem dX10_plateAt_45 : decode cX10_plateAt 45 = .ok (.istore 4, 2) := by decide +kernel
theorem dX10_plateAt_47 : decode cX10_plateAt 47 = .ok (.iinc 5 1, 3) := by decide +kernel
theorem dX10_plateAt_50 : decode cX10_plateAt 50 = .ok (.goto (-32), 3) := by decide +kernel
theorem dX10_plateAt_53 : decode cX10_plateAt 53 = .ok (.iload 4, 2) := by decide +kernel
theorem dX10_plateAt_55 : decode cX10_plateAt 55 = .ok (.iload_n 1, 1) := by decide +kernel
theorem dX10_plateAt_56 : decode cX10_plateAt 56 = .ok (.if_icmp .ne 7, 3) := by decide +kernel
theorem dX10_plateAt_59 : decode cX10_plateAt 59 = .ok (.iload_n 3, 1) := by decide +kernel
theorem dX10_plateAt_60 : decode cX10_plateAt 60 = .ok (.goto 4, 3) := by decide +kernel
theorem dX10_plateAt_63 : decode cX10_plateAt 63 = .ok (.iload_n 2, 1) := by decide +kernel
theorem dX10_plateAt_64 : decode cX10_plateAt 64 = .ok (.istore_n 2, 1) := by decide +kernel
theorem dX10_plateAt_65 : decode cX10_plateAt 65 = .ok (.iinc 3 1, 3) := by decide +kernel
theorem dX10_plateAt_68 : decode cX10_plateAt 68 = .ok (.goto (-64), 3) := by decide +kernel
theorem dX10_plateAt_71 : decode cX10_plateAt 71 = .ok (.aload_n 0, 1) := by decide +kernel
theorem dX10_plateAt_72 : decode cX10_plateAt 72 = .ok (.iload_n 2, 1) := by decide +kernel
theorem dX10_plateAt_73 : decode cX10_plateAt 73 = .ok (.iconst (-1), 1) := by decide +kernel
theorem dX10_plateAt_74 : decode cX10_plateAt 74 = .ok (.if_icmp .ne 7, 3) := by decide +kernel
theorem dX10_plateAt_77 : decode cX10_plateAt 77 = .ok (.iconst 1, 1) := by decide +kernel
theorem dX10_plateAt_78 : decode cX10_plateAt 78 = .ok (.goto 4, 3) := by decide +kernel
theorem dX10_plateAt_81 : decode cX10_plateAt 81 = .ok (.iconst 0, 1) := by decide +kernel
theorem dX10_plateAt_82 : decode cX10_plateAt 82 = .ok (.invokevirtual 117, 3) := by decide +kernel
theorem dX10_plateAt_85 : decode cX10_plateAt 85 = .ok (.ifCond .eq 7, 3) := by decide +kernel
theorem dX10_plateAt_88 : decode cX10_plateAt 88 = .ok (.iload_n 2, 1) := by decide +kernel
theorem dX10_plateAt_89 : decode cX10_plateAt 89 = .ok (.goto 4, 3) := by decide +kernel
theorem dX10_plateAt_92 : decode cX10_plateAt 92 = .ok (.iconst 0, 1) := by decide +kernel
theorem dX10_plateAt_93 : decode cX10_plateAt 93 = .ok (.ireturn, 1) := by decide +kernel
theorem dX10_holder_0 : decode cX10_holder 0 = .ok (.aload_n 0, 1) := by decide +kernel
theorem dX10_holder_1 : decode cX10_holder 1 = .ok (.aload_n 0, 1) := by decide +kernel
theorem dX10_holder_2 : decode cX10_holder 2 = .ok (.iload_n 1, 1) := by decide +kernel
theorem dX10_holder_3 : decode cX10_holder 3 = .ok (.invokevirtual 160, 3) := by decide +kernel
theorem dX10_holder_6 : decode cX10_holder 6 = .ok (.ifCond .ne 7, 3) := by decide +kernel
theorem dX10_holder_9 : decode cX10_holder 9 = .ok (.iconst 1, 1) := by decide +kernel
theorem dX10_holder_10 : decode cX10_holder 10 = .ok (.goto 20, 3) := by decide +kernel
theorem dX10_holder_13 : decode cX10_holder 13 = .ok (.iload_n 2, 1) := by decide +kernel
theorem dX10_holder_14 : decode cX10_holder 14 = .ok (.iconst 0, 1) := by decide +kernel
theorem dX10_holder_15 : decode cX10_holder 15 = .ok (.aload_n 0, 1) := by decide +kernel
theorem dX10_holder_16 : decode cX10_holder 16 = .ok (.getfield 113, 3) := by decide +kernel
theorem dX10_holder_19 : decode cX10_holder 19 = .ok (.invokestatic 103, 3) := by decide +kernel
theorem dX10_holder_22 : decode cX10_holder 22 = .ok (.ifCond .eq 7, 3) := by decide +kernel
theorem dX10_holder_25 : decode cX10_holder 25 = .ok (.iconst 0, 1) := by decide +kernel
theorem dX10_holder_26 : decode cX10_holder 26 = .ok (.goto 4, 3) := by decide +kernel
theorem dX10_holder_29 : decode cX10_holder 29 = .ok (.iconst 2, 1) := by decide +kernel
theorem dX10_holder_30 : decode cX10_holder 30 = .ok (.invokevirtual 117, 3) := by decide +kernel
theorem dX10_holder_33 : decode cX10_holder 33 = .ok (.ifCond .eq 12, 3) := by decide +kernel
theorem dX10_holder_36 : decode cX10_holder 36 = .ok (.aload_n 0, 1) := by decide +kernel
theorem dX10_holder_37 : decode cX10_holder 37 = .ok (.iload_n 1, 1) := by decide +kernel
theorem dX10_holder_38 : decode cX10_holder 38 = .ok (.iload_n 2, 1) := by decide +kernel
theorem dX10_holder_39 : decode cX10_holder 39 = .ok (.invokevirtual 163, 3) := by decide +kernel
theorem dX10_holder_42 : decode cX10_holder 42 = .ok (.goto 4, 3) := by decide +kernel
theorem dX10_holder_45 : decode cX10_holder 45 = .ok (.iconst 0, 1) := by decide +kernel
theorem dX10_holder_46 : decode cX10_holder 46 = .ok (.ireturn, 1) := by decide +kernel
theorem dX10_read_0 : decode cX10_read 0 = .ok (.iload_n 1, 1) := by decide +kernel
theorem dX10_read_1 : decode cX10_read 1 = .ok (.invokestatic 121, 3) := by decide +kernel
theorem dX10_read_4 : decode cX10_read 4 = .ok (.istore_n 3, 1) := by decide +kernel
theorem dX10_read_5 : decode cX10_read 5 = .ok (.aload_n 0, 1) := by decide +kernel
theorem dX10_read_6 : decode cX10_read 6 = .ok (.iload_n 3, 1) := by decide +kernel
theorem dX10_read_7 : decode cX10_read 7 = .ok (.ifCond .ne 7, 3) := by decide +kernel
theorem dX10_read_10 : decode cX10_read 10 = .ok (.iconst 1, 1) := by decide +kernel
theorem dX10_read_11 : decode cX10_read 11 = .ok (.goto 40, 3) := by decide +kernel
theorem dX10_read_14 : decode cX10_read 14 = .ok (.iload_n 2, 1) := by decide +kernel
theorem dX10_read_15 : decode cX10_read 15 = .ok (.iconst 0, 1) := by decide +kernel
theorem dX10_read_16 : decode cX10_read 16 = .ok (.aload_n 0, 1) := by decide +kernel
theorem dX10_read_17 : decode cX10_read 17 = .ok (.getfield 113, 3) := by decide +kernel
theorem dX10_read_20 : decode cX10_read 20 = .ok (.invokestatic 103, 3) := by decide +kernel
theorem dX10_read_23 : decode cX10_read 23 = .ok (.ifCond .ne 7, 3) := by decide +kernel
theorem dX10_read_26 : decode cX10_read 26 = .ok (.iconst 2, 1) := by decide +kernel
theorem dX10_read_27 : decode cX10_read 27 = .ok (.goto 24, 3) := by decide +kernel
theorem dX10_read_30 : decode cX10_read 30 = .ok (.aload_n 0, 1) := by decide +kernel
theorem dX10_read_31 : decode cX10_read 31 = .ok (.getfield 124, 3) := by decide +kernel
theorem dX10_read_34 : decode cX10_read 34 = .ok (.ifCond .eq 12, 3) := by decide +kernel
theorem dX10_read_37 : decode cX10_read 37 = .ok (.aload_n 0, 1) := by decide +kernel
theorem dX10_read_38 : decode cX10_read 38 = .ok (.getfield 110, 3) := by decide +kernel
theorem dX10_read_41 : decode cX10_read 41 = .ok (.bipush 60, 2) := by decide +kernel
theorem dX10_read_43 : decode cX10_read 43 = .ok (.if_icmp .ne 7, 3) := by decide +kernel
theorem dX10_read_46 : decode cX10_read 46 = .ok (.iconst 3, 1) := by decide +kernel
theorem dX10_read_47 : decode cX10_read 47 = .ok (.goto 4, 3) := by decide +kernel
theorem dX10_read_50 : decode cX10_read 50 = .ok (.iconst 0, 1) := by decide +kernel
theorem dX10_read_51 : decode cX10_read 51 = .ok (.invokevirtual 117, 3) := by decide +kernel
theorem dX10_read_54 : decode cX10_read 54 = .ok (.ifCond .ne 5, 3) := by decide +kernel
theorem dX10_read_57 : decode cX10_read 57 = .ok (.iconst 0, 1) := by decide +kernel
theorem dX10_read_58 : decode cX10_read 58 = .ok (.ireturn, 1) := by decide +kernel
theorem dX10_read_59 : decode cX10_read 59 = .ok (.aload_n 0, 1) := by decide +kernel
theorem dX10_read_60 : decode cX10_read 60 = .ok (.getfield 48, 3) := by decide +kernel
theorem dX10_read_63 : decode cX10_read 63 = .ok (.aload_n 0, 1) := by decide +kernel
theorem dX10_read_64 : decode cX10_read 64 = .ok (.getfield 110, 3) := by decide +kernel
theorem dX10_read_67 : decode cX10_read 67 = .ok (.iload_n 1, 1) := by decide +kernel
theorem dX10_read_68 : decode cX10_read 68 = .ok (.iastore, 1) := by decide +kernel
theorem dX10_read_69 : decode cX10_read 69 = .ok (.aload_n 0, 1) := by decide +kernel
theorem dX10_read_70 : decode cX10_read 70 = .ok (.getfield 51, 3) := by decide +kernel
theorem dX10_read_73 : decode cX10_read 73 = .ok (.aload_n 0, 1) := by decide +kernel
theorem dX10_read_74 : decode cX10_read 74 = .ok (.getfield 110, 3) := by decide +kernel
theorem dX10_read_77 : decode cX10_read 77 = .ok (.iload_n 2, 1) := by decide +kernel
theorem dX10_read_78 : decode cX10_read 78 = .ok (.iastore, 1) := by decide +kernel
theorem dX10_read_79 : decode cX10_read 79 = .ok (.aload_n 0, 1) := by decide +kernel
theorem dX10_read_80 : decode cX10_read 80 = .ok (.getfield 54, 3) := by decide +kernel
theorem dX10_read_83 : decode cX10_read 83 = .ok (.aload_n 0, 1) := by decide +kernel
theorem dX10_read_84 : decode cX10_read 84 = .ok (.getfield 110, 3) := by decide +kernel
theorem dX10_read_87 : decode cX10_read 87 = .ok (.aload_n 0, 1) := by decide +kernel
theorem dX10_read_88 : decode cX10_read 88 = .ok (.getfield 124, 3) := by decide +kernel
theorem dX10_read_91 : decode cX10_read 91 = .ok (.iastore, 1) := by decide +kernel
theorem dX10_read_92 : decode cX10_read 92 = .ok (.iconst 0, 1) := by decide +kernel
theorem dX10_read_93 : decode cX10_read 93 = .ok (.istore 4, 2) := by decide +kernel
theorem dX10_read_95 : decode cX10_read 95 = .ok (.iload 4, 2) := by decide +kernel
theorem dX10_read_97 : decode cX10_read 97 = .ok (.aload_n 0, 1) := by decide +kernel
theorem dX10_read_98 : decode cX10_read 98 = .ok (.getfield 124, 3) := by decide +kernel
theorem dX10_read_101 : decode cX10_read 101 = .ok (.if_icmp .ge 31, 3) := by decide +kernel
theorem dX10_read_104 : decode cX10_read 104 = .ok (.aload_n 0, 1) := by decide +kernel
theorem dX10_read_105 : decode cX10_read 105 = .ok (.getfield 57, 3) := by decide +kernel
theorem dX10_read_108 : decode cX10_read 108 = .ok (.bipush 6, 2) := by decide +kernel
theorem dX10_read_110 : decode cX10_read 110 = .ok (.aload_n 0, 1) := by decide +kernel
theorem dX10_read_111 : decode cX10_read 111 = .ok (.getfield 110, 3) := by decide +kernel
theorem dX10_read_114 : decode cX10_read 114 = .ok (.imul, 1) := by decide +kernel
theorem dX10_read_115 : decode cX10_read 115 = .ok (.iload 4, 2) := by decide +kernel
theorem dX10_read_117 : decode cX10_read 117 = .ok (.iadd, 1) := by decide +kernel
theorem dX10_read_118 : decode cX10_read 118 = .ok (.aload_n 0, 1) := by decide +kernel
theorem dX10_read_119 : decode cX10_read 119 = .ok (.getfield 23, 3) := by decide +kernel
theorem dX10_read_122 : decode cX10_read 122 = .ok (.iload 4, 2) := by decide +kernel
theorem dX10_read_124 : decode cX10_read 124 = .ok (.iaload, 1) := by decide +kernel
theorem dX10_read_125 : decode cX10_read 125 = .ok (.iastore, 1) := by decide +kernel
theorem dX10_read_126 : decode cX10_read 126 = .ok (.iinc 4 1, 3) := by decide +kernel
theorem dX10_read_129 : decode cX10_read 129 = .ok (.goto (-34), 3) := by decide +kernel
theorem dX10_read_132 : decode cX10_read 132 = .ok (.aload_n 0, 1) := by decide +kernel
theorem dX10_read_133 : decode cX10_read 133 = .ok (.dup, 1) := by decide +kernel
theorem dX10_read_134 : decode cX10_read 134 = .ok (.getfield 110, 3) := by decide +kernel
theorem dX10_read_137 : decode cX10_read 137 = .ok (.iconst 1, 1) := by decide +kernel
theorem dX10_read_138 : decode cX10_read 138 = .ok (.iadd, 1) := by decide +kernel
theorem dX10_read_139 : decode cX10_read 139 = .ok (.putfield 110, 3) := by decide +kernel
theorem dX10_read_142 : decode cX10_read 142 = .ok (.aload_n 0, 1) := by decide +kernel
theorem dX10_read_143 : decode cX10_read 143 = .ok (.getfield 110, 3) := by decide +kernel
theorem dX10_read_146 : decode cX10_read 146 = .ok (.iconst 1, 1) := by decide +kernel
theorem dX10_read_147 : decode cX10_read 147 = .ok (.isub, 1) := by decide +kernel
theorem dX10_read_148 : decode cX10_read 148 = .ok (.ireturn, 1) := by decide +kernel
theorem dX10_costOf_0 : decode cX10_costOf 0 = .ok (.aload_n 0, 1) := by decide +kernel
theorem dX10_costOf_1 : decode cX10_costOf 1 = .ok (.getfield 54, 3) := by decide +kernel
theorem dX10_costOf_4 : decode cX10_costOf 4 = .ok (.iload_n 1, 1) := by decide +kernel
theorem dX10_costOf_5 : decode cX10_costOf 5 = .ok (.iaload, 1) := by decide +kernel
theorem dX10_costOf_6 : decode cX10_costOf 6 = .ok (.aload_n 0, 1) := by decide +kernel
theorem dX10_costOf_7 : decode cX10_costOf 7 = .ok (.getfield 30, 3) := by decide +kernel
theorem dX10_costOf_10 : decode cX10_costOf 10 = .ok (.iload_n 2, 1) := by decide +kernel
theorem dX10_costOf_11 : decode cX10_costOf 11 = .ok (.iaload, 1) := by decide +kernel
theorem dX10_costOf_12 : decode cX10_costOf 12 = .ok (.if_icmp .ne 7, 3) := by decide +kernel
theorem dX10_costOf_15 : decode cX10_costOf 15 = .ok (.iconst 0, 1) := by decide +kernel
theorem dX10_costOf_16 : decode cX10_costOf 16 = .ok (.goto 4, 3) := by decide +kernel
theorem dX10_costOf_19 : decode cX10_costOf 19 = .ok (.iconst (-1), 1) := by decide +kernel
theorem dX10_costOf_20 : decode cX10_costOf 20 = .ok (.istore_n 3, 1) := by decide +kernel
theorem dX10_costOf_21 : decode cX10_costOf 21 = .ok (.iconst 0, 1) := by decide +kernel
theorem dX10_costOf_22 : decode cX10_costOf 22 = .ok (.istore 4, 2) := by decide +kernel
theorem dX10_costOf_24 : decode cX10_costOf 24 = .ok (.iload 4, 2) := by decide +kernel
theorem dX10_costOf_26 : decode cX10_costOf 26 = .ok (.aload_n 0, 1) := by decide +kernel
theorem dX10_costOf_27 : decode cX10_costOf 27 = .ok (.getfield 54, 3) := by decide +kernel
theorem dX10_costOf_30 : decode cX10_costOf 30 = .ok (.iload_n 1, 1) := by decide +kernel
theorem dX10_costOf_31 : decode cX10_costOf 31 = .ok (.iaload, 1) := by decide +kernel
theorem dX10_costOf_32 : decode cX10_costOf 32 = .ok (.if_icmp .ge 102, 3) := by decide +kernel
theorem dX10_costOf_35 : decode cX10_costOf 35 = .ok (.iload_n 3, 1) := by decide +kernel
theorem dX10_costOf_36 : decode cX10_costOf 36 = .ok (.iconst (-1), 1) := by decide +kernel
theorem dX10_costOf_37 : decode cX10_costOf 37 = .ok (.if_icmp .eq 97, 3) := by decide +kernel
theorem dX10_costOf_40 : decode cX10_costOf 40 = .ok (.aload_n 0, 1) := by decide +kernel
theorem dX10_costOf_41 : decode cX10_costOf 41 = .ok (.getfield 57, 3) := by decide +kernel
theorem dX10_costOf_44 : decode cX10_costOf 44 = .ok (.bipush 6, 2) := by decide +kernel
theorem dX10_costOf_46 : decode cX10_costOf 46 = .ok (.iload_n 1, 1) := by decide +kernel
theorem dX10_costOf_47 : decode cX10_costOf 47 = .ok (.imul, 1) := by decide +kernel
theorem dX10_costOf_48 : decode cX10_costOf 48 = .ok (.iload 4, 2) := by decide +kernel
theorem dX10_costOf_50 : decode cX10_costOf 50 = .ok (.iadd, 1) := by decide +kernel
theorem dX10_costOf_51 : decode cX10_costOf 51 = .ok (.iaload, 1) := by decide +kernel
theorem dX10_costOf_52 : decode cX10_costOf 52 = .ok (.istore 5, 2) := by decide +kernel
theorem dX10_costOf_54 : decode cX10_costOf 54 = .ok (.aload_n 0, 1) := by decide +kernel
theorem dX10_costOf_55 : decode cX10_costOf 55 = .ok (.getfield 33, 3) := by decide +kernel
theorem dX10_costOf_58 : decode cX10_costOf 58 = .ok (.bipush 6, 2) := by decide +kernel
theorem dX10_costOf_60 : decode cX10_costOf 60 = .ok (.iload_n 2, 1) := by decide +kernel
theorem dX10_costOf_61 : decode cX10_costOf 61 = .ok (.imul, 1) := by decide +kernel
theorem dX10_costOf_62 : decode cX10_costOf 62 = .ok (.iload 4, 2) := by decide +kernel
theorem dX10_costOf_64 : decode cX10_costOf 64 = .ok (.iadd, 1) := by decide +kernel
theorem dX10_costOf_65 : decode cX10_costOf 65 = .ok (.iaload, 1) := by decide +kernel
theorem dX10_costOf_66 : decode cX10_costOf 66 = .ok (.istore 6, 2) := by decide +kernel
theorem dX10_costOf_68 : decode cX10_costOf 68 = .ok (.iload 5, 2) := by decide +kernel
theorem dX10_costOf_70 : decode cX10_costOf 70 = .ok (.iload 6, 2) := by decide +kernel
theorem dX10_costOf_72 : decode cX10_costOf 72 = .ok (.if_icmp .ne 7, 3) := by decide +kernel
theorem dX10_costOf_75 : decode cX10_costOf 75 = .ok (.iconst 0, 1) := by decide +kernel
theorem dX10_costOf_76 : decode cX10_costOf 76 = .ok (.goto 35, 3) := by decide +kernel
theorem dX10_costOf_79 : decode cX10_costOf 79 = .ok (.iload 5, 2) := by decide +kernel
theorem dX10_costOf_81 : decode cX10_costOf 81 = .ok (.bipush 14, 2) := by decide +kernel
theorem dX10_costOf_83 : decode cX10_costOf 83 = .ok (.if_icmp .ne 7, 3) := by decide +kernel
theorem dX10_costOf_86 : decode cX10_costOf 86 = .ok (.iconst 2, 1) := by decide +kernel
theorem dX10_costOf_87 : decode cX10_costOf 87 = .ok (.goto 24, 3) := by decide +kernel
theorem dX10_costOf_90 : decode cX10_costOf 90 = .ok (.aload_n 0, 1) := by decide +kernel
theorem dX10_costOf_91 : decode cX10_costOf 91 = .ok (.getfield 26, 3) := by decide +kernel
theorem dX10_costOf_94 : decode cX10_costOf 94 = .ok (.bipush 15, 2) := by decide +kernel
theorem dX10_costOf_96 : decode cX10_costOf 96 = .ok (.iload 5, 2) := by decide +kernel
theorem dX10_costOf_98 : decode cX10_costOf 98 = .ok (.imul, 1) := by decide +kernel
theorem dX10_costOf_99 : decode cX10_costOf 99 = .ok (.iload 6, 2) := by decide +kernel
theorem dX10_costOf_101 : decode cX10_costOf 101 = .ok (.iadd, 1) := by decide +kernel
theorem dX10_costOf_102 : decode cX10_costOf 102 = .ok (.baload, 1) := by decide +kernel
theorem dX10_costOf_103 : decode cX10_costOf 103 = .ok (.ifCond .eq 7, 3) := by decide +kernel
theorem dX10_costOf_106 : decode cX10_costOf 106 = .ok (.iconst 1, 1) := by decide +kernel
theorem dX10_costOf_107 : decode cX10_costOf 107 = .ok (.goto 4, 3) := by decide +kernel
theorem dX10_costOf_110 : decode cX10_costOf 110 = .ok (.iconst (-1), 1) := by decide +kernel
theorem dX10_costOf_111 : decode cX10_costOf 111 = .ok (.istore 7, 2) := by decide +kernel
theorem dX10_costOf_113 : decode cX10_costOf 113 = .ok (.iload 7, 2) := by decide +kernel
theorem dX10_costOf_115 : decode cX10_costOf 115 = .ok (.iconst (-1), 1) := by decide +kernel
theorem dX10_costOf_116 : decode cX10_costOf 116 = .ok (.if_icmp .ne 7, 3) := by decide +kernel
theorem dX10_costOf_119 : decode cX10_costOf 119 = .ok (.iconst (-1), 1) := by decide +kernel
theorem dX10_costOf_120 : decode cX10_costOf 120 = .ok (.goto 7, 3) := by decide +kernel
theorem dX10_costOf_123 : decode cX10_costOf 123 = .ok (.iload_n 3, 1) := by decide +kernel
theorem dX10_costOf_124 : decode cX10_costOf 124 = .ok (.iload 7, 2) := by decide +kernel
theorem dX10_costOf_126 : decode cX10_costOf 126 = .ok (.iadd, 1) := by decide +kernel
theorem dX10_costOf_127 : decode cX10_costOf 127 = .ok (.istore_n 3, 1) := by decide +kernel
theorem dX10_costOf_128 : decode cX10_costOf 128 = .ok (.iinc 4 1, 3) := by decide +kernel
theorem dX10_costOf_131 : decode cX10_costOf 131 = .ok (.goto (-107), 3) := by decide +kernel
theorem dX10_costOf_134 : decode cX10_costOf 134 = .ok (.iload_n 3, 1) := by decide +kernel
theorem dX10_costOf_135 : decode cX10_costOf 135 = .ok (.ireturn, 1) := by decide +kernel
theorem dX10_plateFor_0 : decode cX10_plateFor 0 = .ok (.iconst (-1), 1) := by decide +kernel
theorem dX10_plateFor_1 : decode cX10_plateFor 1 = .ok (.istore_n 2, 1) := by decide +kernel
theorem dX10_plateFor_2 : decode cX10_plateFor 2 = .ok (.iconst (-1), 1) := by decide +kernel
theorem dX10_plateFor_3 : decode cX10_plateFor 3 = .ok (.istore_n 3, 1) := by decide +kernel
theorem dX10_plateFor_4 : decode cX10_plateFor 4 = .ok (.iconst 0, 1) := by decide +kernel
theorem dX10_plateFor_5 : decode cX10_plateFor 5 = .ok (.istore 4, 2) := by decide +kernel
theorem dX10_plateFor_7 : decode cX10_plateFor 7 = .ok (.iload 4, 2) := by decide +kernel
theorem dX10_plateFor_9 : decode cX10_plateFor 9 = .ok (.aload_n 0, 1) := by decide +kernel
theorem dX10_plateFor_10 : decode cX10_plateFor 10 = .ok (.getfield 107, 3) := by decide +kernel
theorem dX10_plateFor_13 : decode cX10_plateFor 13 = .ok (.if_icmp .ge 66, 3) := by decide +kernel
theorem dX10_plateFor_16 : decode cX10_plateFor 16 = .ok (.aload_n 0, 1) := by decide +kernel
theorem dX10_plateFor_17 : decode cX10_plateFor 17 = .ok (.getfield 60, 3) := by decide +kernel
theorem dX10_plateFor_20 : decode cX10_plateFor 20 = .ok (.iload_n 1, 1) := by decide +kernel
theorem dX10_plateFor_21 : decode cX10_plateFor 21 = .ok (.baload, 1) := by decide +kernel
theorem dX10_plateFor_22 : decode cX10_plateFor 22 = .ok (.ifCond .ne 57, 3) := by decide +kernel
theorem dX10_plateFor_25 : decode cX10_plateFor 25 = .ok (.aload_n 0, 1) := by decide +kernel
theorem dX10_plateFor_26 : decode cX10_plateFor 26 = .ok (.iload_n 1, 1) := by decide +kernel
theorem dX10_plateFor_27 : decode cX10_plateFor 27 = .ok (.iload 4, 2) := by decide +kernel
theorem dX10_plateFor_29 : decode cX10_plateFor 29 = .ok (.invokevirtual 173, 3) := by decide +kernel
theorem dX10_plateFor_32 : decode cX10_plateFor 32 = .ok (.istore 5, 2) := by decide +kernel
theorem dX10_plateFor_34 : decode cX10_plateFor 34 = .ok (.iload 5, 2) := by decide +kernel
theorem dX10_plateFor_36 : decode cX10_plateFor 36 = .ok (.iconst (-1), 1) := by decide +kernel
theorem dX10_plateFor_37 : decode cX10_plateFor 37 = .ok (.if_icmp .eq 36, 3) := by decide +kernel
theorem dX10_plateFor_40 : decode cX10_plateFor 40 = .ok (.iload_n 2, 1) := by decide +kernel
theorem dX10_plateFor_41 : decode cX10_plateFor 41 = .ok (.iconst (-1), 1) := by decide +kernel
theorem dX10_plateFor_42 : decode cX10_plateFor 42 = .ok (.if_icmp .eq 25, 3) := by decide +kernel
theorem dX10_plateFor_45 : decode cX10_plateFor 45 = .ok (.iload 5, 2) := by decide +kernel
theorem dX10_plateFor_47 : decode cX10_plateFor 47 = .ok (.iload_n 3, 1) := by decide +kernel
theorem dX10_plateFor_48 : decode cX10_plateFor 48 = .ok (.if_icmp .lt 19, 3) := by decide +kernel
theorem dX10_plateFor_51 : decode cX10_plateFor 51 = .ok (.iload 5, 2) := by decide +kernel
theorem dX10_plateFor_53 : decode cX10_plateFor 53 = .ok (.iload_n 3, 1) := by decide +kernel
theorem dX10_plateFor_54 : decode cX10_plateFor 54 = .ok (.if_icmp .ne 19, 3) := by decide +kernel
theorem dX10_plateFor_57 : decode cX10_plateFor 57 = .ok (.aload_n 0, 1) := by decide +kernel
theorem dX10_plateFor_58 : decode cX10_plateFor 58 = .ok (.iload 4, 2) := by decide +kernel
theorem dX10_plateFor_60 : decode cX10_plateFor 60 = .ok (.iload_n 2, 1) := by decide +kernel
theorem dX10_plateFor_61 : decode cX10_plateFor 61 = .ok (.invokevirtual 169, 3) := by decide +kernel
theorem dX10_plateFor_64 : decode cX10_plateFor 64 = .ok (.ifCond .eq 9, 3) := by decide +kernel
theorem dX10_plateFor_67 : decode cX10_plateFor 67 = .ok (.iload 4, 2) := by decide +kernel
theorem dX10_plateFor_69 : decode cX10_plateFor 69 = .ok (.istore_n 2, 1) := by decide +kernel
theorem dX10_plateFor_70 : decode cX10_plateFor 70 = .ok (.iload 5, 2) := by decide +kernel
theorem dX10_plateFor_72 : decode cX10_plateFor 72 = .ok (.istore_n 3, 1) := by decide +kernel
theorem dX10_plateFor_73 : decode cX10_plateFor 73 = .ok (.iinc 4 1, 3) := by decide +kernel
theorem dX10_plateFor_76 : decode cX10_plateFor 76 = .ok (.goto (-69), 3) := by decide +kernel
theorem dX10_plateFor_79 : decode cX10_plateFor 79 = .ok (.aload_n 0, 1) := by decide +kernel
theorem dX10_plateFor_80 : decode cX10_plateFor 80 = .ok (.getfield 60, 3) := by decide +kernel
theorem dX10_plateFor_83 : decode cX10_plateFor 83 = .ok (.iload_n 1, 1) := by decide +kernel
theorem dX10_plateFor_84 : decode cX10_plateFor 84 = .ok (.baload, 1) := by decide +kernel
theorem dX10_plateFor_85 : decode cX10_plateFor 85 = .ok (.ifCond .eq 12, 3) := by decide +kernel
theorem dX10_plateFor_88 : decode cX10_plateFor 88 = .ok (.aload_n 0, 1) := by decide +kernel
theorem dX10_plateFor_89 : decode cX10_plateFor 89 = .ok (.getfield 63, 3) := by decide +kernel
theorem dX10_plateFor_92 : decode cX10_plateFor 92 = .ok (.iload_n 1, 1) := by decide +kernel
theorem dX10_plateFor_93 : decode cX10_plateFor 93 = .ok (.iaload, 1) := by decide +kernel
theorem dX10_plateFor_94 : decode cX10_plateFor 94 = .ok (.goto 4, 3) := by decide +kernel
theorem dX10_plateFor_97 : decode cX10_plateFor 97 = .ok (.iload_n 2, 1) := by decide +kernel
theorem dX10_plateFor_98 : decode cX10_plateFor 98 = .ok (.ireturn, 1) := by decide +kernel
theorem dX10_correct_0 : decode cX10_correct 0 = .ok (.aload_n 0, 1) := by decide +kernel
theorem dX10_correct_1 : decode cX10_correct 1 = .ok (.iload_n 1, 1) := by decide +kernel
theorem dX10_correct_2 : decode cX10_correct 2 = .ok (.invokevirtual 176, 3) := by decide +kernel
theorem dX10_correct_5 : decode cX10_correct 5 = .ok (.ifCond .eq 21, 3) := by decide +kernel
theorem dX10_correct_8 : decode cX10_correct 8 = .ok (.iload_n 2, 1) := by decide +kernel
theorem dX10_correct_9 : decode cX10_correct 9 = .ok (.iconst (-1), 1) := by decide +kernel
theorem dX10_correct_10 : decode cX10_correct 10 = .ok (.aload_n 0, 1) := by decide +kernel
theorem dX10_correct_11 : decode cX10_correct 11 = .ok (.getfield 107, 3) := by decide +kernel
theorem dX10_correct_14 : decode cX10_correct 14 = .ok (.iconst 1, 1) := by decide +kernel
theorem dX10_correct_15 : decode cX10_correct 15 = .ok (.isub, 1) := by decide +kernel
theorem dX10_correct_16 : decode cX10_correct 16 = .ok (.invokestatic 103, 3) := by decide +kernel
theorem dX10_correct_19 : decode cX10_correct 19 = .ok (.ifCond .eq 7, 3) := by decide +kernel
theorem dX10_correct_22 : decode cX10_correct 22 = .ok (.iconst 1, 1) := by decide +kernel
theorem dX10_correct_23 : decode cX10_correct 23 = .ok (.goto 4, 3) := by decide +kernel
theorem dX10_correct_26 : decode cX10_correct 26 = .ok (.iconst 0, 1) := by decide +kernel
theorem dX10_correct_27 : decode cX10_correct 27 = .ok (.istore_n 3, 1) := by decide +kernel
theorem dX10_correct_28 : decode cX10_correct 28 = .ok (.aload_n 0, 1) := by decide +kernel
theorem dX10_correct_29 : decode cX10_correct 29 = .ok (.iload_n 3, 1) := by decide +kernel
theorem dX10_correct_30 : decode cX10_correct 30 = .ok (.ifCond .eq 7, 3) := by decide +kernel
theorem dX10_correct_33 : decode cX10_correct 33 = .ok (.iconst 0, 1) := by decide +kernel
theorem dX10_correct_34 : decode cX10_correct 34 = .ok (.goto 4, 3) := by decide +kernel
theorem dX10_correct_37 : decode cX10_correct 37 = .ok (.iconst 1, 1) := by decide +kernel
theorem dX10_correct_38 : decode cX10_correct 38 = .ok (.invokevirtual 117, 3) := by decide +kernel
theorem dX10_correct_41 : decode cX10_correct 41 = .ok (.ifCond .ne 5, 3) := by decide +kernel
theorem dX10_correct_44 : decode cX10_correct 44 = .ok (.iconst 0, 1) := by decide +kernel
theorem dX10_correct_45 : decode cX10_correct 45 = .ok (.ireturn, 1) := by decide +kernel
theorem dX10_correct_46 : decode cX10_correct 46 = .ok (.aload_n 0, 1) := by decide +kernel
theorem dX10_correct_47 : decode cX10_correct 47 = .ok (.iload_n 1, 1) := by decide +kernel
theorem dX10_correct_48 : decode cX10_correct 48 = .ok (.invokevirtual 179, 3) := by decide +kernel
theorem dX10_correct_51 : decode cX10_correct 51 = .ok (.istore 4, 2) := by decide +kernel
theorem dX10_correct_53 : decode cX10_correct 53 = .ok (.aload_n 0, 1) := by decide +kernel
theorem dX10_correct_54 : decode cX10_correct 54 = .ok (.getfield 60, 3) := by decide +kernel
theorem dX10_correct_57 : decode cX10_correct 57 = .ok (.iload_n 1, 1) := by decide +kernel
theorem dX10_correct_58 : decode cX10_correct 58 = .ok (.iconst 1, 1) := by decide +kernel
theorem dX10_correct_59 : decode cX10_correct 59 = .ok (.bastore, 1) := by decide +kernel
theorem dX10_correct_60 : decode cX10_correct 60 = .ok (.aload_n 0, 1) := by decide +kernel
theorem dX10_correct_61 : decode cX10_correct 61 = .ok (.getfield 63, 3) := by decide +kernel
theorem dX10_correct_64 : decode cX10_correct 64 = .ok (.iload_n 1, 1) := by decide +kernel
theorem dX10_correct_65 : decode cX10_correct 65 = .ok (.iload_n 2, 1) := by decide +kernel
theorem dX10_correct_66 : decode cX10_correct 66 = .ok (.iastore, 1) := by decide +kernel
theorem dX10_correct_67 : decode cX10_correct 67 = .ok (.iload 4, 2) := by decide +kernel
theorem dX10_correct_69 : decode cX10_correct 69 = .ok (.ireturn, 1) := by decide +kernel
theorem dX10_uncorrect_0 : decode cX10_uncorrect 0 = .ok (.aload_n 0, 1) := by decide +kernel
theorem dX10_uncorrect_1 : decode cX10_uncorrect 1 = .ok (.aload_n 0, 1) := by decide +kernel
theorem dX10_uncorrect_2 : decode cX10_uncorrect 2 = .ok (.iload_n 1, 1) := by decide +kernel
theorem dX10_uncorrect_3 : decode cX10_uncorrect 3 = .ok (.invokevirtual 176, 3) := by decide +kernel
theorem dX10_uncorrect_6 : decode cX10_uncorrect 6 = .ok (.ifCond .ne 7, 3) := by decide +kernel
theorem dX10_uncorrect_9 : decode cX10_uncorrect 9 = .ok (.iconst 1, 1) := by decide +kernel
theorem dX10_uncorrect_10 : decode cX10_uncorrect 10 = .ok (.goto 17, 3) := by decide +kernel
theorem dX10_uncorrect_13 : decode cX10_uncorrect 13 = .ok (.aload_n 0, 1) := by decide +kernel
theorem dX10_uncorrect_14 : decode cX10_uncorrect 14 = .ok (.getfield 60, 3) := by decide +kernel
theorem dX10_uncorrect_17 : decode cX10_uncorrect 17 = .ok (.iload_n 1, 1) := by decide +kernel
theorem dX10_uncorrect_18 : decode cX10_uncorrect 18 = .ok (.baload, 1) := by decide +kernel
theorem dX10_uncorrect_19 : decode cX10_uncorrect 19 = .ok (.ifCond .eq 7, 3) := by decide +kernel
theorem dX10_uncorrect_22 : decode cX10_uncorrect 22 = .ok (.iconst 0, 1) := by decide +kernel
theorem dX10_uncorrect_23 : decode cX10_uncorrect 23 = .ok (.goto 4, 3) := by decide +kernel
theorem dX10_uncorrect_26 : decode cX10_uncorrect 26 = .ok (.iconst 2, 1) := by decide +kernel
theorem dX10_uncorrect_27 : decode cX10_uncorrect 27 = .ok (.invokevirtual 117, 3) := by decide +kernel
theorem dX10_uncorrect_30 : decode cX10_uncorrect 30 = .ok (.ifCond .ne 5, 3) := by decide +kernel
theorem dX10_uncorrect_33 : decode cX10_uncorrect 33 = .ok (.iconst 0, 1) := by decide +kernel
theorem dX10_uncorrect_34 : decode cX10_uncorrect 34 = .ok (.ireturn, 1) := by decide +kernel
theorem dX10_uncorrect_35 : decode cX10_uncorrect 35 = .ok (.aload_n 0, 1) := by decide +kernel
theorem dX10_uncorrect_36 : decode cX10_uncorrect 36 = .ok (.getfield 60, 3) := by decide +kernel
theorem dX10_uncorrect_39 : decode cX10_uncorrect 39 = .ok (.iload_n 1, 1) := by decide +kernel
theorem dX10_uncorrect_40 : decode cX10_uncorrect 40 = .ok (.iconst 0, 1) := by decide +kernel
theorem dX10_uncorrect_41 : decode cX10_uncorrect 41 = .ok (.bastore, 1) := by decide +kernel
theorem dX10_uncorrect_42 : decode cX10_uncorrect 42 = .ok (.aload_n 0, 1) := by decide +kernel
theorem dX10_uncorrect_43 : decode cX10_uncorrect 43 = .ok (.iload_n 1, 1) := by decide +kernel
theorem dX10_uncorrect_44 : decode cX10_uncorrect 44 = .ok (.invokevirtual 179, 3) := by decide +kernel
theorem dX10_uncorrect_47 : decode cX10_uncorrect 47 = .ok (.ireturn, 1) := by decide +kernel
theorem dX10_plateOf_0 : decode cX10_plateOf 0 = .ok (.aload_n 0, 1) := by decide +kernel
theorem dX10_plateOf_1 : decode cX10_plateOf 1 = .ok (.aload_n 0, 1) := by decide +kernel
theorem dX10_plateOf_2 : decode cX10_plateOf 2 = .ok (.iload_n 1, 1) := by decide +kernel
theorem dX10_plateOf_3 : decode cX10_plateOf 3 = .ok (.invokevirtual 176, 3) := by decide +kernel
theorem dX10_plateOf_6 : decode cX10_plateOf 6 = .ok (.ifCond .eq 7, 3) := by decide +kernel
theorem dX10_plateOf_9 : decode cX10_plateOf 9 = .ok (.iconst 0, 1) := by decide +kernel
theorem dX10_plateOf_10 : decode cX10_plateOf 10 = .ok (.goto 4, 3) := by decide +kernel
theorem dX10_plateOf_13 : decode cX10_plateOf 13 = .ok (.iconst 1, 1) := by decide +kernel
theorem dX10_plateOf_14 : decode cX10_plateOf 14 = .ok (.invokevirtual 117, 3) := by decide +kernel
theorem dX10_plateOf_17 : decode cX10_plateOf 17 = .ok (.ifCond .eq 11, 3) := by decide +kernel
theorem dX10_plateOf_20 : decode cX10_plateOf 20 = .ok (.aload_n 0, 1) := by decide +kernel
theorem dX10_plateOf_21 : decode cX10_plateOf 21 = .ok (.iload_n 1, 1) := by decide +kernel
theorem dX10_plateOf_22 : decode cX10_plateOf 22 = .ok (.invokevirtual 179, 3) := by decide +kernel
theorem dX10_plateOf_25 : decode cX10_plateOf 25 = .ok (.goto 4, 3) := by decide +kernel
theorem dX10_plateOf_28 : decode cX10_plateOf 28 = .ok (.iconst 0, 1) := by decide +kernel
theorem dX10_plateOf_29 : decode cX10_plateOf 29 = .ok (.ireturn, 1) := by decide +kernel
theorem dX10_cost_0 : decode cX10_cost 0 = .ok (.aload_n 0, 1) := by decide +kernel
theorem dX10_cost_1 : decode cX10_cost 1 = .ok (.aload_n 0, 1) := by decide +kernel
theorem dX10_cost_2 : decode cX10_cost 2 = .ok (.iload_n 1, 1) := by decide +kernel
theorem dX10_cost_3 : decode cX10_cost 3 = .ok (.invokevirtual 176, 3) := by decide +kernel
theorem dX10_cost_6 : decode cX10_cost 6 = .ok (.ifCond .eq 15, 3) := by decide +kernel
theorem dX10_cost_9 : decode cX10_cost 9 = .ok (.aload_n 0, 1) := by decide +kernel
theorem dX10_cost_10 : decode cX10_cost 10 = .ok (.iload_n 2, 1) := by decide +kernel
theorem dX10_cost_11 : decode cX10_cost 11 = .ok (.invokevirtual 160, 3) := by decide +kernel
theorem dX10_cost_14 : decode cX10_cost 14 = .ok (.ifCond .eq 7, 3) := by decide +kernel
theorem dX10_cost_17 : decode cX10_cost 17 = .ok (.iconst 0, 1) := by decide +kernel
theorem dX10_cost_18 : decode cX10_cost 18 = .ok (.goto 4, 3) := by decide +kernel
theorem dX10_cost_21 : decode cX10_cost 21 = .ok (.iconst 1, 1) := by decide +kernel
theorem dX10_cost_22 : decode cX10_cost 22 = .ok (.invokevirtual 117, 3) := by decide +kernel
theorem dX10_cost_25 : decode cX10_cost 25 = .ok (.ifCond .eq 12, 3) := by decide +kernel
theorem dX10_cost_28 : decode cX10_cost 28 = .ok (.aload_n 0, 1) := by decide +kernel
theorem dX10_cost_29 : decode cX10_cost 29 = .ok (.iload_n 1, 1) := by decide +kernel
theorem dX10_cost_30 : decode cX10_cost 30 = .ok (.iload_n 2, 1) := by decide +kernel
theorem dX10_cost_31 : decode cX10_cost 31 = .ok (.invokevirtual 173, 3) := by decide +kernel
theorem dX10_cost_34 : decode cX10_cost 34 = .ok (.goto 4, 3) := by decide +kernel
theorem dX10_cost_37 : decode cX10_cost 37 = .ok (.iconst 0, 1) := by decide +kernel
theorem dX10_cost_38 : decode cX10_cost 38 = .ok (.ireturn, 1) := by decide +kernel
theorem dX10_isBefore_0 : decode cX10_isBefore 0 = .ok (.aload_n 0, 1) := by decide +kernel
theorem dX10_isBefore_1 : decode cX10_isBefore 1 = .ok (.getfield 51, 3) := by decide +kernel
theorem dX10_isBefore_4 : decode cX10_isBefore 4 = .ok (.iload_n 1, 1) := by decide +kernel
theorem dX10_isBefore_5 : decode cX10_isBefore 5 = .ok (.iaload, 1) := by decide +kernel
theorem dX10_isBefore_6 : decode cX10_isBefore 6 = .ok (.aload_n 0, 1) := by decide +kernel
theorem dX10_isBefore_7 : decode cX10_isBefore 7 = .ok (.getfield 51, 3) := by decide +kernel
theorem dX10_isBefore_10 : decode cX10_isBefore 10 = .ok (.iload_n 2, 1) := by decide +kernel
theorem dX10_isBefore_11 : decode cX10_isBefore 11 = .ok (.iaload, 1) := by decide +kernel
theorem dX10_isBefore_12 : decode cX10_isBefore 12 = .ok (.if_icmp .lt 23, 3) := by decide +kernel
theorem dX10_isBefore_15 : decode cX10_isBefore 15 = .ok (.aload_n 0, 1) := by decide +kernel
theorem dX10_isBefore_16 : decode cX10_isBefore 16 = .ok (.getfield 51, 3) := by decide +kernel
theorem dX10_isBefore_19 : decode cX10_isBefore 19 = .ok (.iload_n 1, 1) := by decide +kernel
theorem dX10_isBefore_20 : decode cX10_isBefore 20 = .ok (.iaload, 1) := by decide +kernel
theorem dX10_isBefore_21 : decode cX10_isBefore 21 = .ok (.aload_n 0, 1) := by decide +kernel
theorem dX10_isBefore_22 : decode cX10_isBefore 22 = .ok (.getfield 51, 3) := by decide +kernel
theorem dX10_isBefore_25 : decode cX10_isBefore 25 = .ok (.iload_n 2, 1) := by decide +kernel
theorem dX10_isBefore_26 : decode cX10_isBefore 26 = .ok (.iaload, 1) := by decide +kernel
theorem dX10_isBefore_27 : decode cX10_isBefore 27 = .ok (.if_icmp .ne 12, 3) := by decide +kernel
theorem dX10_isBefore_30 : decode cX10_isBefore 30 = .ok (.iload_n 1, 1) := by decide +kernel
theorem dX10_isBefore_31 : decode cX10_isBefore 31 = .ok (.iload_n 2, 1) := by decide +kernel
theorem dX10_isBefore_32 : decode cX10_isBefore 32 = .ok (.if_icmp .ge 7, 3) := by decide +kernel
theorem dX10_isBefore_35 : decode cX10_isBefore 35 = .ok (.iconst 1, 1) := by decide +kernel
theorem dX10_isBefore_36 : decode cX10_isBefore 36 = .ok (.goto 4, 3) := by decide +kernel
theorem dX10_isBefore_39 : decode cX10_isBefore 39 = .ok (.iconst 0, 1) := by decide +kernel
theorem dX10_isBefore_40 : decode cX10_isBefore 40 = .ok (.ireturn, 1) := by decide +kernel
theorem dX10_next_0 : decode cX10_next 0 = .ok (.iconst (-1), 1) := by decide +kernel
theorem dX10_next_1 : decode cX10_next 1 = .ok (.istore_n 3, 1) := by decide +kernel
theorem dX10_next_2 : decode cX10_next 2 = .ok (.iconst 0, 1) := by decide +kernel
theorem dX10_next_3 : decode cX10_next 3 = .ok (.istore 4, 2) := by decide +kernel
theorem dX10_next_5 : decode cX10_next 5 = .ok (.iload 4, 2) := by decide +kernel
theorem dX10_next_7 : decode cX10_next 7 = .ok (.aload_n 0, 1) := by decide +kernel
theorem dX10_next_8 : decode cX10_next 8 = .ok (.getfield 110, 3) := by decide +kernel
theorem dX10_next_11 : decode cX10_next 11 = .ok (.if_icmp .ge 69, 3) := by decide +kernel
theorem dX10_next_14 : decode cX10_next 14 = .ok (.aload_n 0, 1) := by decide +kernel
theorem dX10_next_15 : decode cX10_next 15 = .ok (.getfield 66, 3) := by decide +kernel
theorem dX10_next_18 : decode cX10_next 18 = .ok (.iload 4, 2) := by decide +kernel
theorem dX10_next_20 : decode cX10_next 20 = .ok (.iaload, 1) := by decide +kernel
theorem dX10_next_21 : decode cX10_next 21 = .ok (.iload_n 1, 1) := by decide +kernel
theorem dX10_next_22 : decode cX10_next 22 = .ok (.if_icmp .ne 22, 3) := by decide +kernel
theorem dX10_next_25 : decode cX10_next 25 = .ok (.iload_n 2, 1) := by decide +kernel
theorem dX10_next_26 : decode cX10_next 26 = .ok (.iconst (-1), 1) := by decide +kernel
theorem dX10_next_27 : decode cX10_next 27 = .ok (.if_icmp .eq 13, 3) := by decide +kernel
theorem dX10_next_30 : decode cX10_next 30 = .ok (.aload_n 0, 1) := by decide +kernel
theorem dX10_next_31 : decode cX10_next 31 = .ok (.iload_n 2, 1) := by decide +kernel
theorem dX10_next_32 : decode cX10_next 32 = .ok (.iload 4, 2) := by decide +kernel
theorem dX10_next_34 : decode cX10_next 34 = .ok (.invokevirtual 183, 3) := by decide +kernel
theorem dX10_next_37 : decode cX10_next 37 = .ok (.ifCond .eq 7, 3) := by decide +kernel
theorem dX10_next_40 : decode cX10_next 40 = .ok (.iconst 1, 1) := by decide +kernel
theorem dX10_next_41 : decode cX10_next 41 = .ok (.goto 4, 3) := by decide +kernel
theorem dX10_next_44 : decode cX10_next 44 = .ok (.iconst 0, 1) := by decide +kernel
theorem dX10_next_45 : decode cX10_next 45 = .ok (.istore 5, 2) := by decide +kernel
theorem dX10_next_47 : decode cX10_next 47 = .ok (.iload 5, 2) := by decide +kernel
theorem dX10_next_49 : decode cX10_next 49 = .ok (.ifCond .eq 23, 3) := by decide +kernel
theorem dX10_next_52 : decode cX10_next 52 = .ok (.iload_n 3, 1) := by decide +kernel
theorem dX10_next_53 : decode cX10_next 53 = .ok (.iconst (-1), 1) := by decide +kernel
theorem dX10_next_54 : decode cX10_next 54 = .ok (.if_icmp .eq 13, 3) := by decide +kernel
theorem dX10_next_57 : decode cX10_next 57 = .ok (.aload_n 0, 1) := by decide +kernel
theorem dX10_next_58 : decode cX10_next 58 = .ok (.iload 4, 2) := by decide +kernel
theorem dX10_next_60 : decode cX10_next 60 = .ok (.iload_n 3, 1) := by decide +kernel
theorem dX10_next_61 : decode cX10_next 61 = .ok (.invokevirtual 183, 3) := by decide +kernel
theorem dX10_next_64 : decode cX10_next 64 = .ok (.ifCond .eq 8, 3) := by decide +kernel
theorem dX10_next_67 : decode cX10_next 67 = .ok (.iload 4, 2) := by decide +kernel
theorem dX10_next_69 : decode cX10_next 69 = .ok (.goto 4, 3) := by decide +kernel
theorem dX10_next_72 : decode cX10_next 72 = .ok (.iload_n 3, 1) := by decide +kernel
theorem dX10_next_73 : decode cX10_next 73 = .ok (.istore_n 3, 1) := by decide +kernel
theorem dX10_next_74 : decode cX10_next 74 = .ok (.iinc 4 1, 3) := by decide +kernel
theorem dX10_next_77 : decode cX10_next 77 = .ok (.goto (-72), 3) := by decide +kernel
theorem dX10_next_80 : decode cX10_next 80 = .ok (.iload_n 3, 1) := by decide +kernel
theorem dX10_next_81 : decode cX10_next 81 = .ok (.ireturn, 1) := by decide +kernel
theorem dX10_begins_0 : decode cX10_begins 0 = .ok (.iload_n 1, 1) := by decide +kernel
theorem dX10_begins_1 : decode cX10_begins 1 = .ok (.iconst (-1), 1) := by decide +kernel
theorem dX10_begins_2 : decode cX10_begins 2 = .ok (.if_icmp .ne 5, 3) := by decide +kernel
theorem dX10_begins_5 : decode cX10_begins 5 = .ok (.iconst 1, 1) := by decide +kernel
theorem dX10_begins_6 : decode cX10_begins 6 = .ok (.ireturn, 1) := by decide +kernel
theorem dX10_begins_7 : decode cX10_begins 7 = .ok (.aload_n 0, 1) := by decide +kernel
theorem dX10_begins_8 : decode cX10_begins 8 = .ok (.getfield 17, 3) := by decide +kernel
theorem dX10_begins_11 : decode cX10_begins 11 = .ok (.bipush 8, 2) := by decide +kernel
theorem dX10_begins_13 : decode cX10_begins 13 = .ok (.aload_n 0, 1) := by decide +kernel
theorem dX10_begins_14 : decode cX10_begins 14 = .ok (.getfield 48, 3) := by decide +kernel
theorem dX10_begins_17 : decode cX10_begins 17 = .ok (.iload_n 1, 1) := by decide +kernel
theorem dX10_begins_18 : decode cX10_begins 18 = .ok (.iaload, 1) := by decide +kernel
theorem dX10_begins_19 : decode cX10_begins 19 = .ok (.imul, 1) := by decide +kernel
theorem dX10_begins_20 : decode cX10_begins 20 = .ok (.aload_n 0, 1) := by decide +kernel
theorem dX10_begins_21 : decode cX10_begins 21 = .ok (.getfield 48, 3) := by decide +kernel
theorem dX10_begins_24 : decode cX10_begins 24 = .ok (.iload_n 2, 1) := by decide +kernel
theorem dX10_begins_25 : decode cX10_begins 25 = .ok (.iaload, 1) := by decide +kernel
theorem dX10_begins_26 : decode cX10_begins 26 = .ok (.iadd, 1) := by decide +kernel
theorem dX10_begins_27 : decode cX10_begins 27 = .ok (.iaload, 1) := by decide +kernel
theorem dX10_begins_28 : decode cX10_begins 28 = .ok (.istore_n 3, 1) := by decide +kernel
theorem dX10_begins_29 : decode cX10_begins 29 = .ok (.aload_n 0, 1) := by decide +kernel
theorem dX10_begins_30 : decode cX10_begins 30 = .ok (.getfield 51, 3) := by decide +kernel
theorem dX10_begins_33 : decode cX10_begins 33 = .ok (.iload_n 2, 1) := by decide +kernel
theorem dX10_begins_34 : decode cX10_begins 34 = .ok (.iaload, 1) := by decide +kernel
theorem dX10_begins_35 : decode cX10_begins 35 = .ok (.aload_n 0, 1) := by decide +kernel
theorem dX10_begins_36 : decode cX10_begins 36 = .ok (.getfield 51, 3) := by decide +kernel
theorem dX10_begins_39 : decode cX10_begins 39 = .ok (.iload_n 1, 1) := by decide +kernel
theorem dX10_begins_40 : decode cX10_begins 40 = .ok (.iaload, 1) := by decide +kernel
theorem dX10_begins_41 : decode cX10_begins 41 = .ok (.isub, 1) := by decide +kernel
theorem dX10_begins_42 : decode cX10_begins 42 = .ok (.istore 4, 2) := by decide +kernel
theorem dX10_begins_44 : decode cX10_begins 44 = .ok (.iload_n 3, 1) := by decide +kernel
theorem dX10_begins_45 : decode cX10_begins 45 = .ok (.iconst (-1), 1) := by decide +kernel
theorem dX10_begins_46 : decode cX10_begins 46 = .ok (.if_icmp .eq 24, 3) := by decide +kernel
theorem dX10_begins_49 : decode cX10_begins 49 = .ok (.iload 4, 2) := by decide +kernel
theorem dX10_begins_51 : decode cX10_begins 51 = .ok (.iconst 2, 1) := by decide +kernel
theorem dX10_begins_52 : decode cX10_begins 52 = .ok (.iload_n 3, 1) := by decide +kernel
theorem dX10_begins_53 : decode cX10_begins 53 = .ok (.imul, 1) := by decide +kernel
theorem dX10_begins_54 : decode cX10_begins 54 = .ok (.aload_n 0, 1) := by decide +kernel
theorem dX10_begins_55 : decode cX10_begins 55 = .ok (.getfield 7, 3) := by decide +kernel
theorem dX10_begins_58 : decode cX10_begins 58 = .ok (.iadd, 1) := by decide +kernel
theorem dX10_begins_59 : decode cX10_begins 59 = .ok (.if_icmp .gt 11, 3) := by decide +kernel
theorem dX10_begins_62 : decode cX10_begins 62 = .ok (.iconst 4, 1) := by decide +kernel
theorem dX10_begins_63 : decode cX10_begins 63 = .ok (.iload 4, 2) := by decide +kernel
theorem dX10_begins_65 : decode cX10_begins 65 = .ok (.imul, 1) := by decide +kernel
theorem dX10_begins_66 : decode cX10_begins 66 = .ok (.iload_n 3, 1) := by decide +kernel
theorem dX10_begins_67 : decode cX10_begins 67 = .ok (.if_icmp .ge 7, 3) := by decide +kernel
theorem dX10_begins_70 : decode cX10_begins 70 = .ok (.iconst 1, 1) := by decide +kernel
theorem dX10_begins_71 : decode cX10_begins 71 = .ok (.goto 4, 3) := by decide +kernel
theorem dX10_begins_74 : decode cX10_begins 74 = .ok (.iconst 0, 1) := by decide +kernel
theorem dX10_begins_75 : decode cX10_begins 75 = .ok (.ireturn, 1) := by decide +kernel
theorem dX10_joins_0 : decode cX10_joins 0 = .ok (.iconst 0, 1) := by decide +kernel
theorem dX10_joins_1 : decode cX10_joins 1 = .ok (.istore_n 2, 1) := by decide +kernel
theorem dX10_joins_2 : decode cX10_joins 2 = .ok (.iload_n 2, 1) := by decide +kernel
theorem dX10_joins_3 : decode cX10_joins 3 = .ok (.aload_n 0, 1) := by decide +kernel
theorem dX10_joins_4 : decode cX10_joins 4 = .ok (.getfield 110, 3) := by decide +kernel
theorem dX10_joins_7 : decode cX10_joins 7 = .ok (.if_icmp .ge 20, 3) := by decide +kernel
theorem dX10_joins_10 : decode cX10_joins 10 = .ok (.aload_n 0, 1) := by decide +kernel
theorem dX10_joins_11 : decode cX10_joins 11 = .ok (.getfield 66, 3) := by decide +kernel
theorem dX10_joins_14 : decode cX10_joins 14 = .ok (.iload_n 2, 1) := by decide +kernel
theorem dX10_joins_15 : decode cX10_joins 15 = .ok (.aload_n 0, 1) := by decide +kernel
theorem dX10_joins_16 : decode cX10_joins 16 = .ok (.iload_n 2, 1) := by decide +kernel
theorem dX10_joins_17 : decode cX10_joins 17 = .ok (.invokevirtual 179, 3) := by decide +kernel
theorem dX10_joins_20 : decode cX10_joins 20 = .ok (.iastore, 1) := by decide +kernel
theorem dX10_joins_21 : decode cX10_joins 21 = .ok (.iinc 2 1, 3) := by decide +kernel
theorem dX10_joins_24 : decode cX10_joins 24 = .ok (.goto (-22), 3) := by decide +kernel
theorem dX10_joins_27 : decode cX10_joins 27 = .ok (.aload_n 0, 1) := by decide +kernel
theorem dX10_joins_28 : decode cX10_joins 28 = .ok (.iload_n 1, 1) := by decide +kernel
theorem dX10_joins_29 : decode cX10_joins 29 = .ok (.invokevirtual 186, 3) := by decide +kernel
theorem dX10_joins_32 : decode cX10_joins 32 = .ok (.ireturn, 1) := by decide +kernel
theorem dX10_joinsAgain_0 : decode cX10_joinsAgain 0 = .ok (.iconst 0, 1) := by decide +kernel
theorem dX10_joinsAgain_1 : decode cX10_joinsAgain 1 = .ok (.istore_n 2, 1) := by decide +kernel
theorem dX10_joinsAgain_2 : decode cX10_joinsAgain 2 = .ok (.iconst (-1), 1) := by decide +kernel
theorem dX10_joinsAgain_3 : decode cX10_joinsAgain 3 = .ok (.istore_n 3, 1) := by decide +kernel
theorem dX10_joinsAgain_4 : decode cX10_joinsAgain 4 = .ok (.aload_n 0, 1) := by decide +kernel
theorem dX10_joinsAgain_5 : decode cX10_joinsAgain 5 = .ok (.iload_n 1, 1) := by decide +kernel
theorem dX10_joinsAgain_6 : decode cX10_joinsAgain 6 = .ok (.iconst (-1), 1) := by decide +kernel
theorem dX10_joinsAgain_7 : decode cX10_joinsAgain 7 = .ok (.invokevirtual 189, 3) := by decide +kernel
theorem dX10_joinsAgain_10 : decode cX10_joinsAgain 10 = .ok (.istore 4, 2) := by decide +kernel
theorem dX10_joinsAgain_12 : decode cX10_joinsAgain 12 = .ok (.iload 4, 2) := by decide +kernel
theorem dX10_joinsAgain_14 : decode cX10_joinsAgain 14 = .ok (.iconst (-1), 1) := by decide +kernel
theorem dX10_joinsAgain_15 : decode cX10_joinsAgain 15 = .ok (.if_icmp .eq 46, 3) := by decide +kernel
theorem dX10_joinsAgain_18 : decode cX10_joinsAgain 18 = .ok (.iload_n 2, 1) := by decide +kernel
theorem dX10_joinsAgain_19 : decode cX10_joinsAgain 19 = .ok (.aload_n 0, 1) := by decide +kernel
theorem dX10_joinsAgain_20 : decode cX10_joinsAgain 20 = .ok (.iload_n 3, 1) := by decide +kernel
theorem dX10_joinsAgain_21 : decode cX10_joinsAgain 21 = .ok (.iload 4, 2) := by decide +kernel
theorem dX10_joinsAgain_23 : decode cX10_joinsAgain 23 = .ok (.invokevirtual 192, 3) := by decide +kernel
theorem dX10_joinsAgain_26 : decode cX10_joinsAgain 26 = .ok (.ifCond .eq 7, 3) := by decide +kernel
theorem dX10_joinsAgain_29 : decode cX10_joinsAgain 29 = .ok (.iconst 1, 1) := by decide +kernel
theorem dX10_joinsAgain_30 : decode cX10_joinsAgain 30 = .ok (.goto 4, 3) := by decide +kernel
theorem dX10_joinsAgain_33 : decode cX10_joinsAgain 33 = .ok (.iconst 0, 1) := by decide +kernel
theorem dX10_joinsAgain_34 : decode cX10_joinsAgain 34 = .ok (.iadd, 1) := by decide +kernel
theorem dX10_joinsAgain_35 : decode cX10_joinsAgain 35 = .ok (.istore_n 2, 1) := by decide +kernel
theorem dX10_joinsAgain_36 : decode cX10_joinsAgain 36 = .ok (.aload_n 0, 1) := by decide +kernel
theorem dX10_joinsAgain_37 : decode cX10_joinsAgain 37 = .ok (.getfield 69, 3) := by decide +kernel
theorem dX10_joinsAgain_40 : decode cX10_joinsAgain 40 = .ok (.iload 4, 2) := by decide +kernel
theorem dX10_joinsAgain_42 : decode cX10_joinsAgain 42 = .ok (.iload_n 2, 1) := by decide +kernel
theorem dX10_joinsAgain_43 : decode cX10_joinsAgain 43 = .ok (.iconst 1, 1) := by decide +kernel
theorem dX10_joinsAgain_44 : decode cX10_joinsAgain 44 = .ok (.isub, 1) := by decide +kernel
theorem dX10_joinsAgain_45 : decode cX10_joinsAgain 45 = .ok (.iastore, 1) := by decide +kernel
theorem dX10_joinsAgain_46 : decode cX10_joinsAgain 46 = .ok (.iload 4, 2) := by decide +kernel
theorem dX10_joinsAgain_48 : decode cX10_joinsAgain 48 = .ok (.istore_n 3, 1) := by decide +kernel
theorem dX10_joinsAgain_49 : decode cX10_joinsAgain 49 = .ok (.aload_n 0, 1) := by decide +kernel
theorem dX10_joinsAgain_50 : decode cX10_joinsAgain 50 = .ok (.iload_n 1, 1) := by decide +kernel
theorem dX10_joinsAgain_51 : decode cX10_joinsAgain 51 = .ok (.iload 4, 2) := by decide +kernel
theorem dX10_joinsAgain_53 : decode cX10_joinsAgain 53 = .ok (.invokevirtual 189, 3) := by decide +kernel
theorem dX10_joinsAgain_56 : decode cX10_joinsAgain 56 = .ok (.istore 4, 2) := by decide +kernel
theorem dX10_joinsAgain_58 : decode cX10_joinsAgain 58 = .ok (.goto (-46), 3) := by decide +kernel
theorem dX10_joinsAgain_61 : decode cX10_joinsAgain 61 = .ok (.iload_n 2, 1) := by decide +kernel
theorem dX10_joinsAgain_62 : decode cX10_joinsAgain 62 = .ok (.ireturn, 1) := by decide +kernel
theorem dX10_trips_0 : decode cX10_trips 0 = .ok (.aload_n 0, 1) := by decide +kernel
theorem dX10_trips_1 : decode cX10_trips 1 = .ok (.aload_n 0, 1) := by decide +kernel
theorem dX10_trips_2 : decode cX10_trips 2 = .ok (.iload_n 1, 1) := by decide +kernel
theorem dX10_trips_3 : decode cX10_trips 3 = .ok (.invokevirtual 160, 3) := by decide +kernel
theorem dX10_trips_6 : decode cX10_trips 6 = .ok (.ifCond .eq 7, 3) := by decide +kernel
theorem dX10_trips_9 : decode cX10_trips 9 = .ok (.iconst 0, 1) := by decide +kernel
theorem dX10_trips_10 : decode cX10_trips 10 = .ok (.goto 4, 3) := by decide +kernel
theorem dX10_trips_13 : decode cX10_trips 13 = .ok (.iconst 1, 1) := by decide +kernel
theorem dX10_trips_14 : decode cX10_trips 14 = .ok (.invokevirtual 117, 3) := by decide +kernel
theorem dX10_trips_17 : decode cX10_trips 17 = .ok (.ifCond .eq 11, 3) := by decide +kernel
theorem dX10_trips_20 : decode cX10_trips 20 = .ok (.aload_n 0, 1) := by decide +kernel
theorem dX10_trips_21 : decode cX10_trips 21 = .ok (.iload_n 1, 1) := by decide +kernel
theorem dX10_trips_22 : decode cX10_trips 22 = .ok (.invokevirtual 195, 3) := by decide +kernel
theorem dX10_trips_25 : decode cX10_trips 25 = .ok (.goto 4, 3) := by decide +kernel
theorem dX10_trips_28 : decode cX10_trips 28 = .ok (.iconst 0, 1) := by decide +kernel
theorem dX10_trips_29 : decode cX10_trips 29 = .ok (.ireturn, 1) := by decide +kernel
theorem dX10_tripsAnew_0 : decode cX10_tripsAnew 0 = .ok (.aload_n 0, 1) := by decide +kernel
theorem dX10_tripsAnew_1 : decode cX10_tripsAnew 1 = .ok (.aload_n 0, 1) := by decide +kernel
theorem dX10_tripsAnew_2 : decode cX10_tripsAnew 2 = .ok (.iload_n 1, 1) := by decide +kernel
theorem dX10_tripsAnew_3 : decode cX10_tripsAnew 3 = .ok (.invokevirtual 160, 3) := by decide +kernel
theorem dX10_tripsAnew_6 : decode cX10_tripsAnew 6 = .ok (.ifCond .eq 7, 3) := by decide +kernel
theorem dX10_tripsAnew_9 : decode cX10_tripsAnew 9 = .ok (.iconst 0, 1) := by decide +kernel
theorem dX10_tripsAnew_10 : decode cX10_tripsAnew 10 = .ok (.goto 4, 3) := by decide +kernel
theorem dX10_tripsAnew_13 : decode cX10_tripsAnew 13 = .ok (.iconst 1, 1) := by decide +kernel
theorem dX10_tripsAnew_14 : decode cX10_tripsAnew 14 = .ok (.invokevirtual 117, 3) := by decide +kernel
theorem dX10_tripsAnew_17 : decode cX10_tripsAnew 17 = .ok (.ifCond .eq 11, 3) := by decide +kernel
theorem dX10_tripsAnew_20 : decode cX10_tripsAnew 20 = .ok (.aload_n 0, 1) := by decide +kernel
theorem dX10_tripsAnew_21 : decode cX10_tripsAnew 21 = .ok (.iload_n 1, 1) := by decide +kernel
theorem dX10_tripsAnew_22 : decode cX10_tripsAnew 22 = .ok (.invokevirtual 195, 3) := by decide +kernel
theorem dX10_tripsAnew_25 : decode cX10_tripsAnew 25 = .ok (.goto 4, 3) := by decide +kernel
theorem dX10_tripsAnew_28 : decode cX10_tripsAnew 28 = .ok (.iconst 0, 1) := by decide +kernel
theorem dX10_tripsAnew_29 : decode cX10_tripsAnew 29 = .ok (.ireturn, 1) := by decide +kernel
theorem dX10_tripOf_0 : decode cX10_tripOf 0 = .ok (.aload_n 0, 1) := by decide +kernel
theorem dX10_tripOf_1 : decode cX10_tripOf 1 = .ok (.aload_n 0, 1) := by decide +kernel
theorem dX10_tripOf_2 : decode cX10_tripOf 2 = .ok (.iload_n 1, 1) := by decide +kernel
theorem dX10_tripOf_3 : decode cX10_tripOf 3 = .ok (.invokevirtual 176, 3) := by decide +kernel
theorem dX10_tripOf_6 : decode cX10_tripOf 6 = .ok (.ifCond .eq 7, 3) := by decide +kernel
theorem dX10_tripOf_9 : decode cX10_tripOf 9 = .ok (.iconst 0, 1) := by decide +kernel
theorem dX10_tripOf_10 : decode cX10_tripOf 10 = .ok (.goto 4, 3) := by decide +kernel
theorem dX10_tripOf_13 : decode cX10_tripOf 13 = .ok (.iconst 1, 1) := by decide +kernel
theorem dX10_tripOf_14 : decode cX10_tripOf 14 = .ok (.invokevirtual 117, 3) := by decide +kernel
theorem dX10_tripOf_17 : decode cX10_tripOf 17 = .ok (.ifCond .ne 5, 3) := by decide +kernel
theorem dX10_tripOf_20 : decode cX10_tripOf 20 = .ok (.iconst 0, 1) := by decide +kernel
theorem dX10_tripOf_21 : decode cX10_tripOf 21 = .ok (.ireturn, 1) := by decide +kernel
theorem dX10_tripOf_22 : decode cX10_tripOf 22 = .ok (.aload_n 0, 1) := by decide +kernel
theorem dX10_tripOf_23 : decode cX10_tripOf 23 = .ok (.iload_n 1, 1) := by decide +kernel
theorem dX10_tripOf_24 : decode cX10_tripOf 24 = .ok (.invokevirtual 179, 3) := by decide +kernel
theorem dX10_tripOf_27 : decode cX10_tripOf 27 = .ok (.istore_n 2, 1) := by decide +kernel
theorem dX10_tripOf_28 : decode cX10_tripOf 28 = .ok (.iload_n 2, 1) := by decide +kernel
theorem dX10_tripOf_29 : decode cX10_tripOf 29 = .ok (.iconst (-1), 1) := by decide +kernel
theorem dX10_tripOf_30 : decode cX10_tripOf 30 = .ok (.if_icmp .ne 5, 3) := by decide +kernel
theorem dX10_tripOf_33 : decode cX10_tripOf 33 = .ok (.iconst (-1), 1) := by decide +kernel
theorem dX10_tripOf_34 : decode cX10_tripOf 34 = .ok (.ireturn, 1) := by decide +kernel
theorem dX10_tripOf_35 : decode cX10_tripOf 35 = .ok (.aload_n 0, 1) := by decide +kernel
theorem dX10_tripOf_36 : decode cX10_tripOf 36 = .ok (.iload_n 2, 1) := by decide +kernel
theorem dX10_tripOf_37 : decode cX10_tripOf 37 = .ok (.invokevirtual 195, 3) := by decide +kernel
theorem dX10_tripOf_40 : decode cX10_tripOf 40 = .ok (.pop, 1) := by decide +kernel
theorem dX10_tripOf_41 : decode cX10_tripOf 41 = .ok (.aload_n 0, 1) := by decide +kernel
theorem dX10_tripOf_42 : decode cX10_tripOf 42 = .ok (.getfield 69, 3) := by decide +kernel
theorem dX10_tripOf_45 : decode cX10_tripOf 45 = .ok (.iload_n 1, 1) := by decide +kernel
theorem dX10_tripOf_46 : decode cX10_tripOf 46 = .ok (.iaload, 1) := by decide +kernel
theorem dX10_tripOf_47 : decode cX10_tripOf 47 = .ok (.ireturn, 1) := by decide +kernel
theorem dX10_firstOf_0 : decode cX10_firstOf 0 = .ok (.aload_n 0, 1) := by decide +kernel
theorem dX10_firstOf_1 : decode cX10_firstOf 1 = .ok (.iload_n 1, 1) := by decide +kernel
theorem dX10_firstOf_2 : decode cX10_firstOf 2 = .ok (.iconst (-1), 1) := by decide +kernel
theorem dX10_firstOf_3 : decode cX10_firstOf 3 = .ok (.invokevirtual 189, 3) := by decide +kernel
theorem dX10_firstOf_6 : decode cX10_firstOf 6 = .ok (.istore_n 3, 1) := by decide +kernel
theorem dX10_firstOf_7 : decode cX10_firstOf 7 = .ok (.aload_n 0, 1) := by decide +kernel
theorem dX10_firstOf_8 : decode cX10_firstOf 8 = .ok (.getfield 69, 3) := by decide +kernel
theorem dX10_firstOf_11 : decode cX10_firstOf 11 = .ok (.iload_n 3, 1) := by decide +kernel
theorem dX10_firstOf_12 : decode cX10_firstOf 12 = .ok (.iaload, 1) := by decide +kernel
theorem dX10_firstOf_13 : decode cX10_firstOf 13 = .ok (.iload_n 2, 1) := by decide +kernel
theorem dX10_firstOf_14 : decode cX10_firstOf 14 = .ok (.if_icmp .eq 13, 3) := by decide +kernel
theorem dX10_firstOf_17 : decode cX10_firstOf 17 = .ok (.aload_n 0, 1) := by decide +kernel
theorem dX10_firstOf_18 : decode cX10_firstOf 18 = .ok (.iload_n 1, 1) := by decide +kernel
theorem dX10_firstOf_19 : decode cX10_firstOf 19 = .ok (.iload_n 3, 1) := by decide +kernel
theorem dX10_firstOf_20 : decode cX10_firstOf 20 = .ok (.invokevirtual 189, 3) := by decide +kernel
theorem dX10_firstOf_23 : decode cX10_firstOf 23 = .ok (.istore_n 3, 1) := by decide +kernel
theorem dX10_firstOf_24 : decode cX10_firstOf 24 = .ok (.goto (-17), 3) := by decide +kernel
theorem dX10_firstOf_27 : decode cX10_firstOf 27 = .ok (.iload_n 3, 1) := by decide +kernel
theorem dX10_firstOf_28 : decode cX10_firstOf 28 = .ok (.ireturn, 1) := by decide +kernel
theorem dX10_tollOf_0 : decode cX10_tollOf 0 = .ok (.iconst 2, 1) := by decide +kernel
theorem dX10_tollOf_1 : decode cX10_tollOf 1 = .ok (.istore_n 3, 1) := by decide +kernel
theorem dX10_tollOf_2 : decode cX10_tollOf 2 = .ok (.aload_n 0, 1) := by decide +kernel
theorem dX10_tollOf_3 : decode cX10_tollOf 3 = .ok (.iload_n 1, 1) := by decide +kernel
theorem dX10_tollOf_4 : decode cX10_tollOf 4 = .ok (.iload_n 2, 1) := by decide +kernel
theorem dX10_tollOf_5 : decode cX10_tollOf 5 = .ok (.invokevirtual 198, 3) := by decide +kernel
theorem dX10_tollOf_8 : decode cX10_tollOf 8 = .ok (.istore 4, 2) := by decide +kernel
theorem dX10_tollOf_10 : decode cX10_tollOf 10 = .ok (.aload_n 0, 1) := by decide +kernel
theorem dX10_tollOf_11 : decode cX10_tollOf 11 = .ok (.iload_n 1, 1) := by decide +kernel
theorem dX10_tollOf_12 : decode cX10_tollOf 12 = .ok (.iload 4, 2) := by decide +kernel
theorem dX10_tollOf_14 : decode cX10_tollOf 14 = .ok (.invokevirtual 189, 3) := by decide +kernel
theorem dX10_tollOf_17 : decode cX10_tollOf 17 = .ok (.istore 5, 2) := by decide +kernel
theorem dX10_tollOf_19 : decode cX10_tollOf 19 = .ok (.iload 5, 2) := by decide +kernel
theorem dX10_tollOf_21 : decode cX10_tollOf 21 = .ok (.iconst (-1), 1) := by decide +kernel
theorem dX10_tollOf_22 : decode cX10_tollOf 22 = .ok (.if_icmp .eq 56, 3) := by decide +kernel
theorem dX10_tollOf_25 : decode cX10_tollOf 25 = .ok (.aload_n 0, 1) := by decide +kernel
theorem dX10_tollOf_26 : decode cX10_tollOf 26 = .ok (.getfield 69, 3) := by decide +kernel
theorem dX10_tollOf_29 : decode cX10_tollOf 29 = .ok (.iload 5, 2) := by decide +kernel
theorem dX10_tollOf_31 : decode cX10_tollOf 31 = .ok (.iaload, 1) := by decide +kernel
theorem dX10_tollOf_32 : decode cX10_tollOf 32 = .ok (.iload_n 2, 1) := by decide +kernel
theorem dX10_tollOf_33 : decode cX10_tollOf 33 = .ok (.if_icmp .ne 45, 3) := by decide +kernel
theorem dX10_tollOf_36 : decode cX10_tollOf 36 = .ok (.iload_n 3, 1) := by decide +kernel
theorem dX10_tollOf_37 : decode cX10_tollOf 37 = .ok (.aload_n 0, 1) := by decide +kernel
theorem dX10_tollOf_38 : decode cX10_tollOf 38 = .ok (.getfield 17, 3) := by decide +kernel
theorem dX10_tollOf_41 : decode cX10_tollOf 41 = .ok (.bipush 8, 2) := by decide +kernel
theorem dX10_tollOf_43 : decode cX10_tollOf 43 = .ok (.aload_n 0, 1) := by decide +kernel
theorem dX10_tollOf_44 : decode cX10_tollOf 44 = .ok (.getfield 48, 3) := by decide +kernel
theorem dX10_tollOf_47 : decode cX10_tollOf 47 = .ok (.iload 4, 2) := by decide +kernel
theorem dX10_tollOf_49 : decode cX10_tollOf 49 = .ok (.iaload, 1) := by decide +kernel
theorem dX10_tollOf_50 : decode cX10_tollOf 50 = .ok (.imul, 1) := by decide +kernel
theorem dX10_tollOf_51 : decode cX10_tollOf 51 = .ok (.aload_n 0, 1) := by decide +kernel
theorem dX10_tollOf_52 : decode cX10_tollOf 52 = .ok (.getfield 48, 3) := by decide +kernel
theorem dX10_tollOf_55 : decode cX10_tollOf 55 = .ok (.iload 5, 2) := by decide +kernel
theorem dX10_tollOf_57 : decode cX10_tollOf 57 = .ok (.iaload, 1) := by decide +kernel
theorem dX10_tollOf_58 : decode cX10_tollOf 58 = .ok (.iadd, 1) := by decide +kernel
theorem dX10_tollOf_59 : decode cX10_tollOf 59 = .ok (.iaload, 1) := by decide +kernel
theorem dX10_tollOf_60 : decode cX10_tollOf 60 = .ok (.iadd, 1) := by decide +kernel
theorem dX10_tollOf_61 : decode cX10_tollOf 61 = .ok (.istore_n 3, 1) := by decide +kernel
theorem dX10_tollOf_62 : decode cX10_tollOf 62 = .ok (.iload 5, 2) := by decide +kernel
theorem dX10_tollOf_64 : decode cX10_tollOf 64 = .ok (.istore 4, 2) := by decide +kernel
theorem dX10_tollOf_66 : decode cX10_tollOf 66 = .ok (.aload_n 0, 1) := by decide +kernel
theorem dX10_tollOf_67 : decode cX10_tollOf 67 = .ok (.iload_n 1, 1) := by decide +kernel
theorem dX10_tollOf_68 : decode cX10_tollOf 68 = .ok (.iload 5, 2) := by decide +kernel
theorem dX10_tollOf_70 : decode cX10_tollOf 70 = .ok (.invokevirtual 189, 3) := by decide +kernel
theorem dX10_tollOf_73 : decode cX10_tollOf 73 = .ok (.istore 5, 2) := by decide +kernel
theorem dX10_tollOf_75 : decode cX10_tollOf 75 = .ok (.goto (-56), 3) := by decide +kernel
theorem dX10_tollOf_78 : decode cX10_tollOf 78 = .ok (.aload_n 0, 1) := by decide +kernel
theorem dX10_tollOf_79 : decode cX10_tollOf 79 = .ok (.getfield 20, 3) := by decide +kernel
theorem dX10_tollOf_82 : decode cX10_tollOf 82 = .ok (.aload_n 0, 1) := by decide +kernel
theorem dX10_tollOf_83 : decode cX10_tollOf 83 = .ok (.getfield 36, 3) := by decide +kernel
theorem dX10_tollOf_86 : decode cX10_tollOf 86 = .ok (.iload_n 1, 1) := by decide +kernel
theorem dX10_tollOf_87 : decode cX10_tollOf 87 = .ok (.iaload, 1) := by decide +kernel
theorem dX10_tollOf_88 : decode cX10_tollOf 88 = .ok (.iaload, 1) := by decide +kernel
theorem dX10_tollOf_89 : decode cX10_tollOf 89 = .ok (.iload_n 3, 1) := by decide +kernel
theorem dX10_tollOf_90 : decode cX10_tollOf 90 = .ok (.imul, 1) := by decide +kernel
theorem dX10_tollOf_91 : decode cX10_tollOf 91 = .ok (.ireturn, 1) := by decide +kernel
theorem dX10_isTrip_0 : decode cX10_isTrip 0 = .ok (.aload_n 0, 1) := by decide +kernel
theorem dX10_isTrip_1 : decode cX10_isTrip 1 = .ok (.aload_n 0, 1) := by decide +kernel
theorem dX10_isTrip_2 : decode cX10_isTrip 2 = .ok (.iload_n 1, 1) := by decide +kernel
theorem dX10_isTrip_3 : decode cX10_isTrip 3 = .ok (.invokevirtual 160, 3) := by decide +kernel
theorem dX10_isTrip_6 : decode cX10_isTrip 6 = .ok (.ifCond .eq 20, 3) := by decide +kernel
theorem dX10_isTrip_9 : decode cX10_isTrip 9 = .ok (.iload_n 2, 1) := by decide +kernel
theorem dX10_isTrip_10 : decode cX10_isTrip 10 = .ok (.ifCond .lt 16, 3) := by decide +kernel
theorem dX10_isTrip_13 : decode cX10_isTrip 13 = .ok (.iload_n 2, 1) := by decide +kernel
theorem dX10_isTrip_14 : decode cX10_isTrip 14 = .ok (.aload_n 0, 1) := by decide +kernel
theorem dX10_isTrip_15 : decode cX10_isTrip 15 = .ok (.iload_n 1, 1) := by decide +kernel
theorem dX10_isTrip_16 : decode cX10_isTrip 16 = .ok (.invokevirtual 195, 3) := by decide +kernel
theorem dX10_isTrip_19 : decode cX10_isTrip 19 = .ok (.if_icmp .ge 7, 3) := by decide +kernel
theorem dX10_isTrip_22 : decode cX10_isTrip 22 = .ok (.iconst 0, 1) := by decide +kernel
theorem dX10_isTrip_23 : decode cX10_isTrip 23 = .ok (.goto 4, 3) := by decide +kernel
theorem dX10_isTrip_26 : decode cX10_isTrip 26 = .ok (.iconst 1, 1) := by decide +kernel
theorem dX10_isTrip_27 : decode cX10_isTrip 27 = .ok (.invokevirtual 117, 3) := by decide +kernel
theorem dX10_isTrip_30 : decode cX10_isTrip 30 = .ok (.ireturn, 1) := by decide +kernel
theorem dX10_toll_0 : decode cX10_toll 0 = .ok (.aload_n 0, 1) := by decide +kernel
theorem dX10_toll_1 : decode cX10_toll 1 = .ok (.iload_n 1, 1) := by decide +kernel
theorem dX10_toll_2 : decode cX10_toll 2 = .ok (.iload_n 2, 1) := by decide +kernel
theorem dX10_toll_3 : decode cX10_toll 3 = .ok (.invokevirtual 201, 3) := by decide +kernel
theorem dX10_toll_6 : decode cX10_toll 6 = .ok (.ifCond .eq 12, 3) := by decide +kernel
theorem dX10_toll_9 : decode cX10_toll 9 = .ok (.aload_n 0, 1) := by decide +kernel
theorem dX10_toll_10 : decode cX10_toll 10 = .ok (.iload_n 1, 1) := by decide +kernel
theorem dX10_toll_11 : decode cX10_toll 11 = .ok (.iload_n 2, 1) := by decide +kernel
theorem dX10_toll_12 : decode cX10_toll 12 = .ok (.invokevirtual 204, 3) := by decide +kernel
theorem dX10_toll_15 : decode cX10_toll 15 = .ok (.goto 4, 3) := by decide +kernel
theorem dX10_toll_18 : decode cX10_toll 18 = .ok (.iconst 0, 1) := by decide +kernel
theorem dX10_toll_19 : decode cX10_toll 19 = .ok (.ireturn, 1) := by decide +kernel
theorem dX10_driverOf_0 : decode cX10_driverOf 0 = .ok (.aload_n 0, 1) := by decide +kernel
theorem dX10_driverOf_1 : decode cX10_driverOf 1 = .ok (.iload_n 1, 1) := by decide +kernel
theorem dX10_driverOf_2 : decode cX10_driverOf 2 = .ok (.iload_n 2, 1) := by decide +kernel
theorem dX10_driverOf_3 : decode cX10_driverOf 3 = .ok (.invokevirtual 201, 3) := by decide +kernel
theorem dX10_driverOf_6 : decode cX10_driverOf 6 = .ok (.ifCond .eq 22, 3) := by decide +kernel
theorem dX10_driverOf_9 : decode cX10_driverOf 9 = .ok (.aload_n 0, 1) := by decide +kernel
theorem dX10_driverOf_10 : decode cX10_driverOf 10 = .ok (.iload_n 1, 1) := by decide +kernel
theorem dX10_driverOf_11 : decode cX10_driverOf 11 = .ok (.aload_n 0, 1) := by decide +kernel
theorem dX10_driverOf_12 : decode cX10_driverOf 12 = .ok (.getfield 51, 3) := by decide +kernel
theorem dX10_driverOf_15 : decode cX10_driverOf 15 = .ok (.aload_n 0, 1) := by decide +kernel
theorem dX10_driverOf_16 : decode cX10_driverOf 16 = .ok (.iload_n 1, 1) := by decide +kernel
theorem dX10_driverOf_17 : decode cX10_driverOf 17 = .ok (.iload_n 2, 1) := by decide +kernel
theorem dX10_driverOf_18 : decode cX10_driverOf 18 = .ok (.invokevirtual 198, 3) := by decide +kernel
theorem dX10_driverOf_21 : decode cX10_driverOf 21 = .ok (.iaload, 1) := by decide +kernel
theorem dX10_driverOf_22 : decode cX10_driverOf 22 = .ok (.invokevirtual 163, 3) := by decide +kernel
theorem dX10_driverOf_25 : decode cX10_driverOf 25 = .ok (.goto 4, 3) := by decide +kernel
theorem dX10_driverOf_28 : decode cX10_driverOf 28 = .ok (.iconst 0, 1) := by decide +kernel
theorem dX10_driverOf_29 : decode cX10_driverOf 29 = .ok (.ireturn, 1) := by decide +kernel
theorem dX10_dueFrom_0 : decode cX10_dueFrom 0 = .ok (.iconst 0, 1) := by decide +kernel
theorem dX10_dueFrom_1 : decode cX10_dueFrom 1 = .ok (.istore_n 2, 1) := by decide +kernel
theorem dX10_dueFrom_2 : decode cX10_dueFrom 2 = .ok (.aload_n 0, 1) := by decide +kernel
theorem dX10_dueFrom_3 : decode cX10_dueFrom 3 = .ok (.iconst (-1), 1) := by decide +kernel
theorem dX10_dueFrom_4 : decode cX10_dueFrom 4 = .ok (.invokevirtual 195, 3) := by decide +kernel
theorem dX10_dueFrom_7 : decode cX10_dueFrom 7 = .ok (.pop, 1) := by decide +kernel
theorem dX10_dueFrom_8 : decode cX10_dueFrom 8 = .ok (.iconst 0, 1) := by decide +kernel
theorem dX10_dueFrom_9 : decode cX10_dueFrom 9 = .ok (.istore_n 3, 1) := by decide +kernel
theorem dX10_dueFrom_10 : decode cX10_dueFrom 10 = .ok (.iload_n 3, 1) := by decide +kernel
theorem dX10_dueFrom_11 : decode cX10_dueFrom 11 = .ok (.aload_n 0, 1) := by decide +kernel
theorem dX10_dueFrom_12 : decode cX10_dueFrom 12 = .ok (.getfield 107, 3) := by decide +kernel
theorem dX10_dueFrom_15 : decode cX10_dueFrom 15 = .ok (.if_icmp .ge 67, 3) := by decide +kernel
theorem dX10_dueFrom_18 : decode cX10_dueFrom 18 = .ok (.aload_n 0, 1) := by decide +kernel
theorem dX10_dueFrom_19 : decode cX10_dueFrom 19 = .ok (.iload_n 3, 1) := by decide +kernel
theorem dX10_dueFrom_20 : decode cX10_dueFrom 20 = .ok (.invokevirtual 186, 3) := by decide +kernel
theorem dX10_dueFrom_23 : decode cX10_dueFrom 23 = .ok (.istore 4, 2) := by decide +kernel
theorem dX10_dueFrom_25 : decode cX10_dueFrom 25 = .ok (.iconst 0, 1) := by decide +kernel
theorem dX10_dueFrom_26 : decode cX10_dueFrom 26 = .ok (.istore 5, 2) := by decide +kernel
theorem dX10_dueFrom_28 : decode cX10_dueFrom 28 = .ok (.iload 5, 2) := by decide +kernel
theorem dX10_dueFrom_30 : decode cX10_dueFrom 30 = .ok (.iload 4, 2) := by decide +kernel
theorem dX10_dueFrom_32 : decode cX10_dueFrom 32 = .ok (.if_icmp .ge 44, 3) := by decide +kernel
theorem dX10_dueFrom_35 : decode cX10_dueFrom 35 = .ok (.iload_n 2, 1) := by decide +kernel
theorem dX10_dueFrom_36 : decode cX10_dueFrom 36 = .ok (.aload_n 0, 1) := by decide +kernel
theorem dX10_dueFrom_37 : decode cX10_dueFrom 37 = .ok (.iload_n 3, 1) := by decide +kernel
theorem dX10_dueFrom_38 : decode cX10_dueFrom 38 = .ok (.aload_n 0, 1) := by decide +kernel
theorem dX10_dueFrom_39 : decode cX10_dueFrom 39 = .ok (.getfield 51, 3) := by decide +kernel
theorem dX10_dueFrom_42 : decode cX10_dueFrom 42 = .ok (.aload_n 0, 1) := by decide +kernel
theorem dX10_dueFrom_43 : decode cX10_dueFrom 43 = .ok (.iload_n 3, 1) := by decide +kernel
theorem dX10_dueFrom_44 : decode cX10_dueFrom 44 = .ok (.iload 5, 2) := by decide +kernel
theorem dX10_dueFrom_46 : decode cX10_dueFrom 46 = .ok (.invokevirtual 198, 3) := by decide +kernel
theorem dX10_dueFrom_49 : decode cX10_dueFrom 49 = .ok (.iaload, 1) := by decide +kernel
theorem dX10_dueFrom_50 : decode cX10_dueFrom 50 = .ok (.invokevirtual 163, 3) := by decide +kernel
theorem dX10_dueFrom_53 : decode cX10_dueFrom 53 = .ok (.iload_n 1, 1) := by decide +kernel
theorem dX10_dueFrom_54 : decode cX10_dueFrom 54 = .ok (.if_icmp .ne 13, 3) := by decide +kernel
theorem dX10_dueFrom_57 : decode cX10_dueFrom 57 = .ok (.aload_n 0, 1) := by decide +kernel
theorem dX10_dueFrom_58 : decode cX10_dueFrom 58 = .ok (.iload_n 3, 1) := by decide +kernel
theorem dX10_dueFrom_59 : decode cX10_dueFrom 59 = .ok (.iload 5, 2) := by decide +kernel
theorem dX10_dueFrom_61 : decode cX10_dueFrom 61 = .ok (.invokevirtual 204, 3) := by decide +kernel
theorem dX10_dueFrom_64 : decode cX10_dueFrom 64 = .ok (.goto 4, 3) := by decide +kernel
theorem dX10_dueFrom_67 : decode cX10_dueFrom 67 = .ok (.iconst 0, 1) := by decide +kernel
theorem dX10_dueFrom_68 : decode cX10_dueFrom 68 = .ok (.iadd, 1) := by decide +kernel
theorem dX10_dueFrom_69 : decode cX10_dueFrom 69 = .ok (.istore_n 2, 1) := by decide +kernel
theorem dX10_dueFrom_70 : decode cX10_dueFrom 70 = .ok (.iinc 5 1, 3) := by decide +kernel
theorem dX10_dueFrom_73 : decode cX10_dueFrom 73 = .ok (.goto (-45), 3) := by decide +kernel
theorem dX10_dueFrom_76 : decode cX10_dueFrom 76 = .ok (.iinc 3 1, 3) := by decide +kernel
theorem dX10_dueFrom_79 : decode cX10_dueFrom 79 = .ok (.goto (-69), 3) := by decide +kernel
theorem dX10_dueFrom_82 : decode cX10_dueFrom 82 = .ok (.iload_n 2, 1) := by decide +kernel
theorem dX10_dueFrom_83 : decode cX10_dueFrom 83 = .ok (.ireturn, 1) := by decide +kernel
theorem dX10_due_0 : decode cX10_due 0 = .ok (.aload_n 0, 1) := by decide +kernel
theorem dX10_due_1 : decode cX10_due 1 = .ok (.iload_n 1, 1) := by decide +kernel
theorem dX10_due_2 : decode cX10_due 2 = .ok (.invokestatic 146, 3) := by decide +kernel
theorem dX10_due_5 : decode cX10_due 5 = .ok (.ifCond .eq 7, 3) := by decide +kernel
theorem dX10_due_8 : decode cX10_due 8 = .ok (.iconst 0, 1) := by decide +kernel
theorem dX10_due_9 : decode cX10_due 9 = .ok (.goto 4, 3) := by decide +kernel
theorem dX10_due_12 : decode cX10_due 12 = .ok (.iconst 1, 1) := by decide +kernel
theorem dX10_due_13 : decode cX10_due 13 = .ok (.invokevirtual 117, 3) := by decide +kernel
theorem dX10_due_16 : decode cX10_due 16 = .ok (.ifCond .eq 11, 3) := by decide +kernel
theorem dX10_due_19 : decode cX10_due 19 = .ok (.aload_n 0, 1) := by decide +kernel
theorem dX10_due_20 : decode cX10_due 20 = .ok (.iload_n 1, 1) := by decide +kernel
theorem dX10_due_21 : decode cX10_due 21 = .ok (.invokevirtual 207, 3) := by decide +kernel
theorem dX10_due_24 : decode cX10_due 24 = .ok (.goto 4, 3) := by decide +kernel
theorem dX10_due_27 : decode cX10_due 27 = .ok (.iconst 0, 1) := by decide +kernel
theorem dX10_due_28 : decode cX10_due 28 = .ok (.ireturn, 1) := by decide +kernel
theorem dX10_dueAnew_0 : decode cX10_dueAnew 0 = .ok (.aload_n 0, 1) := by decide +kernel
theorem dX10_dueAnew_1 : decode cX10_dueAnew 1 = .ok (.iload_n 1, 1) := by decide +kernel
theorem dX10_dueAnew_2 : decode cX10_dueAnew 2 = .ok (.invokestatic 146, 3) := by decide +kernel
theorem dX10_dueAnew_5 : decode cX10_dueAnew 5 = .ok (.ifCond .eq 7, 3) := by decide +kernel
theorem dX10_dueAnew_8 : decode cX10_dueAnew 8 = .ok (.iconst 0, 1) := by decide +kernel
theorem dX10_dueAnew_9 : decode cX10_dueAnew 9 = .ok (.goto 4, 3) := by decide +kernel
theorem dX10_dueAnew_12 : decode cX10_dueAnew 12 = .ok (.iconst 1, 1) := by decide +kernel
theorem dX10_dueAnew_13 : decode cX10_dueAnew 13 = .ok (.invokevirtual 117, 3) := by decide +kernel
theorem dX10_dueAnew_16 : decode cX10_dueAnew 16 = .ok (.ifCond .eq 11, 3) := by decide +kernel
theorem dX10_dueAnew_19 : decode cX10_dueAnew 19 = .ok (.aload_n 0, 1) := by decide +kernel
theorem dX10_dueAnew_20 : decode cX10_dueAnew 20 = .ok (.iload_n 1, 1) := by decide +kernel
theorem dX10_dueAnew_21 : decode cX10_dueAnew 21 = .ok (.invokevirtual 207, 3) := by decide +kernel
theorem dX10_dueAnew_24 : decode cX10_dueAnew 24 = .ok (.goto 4, 3) := by decide +kernel
theorem dX10_dueAnew_27 : decode cX10_dueAnew 27 = .ok (.iconst 0, 1) := by decide +kernel
theorem dX10_dueAnew_28 : decode cX10_dueAnew 28 = .ok (.ireturn, 1) := by decide +kernel
theorem dX10_settle_0 : decode cX10_settle 0 = .ok (.aload_n 0, 1) := by decide +kernel
theorem dX10_settle_1 : decode cX10_settle 1 = .ok (.iconst 0, 1) := by decide +kernel
theorem dX10_settle_2 : decode cX10_settle 2 = .ok (.putfield 100, 3) := by decide +kernel
theorem dX10_settle_5 : decode cX10_settle 5 = .ok (.iconst 0, 1) := by decide +kernel
theorem dX10_settle_6 : decode cX10_settle 6 = .ok (.istore_n 1, 1) := by decide +kernel
theorem dX10_settle_7 : decode cX10_settle 7 = .ok (.iconst 0, 1) := by decide +kernel
theorem dX10_settle_8 : decode cX10_settle 8 = .ok (.istore_n 2, 1) := by decide +kernel
theorem dX10_settle_9 : decode cX10_settle 9 = .ok (.iload_n 2, 1) := by decide +kernel
theorem dX10_settle_10 : decode cX10_settle 10 = .ok (.bipush 6, 2) := by decide +kernel
theorem dX10_settle_12 : decode cX10_settle 12 = .ok (.if_icmp .ge 87, 3) := by decide +kernel
theorem dX10_settle_15 : decode cX10_settle 15 = .ok (.aload_n 0, 1) := by decide +kernel
theorem dX10_settle_16 : decode cX10_settle 16 = .ok (.iload_n 2, 1) := by decide +kernel
theorem dX10_settle_17 : decode cX10_settle 17 = .ok (.invokevirtual 207, 3) := by decide +kernel
theorem dX10_settle_20 : decode cX10_settle 20 = .ok (.i2l, 1) := by decide +kernel
theorem dX10_settle_21 : decode cX10_settle 21 = .ok (.aload_n 0, 1) := by decide +kernel
theorem dX10_settle_22 : decode cX10_settle 22 = .ok (.getfield 72, 3) := by decide +kernel
theorem dX10_settle_25 : decode cX10_settle 25 = .ok (.iload_n 2, 1) := by decide +kernel
theorem dX10_settle_26 : decode cX10_settle 26 = .ok (.laload, 1) := by decide +kernel
theorem dX10_settle_27 : decode cX10_settle 27 = .ok (.lsub, 1) := by decide +kernel
theorem dX10_settle_28 : decode cX10_settle 28 = .ok (.aload_n 0, 1) := by decide +kernel
theorem dX10_settle_29 : decode cX10_settle 29 = .ok (.getfield 76, 3) := by decide +kernel
theorem dX10_settle_32 : decode cX10_settle 32 = .ok (.iload_n 2, 1) := by decide +kernel
theorem dX10_settle_33 : decode cX10_settle 33 = .ok (.laload, 1) := by decide +kernel
theorem dX10_settle_34 : decode cX10_settle 34 = .ok (.ladd, 1) := by decide +kernel
theorem dX10_settle_35 : decode cX10_settle 35 = .ok (.lstore_n 3, 1) := by decide +kernel
theorem dX10_settle_36 : decode cX10_settle 36 = .ok (.aload_n 0, 1) := by decide +kernel
theorem dX10_settle_37 : decode cX10_settle 37 = .ok (.getfield 72, 3) := by decide +kernel
theorem dX10_settle_40 : decode cX10_settle 40 = .ok (.iload_n 2, 1) := by decide +kernel
theorem dX10_settle_41 : decode cX10_settle 41 = .ok (.dup2, 1) := by decide +kernel
theorem dX10_settle_42 : decode cX10_settle 42 = .ok (.laload, 1) := by decide +kernel
theorem dX10_settle_43 : decode cX10_settle 43 = .ok (.lload_n 3, 1) := by decide +kernel
theorem dX10_settle_44 : decode cX10_settle 44 = .ok (.lconst 0, 1) := by decide +kernel
theorem dX10_settle_45 : decode cX10_settle 45 = .ok (.lcmp, 1) := by decide +kernel
theorem dX10_settle_46 : decode cX10_settle 46 = .ok (.ifCond .le 7, 3) := by decide +kernel
theorem dX10_settle_49 : decode cX10_settle 49 = .ok (.lload_n 3, 1) := by decide +kernel
theorem dX10_settle_50 : decode cX10_settle 50 = .ok (.goto 4, 3) := by decide +kernel
theorem dX10_settle_53 : decode cX10_settle 53 = .ok (.lconst 0, 1) := by decide +kernel
theorem dX10_settle_54 : decode cX10_settle 54 = .ok (.ladd, 1) := by decide +kernel
theorem dX10_settle_55 : decode cX10_settle 55 = .ok (.lastore, 1) := by decide +kernel
theorem dX10_settle_56 : decode cX10_settle 56 = .ok (.aload_n 0, 1) := by decide +kernel
theorem dX10_settle_57 : decode cX10_settle 57 = .ok (.getfield 76, 3) := by decide +kernel
theorem dX10_settle_60 : decode cX10_settle 60 = .ok (.iload_n 2, 1) := by decide +kernel
theorem dX10_settle_61 : decode cX10_settle 61 = .ok (.dup2, 1) := by decide +kernel
theorem dX10_settle_62 : decode cX10_settle 62 = .ok (.laload, 1) := by decide +kernel
theorem dX10_settle_63 : decode cX10_settle 63 = .ok (.lload_n 3, 1) := by decide +kernel
theorem dX10_settle_64 : decode cX10_settle 64 = .ok (.lconst 0, 1) := by decide +kernel
theorem dX10_settle_65 : decode cX10_settle 65 = .ok (.lcmp, 1) := by decide +kernel
theorem dX10_settle_66 : decode cX10_settle 66 = .ok (.ifCond .ge 8, 3) := by decide +kernel
theorem dX10_settle_69 : decode cX10_settle 69 = .ok (.lload_n 3, 1) := by decide +kernel
theorem dX10_settle_70 : decode cX10_settle 70 = .ok (.lneg, 1) := by decide +kernel
theorem dX10_settle_71 : decode cX10_settle 71 = .ok (.goto 4, 3) := by decide +kernel
theorem dX10_settle_74 : decode cX10_settle 74 = .ok (.lconst 0, 1) := by decide +kernel
theorem dX10_settle_75 : decode cX10_settle 75 = .ok (.ladd, 1) := by decide +kernel
theorem dX10_settle_76 : decode cX10_settle 76 = .ok (.lastore, 1) := by decide +kernel
theorem dX10_settle_77 : decode cX10_settle 77 = .ok (.iload_n 1, 1) := by decide +kernel
theorem dX10_settle_78 : decode cX10_settle 78 = .ok (.lload_n 3, 1) := by decide +kernel
theorem dX10_settle_79 : decode cX10_settle 79 = .ok (.lconst 0, 1) := by decide +kernel
theorem dX10_settle_80 : decode cX10_settle 80 = .ok (.lcmp, 1) := by decide +kernel
theorem dX10_settle_81 : decode cX10_settle 81 = .ok (.ifCond .ge 9, 3) := by decide +kernel
theorem dX10_settle_84 : decode cX10_settle 84 = .ok (.lload_n 3, 1) := by decide +kernel
theorem dX10_settle_85 : decode cX10_settle 85 = .ok (.lneg, 1) := by decide +kernel
theorem dX10_settle_86 : decode cX10_settle 86 = .ok (.l2i, 1) := by decide +kernel
theorem dX10_settle_87 : decode cX10_settle 87 = .ok (.goto 4, 3) := by decide +kernel
theorem dX10_settle_90 : decode cX10_settle 90 = .ok (.iconst 0, 1) := by decide +kernel
theorem dX10_settle_91 : decode cX10_settle 91 = .ok (.iadd, 1) := by decide +kernel
theorem dX10_settle_92 : decode cX10_settle 92 = .ok (.istore_n 1, 1) := by decide +kernel
theorem dX10_settle_93 : decode cX10_settle 93 = .ok (.iinc 2 1, 3) := by decide +kernel
theorem dX10_settle_96 : decode cX10_settle 96 = .ok (.goto (-87), 3) := by decide +kernel
theorem dX10_settle_99 : decode cX10_settle 99 = .ok (.iload_n 1, 1) := by decide +kernel
theorem dX10_settle_100 : decode cX10_settle 100 = .ok (.ireturn, 1) := by decide +kernel
theorem dX10_billed_0 : decode cX10_billed 0 = .ok (.aload_n 0, 1) := by decide +kernel
theorem dX10_billed_1 : decode cX10_billed 1 = .ok (.iload_n 1, 1) := by decide +kernel
theorem dX10_billed_2 : decode cX10_billed 2 = .ok (.invokestatic 146, 3) := by decide +kernel
theorem dX10_billed_5 : decode cX10_billed 5 = .ok (.ifCond .eq 7, 3) := by decide +kernel
theorem dX10_billed_8 : decode cX10_billed 8 = .ok (.iconst 0, 1) := by decide +kernel
theorem dX10_billed_9 : decode cX10_billed 9 = .ok (.goto 4, 3) := by decide +kernel
theorem dX10_billed_12 : decode cX10_billed 12 = .ok (.iconst 1, 1) := by decide +kernel
theorem dX10_billed_13 : decode cX10_billed 13 = .ok (.invokevirtual 117, 3) := by decide +kernel
theorem dX10_billed_16 : decode cX10_billed 16 = .ok (.ifCond .eq 12, 3) := by decide +kernel
theorem dX10_billed_19 : decode cX10_billed 19 = .ok (.aload_n 0, 1) := by decide +kernel
theorem dX10_billed_20 : decode cX10_billed 20 = .ok (.getfield 72, 3) := by decide +kernel
theorem dX10_billed_23 : decode cX10_billed 23 = .ok (.iload_n 1, 1) := by decide +kernel
theorem dX10_billed_24 : decode cX10_billed 24 = .ok (.laload, 1) := by decide +kernel
theorem dX10_billed_25 : decode cX10_billed 25 = .ok (.goto 4, 3) := by decide +kernel
theorem dX10_billed_28 : decode cX10_billed 28 = .ok (.lconst 0, 1) := by decide +kernel
theorem dX10_billed_29 : decode cX10_billed 29 = .ok (.lreturn, 1) := by decide +kernel
theorem dX10_paidBack_0 : decode cX10_paidBack 0 = .ok (.aload_n 0, 1) := by decide +kernel
theorem dX10_paidBack_1 : decode cX10_paidBack 1 = .ok (.iload_n 1, 1) := by decide +kernel
theorem dX10_paidBack_2 : decode cX10_paidBack 2 = .ok (.invokestatic 146, 3) := by decide +kernel
theorem dX10_paidBack_5 : decode cX10_paidBack 5 = .ok (.ifCond .eq 7, 3) := by decide +kernel
theorem dX10_paidBack_8 : decode cX10_paidBack 8 = .ok (.iconst 0, 1) := by decide +kernel
theorem dX10_paidBack_9 : decode cX10_paidBack 9 = .ok (.goto 4, 3) := by decide +kernel
theorem dX10_paidBack_12 : decode cX10_paidBack 12 = .ok (.iconst 1, 1) := by decide +kernel
theorem dX10_paidBack_13 : decode cX10_paidBack 13 = .ok (.invokevirtual 117, 3) := by decide +kernel
theorem dX10_paidBack_16 : decode cX10_paidBack 16 = .ok (.ifCond .eq 12, 3) := by decide +kernel
theorem dX10_paidBack_19 : decode cX10_paidBack 19 = .ok (.aload_n 0, 1) := by decide +kernel
theorem dX10_paidBack_20 : decode cX10_paidBack 20 = .ok (.getfield 76, 3) := by decide +kernel
theorem dX10_paidBack_23 : decode cX10_paidBack 23 = .ok (.iload_n 1, 1) := by decide +kernel
theorem dX10_paidBack_24 : decode cX10_paidBack 24 = .ok (.laload, 1) := by decide +kernel
theorem dX10_paidBack_25 : decode cX10_paidBack 25 = .ok (.goto 4, 3) := by decide +kernel
theorem dX10_paidBack_28 : decode cX10_paidBack 28 = .ok (.lconst 0, 1) := by decide +kernel
theorem dX10_paidBack_29 : decode cX10_paidBack 29 = .ok (.lreturn, 1) := by decide +kernel
theorem dX10_warrant_0 : decode cX10_warrant 0 = .ok (.aload_n 0, 1) := by decide +kernel
theorem dX10_warrant_1 : decode cX10_warrant 1 = .ok (.iload_n 1, 1) := by decide +kernel
theorem dX10_warrant_2 : decode cX10_warrant 2 = .ok (.invokevirtual 160, 3) := by decide +kernel
theorem dX10_warrant_5 : decode cX10_warrant 5 = .ok (.istore 4, 2) := by decide +kernel
theorem dX10_warrant_7 : decode cX10_warrant 7 = .ok (.iload_n 2, 1) := by decide +kernel
theorem dX10_warrant_8 : decode cX10_warrant 8 = .ok (.iconst 0, 1) := by decide +kernel
theorem dX10_warrant_9 : decode cX10_warrant 9 = .ok (.bipush 34, 2) := by decide +kernel
theorem dX10_warrant_11 : decode cX10_warrant 11 = .ok (.invokestatic 103, 3) := by decide +kernel
theorem dX10_warrant_14 : decode cX10_warrant 14 = .ok (.ifCond .eq 17, 3) := by decide +kernel
theorem dX10_warrant_17 : decode cX10_warrant 17 = .ok (.iload_n 3, 1) := by decide +kernel
theorem dX10_warrant_18 : decode cX10_warrant 18 = .ok (.iload_n 2, 1) := by decide +kernel
theorem dX10_warrant_19 : decode cX10_warrant 19 = .ok (.bipush 34, 2) := by decide +kernel
theorem dX10_warrant_21 : decode cX10_warrant 21 = .ok (.invokestatic 103, 3) := by decide +kernel
theorem dX10_warrant_24 : decode cX10_warrant 24 = .ok (.ifCond .eq 7, 3) := by decide +kernel
theorem dX10_warrant_27 : decode cX10_warrant 27 = .ok (.iconst 1, 1) := by decide +kernel
theorem dX10_warrant_28 : decode cX10_warrant 28 = .ok (.goto 4, 3) := by decide +kernel
theorem dX10_warrant_31 : decode cX10_warrant 31 = .ok (.iconst 0, 1) := by decide +kernel
theorem dX10_warrant_32 : decode cX10_warrant 32 = .ok (.istore 5, 2) := by decide +kernel
theorem dX10_warrant_34 : decode cX10_warrant 34 = .ok (.aload_n 0, 1) := by decide +kernel
theorem dX10_warrant_35 : decode cX10_warrant 35 = .ok (.iload 4, 2) := by decide +kernel
theorem dX10_warrant_37 : decode cX10_warrant 37 = .ok (.ifCond .ne 7, 3) := by decide +kernel
theorem dX10_warrant_40 : decode cX10_warrant 40 = .ok (.iconst 1, 1) := by decide +kernel
theorem dX10_warrant_41 : decode cX10_warrant 41 = .ok (.goto 26, 3) := by decide +kernel
theorem dX10_warrant_44 : decode cX10_warrant 44 = .ok (.iload 5, 2) := by decide +kernel
theorem dX10_warrant_46 : decode cX10_warrant 46 = .ok (.ifCond .ne 7, 3) := by decide +kernel
theorem dX10_warrant_49 : decode cX10_warrant 49 = .ok (.iconst 2, 1) := by decide +kernel
theorem dX10_warrant_50 : decode cX10_warrant 50 = .ok (.goto 17, 3) := by decide +kernel
theorem dX10_warrant_53 : decode cX10_warrant 53 = .ok (.aload_n 0, 1) := by decide +kernel
theorem dX10_warrant_54 : decode cX10_warrant 54 = .ok (.getfield 210, 3) := by decide +kernel
theorem dX10_warrant_57 : decode cX10_warrant 57 = .ok (.bipush 8, 2) := by decide +kernel
theorem dX10_warrant_59 : decode cX10_warrant 59 = .ok (.if_icmp .ne 7, 3) := by decide +kernel
theorem dX10_warrant_62 : decode cX10_warrant 62 = .ok (.iconst 3, 1) := by decide +kernel
theorem dX10_warrant_63 : decode cX10_warrant 63 = .ok (.goto 4, 3) := by decide +kernel
theorem dX10_warrant_66 : decode cX10_warrant 66 = .ok (.iconst 0, 1) := by decide +kernel
theorem dX10_warrant_67 : decode cX10_warrant 67 = .ok (.invokevirtual 117, 3) := by decide +kernel
theorem dX10_warrant_70 : decode cX10_warrant 70 = .ok (.ifCond .ne 5, 3) := by decide +kernel
theorem dX10_warrant_73 : decode cX10_warrant 73 = .ok (.iconst 0, 1) := by decide +kernel
theorem dX10_warrant_74 : decode cX10_warrant 74 = .ok (.ireturn, 1) := by decide +kernel
theorem dX10_warrant_75 : decode cX10_warrant 75 = .ok (.aload_n 0, 1) := by decide +kernel
theorem dX10_warrant_76 : decode cX10_warrant 76 = .ok (.getfield 79, 3) := by decide +kernel
theorem dX10_warrant_79 : decode cX10_warrant 79 = .ok (.aload_n 0, 1) := by decide +kernel
theorem dX10_warrant_80 : decode cX10_warrant 80 = .ok (.getfield 210, 3) := by decide +kernel
theorem dX10_warrant_83 : decode cX10_warrant 83 = .ok (.iload_n 1, 1) := by decide +kernel
theorem dX10_warrant_84 : decode cX10_warrant 84 = .ok (.iastore, 1) := by decide +kernel
theorem dX10_warrant_85 : decode cX10_warrant 85 = .ok (.aload_n 0, 1) := by decide +kernel
theorem dX10_warrant_86 : decode cX10_warrant 86 = .ok (.getfield 82, 3) := by decide +kernel
theorem dX10_warrant_89 : decode cX10_warrant 89 = .ok (.aload_n 0, 1) := by decide +kernel
theorem dX10_warrant_90 : decode cX10_warrant 90 = .ok (.getfield 210, 3) := by decide +kernel
theorem dX10_warrant_93 : decode cX10_warrant 93 = .ok (.iload_n 2, 1) := by decide +kernel
theorem dX10_warrant_94 : decode cX10_warrant 94 = .ok (.iastore, 1) := by decide +kernel
theorem dX10_warrant_95 : decode cX10_warrant 95 = .ok (.aload_n 0, 1) := by decide +kernel
theorem dX10_warrant_96 : decode cX10_warrant 96 = .ok (.getfield 85, 3) := by decide +kernel
theorem dX10_warrant_99 : decode cX10_warrant 99 = .ok (.aload_n 0, 1) := by decide +kernel
theorem dX10_warrant_100 : decode cX10_warrant 100 = .ok (.getfield 210, 3) := by decide +kernel
theorem dX10_warrant_103 : decode cX10_warrant 103 = .ok (.iload_n 3, 1) := by decide +kernel
theorem dX10_warrant_104 : decode cX10_warrant 104 = .ok (.iastore, 1) := by decide +kernel
theorem dX10_warrant_105 : decode cX10_warrant 105 = .ok (.aload_n 0, 1) := by decide +kernel
theorem dX10_warrant_106 : decode cX10_warrant 106 = .ok (.dup, 1) := by decide +kernel
theorem dX10_warrant_107 : decode cX10_warrant 107 = .ok (.getfield 210, 3) := by decide +kernel
theorem dX10_warrant_110 : decode cX10_warrant 110 = .ok (.iconst 1, 1) := by decide +kernel
theorem dX10_warrant_111 : decode cX10_warrant 111 = .ok (.iadd, 1) := by decide +kernel
theorem dX10_warrant_112 : decode cX10_warrant 112 = .ok (.putfield 210, 3) := by decide +kernel
theorem dX10_warrant_115 : decode cX10_warrant 115 = .ok (.aload_n 0, 1) := by decide +kernel
theorem dX10_warrant_116 : decode cX10_warrant 116 = .ok (.getfield 210, 3) := by decide +kernel
theorem dX10_warrant_119 : decode cX10_warrant 119 = .ok (.iconst 1, 1) := by decide +kernel
theorem dX10_warrant_120 : decode cX10_warrant 120 = .ok (.isub, 1) := by decide +kernel
theorem dX10_warrant_121 : decode cX10_warrant 121 = .ok (.ireturn, 1) := by decide +kernel
theorem dX10_shows_0 : decode cX10_shows 0 = .ok (.aload_n 0, 1) := by decide +kernel
theorem dX10_shows_1 : decode cX10_shows 1 = .ok (.getfield 79, 3) := by decide +kernel
theorem dX10_shows_4 : decode cX10_shows 4 = .ok (.iload_n 1, 1) := by decide +kernel
theorem dX10_shows_5 : decode cX10_shows 5 = .ok (.iaload, 1) := by decide +kernel
theorem dX10_shows_6 : decode cX10_shows 6 = .ok (.istore_n 3, 1) := by decide +kernel
theorem dX10_shows_7 : decode cX10_shows 7 = .ok (.iload_n 2, 1) := by decide +kernel
theorem dX10_shows_8 : decode cX10_shows 8 = .ok (.istore 4, 2) := by decide +kernel
theorem dX10_shows_10 : decode cX10_shows 10 = .ok (.iconst (-1), 1) := by decide +kernel
theorem dX10_shows_11 : decode cX10_shows 11 = .ok (.istore 5, 2) := by decide +kernel
theorem dX10_shows_13 : decode cX10_shows 13 = .ok (.iconst 0, 1) := by decide +kernel
theorem dX10_shows_14 : decode cX10_shows 14 = .ok (.istore 6, 2) := by decide +kernel
theorem dX10_shows_16 : decode cX10_shows 16 = .ok (.iconst (-1), 1) := by decide +kernel
theorem dX10_shows_17 : decode cX10_shows 17 = .ok (.istore 7, 2) := by decide +kernel
theorem dX10_shows_19 : decode cX10_shows 19 = .ok (.aload_n 0, 1) := by decide +kernel
theorem dX10_shows_20 : decode cX10_shows 20 = .ok (.iload_n 3, 1) := by decide +kernel
theorem dX10_shows_21 : decode cX10_shows 21 = .ok (.invokevirtual 195, 3) := by decide +kernel
theorem dX10_shows_24 : decode cX10_shows 24 = .ok (.pop, 1) := by decide +kernel
theorem dX10_shows_25 : decode cX10_shows 25 = .ok (.aload_n 0, 1) := by decide +kernel
theorem dX10_shows_26 : decode cX10_shows 26 = .ok (.iload_n 3, 1) := by decide +kernel
theorem dX10_shows_27 : decode cX10_shows 27 = .ok (.iconst (-1), 1) := by decide +kernel
theorem dX10_shows_28 : decode cX10_shows 28 = .ok (.invokevirtual 189, 3) := by decide +kernel
theorem dX10_shows_31 : decode cX10_shows 31 = .ok (.istore 8, 2) := by decide +kernel
theorem dX10_shows_33 : decode cX10_shows 33 = .ok (.iload 8, 2) := by decide +kernel
theorem dX10_shows_35 : decode cX10_shows 35 = .ok (.iconst (-1), 1) := by decide +kernel
theorem dX10_shows_36 : decode cX10_shows 36 = .ok (.if_icmp .eq 128, 3) := by decide +kernel
theorem dX10_shows_39 : decode cX10_shows 39 = .ok (.iload_n 2, 1) := by decide +kernel
theorem dX10_shows_40 : decode cX10_shows 40 = .ok (.ifCond .lt 124, 3) := by decide +kernel
theorem dX10_shows_43 : decode cX10_shows 43 = .ok (.iload 5, 2) := by decide +kernel
theorem dX10_shows_45 : decode cX10_shows 45 = .ok (.iconst (-1), 1) := by decide +kernel
theorem dX10_shows_46 : decode cX10_shows 46 = .ok (.if_icmp .ne 118, 3) := by decide +kernel
theorem dX10_shows_49 : decode cX10_shows 49 = .ok (.aload_n 0, 1) := by decide +kernel
theorem dX10_shows_50 : decode cX10_shows 50 = .ok (.getfield 69, 3) := by decide +kernel
theorem dX10_shows_53 : decode cX10_shows 53 = .ok (.iload 8, 2) := by decide +kernel
theorem dX10_shows_55 : decode cX10_shows 55 = .ok (.iaload, 1) := by decide +kernel
theorem dX10_shows_56 : decode cX10_shows 56 = .ok (.iload 7, 2) := by decide +kernel
theorem dX10_shows_58 : decode cX10_shows 58 = .ok (.if_icmp .ne 8, 3) := by decide +kernel
theorem dX10_shows_61 : decode cX10_shows 61 = .ok (.iload 6, 2) := by decide +kernel
theorem dX10_shows_63 : decode cX10_shows 63 = .ok (.goto 29, 3) := by decide +kernel
theorem dX10_shows_66 : decode cX10_shows 66 = .ok (.aload_n 0, 1) := by decide +kernel
theorem dX10_shows_67 : decode cX10_shows 67 = .ok (.getfield 51, 3) := by decide +kernel
theorem dX10_shows_70 : decode cX10_shows 70 = .ok (.iload 8, 2) := by decide +kernel
theorem dX10_shows_72 : decode cX10_shows 72 = .ok (.iaload, 1) := by decide +kernel
theorem dX10_shows_73 : decode cX10_shows 73 = .ok (.sipush 1440, 3) := by decide +kernel
theorem dX10_shows_76 : decode cX10_shows 76 = .ok (.idiv, 1) := by decide +kernel
theorem dX10_shows_77 : decode cX10_shows 77 = .ok (.aload_n 0, 1) := by decide +kernel
theorem dX10_shows_78 : decode cX10_shows 78 = .ok (.getfield 82, 3) := by decide +kernel
theorem dX10_shows_81 : decode cX10_shows 81 = .ok (.iload_n 1, 1) := by decide +kernel
theorem dX10_shows_82 : decode cX10_shows 82 = .ok (.iaload, 1) := by decide +kernel
theorem dX10_shows_83 : decode cX10_shows 83 = .ok (.aload_n 0, 1) := by decide +kernel
theorem dX10_shows_84 : decode cX10_shows 84 = .ok (.getfield 85, 3) := by decide +kernel
theorem dX10_shows_87 : decode cX10_shows 87 = .ok (.iload_n 1, 1) := by decide +kernel
theorem dX10_shows_88 : decode cX10_shows 88 = .ok (.iaload, 1) := by decide +kernel
theorem dX10_shows_89 : decode cX10_shows 89 = .ok (.invokestatic 103, 3) := by decide +kernel
theorem dX10_shows_92 : decode cX10_shows 92 = .ok (.istore 6, 2) := by decide +kernel
theorem dX10_shows_94 : decode cX10_shows 94 = .ok (.aload_n 0, 1) := by decide +kernel
theorem dX10_shows_95 : decode cX10_shows 95 = .ok (.getfield 69, 3) := by decide +kernel
theorem dX10_shows_98 : decode cX10_shows 98 = .ok (.iload 8, 2) := by decide +kernel
theorem dX10_shows_100 : decode cX10_shows 100 = .ok (.iaload, 1) := by decide +kernel
theorem dX10_shows_101 : decode cX10_shows 101 = .ok (.istore 7, 2) := by decide +kernel
theorem dX10_shows_103 : decode cX10_shows 103 = .ok (.iload 6, 2) := by decide +kernel
theorem dX10_shows_105 : decode cX10_shows 105 = .ok (.ifCond .eq 29, 3) := by decide +kernel
theorem dX10_shows_108 : decode cX10_shows 108 = .ok (.iload 4, 2) := by decide +kernel
theorem dX10_shows_110 : decode cX10_shows 110 = .ok (.ifCond .ne 24, 3) := by decide +kernel
theorem dX10_shows_113 : decode cX10_shows 113 = .ok (.ldc 213, 2) := by decide +kernel
theorem dX10_shows_115 : decode cX10_shows 115 = .ok (.aload_n 0, 1) := by decide +kernel
theorem dX10_shows_116 : decode cX10_shows 116 = .ok (.getfield 48, 3) := by decide +kernel
theorem dX10_shows_119 : decode cX10_shows 119 = .ok (.iload 8, 2) := by decide +kernel
theorem dX10_shows_121 : decode cX10_shows 121 = .ok (.iaload, 1) := by decide +kernel
theorem dX10_shows_122 : decode cX10_shows 122 = .ok (.imul, 1) := by decide +kernel
theorem dX10_shows_123 : decode cX10_shows 123 = .ok (.aload_n 0, 1) := by decide +kernel
theorem dX10_shows_124 : decode cX10_shows 124 = .ok (.getfield 51, 3) := by decide +kernel
theorem dX10_shows_127 : decode cX10_shows 127 = .ok (.iload 8, 2) := by decide +kernel
theorem dX10_shows_129 : decode cX10_shows 129 = .ok (.iaload, 1) := by decide +kernel
theorem dX10_shows_130 : decode cX10_shows 130 = .ok (.iadd, 1) := by decide +kernel
theorem dX10_shows_131 : decode cX10_shows 131 = .ok (.goto 4, 3) := by decide +kernel
theorem dX10_shows_134 : decode cX10_shows 134 = .ok (.iconst (-1), 1) := by decide +kernel
theorem dX10_shows_135 : decode cX10_shows 135 = .ok (.istore 5, 2) := by decide +kernel
theorem dX10_shows_137 : decode cX10_shows 137 = .ok (.iload 4, 2) := by decide +kernel
theorem dX10_shows_139 : decode cX10_shows 139 = .ok (.iload 6, 2) := by decide +kernel
theorem dX10_shows_141 : decode cX10_shows 141 = .ok (.ifCond .eq 7, 3) := by decide +kernel
theorem dX10_shows_144 : decode cX10_shows 144 = .ok (.iconst 1, 1) := by decide +kernel
theorem dX10_shows_145 : decode cX10_shows 145 = .ok (.goto 4, 3) := by decide +kernel
theorem dX10_shows_148 : decode cX10_shows 148 = .ok (.iconst 0, 1) := by decide +kernel
theorem dX10_shows_149 : decode cX10_shows 149 = .ok (.isub, 1) := by decide +kernel
theorem dX10_shows_150 : decode cX10_shows 150 = .ok (.istore 4, 2) := by decide +kernel
theorem dX10_shows_152 : decode cX10_shows 152 = .ok (.aload_n 0, 1) := by decide +kernel
theorem dX10_shows_153 : decode cX10_shows 153 = .ok (.iload_n 3, 1) := by decide +kernel
theorem dX10_shows_154 : decode cX10_shows 154 = .ok (.iload 8, 2) := by decide +kernel
theorem dX10_shows_156 : decode cX10_shows 156 = .ok (.invokevirtual 189, 3) := by decide +kernel
theorem dX10_shows_159 : decode cX10_shows 159 = .ok (.istore 8, 2) := by decide +kernel
theorem dX10_shows_161 : decode cX10_shows 161 = .ok (.goto (-128), 3) := by decide +kernel
theorem dX10_shows_164 : decode cX10_shows 164 = .ok (.iload 5, 2) := by decide +kernel
theorem dX10_shows_166 : decode cX10_shows 166 = .ok (.ireturn, 1) := by decide +kernel
theorem dX10_isWarrant_0 : decode cX10_isWarrant 0 = .ok (.iload_n 1, 1) := by decide +kernel
theorem dX10_isWarrant_1 : decode cX10_isWarrant 1 = .ok (.iconst 0, 1) := by decide +kernel
theorem dX10_isWarrant_2 : decode cX10_isWarrant 2 = .ok (.aload_n 0, 1) := by decide +kernel
theorem dX10_isWarrant_3 : decode cX10_isWarrant 3 = .ok (.getfield 210, 3) := by decide +kernel
theorem dX10_isWarrant_6 : decode cX10_isWarrant 6 = .ok (.iconst 1, 1) := by decide +kernel
theorem dX10_isWarrant_7 : decode cX10_isWarrant 7 = .ok (.isub, 1) := by decide +kernel
theorem dX10_isWarrant_8 : decode cX10_isWarrant 8 = .ok (.invokestatic 103, 3) := by decide +kernel
theorem dX10_isWarrant_11 : decode cX10_isWarrant 11 = .ok (.ireturn, 1) := by decide +kernel
theorem dX10_ask_0 : decode cX10_ask 0 = .ok (.aload_n 0, 1) := by decide +kernel
theorem dX10_ask_1 : decode cX10_ask 1 = .ok (.iload_n 1, 1) := by decide +kernel
theorem dX10_ask_2 : decode cX10_ask 2 = .ok (.invokevirtual 214, 3) := by decide +kernel
theorem dX10_ask_5 : decode cX10_ask 5 = .ok (.istore_n 3, 1) := by decide +kernel
theorem dX10_ask_6 : decode cX10_ask 6 = .ok (.aload_n 0, 1) := by decide +kernel
theorem dX10_ask_7 : decode cX10_ask 7 = .ok (.getfield 217, 3) := by decide +kernel
theorem dX10_ask_10 : decode cX10_ask 10 = .ok (.bipush 40, 2) := by decide +kernel
theorem dX10_ask_12 : decode cX10_ask 12 = .ok (.if_icmp .ne 7, 3) := by decide +kernel
theorem dX10_ask_15 : decode cX10_ask 15 = .ok (.iconst 1, 1) := by decide +kernel
theorem dX10_ask_16 : decode cX10_ask 16 = .ok (.goto 4, 3) := by decide +kernel
theorem dX10_ask_19 : decode cX10_ask 19 = .ok (.iconst 0, 1) := by decide +kernel
theorem dX10_ask_20 : decode cX10_ask 20 = .ok (.istore 4, 2) := by decide +kernel
theorem dX10_ask_22 : decode cX10_ask 22 = .ok (.iload_n 3, 1) := by decide +kernel
theorem dX10_ask_23 : decode cX10_ask 23 = .ok (.ifCond .eq 17, 3) := by decide +kernel
theorem dX10_ask_26 : decode cX10_ask 26 = .ok (.iload 4, 2) := by decide +kernel
theorem dX10_ask_28 : decode cX10_ask 28 = .ok (.ifCond .ne 12, 3) := by decide +kernel
theorem dX10_ask_31 : decode cX10_ask 31 = .ok (.aload_n 0, 1) := by decide +kernel
theorem dX10_ask_32 : decode cX10_ask 32 = .ok (.iload_n 1, 1) := by decide +kernel
theorem dX10_ask_33 : decode cX10_ask 33 = .ok (.iload_n 2, 1) := by decide +kernel
theorem dX10_ask_34 : decode cX10_ask 34 = .ok (.invokevirtual 220, 3) := by decide +kernel
theorem dX10_ask_37 : decode cX10_ask 37 = .ok (.goto 4, 3) := by decide +kernel
theorem dX10_ask_40 : decode cX10_ask 40 = .ok (.iconst (-1), 1) := by decide +kernel
theorem dX10_ask_41 : decode cX10_ask 41 = .ok (.istore 5, 2) := by decide +kernel
theorem dX10_ask_43 : decode cX10_ask 43 = .ok (.aload_n 0, 1) := by decide +kernel
theorem dX10_ask_44 : decode cX10_ask 44 = .ok (.iload_n 3, 1) := by decide +kernel
theorem dX10_ask_45 : decode cX10_ask 45 = .ok (.ifCond .ne 7, 3) := by decide +kernel
theorem dX10_ask_48 : decode cX10_ask 48 = .ok (.iconst 1, 1) := by decide +kernel
theorem dX10_ask_49 : decode cX10_ask 49 = .ok (.goto 23, 3) := by decide +kernel
theorem dX10_ask_52 : decode cX10_ask 52 = .ok (.iload 4, 2) := by decide +kernel
theorem dX10_ask_54 : decode cX10_ask 54 = .ok (.ifCond .eq 7, 3) := by decide +kernel
theorem dX10_ask_57 : decode cX10_ask 57 = .ok (.iconst 2, 1) := by decide +kernel
theorem dX10_ask_58 : decode cX10_ask 58 = .ok (.goto 14, 3) := by decide +kernel
theorem dX10_ask_61 : decode cX10_ask 61 = .ok (.iload 5, 2) := by decide +kernel
theorem dX10_ask_63 : decode cX10_ask 63 = .ok (.iconst (-1), 1) := by decide +kernel
theorem dX10_ask_64 : decode cX10_ask 64 = .ok (.if_icmp .ne 7, 3) := by decide +kernel
theorem dX10_ask_67 : decode cX10_ask 67 = .ok (.iconst 3, 1) := by decide +kernel
theorem dX10_ask_68 : decode cX10_ask 68 = .ok (.goto 4, 3) := by decide +kernel
theorem dX10_ask_71 : decode cX10_ask 71 = .ok (.iconst 0, 1) := by decide +kernel
theorem dX10_ask_72 : decode cX10_ask 72 = .ok (.invokevirtual 117, 3) := by decide +kernel
theorem dX10_ask_75 : decode cX10_ask 75 = .ok (.ifCond .ne 5, 3) := by decide +kernel
theorem dX10_ask_78 : decode cX10_ask 78 = .ok (.iconst 0, 1) := by decide +kernel
theorem dX10_ask_79 : decode cX10_ask 79 = .ok (.ireturn, 1) := by decide +kernel
theorem dX10_ask_80 : decode cX10_ask 80 = .ok (.aload_n 0, 1) := by decide +kernel
theorem dX10_ask_81 : decode cX10_ask 81 = .ok (.getfield 88, 3) := by decide +kernel
theorem dX10_ask_84 : decode cX10_ask 84 = .ok (.aload_n 0, 1) := by decide +kernel
theorem dX10_ask_85 : decode cX10_ask 85 = .ok (.getfield 217, 3) := by decide +kernel
theorem dX10_ask_88 : decode cX10_ask 88 = .ok (.iload_n 1, 1) := by decide +kernel
theorem dX10_ask_89 : decode cX10_ask 89 = .ok (.iastore, 1) := by decide +kernel
theorem dX10_ask_90 : decode cX10_ask 90 = .ok (.aload_n 0, 1) := by decide +kernel
theorem dX10_ask_91 : decode cX10_ask 91 = .ok (.getfield 91, 3) := by decide +kernel
theorem dX10_ask_94 : decode cX10_ask 94 = .ok (.aload_n 0, 1) := by decide +kernel
theorem dX10_ask_95 : decode cX10_ask 95 = .ok (.getfield 217, 3) := by decide +kernel
theorem dX10_ask_98 : decode cX10_ask 98 = .ok (.iload_n 2, 1) := by decide +kernel
theorem dX10_ask_99 : decode cX10_ask 99 = .ok (.iastore, 1) := by decide +kernel
theorem dX10_ask_100 : decode cX10_ask 100 = .ok (.aload_n 0, 1) := by decide +kernel
theorem dX10_ask_101 : decode cX10_ask 101 = .ok (.getfield 94, 3) := by decide +kernel
theorem dX10_ask_104 : decode cX10_ask 104 = .ok (.aload_n 0, 1) := by decide +kernel
theorem dX10_ask_105 : decode cX10_ask 105 = .ok (.getfield 217, 3) := by decide +kernel
theorem dX10_ask_108 : decode cX10_ask 108 = .ok (.iload 5, 2) := by decide +kernel
theorem dX10_ask_110 : decode cX10_ask 110 = .ok (.iastore, 1) := by decide +kernel
theorem dX10_ask_111 : decode cX10_ask 111 = .ok (.aload_n 0, 1) := by decide +kernel
theorem dX10_ask_112 : decode cX10_ask 112 = .ok (.dup, 1) := by decide +kernel
theorem dX10_ask_113 : decode cX10_ask 113 = .ok (.getfield 217, 3) := by decide +kernel
theorem dX10_ask_116 : decode cX10_ask 116 = .ok (.iconst 1, 1) := by decide +kernel
theorem dX10_ask_117 : decode cX10_ask 117 = .ok (.iadd, 1) := by decide +kernel
theorem dX10_ask_118 : decode cX10_ask 118 = .ok (.putfield 217, 3) := by decide +kernel
theorem dX10_ask_121 : decode cX10_ask 121 = .ok (.iload 5, 2) := by decide +kernel
theorem dX10_ask_123 : decode cX10_ask 123 = .ok (.ireturn, 1) := by decide +kernel
theorem dX10_stale_0 : decode cX10_stale 0 = .ok (.aload_n 0, 1) := by decide +kernel
theorem dX10_stale_1 : decode cX10_stale 1 = .ok (.aload_n 0, 1) := by decide +kernel
theorem dX10_stale_2 : decode cX10_stale 2 = .ok (.iload_n 1, 1) := by decide +kernel
theorem dX10_stale_3 : decode cX10_stale 3 = .ok (.invokevirtual 214, 3) := by decide +kernel
theorem dX10_stale_6 : decode cX10_stale 6 = .ok (.ifCond .eq 7, 3) := by decide +kernel
theorem dX10_stale_9 : decode cX10_stale 9 = .ok (.iconst 0, 1) := by decide +kernel
theorem dX10_stale_10 : decode cX10_stale 10 = .ok (.goto 4, 3) := by decide +kernel
theorem dX10_stale_13 : decode cX10_stale 13 = .ok (.iconst 1, 1) := by decide +kernel
theorem dX10_stale_14 : decode cX10_stale 14 = .ok (.invokevirtual 117, 3) := by decide +kernel
theorem dX10_stale_17 : decode cX10_stale 17 = .ok (.ifCond .ne 5, 3) := by decide +kernel
theorem dX10_stale_20 : decode cX10_stale 20 = .ok (.iconst 0, 1) := by decide +kernel
theorem dX10_stale_21 : decode cX10_stale 21 = .ok (.ireturn, 1) := by decide +kernel
theorem dX10_stale_22 : decode cX10_stale 22 = .ok (.iconst 0, 1) := by decide +kernel
theorem dX10_stale_23 : decode cX10_stale 23 = .ok (.istore_n 2, 1) := by decide +kernel
theorem dX10_stale_24 : decode cX10_stale 24 = .ok (.iconst 0, 1) := by decide +kernel
theorem dX10_stale_25 : decode cX10_stale 25 = .ok (.istore_n 3, 1) := by decide +kernel
theorem dX10_stale_26 : decode cX10_stale 26 = .ok (.iload_n 3, 1) := by decide +kernel
theorem dX10_stale_27 : decode cX10_stale 27 = .ok (.aload_n 0, 1) := by decide +kernel
theorem dX10_stale_28 : decode cX10_stale 28 = .ok (.getfield 217, 3) := by decide +kernel
theorem dX10_stale_31 : decode cX10_stale 31 = .ok (.if_icmp .ge 47, 3) := by decide +kernel
theorem dX10_stale_34 : decode cX10_stale 34 = .ok (.iload_n 2, 1) := by decide +kernel
theorem dX10_stale_35 : decode cX10_stale 35 = .ok (.aload_n 0, 1) := by decide +kernel
theorem dX10_stale_36 : decode cX10_stale 36 = .ok (.getfield 88, 3) := by decide +kernel
theorem dX10_stale_39 : decode cX10_stale 39 = .ok (.iload_n 3, 1) := by decide +kernel
theorem dX10_stale_40 : decode cX10_stale 40 = .ok (.iaload, 1) := by decide +kernel
theorem dX10_stale_41 : decode cX10_stale 41 = .ok (.iload_n 1, 1) := by decide +kernel
theorem dX10_stale_42 : decode cX10_stale 42 = .ok (.if_icmp .ne 27, 3) := by decide +kernel
theorem dX10_stale_45 : decode cX10_stale 45 = .ok (.aload_n 0, 1) := by decide +kernel
theorem dX10_stale_46 : decode cX10_stale 46 = .ok (.iload_n 1, 1) := by decide +kernel
theorem dX10_stale_47 : decode cX10_stale 47 = .ok (.aload_n 0, 1) := by decide +kernel
theorem dX10_stale_48 : decode cX10_stale 48 = .ok (.getfield 91, 3) := by decide +kernel
theorem dX10_stale_51 : decode cX10_stale 51 = .ok (.iload_n 3, 1) := by decide +kernel
theorem dX10_stale_52 : decode cX10_stale 52 = .ok (.iaload, 1) := by decide +kernel
theorem dX10_stale_53 : decode cX10_stale 53 = .ok (.invokevirtual 220, 3) := by decide +kernel
theorem dX10_stale_56 : decode cX10_stale 56 = .ok (.aload_n 0, 1) := by decide +kernel
theorem dX10_stale_57 : decode cX10_stale 57 = .ok (.getfield 94, 3) := by decide +kernel
theorem dX10_stale_60 : decode cX10_stale 60 = .ok (.iload_n 3, 1) := by decide +kernel
theorem dX10_stale_61 : decode cX10_stale 61 = .ok (.iaload, 1) := by decide +kernel
theorem dX10_stale_62 : decode cX10_stale 62 = .ok (.if_icmp .eq 7, 3) := by decide +kernel
theorem dX10_stale_65 : decode cX10_stale 65 = .ok (.iconst 1, 1) := by decide +kernel
theorem dX10_stale_66 : decode cX10_stale 66 = .ok (.goto 4, 3) := by decide +kernel
theorem dX10_stale_69 : decode cX10_stale 69 = .ok (.iconst 0, 1) := by decide +kernel
theorem dX10_stale_70 : decode cX10_stale 70 = .ok (.iadd, 1) := by decide +kernel
theorem dX10_stale_71 : decode cX10_stale 71 = .ok (.istore_n 2, 1) := by decide +kernel
theorem dX10_stale_72 : decode cX10_stale 72 = .ok (.iinc 3 1, 3) := by decide +kernel
theorem dX10_stale_75 : decode cX10_stale 75 = .ok (.goto (-49), 3) := by decide +kernel
theorem dX10_stale_78 : decode cX10_stale 78 = .ok (.iload_n 2, 1) := by decide +kernel
theorem dX10_stale_79 : decode cX10_stale 79 = .ok (.ireturn, 1) := by decide +kernel
theorem dL_pass_0 : decode cL_pass 0 = .ok (.aload_n 2, 1) := by decide +kernel
theorem dL_pass_1 : decode cL_pass 1 = .ok (.iconst 0, 1) := by decide +kernel
theorem dL_pass_2 : decode cL_pass 2 = .ok (.aload_n 0, 1) := by decide +kernel
theorem dL_pass_3 : decode cL_pass 3 = .ok (.iload_n 1, 1) := by decide +kernel
theorem dL_pass_4 : decode cL_pass 4 = .ok (.invokevirtual 7, 3) := by decide +kernel
theorem dL_pass_7 : decode cL_pass 7 = .ok (.i2l, 1) := by decide +kernel
theorem dL_pass_8 : decode cL_pass 8 = .ok (.lastore, 1) := by decide +kernel
theorem dL_pass_9 : decode cL_pass 9 = .ok (.goto 9, 3) := by decide +kernel
theorem dL_pass_12 : decode cL_pass 12 = .ok (.astore_n 3, 1) := by decide +kernel
theorem dL_pass_13 : decode cL_pass 13 = .ok (.iconst 1, 1) := by decide +kernel
theorem dL_pass_14 : decode cL_pass 14 = .ok (.ireturn, 1) := by decide +kernel
theorem dL_pass_15 : decode cL_pass 15 = .ok (.astore_n 3, 1) := by decide +kernel
theorem dL_pass_16 : decode cL_pass 16 = .ok (.iconst 2, 1) := by decide +kernel
theorem dL_pass_17 : decode cL_pass 17 = .ok (.ireturn, 1) := by decide +kernel
theorem dL_pass_18 : decode cL_pass 18 = .ok (.iconst 0, 1) := by decide +kernel
theorem dL_pass_19 : decode cL_pass 19 = .ok (.ireturn, 1) := by decide +kernel
theorem dL_road_0 : decode cL_road 0 = .ok (.aload 4, 2) := by decide +kernel
theorem dL_road_2 : decode cL_road 2 = .ok (.iconst 0, 1) := by decide +kernel
theorem dL_road_3 : decode cL_road 3 = .ok (.aload_n 0, 1) := by decide +kernel
theorem dL_road_4 : decode cL_road 4 = .ok (.iload_n 1, 1) := by decide +kernel
theorem dL_road_5 : decode cL_road 5 = .ok (.iload_n 2, 1) := by decide +kernel
theorem dL_road_6 : decode cL_road 6 = .ok (.iload_n 3, 1) := by decide +kernel
theorem dL_road_7 : decode cL_road 7 = .ok (.invokevirtual 17, 3) := by decide +kernel
theorem dL_road_10 : decode cL_road 10 = .ok (.i2l, 1) := by decide +kernel
theorem dL_road_11 : decode cL_road 11 = .ok (.lastore, 1) := by decide +kernel
theorem dL_road_12 : decode cL_road 12 = .ok (.goto 11, 3) := by decide +kernel
theorem dL_road_15 : decode cL_road 15 = .ok (.astore 5, 2) := by decide +kernel
theorem dL_road_17 : decode cL_road 17 = .ok (.iconst 1, 1) := by decide +kernel
theorem dL_road_18 : decode cL_road 18 = .ok (.ireturn, 1) := by decide +kernel
theorem dL_road_19 : decode cL_road 19 = .ok (.astore 5, 2) := by decide +kernel
theorem dL_road_21 : decode cL_road 21 = .ok (.iconst 2, 1) := by decide +kernel
theorem dL_road_22 : decode cL_road 22 = .ok (.ireturn, 1) := by decide +kernel
theorem dL_road_23 : decode cL_road 23 = .ok (.iconst 0, 1) := by decide +kernel
theorem dL_road_24 : decode cL_road 24 = .ok (.ireturn, 1) := by decide +kernel
theorem dL_distance_0 : decode cL_distance 0 = .ok (.aload_n 3, 1) := by decide +kernel
theorem dL_distance_1 : decode cL_distance 1 = .ok (.iconst 0, 1) := by decide +kernel
theorem dL_distance_2 : decode cL_distance 2 = .ok (.aload_n 0, 1) := by decide +kernel
theorem dL_distance_3 : decode cL_distance 3 = .ok (.iload_n 1, 1) := by decide +kernel
theorem dL_distance_4 : decode cL_distance 4 = .ok (.iload_n 2, 1) := by decide +kernel
theorem dL_distance_5 : decode cL_distance 5 = .ok (.invokevirtual 23, 3) := by decide +kernel
theorem dL_distance_8 : decode cL_distance 8 = .ok (.i2l, 1) := by decide +kernel
theorem dL_distance_9 : decode cL_distance 9 = .ok (.lastore, 1) := by decide +kernel
theorem dL_distance_10 : decode cL_distance 10 = .ok (.goto 7, 3) := by decide +kernel
theorem dL_distance_13 : decode cL_distance 13 = .ok (.astore 4, 2) := by decide +kernel
theorem dL_distance_15 : decode cL_distance 15 = .ok (.iconst 1, 1) := by decide +kernel
theorem dL_distance_16 : decode cL_distance 16 = .ok (.ireturn, 1) := by decide +kernel
theorem dL_distance_17 : decode cL_distance 17 = .ok (.iconst 0, 1) := by decide +kernel
theorem dL_distance_18 : decode cL_distance 18 = .ok (.ireturn, 1) := by decide +kernel
theorem dL_setPause_0 : decode cL_setPause 0 = .ok (.aload_n 2, 1) := by decide +kernel
theorem dL_setPause_1 : decode cL_setPause 1 = .ok (.iconst 0, 1) := by decide +kernel
theorem dL_setPause_2 : decode cL_setPause 2 = .ok (.aload_n 0, 1) := by decide +kernel
theorem dL_setPause_3 : decode cL_setPause 3 = .ok (.iload_n 1, 1) := by decide +kernel
theorem dL_setPause_4 : decode cL_setPause 4 = .ok (.invokevirtual 27, 3) := by decide +kernel
theorem dL_setPause_7 : decode cL_setPause 7 = .ok (.i2l, 1) := by decide +kernel
theorem dL_setPause_8 : decode cL_setPause 8 = .ok (.lastore, 1) := by decide +kernel
theorem dL_setPause_9 : decode cL_setPause 9 = .ok (.goto 6, 3) := by decide +kernel
theorem dL_setPause_12 : decode cL_setPause 12 = .ok (.astore_n 3, 1) := by decide +kernel
theorem dL_setPause_13 : decode cL_setPause 13 = .ok (.iconst 1, 1) := by decide +kernel
theorem dL_setPause_14 : decode cL_setPause 14 = .ok (.ireturn, 1) := by decide +kernel
theorem dL_setPause_15 : decode cL_setPause 15 = .ok (.iconst 0, 1) := by decide +kernel
theorem dL_setPause_16 : decode cL_setPause 16 = .ok (.ireturn, 1) := by decide +kernel
theorem dL_setRate_0 : decode cL_setRate 0 = .ok (.aload_n 3, 1) := by decide +kernel
theorem dL_setRate_1 : decode cL_setRate 1 = .ok (.iconst 0, 1) := by decide +kernel
theorem dL_setRate_2 : decode cL_setRate 2 = .ok (.aload_n 0, 1) := by decide +kernel
theorem dL_setRate_3 : decode cL_setRate 3 = .ok (.iload_n 1, 1) := by decide +kernel
theorem dL_setRate_4 : decode cL_setRate 4 = .ok (.iload_n 2, 1) := by decide +kernel
theorem dL_setRate_5 : decode cL_setRate 5 = .ok (.invokevirtual 30, 3) := by decide +kernel
theorem dL_setRate_8 : decode cL_setRate 8 = .ok (.i2l, 1) := by decide +kernel
theorem dL_setRate_9 : decode cL_setRate 9 = .ok (.lastore, 1) := by decide +kernel
theorem dL_setRate_10 : decode cL_setRate 10 = .ok (.goto 7, 3) := by decide +kernel
theorem dL_setRate_13 : decode cL_setRate 13 = .ok (.astore 4, 2) := by decide +kernel
theorem dL_setRate_15 : decode cL_setRate 15 = .ok (.iconst 1, 1) := by decide +kernel
theorem dL_setRate_16 : decode cL_setRate 16 = .ok (.ireturn, 1) := by decide +kernel
theorem dL_setRate_17 : decode cL_setRate 17 = .ok (.iconst 0, 1) := by decide +kernel
theorem dL_setRate_18 : decode cL_setRate 18 = .ok (.ireturn, 1) := by decide +kernel
theorem dL_spell_0 : decode cL_spell 0 = .ok (.aload_n 2, 1) := by decide +kernel
theorem dL_spell_1 : decode cL_spell 1 = .ok (.iconst 0, 1) := by decide +kernel
theorem dL_spell_2 : decode cL_spell 2 = .ok (.aload_n 0, 1) := by decide +kernel
theorem dL_spell_3 : decode cL_spell 3 = .ok (.iload_n 1, 1) := by decide +kernel
theorem dL_spell_4 : decode cL_spell 4 = .ok (.invokevirtual 33, 3) := by decide +kernel
theorem dL_spell_7 : decode cL_spell 7 = .ok (.i2l, 1) := by decide +kernel
theorem dL_spell_8 : decode cL_spell 8 = .ok (.lastore, 1) := by decide +kernel
theorem dL_spell_9 : decode cL_spell 9 = .ok (.goto 9, 3) := by decide +kernel
theorem dL_spell_12 : decode cL_spell 12 = .ok (.astore_n 3, 1) := by decide +kernel
theorem dL_spell_13 : decode cL_spell 13 = .ok (.iconst 1, 1) := by decide +kernel
theorem dL_spell_14 : decode cL_spell 14 = .ok (.ireturn, 1) := by decide +kernel
theorem dL_spell_15 : decode cL_spell 15 = .ok (.astore_n 3, 1) := by decide +kernel
theorem dL_spell_16 : decode cL_spell 16 = .ok (.iconst 2, 1) := by decide +kernel
theorem dL_spell_17 : decode cL_spell 17 = .ok (.ireturn, 1) := by decide +kernel
theorem dL_spell_18 : decode cL_spell 18 = .ok (.iconst 0, 1) := by decide +kernel
theorem dL_spell_19 : decode cL_spell 19 = .ok (.ireturn, 1) := by decide +kernel
theorem dL_insert_0 : decode cL_insert 0 = .ok (.aload_n 3, 1) := by decide +kernel
theorem dL_insert_1 : decode cL_insert 1 = .ok (.iconst 0, 1) := by decide +kernel
theorem dL_insert_2 : decode cL_insert 2 = .ok (.aload_n 0, 1) := by decide +kernel
theorem dL_insert_3 : decode cL_insert 3 = .ok (.iload_n 1, 1) := by decide +kernel
theorem dL_insert_4 : decode cL_insert 4 = .ok (.iload_n 2, 1) := by decide +kernel
theorem dL_insert_5 : decode cL_insert 5 = .ok (.invokevirtual 36, 3) := by decide +kernel
theorem dL_insert_8 : decode cL_insert 8 = .ok (.i2l, 1) := by decide +kernel
theorem dL_insert_9 : decode cL_insert 9 = .ok (.lastore, 1) := by decide +kernel
theorem dL_insert_10 : decode cL_insert 10 = .ok (.goto 15, 3) := by decide +kernel
theorem dL_insert_13 : decode cL_insert 13 = .ok (.astore 4, 2) := by decide +kernel
theorem dL_insert_15 : decode cL_insert 15 = .ok (.iconst 1, 1) := by decide +kernel
theorem dL_insert_16 : decode cL_insert 16 = .ok (.ireturn, 1) := by decide +kernel
theorem dL_insert_17 : decode cL_insert 17 = .ok (.astore 4, 2) := by decide +kernel
theorem dL_insert_19 : decode cL_insert 19 = .ok (.iconst 2, 1) := by decide +kernel
theorem dL_insert_20 : decode cL_insert 20 = .ok (.ireturn, 1) := by decide +kernel
theorem dL_insert_21 : decode cL_insert 21 = .ok (.astore 4, 2) := by decide +kernel
theorem dL_insert_23 : decode cL_insert 23 = .ok (.iconst 3, 1) := by decide +kernel
theorem dL_insert_24 : decode cL_insert 24 = .ok (.ireturn, 1) := by decide +kernel
theorem dL_insert_25 : decode cL_insert 25 = .ok (.iconst 0, 1) := by decide +kernel
theorem dL_insert_26 : decode cL_insert 26 = .ok (.ireturn, 1) := by decide +kernel
theorem dL_charAt_0 : decode cL_charAt 0 = .ok (.aload_n 2, 1) := by decide +kernel
theorem dL_charAt_1 : decode cL_charAt 1 = .ok (.iconst 0, 1) := by decide +kernel
theorem dL_charAt_2 : decode cL_charAt 2 = .ok (.aload_n 0, 1) := by decide +kernel
theorem dL_charAt_3 : decode cL_charAt 3 = .ok (.iload_n 1, 1) := by decide +kernel
theorem dL_charAt_4 : decode cL_charAt 4 = .ok (.invokevirtual 39, 3) := by decide +kernel
theorem dL_charAt_7 : decode cL_charAt 7 = .ok (.i2l, 1) := by decide +kernel
theorem dL_charAt_8 : decode cL_charAt 8 = .ok (.lastore, 1) := by decide +kernel
theorem dL_charAt_9 : decode cL_charAt 9 = .ok (.goto 6, 3) := by decide +kernel
theorem dL_charAt_12 : decode cL_charAt 12 = .ok (.astore_n 3, 1) := by decide +kernel
theorem dL_charAt_13 : decode cL_charAt 13 = .ok (.iconst 1, 1) := by decide +kernel
theorem dL_charAt_14 : decode cL_charAt 14 = .ok (.ireturn, 1) := by decide +kernel
theorem dL_charAt_15 : decode cL_charAt 15 = .ok (.iconst 0, 1) := by decide +kernel
theorem dL_charAt_16 : decode cL_charAt 16 = .ok (.ireturn, 1) := by decide +kernel
theorem dL_alike_0 : decode cL_alike 0 = .ok (.aload_n 3, 1) := by decide +kernel
theorem dL_alike_1 : decode cL_alike 1 = .ok (.iconst 0, 1) := by decide +kernel
theorem dL_alike_2 : decode cL_alike 2 = .ok (.aload_n 0, 1) := by decide +kernel
theorem dL_alike_3 : decode cL_alike 3 = .ok (.iload_n 1, 1) := by decide +kernel
theorem dL_alike_4 : decode cL_alike 4 = .ok (.iload_n 2, 1) := by decide +kernel
theorem dL_alike_5 : decode cL_alike 5 = .ok (.invokevirtual 45, 3) := by decide +kernel
theorem dL_alike_8 : decode cL_alike 8 = .ok (.ifCond .eq 7, 3) := by decide +kernel
theorem dL_alike_11 : decode cL_alike 11 = .ok (.lconst 1, 1) := by decide +kernel
theorem dL_alike_12 : decode cL_alike 12 = .ok (.goto 4, 3) := by decide +kernel
theorem dL_alike_15 : decode cL_alike 15 = .ok (.lconst 0, 1) := by decide +kernel
theorem dL_alike_16 : decode cL_alike 16 = .ok (.lastore, 1) := by decide +kernel
theorem dL_alike_17 : decode cL_alike 17 = .ok (.goto 11, 3) := by decide +kernel
theorem dL_alike_20 : decode cL_alike 20 = .ok (.astore 4, 2) := by decide +kernel
theorem dL_alike_22 : decode cL_alike 22 = .ok (.iconst 1, 1) := by decide +kernel
theorem dL_alike_23 : decode cL_alike 23 = .ok (.ireturn, 1) := by decide +kernel
theorem dL_alike_24 : decode cL_alike 24 = .ok (.astore 4, 2) := by decide +kernel
theorem dL_alike_26 : decode cL_alike 26 = .ok (.iconst 2, 1) := by decide +kernel
theorem dL_alike_27 : decode cL_alike 27 = .ok (.ireturn, 1) := by decide +kernel
theorem dL_alike_28 : decode cL_alike 28 = .ok (.iconst 0, 1) := by decide +kernel
theorem dL_alike_29 : decode cL_alike 29 = .ok (.ireturn, 1) := by decide +kernel
theorem dL_register_0 : decode cL_register 0 = .ok (.aload_n 3, 1) := by decide +kernel
theorem dL_register_1 : decode cL_register 1 = .ok (.iconst 0, 1) := by decide +kernel
theorem dL_register_2 : decode cL_register 2 = .ok (.aload_n 0, 1) := by decide +kernel
theorem dL_register_3 : decode cL_register 3 = .ok (.iload_n 1, 1) := by decide +kernel
theorem dL_register_4 : decode cL_register 4 = .ok (.iload_n 2, 1) := by decide +kernel
theorem dL_register_5 : decode cL_register 5 = .ok (.invokevirtual 49, 3) := by decide +kernel
theorem dL_register_8 : decode cL_register 8 = .ok (.i2l, 1) := by decide +kernel
theorem dL_register_9 : decode cL_register 9 = .ok (.lastore, 1) := by decide +kernel
theorem dL_register_10 : decode cL_register 10 = .ok (.goto 15, 3) := by decide +kernel
theorem dL_register_13 : decode cL_register 13 = .ok (.astore 4, 2) := by decide +kernel
theorem dL_register_15 : decode cL_register 15 = .ok (.iconst 1, 1) := by decide +kernel
theorem dL_register_16 : decode cL_register 16 = .ok (.ireturn, 1) := by decide +kernel
theorem dL_register_17 : decode cL_register 17 = .ok (.astore 4, 2) := by decide +kernel
theorem dL_register_19 : decode cL_register 19 = .ok (.iconst 2, 1) := by decide +kernel
theorem dL_register_20 : decode cL_register 20 = .ok (.ireturn, 1) := by decide +kernel
theorem dL_register_21 : decode cL_register 21 = .ok (.astore 4, 2) := by decide +kernel
theorem dL_register_23 : decode cL_register 23 = .ok (.iconst 3, 1) := by decide +kernel
theorem dL_register_24 : decode cL_register 24 = .ok (.ireturn, 1) := by decide +kernel
theorem dL_register_25 : decode cL_register 25 = .ok (.iconst 0, 1) := by decide +kernel
theorem dL_register_26 : decode cL_register 26 = .ok (.ireturn, 1) := by decide +kernel
theorem dL_sell_0 : decode cL_sell 0 = .ok (.aload_n 3, 1) := by decide +kernel
theorem dL_sell_1 : decode cL_sell 1 = .ok (.iconst 0, 1) := by decide +kernel
theorem dL_sell_2 : decode cL_sell 2 = .ok (.aload_n 0, 1) := by decide +kernel
theorem dL_sell_3 : decode cL_sell 3 = .ok (.iload_n 1, 1) := by decide +kernel
theorem dL_sell_4 : decode cL_sell 4 = .ok (.iload_n 2, 1) := by decide +kernel
theorem dL_sell_5 : decode cL_sell 5 = .ok (.invokevirtual 52, 3) := by decide +kernel
theorem dL_sell_8 : decode cL_sell 8 = .ok (.i2l, 1) := by decide +kernel
theorem dL_sell_9 : decode cL_sell 9 = .ok (.lastore, 1) := by decide +kernel
theorem dL_sell_10 : decode cL_sell 10 = .ok (.goto 7, 3) := by decide +kernel
theorem dL_sell_13 : decode cL_sell 13 = .ok (.astore 4, 2) := by decide +kernel
theorem dL_sell_15 : decode cL_sell 15 = .ok (.iconst 1, 1) := by decide +kernel
theorem dL_sell_16 : decode cL_sell 16 = .ok (.ireturn, 1) := by decide +kernel
theorem dL_sell_17 : decode cL_sell 17 = .ok (.iconst 0, 1) := by decide +kernel
theorem dL_sell_18 : decode cL_sell 18 = .ok (.ireturn, 1) := by decide +kernel
theorem dL_plateAt_0 : decode cL_plateAt 0 = .ok (.aload_n 2, 1) := by decide +kernel
theorem dL_plateAt_1 : decode cL_plateAt 1 = .ok (.iconst 0, 1) := by decide +kernel
theorem dL_plateAt_2 : decode cL_plateAt 2 = .ok (.aload_n 0, 1) := by decide +kernel
theorem dL_plateAt_3 : decode cL_plateAt 3 = .ok (.iload_n 1, 1) := by decide +kernel
theorem dL_plateAt_4 : decode cL_plateAt 4 = .ok (.invokevirtual 55, 3) := by decide +kernel
theorem dL_plateAt_7 : decode cL_plateAt 7 = .ok (.i2l, 1) := by decide +kernel
theorem dL_plateAt_8 : decode cL_plateAt 8 = .ok (.lastore, 1) := by decide +kernel
theorem dL_plateAt_9 : decode cL_plateAt 9 = .ok (.goto 6, 3) := by decide +kernel
theorem dL_plateAt_12 : decode cL_plateAt 12 = .ok (.astore_n 3, 1) := by decide +kernel
theorem dL_plateAt_13 : decode cL_plateAt 13 = .ok (.iconst 1, 1) := by decide +kernel
theorem dL_plateAt_14 : decode cL_plateAt 14 = .ok (.ireturn, 1) := by decide +kernel
theorem dL_plateAt_15 : decode cL_plateAt 15 = .ok (.iconst 0, 1) := by decide +kernel
theorem dL_plateAt_16 : decode cL_plateAt 16 = .ok (.ireturn, 1) := by decide +kernel
theorem dL_holder_0 : decode cL_holder 0 = .ok (.aload_n 3, 1) := by decide +kernel
theorem dL_holder_1 : decode cL_holder 1 = .ok (.iconst 0, 1) := by decide +kernel
theorem dL_holder_2 : decode cL_holder 2 = .ok (.aload_n 0, 1) := by decide +kernel
theorem dL_holder_3 : decode cL_holder 3 = .ok (.iload_n 1, 1) := by decide +kernel
theorem dL_holder_4 : decode cL_holder 4 = .ok (.iload_n 2, 1) := by decide +kernel
theorem dL_holder_5 : decode cL_holder 5 = .ok (.invokevirtual 58, 3) := by decide +kernel
theorem dL_holder_8 : decode cL_holder 8 = .ok (.i2l, 1) := by decide +kernel
theorem dL_holder_9 : decode cL_holder 9 = .ok (.lastore, 1) := by decide +kernel
theorem dL_holder_10 : decode cL_holder 10 = .ok (.goto 11, 3) := by decide +kernel
theorem dL_holder_13 : decode cL_holder 13 = .ok (.astore 4, 2) := by decide +kernel
theorem dL_holder_15 : decode cL_holder 15 = .ok (.iconst 1, 1) := by decide +kernel
theorem dL_holder_16 : decode cL_holder 16 = .ok (.ireturn, 1) := by decide +kernel
theorem dL_holder_17 : decode cL_holder 17 = .ok (.astore 4, 2) := by decide +kernel
theorem dL_holder_19 : decode cL_holder 19 = .ok (.iconst 2, 1) := by decide +kernel
theorem dL_holder_20 : decode cL_holder 20 = .ok (.ireturn, 1) := by decide +kernel
theorem dL_holder_21 : decode cL_holder 21 = .ok (.iconst 0, 1) := by decide +kernel
theorem dL_holder_22 : decode cL_holder 22 = .ok (.ireturn, 1) := by decide +kernel
theorem dL_read_0 : decode cL_read 0 = .ok (.aload_n 3, 1) := by decide +kernel
theorem dL_read_1 : decode cL_read 1 = .ok (.iconst 0, 1) := by decide +kernel
theorem dL_read_2 : decode cL_read 2 = .ok (.aload_n 0, 1) := by decide +kernel
theorem dL_read_3 : decode cL_read 3 = .ok (.iload_n 1, 1) := by decide +kernel
theorem dL_read_4 : decode cL_read 4 = .ok (.iload_n 2, 1) := by decide +kernel
theorem dL_read_5 : decode cL_read 5 = .ok (.invokevirtual 61, 3) := by decide +kernel
theorem dL_read_8 : decode cL_read 8 = .ok (.i2l, 1) := by decide +kernel
theorem dL_read_9 : decode cL_read 9 = .ok (.lastore, 1) := by decide +kernel
theorem dL_read_10 : decode cL_read 10 = .ok (.goto 15, 3) := by decide +kernel
theorem dL_read_13 : decode cL_read 13 = .ok (.astore 4, 2) := by decide +kernel
theorem dL_read_15 : decode cL_read 15 = .ok (.iconst 1, 1) := by decide +kernel
theorem dL_read_16 : decode cL_read 16 = .ok (.ireturn, 1) := by decide +kernel
theorem dL_read_17 : decode cL_read 17 = .ok (.astore 4, 2) := by decide +kernel
theorem dL_read_19 : decode cL_read 19 = .ok (.iconst 2, 1) := by decide +kernel
theorem dL_read_20 : decode cL_read 20 = .ok (.ireturn, 1) := by decide +kernel
theorem dL_read_21 : decode cL_read 21 = .ok (.astore 4, 2) := by decide +kernel
theorem dL_read_23 : decode cL_read 23 = .ok (.iconst 3, 1) := by decide +kernel
theorem dL_read_24 : decode cL_read 24 = .ok (.ireturn, 1) := by decide +kernel
theorem dL_read_25 : decode cL_read 25 = .ok (.iconst 0, 1) := by decide +kernel
theorem dL_read_26 : decode cL_read 26 = .ok (.ireturn, 1) := by decide +kernel
theorem dL_correct_0 : decode cL_correct 0 = .ok (.aload_n 3, 1) := by decide +kernel
theorem dL_correct_1 : decode cL_correct 1 = .ok (.iconst 0, 1) := by decide +kernel
theorem dL_correct_2 : decode cL_correct 2 = .ok (.aload_n 0, 1) := by decide +kernel
theorem dL_correct_3 : decode cL_correct 3 = .ok (.iload_n 1, 1) := by decide +kernel
theorem dL_correct_4 : decode cL_correct 4 = .ok (.iload_n 2, 1) := by decide +kernel
theorem dL_correct_5 : decode cL_correct 5 = .ok (.invokevirtual 64, 3) := by decide +kernel
theorem dL_correct_8 : decode cL_correct 8 = .ok (.i2l, 1) := by decide +kernel
theorem dL_correct_9 : decode cL_correct 9 = .ok (.lastore, 1) := by decide +kernel
theorem dL_correct_10 : decode cL_correct 10 = .ok (.goto 7, 3) := by decide +kernel
theorem dL_correct_13 : decode cL_correct 13 = .ok (.astore 4, 2) := by decide +kernel
theorem dL_correct_15 : decode cL_correct 15 = .ok (.iconst 1, 1) := by decide +kernel
theorem dL_correct_16 : decode cL_correct 16 = .ok (.ireturn, 1) := by decide +kernel
theorem dL_correct_17 : decode cL_correct 17 = .ok (.iconst 0, 1) := by decide +kernel
theorem dL_correct_18 : decode cL_correct 18 = .ok (.ireturn, 1) := by decide +kernel
theorem dL_uncorrect_0 : decode cL_uncorrect 0 = .ok (.aload_n 2, 1) := by decide +kernel
theorem dL_uncorrect_1 : decode cL_uncorrect 1 = .ok (.iconst 0, 1) := by decide +kernel
theorem dL_uncorrect_2 : decode cL_uncorrect 2 = .ok (.aload_n 0, 1) := by decide +kernel
theorem dL_uncorrect_3 : decode cL_uncorrect 3 = .ok (.iload_n 1, 1) := by decide +kernel
theorem dL_uncorrect_4 : decode cL_uncorrect 4 = .ok (.invokevirtual 67, 3) := by decide +kernel
theorem dL_uncorrect_7 : decode cL_uncorrect 7 = .ok (.i2l, 1) := by decide +kernel
theorem dL_uncorrect_8 : decode cL_uncorrect 8 = .ok (.lastore, 1) := by decide +kernel
theorem dL_uncorrect_9 : decode cL_uncorrect 9 = .ok (.goto 9, 3) := by decide +kernel
theorem dL_uncorrect_12 : decode cL_uncorrect 12 = .ok (.astore_n 3, 1) := by decide +kernel
theorem dL_uncorrect_13 : decode cL_uncorrect 13 = .ok (.iconst 1, 1) := by decide +kernel
theorem dL_uncorrect_14 : decode cL_uncorrect 14 = .ok (.ireturn, 1) := by decide +kernel
theorem dL_uncorrect_15 : decode cL_uncorrect 15 = .ok (.astore_n 3, 1) := by decide +kernel
theorem dL_uncorrect_16 : decode cL_uncorrect 16 = .ok (.iconst 2, 1) := by decide +kernel
theorem dL_uncorrect_17 : decode cL_uncorrect 17 = .ok (.ireturn, 1) := by decide +kernel
theorem dL_uncorrect_18 : decode cL_uncorrect 18 = .ok (.iconst 0, 1) := by decide +kernel
theorem dL_uncorrect_19 : decode cL_uncorrect 19 = .ok (.ireturn, 1) := by decide +kernel
theorem dL_plateOf_0 : decode cL_plateOf 0 = .ok (.aload_n 2, 1) := by decide +kernel
theorem dL_plateOf_1 : decode cL_plateOf 1 = .ok (.iconst 0, 1) := by decide +kernel
theorem dL_plateOf_2 : decode cL_plateOf 2 = .ok (.aload_n 0, 1) := by decide +kernel
theorem dL_plateOf_3 : decode cL_plateOf 3 = .ok (.iload_n 1, 1) := by decide +kernel
theorem dL_plateOf_4 : decode cL_plateOf 4 = .ok (.invokevirtual 70, 3) := by decide +kernel
theorem dL_plateOf_7 : decode cL_plateOf 7 = .ok (.i2l, 1) := by decide +kernel
theorem dL_plateOf_8 : decode cL_plateOf 8 = .ok (.lastore, 1) := by decide +kernel
theorem dL_plateOf_9 : decode cL_plateOf 9 = .ok (.goto 6, 3) := by decide +kernel
theorem dL_plateOf_12 : decode cL_plateOf 12 = .ok (.astore_n 3, 1) := by decide +kernel
theorem dL_plateOf_13 : decode cL_plateOf 13 = .ok (.iconst 1, 1) := by decide +kernel
theorem dL_plateOf_14 : decode cL_plateOf 14 = .ok (.ireturn, 1) := by decide +kernel
theorem dL_plateOf_15 : decode cL_plateOf 15 = .ok (.iconst 0, 1) := by decide +kernel
theorem dL_plateOf_16 : decode cL_plateOf 16 = .ok (.ireturn, 1) := by decide +kernel
theorem dL_cost_0 : decode cL_cost 0 = .ok (.aload_n 3, 1) := by decide +kernel
theorem dL_cost_1 : decode cL_cost 1 = .ok (.iconst 0, 1) := by decide +kernel
theorem dL_cost_2 : decode cL_cost 2 = .ok (.aload_n 0, 1) := by decide +kernel
theorem dL_cost_3 : decode cL_cost 3 = .ok (.iload_n 1, 1) := by decide +kernel
theorem dL_cost_4 : decode cL_cost 4 = .ok (.iload_n 2, 1) := by decide +kernel
theorem dL_cost_5 : decode cL_cost 5 = .ok (.invokevirtual 73, 3) := by decide +kernel
theorem dL_cost_8 : decode cL_cost 8 = .ok (.i2l, 1) := by decide +kernel
theorem dL_cost_9 : decode cL_cost 9 = .ok (.lastore, 1) := by decide +kernel
theorem dL_cost_10 : decode cL_cost 10 = .ok (.goto 7, 3) := by decide +kernel
theorem dL_cost_13 : decode cL_cost 13 = .ok (.astore 4, 2) := by decide +kernel
theorem dL_cost_15 : decode cL_cost 15 = .ok (.iconst 1, 1) := by decide +kernel
theorem dL_cost_16 : decode cL_cost 16 = .ok (.ireturn, 1) := by decide +kernel
theorem dL_cost_17 : decode cL_cost 17 = .ok (.iconst 0, 1) := by decide +kernel
theorem dL_cost_18 : decode cL_cost 18 = .ok (.ireturn, 1) := by decide +kernel
theorem dL_trips_0 : decode cL_trips 0 = .ok (.aload_n 2, 1) := by decide +kernel
theorem dL_trips_1 : decode cL_trips 1 = .ok (.iconst 0, 1) := by decide +kernel
theorem dL_trips_2 : decode cL_trips 2 = .ok (.aload_n 0, 1) := by decide +kernel
theorem dL_trips_3 : decode cL_trips 3 = .ok (.iload_n 1, 1) := by decide +kernel
theorem dL_trips_4 : decode cL_trips 4 = .ok (.invokevirtual 76, 3) := by decide +kernel
theorem dL_trips_7 : decode cL_trips 7 = .ok (.i2l, 1) := by decide +kernel
theorem dL_trips_8 : decode cL_trips 8 = .ok (.lastore, 1) := by decide +kernel
theorem dL_trips_9 : decode cL_trips 9 = .ok (.goto 6, 3) := by decide +kernel
theorem dL_trips_12 : decode cL_trips 12 = .ok (.astore_n 3, 1) := by decide +kernel
theorem dL_trips_13 : decode cL_trips 13 = .ok (.iconst 1, 1) := by decide +kernel
theorem dL_trips_14 : decode cL_trips 14 = .ok (.ireturn, 1) := by decide +kernel
theorem dL_trips_15 : decode cL_trips 15 = .ok (.iconst 0, 1) := by decide +kernel
theorem dL_trips_16 : decode cL_trips 16 = .ok (.ireturn, 1) := by decide +kernel
theorem dL_tripsAnew_0 : decode cL_tripsAnew 0 = .ok (.aload_n 2, 1) := by decide +kernel
theorem dL_tripsAnew_1 : decode cL_tripsAnew 1 = .ok (.iconst 0, 1) := by decide +kernel
theorem dL_tripsAnew_2 : decode cL_tripsAnew 2 = .ok (.aload_n 0, 1) := by decide +kernel
theorem dL_tripsAnew_3 : decode cL_tripsAnew 3 = .ok (.iload_n 1, 1) := by decide +kernel
theorem dL_tripsAnew_4 : decode cL_tripsAnew 4 = .ok (.invokevirtual 79, 3) := by decide +kernel
theorem dL_tripsAnew_7 : decode cL_tripsAnew 7 = .ok (.i2l, 1) := by decide +kernel
theorem dL_tripsAnew_8 : decode cL_tripsAnew 8 = .ok (.lastore, 1) := by decide +kernel
theorem dL_tripsAnew_9 : decode cL_tripsAnew 9 = .ok (.goto 6, 3) := by decide +kernel
theorem dL_tripsAnew_12 : decode cL_tripsAnew 12 = .ok (.astore_n 3, 1) := by decide +kernel
theorem dL_tripsAnew_13 : decode cL_tripsAnew 13 = .ok (.iconst 1, 1) := by decide +kernel
theorem dL_tripsAnew_14 : decode cL_tripsAnew 14 = .ok (.ireturn, 1) := by decide +kernel
theorem dL_tripsAnew_15 : decode cL_tripsAnew 15 = .ok (.iconst 0, 1) := by decide +kernel
theorem dL_tripsAnew_16 : decode cL_tripsAnew 16 = .ok (.ireturn, 1) := by decide +kernel
theorem dL_tripOf_0 : decode cL_tripOf 0 = .ok (.aload_n 2, 1) := by decide +kernel
theorem dL_tripOf_1 : decode cL_tripOf 1 = .ok (.iconst 0, 1) := by decide +kernel
theorem dL_tripOf_2 : decode cL_tripOf 2 = .ok (.aload_n 0, 1) := by decide +kernel
theorem dL_tripOf_3 : decode cL_tripOf 3 = .ok (.iload_n 1, 1) := by decide +kernel
theorem dL_tripOf_4 : decode cL_tripOf 4 = .ok (.invokevirtual 82, 3) := by decide +kernel
theorem dL_tripOf_7 : decode cL_tripOf 7 = .ok (.i2l, 1) := by decide +kernel
theorem dL_tripOf_8 : decode cL_tripOf 8 = .ok (.lastore, 1) := by decide +kernel
theorem dL_tripOf_9 : decode cL_tripOf 9 = .ok (.goto 6, 3) := by decide +kernel
theorem dL_tripOf_12 : decode cL_tripOf 12 = .ok (.astore_n 3, 1) := by decide +kernel
theorem dL_tripOf_13 : decode cL_tripOf 13 = .ok (.iconst 1, 1) := by decide +kernel
theorem dL_tripOf_14 : decode cL_tripOf 14 = .ok (.ireturn, 1) := by decide +kernel
theorem dL_tripOf_15 : decode cL_tripOf 15 = .ok (.iconst 0, 1) := by decide +kernel
theorem dL_tripOf_16 : decode cL_tripOf 16 = .ok (.ireturn, 1) := by decide +kernel
theorem dL_toll_0 : decode cL_toll 0 = .ok (.aload_n 3, 1) := by decide +kernel
theorem dL_toll_1 : decode cL_toll 1 = .ok (.iconst 0, 1) := by decide +kernel
theorem dL_toll_2 : decode cL_toll 2 = .ok (.aload_n 0, 1) := by decide +kernel
theorem dL_toll_3 : decode cL_toll 3 = .ok (.iload_n 1, 1) := by decide +kernel
theorem dL_toll_4 : decode cL_toll 4 = .ok (.iload_n 2, 1) := by decide +kernel
theorem dL_toll_5 : decode cL_toll 5 = .ok (.invokevirtual 85, 3) := by decide +kernel
theorem dL_toll_8 : decode cL_toll 8 = .ok (.i2l, 1) := by decide +kernel
theorem dL_toll_9 : decode cL_toll 9 = .ok (.lastore, 1) := by decide +kernel
theorem dL_toll_10 : decode cL_toll 10 = .ok (.goto 7, 3) := by decide +kernel
theorem dL_toll_13 : decode cL_toll 13 = .ok (.astore 4, 2) := by decide +kernel
theorem dL_toll_15 : decode cL_toll 15 = .ok (.iconst 1, 1) := by decide +kernel
theorem dL_toll_16 : decode cL_toll 16 = .ok (.ireturn, 1) := by decide +kernel
theorem dL_toll_17 : decode cL_toll 17 = .ok (.iconst 0, 1) := by decide +kernel
theorem dL_toll_18 : decode cL_toll 18 = .ok (.ireturn, 1) := by decide +kernel
theorem dL_driverOf_0 : decode cL_driverOf 0 = .ok (.aload_n 3, 1) := by decide +kernel
theorem dL_driverOf_1 : decode cL_driverOf 1 = .ok (.iconst 0, 1) := by decide +kernel
theorem dL_driverOf_2 : decode cL_driverOf 2 = .ok (.aload_n 0, 1) := by decide +kernel
theorem dL_driverOf_3 : decode cL_driverOf 3 = .ok (.iload_n 1, 1) := by decide +kernel
theorem dL_driverOf_4 : decode cL_driverOf 4 = .ok (.iload_n 2, 1) := by decide +kernel
theorem dL_driverOf_5 : decode cL_driverOf 5 = .ok (.invokevirtual 88, 3) := by decide +kernel
theorem dL_driverOf_8 : decode cL_driverOf 8 = .ok (.i2l, 1) := by decide +kernel
theorem dL_driverOf_9 : decode cL_driverOf 9 = .ok (.lastore, 1) := by decide +kernel
theorem dL_driverOf_10 : decode cL_driverOf 10 = .ok (.goto 7, 3) := by decide +kernel
theorem dL_driverOf_13 : decode cL_driverOf 13 = .ok (.astore 4, 2) := by decide +kernel
theorem dL_driverOf_15 : decode cL_driverOf 15 = .ok (.iconst 1, 1) := by decide +kernel
theorem dL_driverOf_16 : decode cL_driverOf 16 = .ok (.ireturn, 1) := by decide +kernel
theorem dL_driverOf_17 : decode cL_driverOf 17 = .ok (.iconst 0, 1) := by decide +kernel
theorem dL_driverOf_18 : decode cL_driverOf 18 = .ok (.ireturn, 1) := by decide +kernel
theorem dL_due_0 : decode cL_due 0 = .ok (.aload_n 2, 1) := by decide +kernel
theorem dL_due_1 : decode cL_due 1 = .ok (.iconst 0, 1) := by decide +kernel
theorem dL_due_2 : decode cL_due 2 = .ok (.aload_n 0, 1) := by decide +kernel
theorem dL_due_3 : decode cL_due 3 = .ok (.iload_n 1, 1) := by decide +kernel
theorem dL_due_4 : decode cL_due 4 = .ok (.invokevirtual 91, 3) := by decide +kernel
theorem dL_due_7 : decode cL_due 7 = .ok (.i2l, 1) := by decide +kernel
theorem dL_due_8 : decode cL_due 8 = .ok (.lastore, 1) := by decide +kernel
theorem dL_due_9 : decode cL_due 9 = .ok (.goto 6, 3) := by decide +kernel
theorem dL_due_12 : decode cL_due 12 = .ok (.astore_n 3, 1) := by decide +kernel
theorem dL_due_13 : decode cL_due 13 = .ok (.iconst 1, 1) := by decide +kernel
theorem dL_due_14 : decode cL_due 14 = .ok (.ireturn, 1) := by decide +kernel
theorem dL_due_15 : decode cL_due 15 = .ok (.iconst 0, 1) := by decide +kernel
theorem dL_due_16 : decode cL_due 16 = .ok (.ireturn, 1) := by decide +kernel
theorem dL_dueAnew_0 : decode cL_dueAnew 0 = .ok (.aload_n 2, 1) := by decide +kernel
theorem dL_dueAnew_1 : decode cL_dueAnew 1 = .ok (.iconst 0, 1) := by decide +kernel
theorem dL_dueAnew_2 : decode cL_dueAnew 2 = .ok (.aload_n 0, 1) := by decide +kernel
theorem dL_dueAnew_3 : decode cL_dueAnew 3 = .ok (.iload_n 1, 1) := by decide +kernel
theorem dL_dueAnew_4 : decode cL_dueAnew 4 = .ok (.invokevirtual 94, 3) := by decide +kernel
theorem dL_dueAnew_7 : decode cL_dueAnew 7 = .ok (.i2l, 1) := by decide +kernel
theorem dL_dueAnew_8 : decode cL_dueAnew 8 = .ok (.lastore, 1) := by decide +kernel
theorem dL_dueAnew_9 : decode cL_dueAnew 9 = .ok (.goto 6, 3) := by decide +kernel
theorem dL_dueAnew_12 : decode cL_dueAnew 12 = .ok (.astore_n 3, 1) := by decide +kernel
theorem dL_dueAnew_13 : decode cL_dueAnew 13 = .ok (.iconst 1, 1) := by decide +kernel
theorem dL_dueAnew_14 : decode cL_dueAnew 14 = .ok (.ireturn, 1) := by decide +kernel
theorem dL_dueAnew_15 : decode cL_dueAnew 15 = .ok (.iconst 0, 1) := by decide +kernel
theorem dL_dueAnew_16 : decode cL_dueAnew 16 = .ok (.ireturn, 1) := by decide +kernel
theorem dL_billed_0 : decode cL_billed 0 = .ok (.aload_n 2, 1) := by decide +kernel
theorem dL_billed_1 : decode cL_billed 1 = .ok (.iconst 0, 1) := by decide +kernel
theorem dL_billed_2 : decode cL_billed 2 = .ok (.aload_n 0, 1) := by decide +kernel
theorem dL_billed_3 : decode cL_billed 3 = .ok (.iload_n 1, 1) := by decide +kernel
theorem dL_billed_4 : decode cL_billed 4 = .ok (.invokevirtual 97, 3) := by decide +kernel
theorem dL_billed_7 : decode cL_billed 7 = .ok (.lastore, 1) := by decide +kernel
theorem dL_billed_8 : decode cL_billed 8 = .ok (.goto 6, 3) := by decide +kernel
theorem dL_billed_11 : decode cL_billed 11 = .ok (.astore_n 3, 1) := by decide +kernel
theorem dL_billed_12 : decode cL_billed 12 = .ok (.iconst 1, 1) := by decide +kernel
theorem dL_billed_13 : decode cL_billed 13 = .ok (.ireturn, 1) := by decide +kernel
theorem dL_billed_14 : decode cL_billed 14 = .ok (.iconst 0, 1) := by decide +kernel
theorem dL_billed_15 : decode cL_billed 15 = .ok (.ireturn, 1) := by decide +kernel
theorem dL_paidBack_0 : decode cL_paidBack 0 = .ok (.aload_n 2, 1) := by decide +kernel
theorem dL_paidBack_1 : decode cL_paidBack 1 = .ok (.iconst 0, 1) := by decide +kernel
theorem dL_paidBack_2 : decode cL_paidBack 2 = .ok (.aload_n 0, 1) := by decide +kernel
theorem dL_paidBack_3 : decode cL_paidBack 3 = .ok (.iload_n 1, 1) := by decide +kernel
theorem dL_paidBack_4 : decode cL_paidBack 4 = .ok (.invokevirtual 101, 3) := by decide +kernel
theorem dL_paidBack_7 : decode cL_paidBack 7 = .ok (.lastore, 1) := by decide +kernel
theorem dL_paidBack_8 : decode cL_paidBack 8 = .ok (.goto 6, 3) := by decide +kernel
theorem dL_paidBack_11 : decode cL_paidBack 11 = .ok (.astore_n 3, 1) := by decide +kernel
theorem dL_paidBack_12 : decode cL_paidBack 12 = .ok (.iconst 1, 1) := by decide +kernel
theorem dL_paidBack_13 : decode cL_paidBack 13 = .ok (.ireturn, 1) := by decide +kernel
theorem dL_paidBack_14 : decode cL_paidBack 14 = .ok (.iconst 0, 1) := by decide +kernel
theorem dL_paidBack_15 : decode cL_paidBack 15 = .ok (.ireturn, 1) := by decide +kernel
theorem dL_warrant_0 : decode cL_warrant 0 = .ok (.aload 4, 2) := by decide +kernel
theorem dL_warrant_2 : decode cL_warrant 2 = .ok (.iconst 0, 1) := by decide +kernel
theorem dL_warrant_3 : decode cL_warrant 3 = .ok (.aload_n 0, 1) := by decide +kernel
theorem dL_warrant_4 : decode cL_warrant 4 = .ok (.iload_n 1, 1) := by decide +kernel
theorem dL_warrant_5 : decode cL_warrant 5 = .ok (.iload_n 2, 1) := by decide +kernel
theorem dL_warrant_6 : decode cL_warrant 6 = .ok (.iload_n 3, 1) := by decide +kernel
theorem dL_warrant_7 : decode cL_warrant 7 = .ok (.invokevirtual 104, 3) := by decide +kernel
theorem dL_warrant_10 : decode cL_warrant 10 = .ok (.i2l, 1) := by decide +kernel
theorem dL_warrant_11 : decode cL_warrant 11 = .ok (.lastore, 1) := by decide +kernel
theorem dL_warrant_12 : decode cL_warrant 12 = .ok (.goto 15, 3) := by decide +kernel
theorem dL_warrant_15 : decode cL_warrant 15 = .ok (.astore 5, 2) := by decide +kernel
theorem dL_warrant_17 : decode cL_warrant 17 = .ok (.iconst 1, 1) := by decide +kernel
theorem dL_warrant_18 : decode cL_warrant 18 = .ok (.ireturn, 1) := by decide +kernel
theorem dL_warrant_19 : decode cL_warrant 19 = .ok (.astore 5, 2) := by decide +kernel
theorem dL_warrant_21 : decode cL_warrant 21 = .ok (.iconst 2, 1) := by decide +kernel
theorem dL_warrant_22 : decode cL_warrant 22 = .ok (.ireturn, 1) := by decide +kernel
theorem dL_warrant_23 : decode cL_warrant 23 = .ok (.astore 5, 2) := by decide +kernel
end
section
theorem dL_warrant_25 : decode cL_warrant 25 = .ok (.iconst 3, 1) := by decide +kernel
theorem dL_warrant_26 : decode cL_warrant 26 = .ok (.ireturn, 1) := by decide +kernel
theorem dL_warrant_27 : decode cL_warrant 27 = .ok (.iconst 0, 1) := by decide +kernel
theorem dL_warrant_28 : decode cL_warrant 28 = .ok (.ireturn, 1) := by decide +kernel
theorem dL_ask_0 : decode cL_ask 0 = .ok (.aload_n 3, 1) := by decide +kernel
theorem dL_ask_1 : decode cL_ask 1 = .ok (.iconst 0, 1) := by decide +kernel
theorem dL_ask_2 : decode cL_ask 2 = .ok (.aload_n 0, 1) := by decide +kernel
theorem dL_ask_3 : decode cL_ask 3 = .ok (.iload_n 1, 1) := by decide +kernel
theorem dL_ask_4 : decode cL_ask 4 = .ok (.iload_n 2, 1) := by decide +kernel
theorem dL_ask_5 : decode cL_ask 5 = .ok (.invokevirtual 107, 3) := by decide +kernel
theorem dL_ask_8 : decode cL_ask 8 = .ok (.i2l, 1) := by decide +kernel
theorem dL_ask_9 : decode cL_ask 9 = .ok (.lastore, 1) := by decide +kernel
theorem dL_ask_10 : decode cL_ask 10 = .ok (.goto 15, 3) := by decide +kernel
theorem dL_ask_13 : decode cL_ask 13 = .ok (.astore 4, 2) := by decide +kernel
theorem dL_ask_15 : decode cL_ask 15 = .ok (.iconst 1, 1) := by decide +kernel
theorem dL_ask_16 : decode cL_ask 16 = .ok (.ireturn, 1) := by decide +kernel
theorem dL_ask_17 : decode cL_ask 17 = .ok (.astore 4, 2) := by decide +kernel
theorem dL_ask_19 : decode cL_ask 19 = .ok (.iconst 2, 1) := by decide +kernel
theorem dL_ask_20 : decode cL_ask 20 = .ok (.ireturn, 1) := by decide +kernel
theorem dL_ask_21 : decode cL_ask 21 = .ok (.astore 4, 2) := by decide +kernel
theorem dL_ask_23 : decode cL_ask 23 = .ok (.iconst 3, 1) := by decide +kernel
theorem dL_ask_24 : decode cL_ask 24 = .ok (.ireturn, 1) := by decide +kernel
theorem dL_ask_25 : decode cL_ask 25 = .ok (.iconst 0, 1) := by decide +kernel
theorem dL_ask_26 : decode cL_ask 26 = .ok (.ireturn, 1) := by decide +kernel
theorem dL_stale_0 : decode cL_stale 0 = .ok (.aload_n 2, 1) := by decide +kernel
theorem dL_stale_1 : decode cL_stale 1 = .ok (.iconst 0, 1) := by decide +kernel
theorem dL_stale_2 : decode cL_stale 2 = .ok (.aload_n 0, 1) := by decide +kernel
theorem dL_stale_3 : decode cL_stale 3 = .ok (.iload_n 1, 1) := by decide +kernel
theorem dL_stale_4 : decode cL_stale 4 = .ok (.invokevirtual 110, 3) := by decide +kernel
theorem dL_stale_7 : decode cL_stale 7 = .ok (.i2l, 1) := by decide +kernel
theorem dL_stale_8 : decode cL_stale 8 = .ok (.lastore, 1) := by decide +kernel
theorem dL_stale_9 : decode cL_stale 9 = .ok (.goto 6, 3) := by decide +kernel
theorem dL_stale_12 : decode cL_stale 12 = .ok (.astore_n 3, 1) := by decide +kernel
theorem dL_stale_13 : decode cL_stale 13 = .ok (.iconst 1, 1) := by decide +kernel
theorem dL_stale_14 : decode cL_stale 14 = .ok (.ireturn, 1) := by decide +kernel
theorem dL_stale_15 : decode cL_stale 15 = .ok (.iconst 0, 1) := by decide +kernel
theorem dL_stale_16 : decode cL_stale 16 = .ok (.ireturn, 1) := by decide +kernel
theorem dL_law_0 : decode cL_law 0 = .ok (.new 8, 3) := by decide +kernel
theorem dL_law_3 : decode cL_law 3 = .ok (.dup, 1) := by decide +kernel
theorem dL_law_4 : decode cL_law 4 = .ok (.invokespecial 113, 3) := by decide +kernel
theorem dL_law_7 : decode cL_law 7 = .ok (.astore_n 1, 1) := by decide +kernel
theorem dL_law_8 : decode cL_law 8 = .ok (.new 114, 3) := by decide +kernel
theorem dL_law_11 : decode cL_law 11 = .ok (.dup, 1) := by decide +kernel
theorem dL_law_12 : decode cL_law 12 = .ok (.invokespecial 116, 3) := by decide +kernel
theorem dL_law_15 : decode cL_law 15 = .ok (.astore_n 2, 1) := by decide +kernel
theorem dL_law_16 : decode cL_law 16 = .ok (.iconst 1, 1) := by decide +kernel
theorem dL_law_17 : decode cL_law 17 = .ok (.newarray .long, 2) := by decide +kernel
theorem dL_law_19 : decode cL_law 19 = .ok (.astore_n 3, 1) := by decide +kernel
theorem dL_law_20 : decode cL_law 20 = .ok (.iconst 0, 1) := by decide +kernel
theorem dL_law_21 : decode cL_law 21 = .ok (.istore 4, 2) := by decide +kernel
theorem dL_law_23 : decode cL_law 23 = .ok (.iload 4, 2) := by decide +kernel
theorem dL_law_25 : decode cL_law 25 = .ok (.aload_n 0, 1) := by decide +kernel
theorem dL_law_26 : decode cL_law 26 = .ok (.arraylength, 1) := by decide +kernel
theorem dL_law_27 : decode cL_law 27 = .ok (.iconst 4, 1) := by decide +kernel
theorem dL_law_28 : decode cL_law 28 = .ok (.isub, 1) := by decide +kernel
theorem dL_law_29 : decode cL_law 29 = .ok (.if_icmp .gt 2123, 3) := by decide +kernel
theorem dL_law_32 : decode cL_law 32 = .ok (.aload_n 0, 1) := by decide +kernel
theorem dL_law_33 : decode cL_law 33 = .ok (.iload 4, 2) := by decide +kernel
theorem dL_law_35 : decode cL_law 35 = .ok (.iaload, 1) := by decide +kernel
theorem dL_law_36 : decode cL_law 36 = .ok (.bipush 63, 2) := by decide +kernel
theorem dL_law_38 : decode cL_law 38 = .ok (.iand, 1) := by decide +kernel
theorem dL_law_39 : decode cL_law 39 = .ok (.tableswitch 2107 0 34 #[153, 209, 222, 302, 370, 426, 494, 550, 618, 631, 644, 700, 775, 843, 911, 924, 980, 1048, 1116, 1184, 1240, 1296, 1364, 1420, 1476, 1532, 1600, 1668, 1724, 1780, 1793, 1848, 1903, 1983, 2051], 153) := by decide +kernel
theorem dL_law_192 : decode cL_law 192 = .ok (.aload_n 1, 1) := by decide +kernel
theorem dL_law_193 : decode cL_law 193 = .ok (.aload_n 0, 1) := by decide +kernel
theorem dL_law_194 : decode cL_law 194 = .ok (.iload 4, 2) := by decide +kernel
theorem dL_law_196 : decode cL_law 196 = .ok (.iconst 1, 1) := by decide +kernel
theorem dL_law_197 : decode cL_law 197 = .ok (.iadd, 1) := by decide +kernel
theorem dL_law_198 : decode cL_law 198 = .ok (.iaload, 1) := by decide +kernel
theorem dL_law_199 : decode cL_law 199 = .ok (.aload_n 3, 1) := by decide +kernel
theorem dL_law_200 : decode cL_law 200 = .ok (.invokestatic 117, 3) := by decide +kernel
theorem dL_law_203 : decode cL_law 203 = .ok (.istore 5, 2) := by decide +kernel
theorem dL_law_205 : decode cL_law 205 = .ok (.aload_n 2, 1) := by decide +kernel
theorem dL_law_206 : decode cL_law 206 = .ok (.aload_n 0, 1) := by decide +kernel
theorem dL_law_207 : decode cL_law 207 = .ok (.iload 4, 2) := by decide +kernel
theorem dL_law_209 : decode cL_law 209 = .ok (.iconst 1, 1) := by decide +kernel
theorem dL_law_210 : decode cL_law 210 = .ok (.iadd, 1) := by decide +kernel
theorem dL_law_211 : decode cL_law 211 = .ok (.iaload, 1) := by decide +kernel
theorem dL_law_212 : decode cL_law 212 = .ok (.invokevirtual 122, 3) := by decide +kernel
theorem dL_law_215 : decode cL_law 215 = .ok (.istore 6, 2) := by decide +kernel
theorem dL_law_217 : decode cL_law 217 = .ok (.aload_n 2, 1) := by decide +kernel
theorem dL_law_218 : decode cL_law 218 = .ok (.invokevirtual 123, 3) := by decide +kernel
theorem dL_law_221 : decode cL_law 221 = .ok (.iload 5, 2) := by decide +kernel
theorem dL_law_223 : decode cL_law 223 = .ok (.if_icmp .eq 5, 3) := by decide +kernel
theorem dL_law_226 : decode cL_law 226 = .ok (.iconst 0, 1) := by decide +kernel
theorem dL_law_227 : decode cL_law 227 = .ok (.ireturn, 1) := by decide +kernel
theorem dL_law_228 : decode cL_law 228 = .ok (.iload 5, 2) := by decide +kernel
theorem dL_law_230 : decode cL_law 230 = .ok (.ifCond .ne 15, 3) := by decide +kernel
theorem dL_law_233 : decode cL_law 233 = .ok (.aload_n 3, 1) := by decide +kernel
theorem dL_law_234 : decode cL_law 234 = .ok (.iconst 0, 1) := by decide +kernel
theorem dL_law_235 : decode cL_law 235 = .ok (.laload, 1) := by decide +kernel
theorem dL_law_236 : decode cL_law 236 = .ok (.iload 6, 2) := by decide +kernel
theorem dL_law_238 : decode cL_law 238 = .ok (.i2l, 1) := by decide +kernel
theorem dL_law_239 : decode cL_law 239 = .ok (.lcmp, 1) := by decide +kernel
theorem dL_law_240 : decode cL_law 240 = .ok (.ifCond .eq 5, 3) := by decide +kernel
theorem dL_law_243 : decode cL_law 243 = .ok (.iconst 0, 1) := by decide +kernel
theorem dL_law_244 : decode cL_law 244 = .ok (.ireturn, 1) := by decide +kernel
theorem dL_law_245 : decode cL_law 245 = .ok (.goto 1901, 3) := by decide +kernel
theorem dL_law_248 : decode cL_law 248 = .ok (.aload_n 1, 1) := by decide +kernel
theorem dL_law_249 : decode cL_law 249 = .ok (.invokevirtual 127, 3) := by decide +kernel
theorem dL_law_252 : decode cL_law 252 = .ok (.aload_n 2, 1) := by decide +kernel
theorem dL_law_253 : decode cL_law 253 = .ok (.invokevirtual 130, 3) := by decide +kernel
theorem dL_law_256 : decode cL_law 256 = .ok (.if_icmp .eq 1890, 3) := by decide +kernel
theorem dL_law_259 : decode cL_law 259 = .ok (.iconst 0, 1) := by decide +kernel
theorem dL_law_260 : decode cL_law 260 = .ok (.ireturn, 1) := by decide +kernel
theorem dL_law_261 : decode cL_law 261 = .ok (.aload_n 1, 1) := by decide +kernel
theorem dL_law_262 : decode cL_law 262 = .ok (.aload_n 0, 1) := by decide +kernel
theorem dL_law_263 : decode cL_law 263 = .ok (.iload 4, 2) := by decide +kernel
theorem dL_law_265 : decode cL_law 265 = .ok (.iconst 1, 1) := by decide +kernel
theorem dL_law_266 : decode cL_law 266 = .ok (.iadd, 1) := by decide +kernel
theorem dL_law_267 : decode cL_law 267 = .ok (.iaload, 1) := by decide +kernel
theorem dL_law_268 : decode cL_law 268 = .ok (.aload_n 0, 1) := by decide +kernel
theorem dL_law_269 : decode cL_law 269 = .ok (.iload 4, 2) := by decide +kernel
theorem dL_law_271 : decode cL_law 271 = .ok (.iconst 2, 1) := by decide +kernel
theorem dL_law_272 : decode cL_law 272 = .ok (.iadd, 1) := by decide +kernel
theorem dL_law_273 : decode cL_law 273 = .ok (.iaload, 1) := by decide +kernel
theorem dL_law_274 : decode cL_law 274 = .ok (.aload_n 0, 1) := by decide +kernel
theorem dL_law_275 : decode cL_law 275 = .ok (.iload 4, 2) := by decide +kernel
theorem dL_law_277 : decode cL_law 277 = .ok (.iconst 3, 1) := by decide +kernel
theorem dL_law_278 : decode cL_law 278 = .ok (.iadd, 1) := by decide +kernel
theorem dL_law_279 : decode cL_law 279 = .ok (.iaload, 1) := by decide +kernel
theorem dL_law_280 : decode cL_law 280 = .ok (.aload_n 3, 1) := by decide +kernel
theorem dL_law_281 : decode cL_law 281 = .ok (.invokestatic 131, 3) := by decide +kernel
theorem dL_law_284 : decode cL_law 284 = .ok (.istore 5, 2) := by decide +kernel
theorem dL_law_286 : decode cL_law 286 = .ok (.aload_n 2, 1) := by decide +kernel
theorem dL_law_287 : decode cL_law 287 = .ok (.aload_n 0, 1) := by decide +kernel
theorem dL_law_288 : decode cL_law 288 = .ok (.iload 4, 2) := by decide +kernel
theorem dL_law_290 : decode cL_law 290 = .ok (.iconst 1, 1) := by decide +kernel
theorem dL_law_291 : decode cL_law 291 = .ok (.iadd, 1) := by decide +kernel
theorem dL_law_292 : decode cL_law 292 = .ok (.iaload, 1) := by decide +kernel
theorem dL_law_293 : decode cL_law 293 = .ok (.aload_n 0, 1) := by decide +kernel
theorem dL_law_294 : decode cL_law 294 = .ok (.iload 4, 2) := by decide +kernel
theorem dL_law_296 : decode cL_law 296 = .ok (.iconst 2, 1) := by decide +kernel
theorem dL_law_297 : decode cL_law 297 = .ok (.iadd, 1) := by decide +kernel
theorem dL_law_298 : decode cL_law 298 = .ok (.iaload, 1) := by decide +kernel
theorem dL_law_299 : decode cL_law 299 = .ok (.aload_n 0, 1) := by decide +kernel
theorem dL_law_300 : decode cL_law 300 = .ok (.iload 4, 2) := by decide +kernel
theorem dL_law_302 : decode cL_law 302 = .ok (.iconst 3, 1) := by decide +kernel
theorem dL_law_303 : decode cL_law 303 = .ok (.iadd, 1) := by decide +kernel
theorem dL_law_304 : decode cL_law 304 = .ok (.iaload, 1) := by decide +kernel
theorem dL_law_305 : decode cL_law 305 = .ok (.invokevirtual 134, 3) := by decide +kernel
theorem dL_law_308 : decode cL_law 308 = .ok (.istore 6, 2) := by decide +kernel
theorem dL_law_310 : decode cL_law 310 = .ok (.aload_n 2, 1) := by decide +kernel
theorem dL_law_311 : decode cL_law 311 = .ok (.invokevirtual 123, 3) := by decide +kernel
theorem dL_law_314 : decode cL_law 314 = .ok (.iload 5, 2) := by decide +kernel
theorem dL_law_316 : decode cL_law 316 = .ok (.if_icmp .eq 5, 3) := by decide +kernel
theorem dL_law_319 : decode cL_law 319 = .ok (.iconst 0, 1) := by decide +kernel
theorem dL_law_320 : decode cL_law 320 = .ok (.ireturn, 1) := by decide +kernel
theorem dL_law_321 : decode cL_law 321 = .ok (.iload 5, 2) := by decide +kernel
theorem dL_law_323 : decode cL_law 323 = .ok (.ifCond .ne 15, 3) := by decide +kernel
theorem dL_law_326 : decode cL_law 326 = .ok (.aload_n 3, 1) := by decide +kernel
theorem dL_law_327 : decode cL_law 327 = .ok (.iconst 0, 1) := by decide +kernel
theorem dL_law_328 : decode cL_law 328 = .ok (.laload, 1) := by decide +kernel
theorem dL_law_329 : decode cL_law 329 = .ok (.iload 6, 2) := by decide +kernel
theorem dL_law_331 : decode cL_law 331 = .ok (.i2l, 1) := by decide +kernel
theorem dL_law_332 : decode cL_law 332 = .ok (.lcmp, 1) := by decide +kernel
theorem dL_law_333 : decode cL_law 333 = .ok (.ifCond .eq 5, 3) := by decide +kernel
theorem dL_law_336 : decode cL_law 336 = .ok (.iconst 0, 1) := by decide +kernel
theorem dL_law_337 : decode cL_law 337 = .ok (.ireturn, 1) := by decide +kernel
theorem dL_law_338 : decode cL_law 338 = .ok (.goto 1808, 3) := by decide +kernel
theorem dL_law_341 : decode cL_law 341 = .ok (.aload_n 1, 1) := by decide +kernel
theorem dL_law_342 : decode cL_law 342 = .ok (.aload_n 0, 1) := by decide +kernel
theorem dL_law_343 : decode cL_law 343 = .ok (.iload 4, 2) := by decide +kernel
theorem dL_law_345 : decode cL_law 345 = .ok (.iconst 1, 1) := by decide +kernel
theorem dL_law_346 : decode cL_law 346 = .ok (.iadd, 1) := by decide +kernel
theorem dL_law_347 : decode cL_law 347 = .ok (.iaload, 1) := by decide +kernel
theorem dL_law_348 : decode cL_law 348 = .ok (.aload_n 0, 1) := by decide +kernel
theorem dL_law_349 : decode cL_law 349 = .ok (.iload 4, 2) := by decide +kernel
theorem dL_law_351 : decode cL_law 351 = .ok (.iconst 2, 1) := by decide +kernel
theorem dL_law_352 : decode cL_law 352 = .ok (.iadd, 1) := by decide +kernel
theorem dL_law_353 : decode cL_law 353 = .ok (.iaload, 1) := by decide +kernel
theorem dL_law_354 : decode cL_law 354 = .ok (.aload_n 3, 1) := by decide +kernel
theorem dL_law_355 : decode cL_law 355 = .ok (.invokestatic 135, 3) := by decide +kernel
theorem dL_law_358 : decode cL_law 358 = .ok (.istore 5, 2) := by decide +kernel
theorem dL_law_360 : decode cL_law 360 = .ok (.aload_n 2, 1) := by decide +kernel
theorem dL_law_361 : decode cL_law 361 = .ok (.aload_n 0, 1) := by decide +kernel
theorem dL_law_362 : decode cL_law 362 = .ok (.iload 4, 2) := by decide +kernel
theorem dL_law_364 : decode cL_law 364 = .ok (.iconst 1, 1) := by decide +kernel
theorem dL_law_365 : decode cL_law 365 = .ok (.iadd, 1) := by decide +kernel
theorem dL_law_366 : decode cL_law 366 = .ok (.iaload, 1) := by decide +kernel
theorem dL_law_367 : decode cL_law 367 = .ok (.aload_n 0, 1) := by decide +kernel
theorem dL_law_368 : decode cL_law 368 = .ok (.iload 4, 2) := by decide +kernel
theorem dL_law_370 : decode cL_law 370 = .ok (.iconst 2, 1) := by decide +kernel
theorem dL_law_371 : decode cL_law 371 = .ok (.iadd, 1) := by decide +kernel
theorem dL_law_372 : decode cL_law 372 = .ok (.iaload, 1) := by decide +kernel
theorem dL_law_373 : decode cL_law 373 = .ok (.invokevirtual 138, 3) := by decide +kernel
theorem dL_law_376 : decode cL_law 376 = .ok (.istore 6, 2) := by decide +kernel
theorem dL_law_378 : decode cL_law 378 = .ok (.aload_n 2, 1) := by decide +kernel
theorem dL_law_379 : decode cL_law 379 = .ok (.invokevirtual 123, 3) := by decide +kernel
theorem dL_law_382 : decode cL_law 382 = .ok (.iload 5, 2) := by decide +kernel
theorem dL_law_384 : decode cL_law 384 = .ok (.if_icmp .eq 5, 3) := by decide +kernel
theorem dL_law_387 : decode cL_law 387 = .ok (.iconst 0, 1) := by decide +kernel
theorem dL_law_388 : decode cL_law 388 = .ok (.ireturn, 1) := by decide +kernel
theorem dL_law_389 : decode cL_law 389 = .ok (.iload 5, 2) := by decide +kernel
theorem dL_law_391 : decode cL_law 391 = .ok (.ifCond .ne 15, 3) := by decide +kernel
theorem dL_law_394 : decode cL_law 394 = .ok (.aload_n 3, 1) := by decide +kernel
theorem dL_law_395 : decode cL_law 395 = .ok (.iconst 0, 1) := by decide +kernel
theorem dL_law_396 : decode cL_law 396 = .ok (.laload, 1) := by decide +kernel
theorem dL_law_397 : decode cL_law 397 = .ok (.iload 6, 2) := by decide +kernel
theorem dL_law_399 : decode cL_law 399 = .ok (.i2l, 1) := by decide +kernel
theorem dL_law_400 : decode cL_law 400 = .ok (.lcmp, 1) := by decide +kernel
theorem dL_law_401 : decode cL_law 401 = .ok (.ifCond .eq 5, 3) := by decide +kernel
theorem dL_law_404 : decode cL_law 404 = .ok (.iconst 0, 1) := by decide +kernel
theorem dL_law_405 : decode cL_law 405 = .ok (.ireturn, 1) := by decide +kernel
theorem dL_law_406 : decode cL_law 406 = .ok (.goto 1740, 3) := by decide +kernel
theorem dL_law_409 : decode cL_law 409 = .ok (.aload_n 1, 1) := by decide +kernel
theorem dL_law_410 : decode cL_law 410 = .ok (.aload_n 0, 1) := by decide +kernel
theorem dL_law_411 : decode cL_law 411 = .ok (.iload 4, 2) := by decide +kernel
theorem dL_law_413 : decode cL_law 413 = .ok (.iconst 1, 1) := by decide +kernel
theorem dL_law_414 : decode cL_law 414 = .ok (.iadd, 1) := by decide +kernel
theorem dL_law_415 : decode cL_law 415 = .ok (.iaload, 1) := by decide +kernel
theorem dL_law_416 : decode cL_law 416 = .ok (.aload_n 3, 1) := by decide +kernel
theorem dL_law_417 : decode cL_law 417 = .ok (.invokestatic 139, 3) := by decide +kernel
theorem dL_law_420 : decode cL_law 420 = .ok (.istore 5, 2) := by decide +kernel
theorem dL_law_422 : decode cL_law 422 = .ok (.aload_n 2, 1) := by decide +kernel
theorem dL_law_423 : decode cL_law 423 = .ok (.aload_n 0, 1) := by decide +kernel
theorem dL_law_424 : decode cL_law 424 = .ok (.iload 4, 2) := by decide +kernel
theorem dL_law_426 : decode cL_law 426 = .ok (.iconst 1, 1) := by decide +kernel
theorem dL_law_427 : decode cL_law 427 = .ok (.iadd, 1) := by decide +kernel
theorem dL_law_428 : decode cL_law 428 = .ok (.iaload, 1) := by decide +kernel
theorem dL_law_429 : decode cL_law 429 = .ok (.invokevirtual 141, 3) := by decide +kernel
theorem dL_law_432 : decode cL_law 432 = .ok (.istore 6, 2) := by decide +kernel
theorem dL_law_434 : decode cL_law 434 = .ok (.aload_n 2, 1) := by decide +kernel
theorem dL_law_435 : decode cL_law 435 = .ok (.invokevirtual 123, 3) := by decide +kernel
theorem dL_law_438 : decode cL_law 438 = .ok (.iload 5, 2) := by decide +kernel
theorem dL_law_440 : decode cL_law 440 = .ok (.if_icmp .eq 5, 3) := by decide +kernel
theorem dL_law_443 : decode cL_law 443 = .ok (.iconst 0, 1) := by decide +kernel
theorem dL_law_444 : decode cL_law 444 = .ok (.ireturn, 1) := by decide +kernel
theorem dL_law_445 : decode cL_law 445 = .ok (.iload 5, 2) := by decide +kernel
theorem dL_law_447 : decode cL_law 447 = .ok (.ifCond .ne 15, 3) := by decide +kernel
theorem dL_law_450 : decode cL_law 450 = .ok (.aload_n 3, 1) := by decide +kernel
theorem dL_law_451 : decode cL_law 451 = .ok (.iconst 0, 1) := by decide +kernel
theorem dL_law_452 : decode cL_law 452 = .ok (.laload, 1) := by decide +kernel
theorem dL_law_453 : decode cL_law 453 = .ok (.iload 6, 2) := by decide +kernel
theorem dL_law_455 : decode cL_law 455 = .ok (.i2l, 1) := by decide +kernel
theorem dL_law_456 : decode cL_law 456 = .ok (.lcmp, 1) := by decide +kernel
theorem dL_law_457 : decode cL_law 457 = .ok (.ifCond .eq 5, 3) := by decide +kernel
theorem dL_law_460 : decode cL_law 460 = .ok (.iconst 0, 1) := by decide +kernel
theorem dL_law_461 : decode cL_law 461 = .ok (.ireturn, 1) := by decide +kernel
theorem dL_law_462 : decode cL_law 462 = .ok (.goto 1684, 3) := by decide +kernel
theorem dL_law_465 : decode cL_law 465 = .ok (.aload_n 1, 1) := by decide +kernel
theorem dL_law_466 : decode cL_law 466 = .ok (.aload_n 0, 1) := by decide +kernel
theorem dL_law_467 : decode cL_law 467 = .ok (.iload 4, 2) := by decide +kernel
theorem dL_law_469 : decode cL_law 469 = .ok (.iconst 1, 1) := by decide +kernel
theorem dL_law_470 : decode cL_law 470 = .ok (.iadd, 1) := by decide +kernel
theorem dL_law_471 : decode cL_law 471 = .ok (.iaload, 1) := by decide +kernel
theorem dL_law_472 : decode cL_law 472 = .ok (.aload_n 0, 1) := by decide +kernel
theorem dL_law_473 : decode cL_law 473 = .ok (.iload 4, 2) := by decide +kernel
theorem dL_law_475 : decode cL_law 475 = .ok (.iconst 2, 1) := by decide +kernel
theorem dL_law_476 : decode cL_law 476 = .ok (.iadd, 1) := by decide +kernel
theorem dL_law_477 : decode cL_law 477 = .ok (.iaload, 1) := by decide +kernel
theorem dL_law_478 : decode cL_law 478 = .ok (.aload_n 3, 1) := by decide +kernel
theorem dL_law_479 : decode cL_law 479 = .ok (.invokestatic 142, 3) := by decide +kernel
theorem dL_law_482 : decode cL_law 482 = .ok (.istore 5, 2) := by decide +kernel
theorem dL_law_484 : decode cL_law 484 = .ok (.aload_n 2, 1) := by decide +kernel
theorem dL_law_485 : decode cL_law 485 = .ok (.aload_n 0, 1) := by decide +kernel
theorem dL_law_486 : decode cL_law 486 = .ok (.iload 4, 2) := by decide +kernel
theorem dL_law_488 : decode cL_law 488 = .ok (.iconst 1, 1) := by decide +kernel
theorem dL_law_489 : decode cL_law 489 = .ok (.iadd, 1) := by decide +kernel
theorem dL_law_490 : decode cL_law 490 = .ok (.iaload, 1) := by decide +kernel
theorem dL_law_491 : decode cL_law 491 = .ok (.aload_n 0, 1) := by decide +kernel
theorem dL_law_492 : decode cL_law 492 = .ok (.iload 4, 2) := by decide +kernel
theorem dL_law_494 : decode cL_law 494 = .ok (.iconst 2, 1) := by decide +kernel
theorem dL_law_495 : decode cL_law 495 = .ok (.iadd, 1) := by decide +kernel
theorem dL_law_496 : decode cL_law 496 = .ok (.iaload, 1) := by decide +kernel
theorem dL_law_497 : decode cL_law 497 = .ok (.invokevirtual 144, 3) := by decide +kernel
theorem dL_law_500 : decode cL_law 500 = .ok (.istore 6, 2) := by decide +kernel
theorem dL_law_502 : decode cL_law 502 = .ok (.aload_n 2, 1) := by decide +kernel
theorem dL_law_503 : decode cL_law 503 = .ok (.invokevirtual 123, 3) := by decide +kernel
theorem dL_law_506 : decode cL_law 506 = .ok (.iload 5, 2) := by decide +kernel
theorem dL_law_508 : decode cL_law 508 = .ok (.if_icmp .eq 5, 3) := by decide +kernel
theorem dL_law_511 : decode cL_law 511 = .ok (.iconst 0, 1) := by decide +kernel
theorem dL_law_512 : decode cL_law 512 = .ok (.ireturn, 1) := by decide +kernel
theorem dL_law_513 : decode cL_law 513 = .ok (.iload 5, 2) := by decide +kernel
theorem dL_law_515 : decode cL_law 515 = .ok (.ifCond .ne 15, 3) := by decide +kernel
theorem dL_law_518 : decode cL_law 518 = .ok (.aload_n 3, 1) := by decide +kernel
theorem dL_law_519 : decode cL_law 519 = .ok (.iconst 0, 1) := by decide +kernel
theorem dL_law_520 : decode cL_law 520 = .ok (.laload, 1) := by decide +kernel
theorem dL_law_521 : decode cL_law 521 = .ok (.iload 6, 2) := by decide +kernel
theorem dL_law_523 : decode cL_law 523 = .ok (.i2l, 1) := by decide +kernel
theorem dL_law_524 : decode cL_law 524 = .ok (.lcmp, 1) := by decide +kernel
theorem dL_law_525 : decode cL_law 525 = .ok (.ifCond .eq 5, 3) := by decide +kernel
theorem dL_law_528 : decode cL_law 528 = .ok (.iconst 0, 1) := by decide +kernel
theorem dL_law_529 : decode cL_law 529 = .ok (.ireturn, 1) := by decide +kernel
theorem dL_law_530 : decode cL_law 530 = .ok (.goto 1616, 3) := by decide +kernel
theorem dL_law_533 : decode cL_law 533 = .ok (.aload_n 1, 1) := by decide +kernel
theorem dL_law_534 : decode cL_law 534 = .ok (.aload_n 0, 1) := by decide +kernel
theorem dL_law_535 : decode cL_law 535 = .ok (.iload 4, 2) := by decide +kernel
theorem dL_law_537 : decode cL_law 537 = .ok (.iconst 1, 1) := by decide +kernel
theorem dL_law_538 : decode cL_law 538 = .ok (.iadd, 1) := by decide +kernel
theorem dL_law_539 : decode cL_law 539 = .ok (.iaload, 1) := by decide +kernel
theorem dL_law_540 : decode cL_law 540 = .ok (.aload_n 3, 1) := by decide +kernel
theorem dL_law_541 : decode cL_law 541 = .ok (.invokestatic 145, 3) := by decide +kernel
theorem dL_law_544 : decode cL_law 544 = .ok (.istore 5, 2) := by decide +kernel
theorem dL_law_546 : decode cL_law 546 = .ok (.aload_n 2, 1) := by decide +kernel
theorem dL_law_547 : decode cL_law 547 = .ok (.aload_n 0, 1) := by decide +kernel
theorem dL_law_548 : decode cL_law 548 = .ok (.iload 4, 2) := by decide +kernel
theorem dL_law_550 : decode cL_law 550 = .ok (.iconst 1, 1) := by decide +kernel
theorem dL_law_551 : decode cL_law 551 = .ok (.iadd, 1) := by decide +kernel
theorem dL_law_552 : decode cL_law 552 = .ok (.iaload, 1) := by decide +kernel
theorem dL_law_553 : decode cL_law 553 = .ok (.invokevirtual 147, 3) := by decide +kernel
theorem dL_law_556 : decode cL_law 556 = .ok (.istore 6, 2) := by decide +kernel
theorem dL_law_558 : decode cL_law 558 = .ok (.aload_n 2, 1) := by decide +kernel
theorem dL_law_559 : decode cL_law 559 = .ok (.invokevirtual 123, 3) := by decide +kernel
theorem dL_law_562 : decode cL_law 562 = .ok (.iload 5, 2) := by decide +kernel
theorem dL_law_564 : decode cL_law 564 = .ok (.if_icmp .eq 5, 3) := by decide +kernel
theorem dL_law_567 : decode cL_law 567 = .ok (.iconst 0, 1) := by decide +kernel
theorem dL_law_568 : decode cL_law 568 = .ok (.ireturn, 1) := by decide +kernel
theorem dL_law_569 : decode cL_law 569 = .ok (.iload 5, 2) := by decide +kernel
theorem dL_law_571 : decode cL_law 571 = .ok (.ifCond .ne 15, 3) := by decide +kernel
theorem dL_law_574 : decode cL_law 574 = .ok (.aload_n 3, 1) := by decide +kernel
theorem dL_law_575 : decode cL_law 575 = .ok (.iconst 0, 1) := by decide +kernel
theorem dL_law_576 : decode cL_law 576 = .ok (.laload, 1) := by decide +kernel
theorem dL_law_577 : decode cL_law 577 = .ok (.iload 6, 2) := by decide +kernel
theorem dL_law_579 : decode cL_law 579 = .ok (.i2l, 1) := by decide +kernel
theorem dL_law_580 : decode cL_law 580 = .ok (.lcmp, 1) := by decide +kernel
theorem dL_law_581 : decode cL_law 581 = .ok (.ifCond .eq 5, 3) := by decide +kernel
theorem dL_law_584 : decode cL_law 584 = .ok (.iconst 0, 1) := by decide +kernel
theorem dL_law_585 : decode cL_law 585 = .ok (.ireturn, 1) := by decide +kernel
theorem dL_law_586 : decode cL_law 586 = .ok (.goto 1560, 3) := by decide +kernel
theorem dL_law_589 : decode cL_law 589 = .ok (.aload_n 1, 1) := by decide +kernel
theorem dL_law_590 : decode cL_law 590 = .ok (.aload_n 0, 1) := by decide +kernel
theorem dL_law_591 : decode cL_law 591 = .ok (.iload 4, 2) := by decide +kernel
theorem dL_law_593 : decode cL_law 593 = .ok (.iconst 1, 1) := by decide +kernel
theorem dL_law_594 : decode cL_law 594 = .ok (.iadd, 1) := by decide +kernel
theorem dL_law_595 : decode cL_law 595 = .ok (.iaload, 1) := by decide +kernel
theorem dL_law_596 : decode cL_law 596 = .ok (.aload_n 0, 1) := by decide +kernel
theorem dL_law_597 : decode cL_law 597 = .ok (.iload 4, 2) := by decide +kernel
theorem dL_law_599 : decode cL_law 599 = .ok (.iconst 2, 1) := by decide +kernel
theorem dL_law_600 : decode cL_law 600 = .ok (.iadd, 1) := by decide +kernel
theorem dL_law_601 : decode cL_law 601 = .ok (.iaload, 1) := by decide +kernel
theorem dL_law_602 : decode cL_law 602 = .ok (.aload_n 3, 1) := by decide +kernel
theorem dL_law_603 : decode cL_law 603 = .ok (.invokestatic 148, 3) := by decide +kernel
theorem dL_law_606 : decode cL_law 606 = .ok (.istore 5, 2) := by decide +kernel
theorem dL_law_608 : decode cL_law 608 = .ok (.aload_n 2, 1) := by decide +kernel
theorem dL_law_609 : decode cL_law 609 = .ok (.aload_n 0, 1) := by decide +kernel
theorem dL_law_610 : decode cL_law 610 = .ok (.iload 4, 2) := by decide +kernel
theorem dL_law_612 : decode cL_law 612 = .ok (.iconst 1, 1) := by decide +kernel
theorem dL_law_613 : decode cL_law 613 = .ok (.iadd, 1) := by decide +kernel
theorem dL_law_614 : decode cL_law 614 = .ok (.iaload, 1) := by decide +kernel
theorem dL_law_615 : decode cL_law 615 = .ok (.aload_n 0, 1) := by decide +kernel
theorem dL_law_616 : decode cL_law 616 = .ok (.iload 4, 2) := by decide +kernel
theorem dL_law_618 : decode cL_law 618 = .ok (.iconst 2, 1) := by decide +kernel
theorem dL_law_619 : decode cL_law 619 = .ok (.iadd, 1) := by decide +kernel
theorem dL_law_620 : decode cL_law 620 = .ok (.iaload, 1) := by decide +kernel
theorem dL_law_621 : decode cL_law 621 = .ok (.invokevirtual 150, 3) := by decide +kernel
theorem dL_law_624 : decode cL_law 624 = .ok (.istore 6, 2) := by decide +kernel
theorem dL_law_626 : decode cL_law 626 = .ok (.aload_n 2, 1) := by decide +kernel
theorem dL_law_627 : decode cL_law 627 = .ok (.invokevirtual 123, 3) := by decide +kernel
theorem dL_law_630 : decode cL_law 630 = .ok (.iload 5, 2) := by decide +kernel
theorem dL_law_632 : decode cL_law 632 = .ok (.if_icmp .eq 5, 3) := by decide +kernel
theorem dL_law_635 : decode cL_law 635 = .ok (.iconst 0, 1) := by decide +kernel
theorem dL_law_636 : decode cL_law 636 = .ok (.ireturn, 1) := by decide +kernel
theorem dL_law_637 : decode cL_law 637 = .ok (.iload 5, 2) := by decide +kernel
theorem dL_law_639 : decode cL_law 639 = .ok (.ifCond .ne 15, 3) := by decide +kernel
theorem dL_law_642 : decode cL_law 642 = .ok (.aload_n 3, 1) := by decide +kernel
theorem dL_law_643 : decode cL_law 643 = .ok (.iconst 0, 1) := by decide +kernel
theorem dL_law_644 : decode cL_law 644 = .ok (.laload, 1) := by decide +kernel
theorem dL_law_645 : decode cL_law 645 = .ok (.iload 6, 2) := by decide +kernel
theorem dL_law_647 : decode cL_law 647 = .ok (.i2l, 1) := by decide +kernel
theorem dL_law_648 : decode cL_law 648 = .ok (.lcmp, 1) := by decide +kernel
theorem dL_law_649 : decode cL_law 649 = .ok (.ifCond .eq 5, 3) := by decide +kernel
theorem dL_law_652 : decode cL_law 652 = .ok (.iconst 0, 1) := by decide +kernel
theorem dL_law_653 : decode cL_law 653 = .ok (.ireturn, 1) := by decide +kernel
theorem dL_law_654 : decode cL_law 654 = .ok (.goto 1492, 3) := by decide +kernel
theorem dL_law_657 : decode cL_law 657 = .ok (.aload_n 1, 1) := by decide +kernel
theorem dL_law_658 : decode cL_law 658 = .ok (.invokevirtual 151, 3) := by decide +kernel
theorem dL_law_661 : decode cL_law 661 = .ok (.aload_n 2, 1) := by decide +kernel
theorem dL_law_662 : decode cL_law 662 = .ok (.invokevirtual 154, 3) := by decide +kernel
theorem dL_law_665 : decode cL_law 665 = .ok (.if_icmp .eq 1481, 3) := by decide +kernel
theorem dL_law_668 : decode cL_law 668 = .ok (.iconst 0, 1) := by decide +kernel
theorem dL_law_669 : decode cL_law 669 = .ok (.ireturn, 1) := by decide +kernel
theorem dL_law_670 : decode cL_law 670 = .ok (.aload_n 1, 1) := by decide +kernel
theorem dL_law_671 : decode cL_law 671 = .ok (.invokevirtual 155, 3) := by decide +kernel
theorem dL_law_674 : decode cL_law 674 = .ok (.aload_n 2, 1) := by decide +kernel
theorem dL_law_675 : decode cL_law 675 = .ok (.invokevirtual 158, 3) := by decide +kernel
theorem dL_law_678 : decode cL_law 678 = .ok (.if_icmp .eq 1468, 3) := by decide +kernel
theorem dL_law_681 : decode cL_law 681 = .ok (.iconst 0, 1) := by decide +kernel
theorem dL_law_682 : decode cL_law 682 = .ok (.ireturn, 1) := by decide +kernel
theorem dL_law_683 : decode cL_law 683 = .ok (.aload_n 1, 1) := by decide +kernel
theorem dL_law_684 : decode cL_law 684 = .ok (.aload_n 0, 1) := by decide +kernel
theorem dL_law_685 : decode cL_law 685 = .ok (.iload 4, 2) := by decide +kernel
theorem dL_law_687 : decode cL_law 687 = .ok (.iconst 1, 1) := by decide +kernel
theorem dL_law_688 : decode cL_law 688 = .ok (.iadd, 1) := by decide +kernel
theorem dL_law_689 : decode cL_law 689 = .ok (.iaload, 1) := by decide +kernel
theorem dL_law_690 : decode cL_law 690 = .ok (.aload_n 3, 1) := by decide +kernel
theorem dL_law_691 : decode cL_law 691 = .ok (.invokestatic 159, 3) := by decide +kernel
theorem dL_law_694 : decode cL_law 694 = .ok (.istore 5, 2) := by decide +kernel
theorem dL_law_696 : decode cL_law 696 = .ok (.aload_n 2, 1) := by decide +kernel
theorem dL_law_697 : decode cL_law 697 = .ok (.aload_n 0, 1) := by decide +kernel
theorem dL_law_698 : decode cL_law 698 = .ok (.iload 4, 2) := by decide +kernel
theorem dL_law_700 : decode cL_law 700 = .ok (.iconst 1, 1) := by decide +kernel
theorem dL_law_701 : decode cL_law 701 = .ok (.iadd, 1) := by decide +kernel
theorem dL_law_702 : decode cL_law 702 = .ok (.iaload, 1) := by decide +kernel
theorem dL_law_703 : decode cL_law 703 = .ok (.invokevirtual 161, 3) := by decide +kernel
theorem dL_law_706 : decode cL_law 706 = .ok (.istore 6, 2) := by decide +kernel
theorem dL_law_708 : decode cL_law 708 = .ok (.aload_n 2, 1) := by decide +kernel
theorem dL_law_709 : decode cL_law 709 = .ok (.invokevirtual 123, 3) := by decide +kernel
theorem dL_law_712 : decode cL_law 712 = .ok (.iload 5, 2) := by decide +kernel
theorem dL_law_714 : decode cL_law 714 = .ok (.if_icmp .eq 5, 3) := by decide +kernel
theorem dL_law_717 : decode cL_law 717 = .ok (.iconst 0, 1) := by decide +kernel
theorem dL_law_718 : decode cL_law 718 = .ok (.ireturn, 1) := by decide +kernel
theorem dL_law_719 : decode cL_law 719 = .ok (.iload 5, 2) := by decide +kernel
theorem dL_law_721 : decode cL_law 721 = .ok (.ifCond .ne 15, 3) := by decide +kernel
theorem dL_law_724 : decode cL_law 724 = .ok (.aload_n 3, 1) := by decide +kernel
theorem dL_law_725 : decode cL_law 725 = .ok (.iconst 0, 1) := by decide +kernel
theorem dL_law_726 : decode cL_law 726 = .ok (.laload, 1) := by decide +kernel
theorem dL_law_727 : decode cL_law 727 = .ok (.iload 6, 2) := by decide +kernel
theorem dL_law_729 : decode cL_law 729 = .ok (.i2l, 1) := by decide +kernel
theorem dL_law_730 : decode cL_law 730 = .ok (.lcmp, 1) := by decide +kernel
theorem dL_law_731 : decode cL_law 731 = .ok (.ifCond .eq 5, 3) := by decide +kernel
theorem dL_law_734 : decode cL_law 734 = .ok (.iconst 0, 1) := by decide +kernel
theorem dL_law_735 : decode cL_law 735 = .ok (.ireturn, 1) := by decide +kernel
theorem dL_law_736 : decode cL_law 736 = .ok (.goto 1410, 3) := by decide +kernel
theorem dL_law_739 : decode cL_law 739 = .ok (.aload_n 1, 1) := by decide +kernel
theorem dL_law_740 : decode cL_law 740 = .ok (.aload_n 0, 1) := by decide +kernel
theorem dL_law_741 : decode cL_law 741 = .ok (.iload 4, 2) := by decide +kernel
theorem dL_law_743 : decode cL_law 743 = .ok (.iconst 1, 1) := by decide +kernel
theorem dL_law_744 : decode cL_law 744 = .ok (.iadd, 1) := by decide +kernel
theorem dL_law_745 : decode cL_law 745 = .ok (.iaload, 1) := by decide +kernel
theorem dL_law_746 : decode cL_law 746 = .ok (.aload_n 0, 1) := by decide +kernel
theorem dL_law_747 : decode cL_law 747 = .ok (.iload 4, 2) := by decide +kernel
theorem dL_law_749 : decode cL_law 749 = .ok (.iconst 2, 1) := by decide +kernel
theorem dL_law_750 : decode cL_law 750 = .ok (.iadd, 1) := by decide +kernel
theorem dL_law_751 : decode cL_law 751 = .ok (.iaload, 1) := by decide +kernel
theorem dL_law_752 : decode cL_law 752 = .ok (.aload_n 3, 1) := by decide +kernel
theorem dL_law_753 : decode cL_law 753 = .ok (.invokestatic 162, 3) := by decide +kernel
theorem dL_law_756 : decode cL_law 756 = .ok (.istore 5, 2) := by decide +kernel
theorem dL_law_758 : decode cL_law 758 = .ok (.aload_n 2, 1) := by decide +kernel
theorem dL_law_759 : decode cL_law 759 = .ok (.aload_n 0, 1) := by decide +kernel
theorem dL_law_760 : decode cL_law 760 = .ok (.iload 4, 2) := by decide +kernel
theorem dL_law_762 : decode cL_law 762 = .ok (.iconst 1, 1) := by decide +kernel
theorem dL_law_763 : decode cL_law 763 = .ok (.iadd, 1) := by decide +kernel
theorem dL_law_764 : decode cL_law 764 = .ok (.iaload, 1) := by decide +kernel
theorem dL_law_765 : decode cL_law 765 = .ok (.aload_n 0, 1) := by decide +kernel
theorem dL_law_766 : decode cL_law 766 = .ok (.iload 4, 2) := by decide +kernel
theorem dL_law_768 : decode cL_law 768 = .ok (.iconst 2, 1) := by decide +kernel
theorem dL_law_769 : decode cL_law 769 = .ok (.iadd, 1) := by decide +kernel
theorem dL_law_770 : decode cL_law 770 = .ok (.iaload, 1) := by decide +kernel
theorem dL_law_771 : decode cL_law 771 = .ok (.invokevirtual 164, 3) := by decide +kernel
theorem dL_law_774 : decode cL_law 774 = .ok (.istore 6, 2) := by decide +kernel
theorem dL_law_776 : decode cL_law 776 = .ok (.aload_n 2, 1) := by decide +kernel
theorem dL_law_777 : decode cL_law 777 = .ok (.invokevirtual 123, 3) := by decide +kernel
theorem dL_law_780 : decode cL_law 780 = .ok (.iload 5, 2) := by decide +kernel
theorem dL_law_782 : decode cL_law 782 = .ok (.if_icmp .eq 5, 3) := by decide +kernel
theorem dL_law_785 : decode cL_law 785 = .ok (.iconst 0, 1) := by decide +kernel
theorem dL_law_786 : decode cL_law 786 = .ok (.ireturn, 1) := by decide +kernel
theorem dL_law_787 : decode cL_law 787 = .ok (.iload 5, 2) := by decide +kernel
theorem dL_law_789 : decode cL_law 789 = .ok (.ifCond .ne 22, 3) := by decide +kernel
theorem dL_law_792 : decode cL_law 792 = .ok (.aload_n 3, 1) := by decide +kernel
theorem dL_law_793 : decode cL_law 793 = .ok (.iconst 0, 1) := by decide +kernel
theorem dL_law_794 : decode cL_law 794 = .ok (.laload, 1) := by decide +kernel
theorem dL_law_795 : decode cL_law 795 = .ok (.iload 6, 2) := by decide +kernel
theorem dL_law_797 : decode cL_law 797 = .ok (.ifCond .eq 7, 3) := by decide +kernel
theorem dL_law_800 : decode cL_law 800 = .ok (.lconst 1, 1) := by decide +kernel
theorem dL_law_801 : decode cL_law 801 = .ok (.goto 4, 3) := by decide +kernel
theorem dL_law_804 : decode cL_law 804 = .ok (.lconst 0, 1) := by decide +kernel
theorem dL_law_805 : decode cL_law 805 = .ok (.lcmp, 1) := by decide +kernel
theorem dL_law_806 : decode cL_law 806 = .ok (.ifCond .eq 5, 3) := by decide +kernel
theorem dL_law_809 : decode cL_law 809 = .ok (.iconst 0, 1) := by decide +kernel
theorem dL_law_810 : decode cL_law 810 = .ok (.ireturn, 1) := by decide +kernel
theorem dL_law_811 : decode cL_law 811 = .ok (.goto 1335, 3) := by decide +kernel
theorem dL_law_814 : decode cL_law 814 = .ok (.aload_n 1, 1) := by decide +kernel
theorem dL_law_815 : decode cL_law 815 = .ok (.aload_n 0, 1) := by decide +kernel
theorem dL_law_816 : decode cL_law 816 = .ok (.iload 4, 2) := by decide +kernel
theorem dL_law_818 : decode cL_law 818 = .ok (.iconst 1, 1) := by decide +kernel
theorem dL_law_819 : decode cL_law 819 = .ok (.iadd, 1) := by decide +kernel
theorem dL_law_820 : decode cL_law 820 = .ok (.iaload, 1) := by decide +kernel
theorem dL_law_821 : decode cL_law 821 = .ok (.aload_n 0, 1) := by decide +kernel
theorem dL_law_822 : decode cL_law 822 = .ok (.iload 4, 2) := by decide +kernel
theorem dL_law_824 : decode cL_law 824 = .ok (.iconst 2, 1) := by decide +kernel
theorem dL_law_825 : decode cL_law 825 = .ok (.iadd, 1) := by decide +kernel
theorem dL_law_826 : decode cL_law 826 = .ok (.iaload, 1) := by decide +kernel
theorem dL_law_827 : decode cL_law 827 = .ok (.aload_n 3, 1) := by decide +kernel
theorem dL_law_828 : decode cL_law 828 = .ok (.invokestatic 165, 3) := by decide +kernel
theorem dL_law_831 : decode cL_law 831 = .ok (.istore 5, 2) := by decide +kernel
theorem dL_law_833 : decode cL_law 833 = .ok (.aload_n 2, 1) := by decide +kernel
theorem dL_law_834 : decode cL_law 834 = .ok (.aload_n 0, 1) := by decide +kernel
theorem dL_law_835 : decode cL_law 835 = .ok (.iload 4, 2) := by decide +kernel
theorem dL_law_837 : decode cL_law 837 = .ok (.iconst 1, 1) := by decide +kernel
theorem dL_law_838 : decode cL_law 838 = .ok (.iadd, 1) := by decide +kernel
theorem dL_law_839 : decode cL_law 839 = .ok (.iaload, 1) := by decide +kernel
theorem dL_law_840 : decode cL_law 840 = .ok (.aload_n 0, 1) := by decide +kernel
theorem dL_law_841 : decode cL_law 841 = .ok (.iload 4, 2) := by decide +kernel
theorem dL_law_843 : decode cL_law 843 = .ok (.iconst 2, 1) := by decide +kernel
theorem dL_law_844 : decode cL_law 844 = .ok (.iadd, 1) := by decide +kernel
theorem dL_law_845 : decode cL_law 845 = .ok (.iaload, 1) := by decide +kernel
theorem dL_law_846 : decode cL_law 846 = .ok (.invokevirtual 167, 3) := by decide +kernel
theorem dL_law_849 : decode cL_law 849 = .ok (.istore 6, 2) := by decide +kernel
theorem dL_law_851 : decode cL_law 851 = .ok (.aload_n 2, 1) := by decide +kernel
theorem dL_law_852 : decode cL_law 852 = .ok (.invokevirtual 123, 3) := by decide +kernel
theorem dL_law_855 : decode cL_law 855 = .ok (.iload 5, 2) := by decide +kernel
theorem dL_law_857 : decode cL_law 857 = .ok (.if_icmp .eq 5, 3) := by decide +kernel
theorem dL_law_860 : decode cL_law 860 = .ok (.iconst 0, 1) := by decide +kernel
theorem dL_law_861 : decode cL_law 861 = .ok (.ireturn, 1) := by decide +kernel
theorem dL_law_862 : decode cL_law 862 = .ok (.iload 5, 2) := by decide +kernel
theorem dL_law_864 : decode cL_law 864 = .ok (.ifCond .ne 15, 3) := by decide +kernel
theorem dL_law_867 : decode cL_law 867 = .ok (.aload_n 3, 1) := by decide +kernel
theorem dL_law_868 : decode cL_law 868 = .ok (.iconst 0, 1) := by decide +kernel
theorem dL_law_869 : decode cL_law 869 = .ok (.laload, 1) := by decide +kernel
theorem dL_law_870 : decode cL_law 870 = .ok (.iload 6, 2) := by decide +kernel
theorem dL_law_872 : decode cL_law 872 = .ok (.i2l, 1) := by decide +kernel
theorem dL_law_873 : decode cL_law 873 = .ok (.lcmp, 1) := by decide +kernel
theorem dL_law_874 : decode cL_law 874 = .ok (.ifCond .eq 5, 3) := by decide +kernel
theorem dL_law_877 : decode cL_law 877 = .ok (.iconst 0, 1) := by decide +kernel
theorem dL_law_878 : decode cL_law 878 = .ok (.ireturn, 1) := by decide +kernel
theorem dL_law_879 : decode cL_law 879 = .ok (.goto 1267, 3) := by decide +kernel
theorem dL_law_882 : decode cL_law 882 = .ok (.aload_n 1, 1) := by decide +kernel
theorem dL_law_883 : decode cL_law 883 = .ok (.aload_n 0, 1) := by decide +kernel
theorem dL_law_884 : decode cL_law 884 = .ok (.iload 4, 2) := by decide +kernel
theorem dL_law_886 : decode cL_law 886 = .ok (.iconst 1, 1) := by decide +kernel
theorem dL_law_887 : decode cL_law 887 = .ok (.iadd, 1) := by decide +kernel
theorem dL_law_888 : decode cL_law 888 = .ok (.iaload, 1) := by decide +kernel
theorem dL_law_889 : decode cL_law 889 = .ok (.aload_n 0, 1) := by decide +kernel
theorem dL_law_890 : decode cL_law 890 = .ok (.iload 4, 2) := by decide +kernel
theorem dL_law_892 : decode cL_law 892 = .ok (.iconst 2, 1) := by decide +kernel
theorem dL_law_893 : decode cL_law 893 = .ok (.iadd, 1) := by decide +kernel
theorem dL_law_894 : decode cL_law 894 = .ok (.iaload, 1) := by decide +kernel
theorem dL_law_895 : decode cL_law 895 = .ok (.aload_n 3, 1) := by decide +kernel
theorem dL_law_896 : decode cL_law 896 = .ok (.invokestatic 168, 3) := by decide +kernel
theorem dL_law_899 : decode cL_law 899 = .ok (.istore 5, 2) := by decide +kernel
theorem dL_law_901 : decode cL_law 901 = .ok (.aload_n 2, 1) := by decide +kernel
theorem dL_law_902 : decode cL_law 902 = .ok (.aload_n 0, 1) := by decide +kernel
theorem dL_law_903 : decode cL_law 903 = .ok (.iload 4, 2) := by decide +kernel
theorem dL_law_905 : decode cL_law 905 = .ok (.iconst 1, 1) := by decide +kernel
theorem dL_law_906 : decode cL_law 906 = .ok (.iadd, 1) := by decide +kernel
theorem dL_law_907 : decode cL_law 907 = .ok (.iaload, 1) := by decide +kernel
theorem dL_law_908 : decode cL_law 908 = .ok (.aload_n 0, 1) := by decide +kernel
theorem dL_law_909 : decode cL_law 909 = .ok (.iload 4, 2) := by decide +kernel
theorem dL_law_911 : decode cL_law 911 = .ok (.iconst 2, 1) := by decide +kernel
theorem dL_law_912 : decode cL_law 912 = .ok (.iadd, 1) := by decide +kernel
theorem dL_law_913 : decode cL_law 913 = .ok (.iaload, 1) := by decide +kernel
theorem dL_law_914 : decode cL_law 914 = .ok (.invokevirtual 170, 3) := by decide +kernel
theorem dL_law_917 : decode cL_law 917 = .ok (.istore 6, 2) := by decide +kernel
theorem dL_law_919 : decode cL_law 919 = .ok (.aload_n 2, 1) := by decide +kernel
theorem dL_law_920 : decode cL_law 920 = .ok (.invokevirtual 123, 3) := by decide +kernel
theorem dL_law_923 : decode cL_law 923 = .ok (.iload 5, 2) := by decide +kernel
theorem dL_law_925 : decode cL_law 925 = .ok (.if_icmp .eq 5, 3) := by decide +kernel
theorem dL_law_928 : decode cL_law 928 = .ok (.iconst 0, 1) := by decide +kernel
theorem dL_law_929 : decode cL_law 929 = .ok (.ireturn, 1) := by decide +kernel
theorem dL_law_930 : decode cL_law 930 = .ok (.iload 5, 2) := by decide +kernel
theorem dL_law_932 : decode cL_law 932 = .ok (.ifCond .ne 15, 3) := by decide +kernel
theorem dL_law_935 : decode cL_law 935 = .ok (.aload_n 3, 1) := by decide +kernel
theorem dL_law_936 : decode cL_law 936 = .ok (.iconst 0, 1) := by decide +kernel
theorem dL_law_937 : decode cL_law 937 = .ok (.laload, 1) := by decide +kernel
theorem dL_law_938 : decode cL_law 938 = .ok (.iload 6, 2) := by decide +kernel
theorem dL_law_940 : decode cL_law 940 = .ok (.i2l, 1) := by decide +kernel
theorem dL_law_941 : decode cL_law 941 = .ok (.lcmp, 1) := by decide +kernel
theorem dL_law_942 : decode cL_law 942 = .ok (.ifCond .eq 5, 3) := by decide +kernel
theorem dL_law_945 : decode cL_law 945 = .ok (.iconst 0, 1) := by decide +kernel
theorem dL_law_946 : decode cL_law 946 = .ok (.ireturn, 1) := by decide +kernel
theorem dL_law_947 : decode cL_law 947 = .ok (.goto 1199, 3) := by decide +kernel
theorem dL_law_950 : decode cL_law 950 = .ok (.aload_n 1, 1) := by decide +kernel
theorem dL_law_951 : decode cL_law 951 = .ok (.invokevirtual 171, 3) := by decide +kernel
theorem dL_law_954 : decode cL_law 954 = .ok (.aload_n 2, 1) := by decide +kernel
theorem dL_law_955 : decode cL_law 955 = .ok (.invokevirtual 174, 3) := by decide +kernel
theorem dL_law_958 : decode cL_law 958 = .ok (.if_icmp .eq 1188, 3) := by decide +kernel
theorem dL_law_961 : decode cL_law 961 = .ok (.iconst 0, 1) := by decide +kernel
theorem dL_law_962 : decode cL_law 962 = .ok (.ireturn, 1) := by decide +kernel
theorem dL_law_963 : decode cL_law 963 = .ok (.aload_n 1, 1) := by decide +kernel
theorem dL_law_964 : decode cL_law 964 = .ok (.aload_n 0, 1) := by decide +kernel
theorem dL_law_965 : decode cL_law 965 = .ok (.iload 4, 2) := by decide +kernel
theorem dL_law_967 : decode cL_law 967 = .ok (.iconst 1, 1) := by decide +kernel
theorem dL_law_968 : decode cL_law 968 = .ok (.iadd, 1) := by decide +kernel
theorem dL_law_969 : decode cL_law 969 = .ok (.iaload, 1) := by decide +kernel
theorem dL_law_970 : decode cL_law 970 = .ok (.aload_n 3, 1) := by decide +kernel
theorem dL_law_971 : decode cL_law 971 = .ok (.invokestatic 175, 3) := by decide +kernel
theorem dL_law_974 : decode cL_law 974 = .ok (.istore 5, 2) := by decide +kernel
theorem dL_law_976 : decode cL_law 976 = .ok (.aload_n 2, 1) := by decide +kernel
theorem dL_law_977 : decode cL_law 977 = .ok (.aload_n 0, 1) := by decide +kernel
theorem dL_law_978 : decode cL_law 978 = .ok (.iload 4, 2) := by decide +kernel
theorem dL_law_980 : decode cL_law 980 = .ok (.iconst 1, 1) := by decide +kernel
theorem dL_law_981 : decode cL_law 981 = .ok (.iadd, 1) := by decide +kernel
theorem dL_law_982 : decode cL_law 982 = .ok (.iaload, 1) := by decide +kernel
theorem dL_law_983 : decode cL_law 983 = .ok (.invokevirtual 177, 3) := by decide +kernel
theorem dL_law_986 : decode cL_law 986 = .ok (.istore 6, 2) := by decide +kernel
theorem dL_law_988 : decode cL_law 988 = .ok (.aload_n 2, 1) := by decide +kernel
theorem dL_law_989 : decode cL_law 989 = .ok (.invokevirtual 123, 3) := by decide +kernel
theorem dL_law_992 : decode cL_law 992 = .ok (.iload 5, 2) := by decide +kernel
theorem dL_law_994 : decode cL_law 994 = .ok (.if_icmp .eq 5, 3) := by decide +kernel
theorem dL_law_997 : decode cL_law 997 = .ok (.iconst 0, 1) := by decide +kernel
theorem dL_law_998 : decode cL_law 998 = .ok (.ireturn, 1) := by decide +kernel
theorem dL_law_999 : decode cL_law 999 = .ok (.iload 5, 2) := by decide +kernel
theorem dL_law_1001 : decode cL_law 1001 = .ok (.ifCond .ne 15, 3) := by decide +kernel
theorem dL_law_1004 : decode cL_law 1004 = .ok (.aload_n 3, 1) := by decide +kernel
theorem dL_law_1005 : decode cL_law 1005 = .ok (.iconst 0, 1) := by decide +kernel
theorem dL_law_1006 : decode cL_law 1006 = .ok (.laload, 1) := by decide +kernel
theorem dL_law_1007 : decode cL_law 1007 = .ok (.iload 6, 2) := by decide +kernel
theorem dL_law_1009 : decode cL_law 1009 = .ok (.i2l, 1) := by decide +kernel
theorem dL_law_1010 : decode cL_law 1010 = .ok (.lcmp, 1) := by decide +kernel
theorem dL_law_1011 : decode cL_law 1011 = .ok (.ifCond .eq 5, 3) := by decide +kernel
theorem dL_law_1014 : decode cL_law 1014 = .ok (.iconst 0, 1) := by decide +kernel
theorem dL_law_1015 : decode cL_law 1015 = .ok (.ireturn, 1) := by decide +kernel
theorem dL_law_1016 : decode cL_law 1016 = .ok (.goto 1130, 3) := by decide +kernel
theorem dL_law_1019 : decode cL_law 1019 = .ok (.aload_n 1, 1) := by decide +kernel
theorem dL_law_1020 : decode cL_law 1020 = .ok (.aload_n 0, 1) := by decide +kernel
theorem dL_law_1021 : decode cL_law 1021 = .ok (.iload 4, 2) := by decide +kernel
theorem dL_law_1023 : decode cL_law 1023 = .ok (.iconst 1, 1) := by decide +kernel
theorem dL_law_1024 : decode cL_law 1024 = .ok (.iadd, 1) := by decide +kernel
theorem dL_law_1025 : decode cL_law 1025 = .ok (.iaload, 1) := by decide +kernel
theorem dL_law_1026 : decode cL_law 1026 = .ok (.aload_n 0, 1) := by decide +kernel
theorem dL_law_1027 : decode cL_law 1027 = .ok (.iload 4, 2) := by decide +kernel
theorem dL_law_1029 : decode cL_law 1029 = .ok (.iconst 2, 1) := by decide +kernel
theorem dL_law_1030 : decode cL_law 1030 = .ok (.iadd, 1) := by decide +kernel
theorem dL_law_1031 : decode cL_law 1031 = .ok (.iaload, 1) := by decide +kernel
theorem dL_law_1032 : decode cL_law 1032 = .ok (.aload_n 3, 1) := by decide +kernel
theorem dL_law_1033 : decode cL_law 1033 = .ok (.invokestatic 178, 3) := by decide +kernel
theorem dL_law_1036 : decode cL_law 1036 = .ok (.istore 5, 2) := by decide +kernel
theorem dL_law_1038 : decode cL_law 1038 = .ok (.aload_n 2, 1) := by decide +kernel
theorem dL_law_1039 : decode cL_law 1039 = .ok (.aload_n 0, 1) := by decide +kernel
theorem dL_law_1040 : decode cL_law 1040 = .ok (.iload 4, 2) := by decide +kernel
theorem dL_law_1042 : decode cL_law 1042 = .ok (.iconst 1, 1) := by decide +kernel
theorem dL_law_1043 : decode cL_law 1043 = .ok (.iadd, 1) := by decide +kernel
theorem dL_law_1044 : decode cL_law 1044 = .ok (.iaload, 1) := by decide +kernel
theorem dL_law_1045 : decode cL_law 1045 = .ok (.aload_n 0, 1) := by decide +kernel
theorem dL_law_1046 : decode cL_law 1046 = .ok (.iload 4, 2) := by decide +kernel
theorem dL_law_1048 : decode cL_law 1048 = .ok (.iconst 2, 1) := by decide +kernel
theorem dL_law_1049 : decode cL_law 1049 = .ok (.iadd, 1) := by decide +kernel
theorem dL_law_1050 : decode cL_law 1050 = .ok (.iaload, 1) := by decide +kernel
theorem dL_law_1051 : decode cL_law 1051 = .ok (.invokevirtual 180, 3) := by decide +kernel
theorem dL_law_1054 : decode cL_law 1054 = .ok (.istore 6, 2) := by decide +kernel
theorem dL_law_1056 : decode cL_law 1056 = .ok (.aload_n 2, 1) := by decide +kernel
theorem dL_law_1057 : decode cL_law 1057 = .ok (.invokevirtual 123, 3) := by decide +kernel
theorem dL_law_1060 : decode cL_law 1060 = .ok (.iload 5, 2) := by decide +kernel
theorem dL_law_1062 : decode cL_law 1062 = .ok (.if_icmp .eq 5, 3) := by decide +kernel
theorem dL_law_1065 : decode cL_law 1065 = .ok (.iconst 0, 1) := by decide +kernel
theorem dL_law_1066 : decode cL_law 1066 = .ok (.ireturn, 1) := by decide +kernel
theorem dL_law_1067 : decode cL_law 1067 = .ok (.iload 5, 2) := by decide +kernel
theorem dL_law_1069 : decode cL_law 1069 = .ok (.ifCond .ne 15, 3) := by decide +kernel
theorem dL_law_1072 : decode cL_law 1072 = .ok (.aload_n 3, 1) := by decide +kernel
theorem dL_law_1073 : decode cL_law 1073 = .ok (.iconst 0, 1) := by decide +kernel
theorem dL_law_1074 : decode cL_law 1074 = .ok (.laload, 1) := by decide +kernel
theorem dL_law_1075 : decode cL_law 1075 = .ok (.iload 6, 2) := by decide +kernel
theorem dL_law_1077 : decode cL_law 1077 = .ok (.i2l, 1) := by decide +kernel
theorem dL_law_1078 : decode cL_law 1078 = .ok (.lcmp, 1) := by decide +kernel
theorem dL_law_1079 : decode cL_law 1079 = .ok (.ifCond .eq 5, 3) := by decide +kernel
theorem dL_law_1082 : decode cL_law 1082 = .ok (.iconst 0, 1) := by decide +kernel
theorem dL_law_1083 : decode cL_law 1083 = .ok (.ireturn, 1) := by decide +kernel
theorem dL_law_1084 : decode cL_law 1084 = .ok (.goto 1062, 3) := by decide +kernel
theorem dL_law_1087 : decode cL_law 1087 = .ok (.aload_n 1, 1) := by decide +kernel
theorem dL_law_1088 : decode cL_law 1088 = .ok (.aload_n 0, 1) := by decide +kernel
theorem dL_law_1089 : decode cL_law 1089 = .ok (.iload 4, 2) := by decide +kernel
theorem dL_law_1091 : decode cL_law 1091 = .ok (.iconst 1, 1) := by decide +kernel
theorem dL_law_1092 : decode cL_law 1092 = .ok (.iadd, 1) := by decide +kernel
theorem dL_law_1093 : decode cL_law 1093 = .ok (.iaload, 1) := by decide +kernel
theorem dL_law_1094 : decode cL_law 1094 = .ok (.aload_n 0, 1) := by decide +kernel
theorem dL_law_1095 : decode cL_law 1095 = .ok (.iload 4, 2) := by decide +kernel
theorem dL_law_1097 : decode cL_law 1097 = .ok (.iconst 2, 1) := by decide +kernel
theorem dL_law_1098 : decode cL_law 1098 = .ok (.iadd, 1) := by decide +kernel
theorem dL_law_1099 : decode cL_law 1099 = .ok (.iaload, 1) := by decide +kernel
theorem dL_law_1100 : decode cL_law 1100 = .ok (.aload_n 3, 1) := by decide +kernel
theorem dL_law_1101 : decode cL_law 1101 = .ok (.invokestatic 181, 3) := by decide +kernel
theorem dL_law_1104 : decode cL_law 1104 = .ok (.istore 5, 2) := by decide +kernel
theorem dL_law_1106 : decode cL_law 1106 = .ok (.aload_n 2, 1) := by decide +kernel
theorem dL_law_1107 : decode cL_law 1107 = .ok (.aload_n 0, 1) := by decide +kernel
theorem dL_law_1108 : decode cL_law 1108 = .ok (.iload 4, 2) := by decide +kernel
theorem dL_law_1110 : decode cL_law 1110 = .ok (.iconst 1, 1) := by decide +kernel
theorem dL_law_1111 : decode cL_law 1111 = .ok (.iadd, 1) := by decide +kernel
theorem dL_law_1112 : decode cL_law 1112 = .ok (.iaload, 1) := by decide +kernel
theorem dL_law_1113 : decode cL_law 1113 = .ok (.aload_n 0, 1) := by decide +kernel
theorem dL_law_1114 : decode cL_law 1114 = .ok (.iload 4, 2) := by decide +kernel
theorem dL_law_1116 : decode cL_law 1116 = .ok (.iconst 2, 1) := by decide +kernel
theorem dL_law_1117 : decode cL_law 1117 = .ok (.iadd, 1) := by decide +kernel
theorem dL_law_1118 : decode cL_law 1118 = .ok (.iaload, 1) := by decide +kernel
theorem dL_law_1119 : decode cL_law 1119 = .ok (.invokevirtual 183, 3) := by decide +kernel
theorem dL_law_1122 : decode cL_law 1122 = .ok (.istore 6, 2) := by decide +kernel
theorem dL_law_1124 : decode cL_law 1124 = .ok (.aload_n 2, 1) := by decide +kernel
theorem dL_law_1125 : decode cL_law 1125 = .ok (.invokevirtual 123, 3) := by decide +kernel
theorem dL_law_1128 : decode cL_law 1128 = .ok (.iload 5, 2) := by decide +kernel
theorem dL_law_1130 : decode cL_law 1130 = .ok (.if_icmp .eq 5, 3) := by decide +kernel
theorem dL_law_1133 : decode cL_law 1133 = .ok (.iconst 0, 1) := by decide +kernel
theorem dL_law_1134 : decode cL_law 1134 = .ok (.ireturn, 1) := by decide +kernel
theorem dL_law_1135 : decode cL_law 1135 = .ok (.iload 5, 2) := by decide +kernel
theorem dL_law_1137 : decode cL_law 1137 = .ok (.ifCond .ne 15, 3) := by decide +kernel
theorem dL_law_1140 : decode cL_law 1140 = .ok (.aload_n 3, 1) := by decide +kernel
theorem dL_law_1141 : decode cL_law 1141 = .ok (.iconst 0, 1) := by decide +kernel
theorem dL_law_1142 : decode cL_law 1142 = .ok (.laload, 1) := by decide +kernel
theorem dL_law_1143 : decode cL_law 1143 = .ok (.iload 6, 2) := by decide +kernel
theorem dL_law_1145 : decode cL_law 1145 = .ok (.i2l, 1) := by decide +kernel
theorem dL_law_1146 : decode cL_law 1146 = .ok (.lcmp, 1) := by decide +kernel
theorem dL_law_1147 : decode cL_law 1147 = .ok (.ifCond .eq 5, 3) := by decide +kernel
theorem dL_law_1150 : decode cL_law 1150 = .ok (.iconst 0, 1) := by decide +kernel
theorem dL_law_1151 : decode cL_law 1151 = .ok (.ireturn, 1) := by decide +kernel
theorem dL_law_1152 : decode cL_law 1152 = .ok (.goto 994, 3) := by decide +kernel
theorem dL_law_1155 : decode cL_law 1155 = .ok (.aload_n 1, 1) := by decide +kernel
theorem dL_law_1156 : decode cL_law 1156 = .ok (.aload_n 0, 1) := by decide +kernel
theorem dL_law_1157 : decode cL_law 1157 = .ok (.iload 4, 2) := by decide +kernel
theorem dL_law_1159 : decode cL_law 1159 = .ok (.iconst 1, 1) := by decide +kernel
theorem dL_law_1160 : decode cL_law 1160 = .ok (.iadd, 1) := by decide +kernel
theorem dL_law_1161 : decode cL_law 1161 = .ok (.iaload, 1) := by decide +kernel
theorem dL_law_1162 : decode cL_law 1162 = .ok (.aload_n 0, 1) := by decide +kernel
theorem dL_law_1163 : decode cL_law 1163 = .ok (.iload 4, 2) := by decide +kernel
theorem dL_law_1165 : decode cL_law 1165 = .ok (.iconst 2, 1) := by decide +kernel
theorem dL_law_1166 : decode cL_law 1166 = .ok (.iadd, 1) := by decide +kernel
theorem dL_law_1167 : decode cL_law 1167 = .ok (.iaload, 1) := by decide +kernel
theorem dL_law_1168 : decode cL_law 1168 = .ok (.aload_n 3, 1) := by decide +kernel
theorem dL_law_1169 : decode cL_law 1169 = .ok (.invokestatic 184, 3) := by decide +kernel
theorem dL_law_1172 : decode cL_law 1172 = .ok (.istore 5, 2) := by decide +kernel
theorem dL_law_1174 : decode cL_law 1174 = .ok (.aload_n 2, 1) := by decide +kernel
theorem dL_law_1175 : decode cL_law 1175 = .ok (.aload_n 0, 1) := by decide +kernel
theorem dL_law_1176 : decode cL_law 1176 = .ok (.iload 4, 2) := by decide +kernel
theorem dL_law_1178 : decode cL_law 1178 = .ok (.iconst 1, 1) := by decide +kernel
theorem dL_law_1179 : decode cL_law 1179 = .ok (.iadd, 1) := by decide +kernel
theorem dL_law_1180 : decode cL_law 1180 = .ok (.iaload, 1) := by decide +kernel
theorem dL_law_1181 : decode cL_law 1181 = .ok (.aload_n 0, 1) := by decide +kernel
theorem dL_law_1182 : decode cL_law 1182 = .ok (.iload 4, 2) := by decide +kernel
theorem dL_law_1184 : decode cL_law 1184 = .ok (.iconst 2, 1) := by decide +kernel
theorem dL_law_1185 : decode cL_law 1185 = .ok (.iadd, 1) := by decide +kernel
theorem dL_law_1186 : decode cL_law 1186 = .ok (.iaload, 1) := by decide +kernel
theorem dL_law_1187 : decode cL_law 1187 = .ok (.invokevirtual 186, 3) := by decide +kernel
theorem dL_law_1190 : decode cL_law 1190 = .ok (.istore 6, 2) := by decide +kernel
theorem dL_law_1192 : decode cL_law 1192 = .ok (.aload_n 2, 1) := by decide +kernel
theorem dL_law_1193 : decode cL_law 1193 = .ok (.invokevirtual 123, 3) := by decide +kernel
theorem dL_law_1196 : decode cL_law 1196 = .ok (.iload 5, 2) := by decide +kernel
theorem dL_law_1198 : decode cL_law 1198 = .ok (.if_icmp .eq 5, 3) := by decide +kernel
theorem dL_law_1201 : decode cL_law 1201 = .ok (.iconst 0, 1) := by decide +kernel
theorem dL_law_1202 : decode cL_law 1202 = .ok (.ireturn, 1) := by decide +kernel
theorem dL_law_1203 : decode cL_law 1203 = .ok (.iload 5, 2) := by decide +kernel
theorem dL_law_1205 : decode cL_law 1205 = .ok (.ifCond .ne 15, 3) := by decide +kernel
theorem dL_law_1208 : decode cL_law 1208 = .ok (.aload_n 3, 1) := by decide +kernel
theorem dL_law_1209 : decode cL_law 1209 = .ok (.iconst 0, 1) := by decide +kernel
theorem dL_law_1210 : decode cL_law 1210 = .ok (.laload, 1) := by decide +kernel
theorem dL_law_1211 : decode cL_law 1211 = .ok (.iload 6, 2) := by decide +kernel
theorem dL_law_1213 : decode cL_law 1213 = .ok (.i2l, 1) := by decide +kernel
theorem dL_law_1214 : decode cL_law 1214 = .ok (.lcmp, 1) := by decide +kernel
theorem dL_law_1215 : decode cL_law 1215 = .ok (.ifCond .eq 5, 3) := by decide +kernel
theorem dL_law_1218 : decode cL_law 1218 = .ok (.iconst 0, 1) := by decide +kernel
theorem dL_law_1219 : decode cL_law 1219 = .ok (.ireturn, 1) := by decide +kernel
theorem dL_law_1220 : decode cL_law 1220 = .ok (.goto 926, 3) := by decide +kernel
theorem dL_law_1223 : decode cL_law 1223 = .ok (.aload_n 1, 1) := by decide +kernel
theorem dL_law_1224 : decode cL_law 1224 = .ok (.aload_n 0, 1) := by decide +kernel
theorem dL_law_1225 : decode cL_law 1225 = .ok (.iload 4, 2) := by decide +kernel
theorem dL_law_1227 : decode cL_law 1227 = .ok (.iconst 1, 1) := by decide +kernel
theorem dL_law_1228 : decode cL_law 1228 = .ok (.iadd, 1) := by decide +kernel
theorem dL_law_1229 : decode cL_law 1229 = .ok (.iaload, 1) := by decide +kernel
theorem dL_law_1230 : decode cL_law 1230 = .ok (.aload_n 3, 1) := by decide +kernel
theorem dL_law_1231 : decode cL_law 1231 = .ok (.invokestatic 187, 3) := by decide +kernel
theorem dL_law_1234 : decode cL_law 1234 = .ok (.istore 5, 2) := by decide +kernel
theorem dL_law_1236 : decode cL_law 1236 = .ok (.aload_n 2, 1) := by decide +kernel
theorem dL_law_1237 : decode cL_law 1237 = .ok (.aload_n 0, 1) := by decide +kernel
theorem dL_law_1238 : decode cL_law 1238 = .ok (.iload 4, 2) := by decide +kernel
theorem dL_law_1240 : decode cL_law 1240 = .ok (.iconst 1, 1) := by decide +kernel
theorem dL_law_1241 : decode cL_law 1241 = .ok (.iadd, 1) := by decide +kernel
theorem dL_law_1242 : decode cL_law 1242 = .ok (.iaload, 1) := by decide +kernel
theorem dL_law_1243 : decode cL_law 1243 = .ok (.invokevirtual 189, 3) := by decide +kernel
theorem dL_law_1246 : decode cL_law 1246 = .ok (.istore 6, 2) := by decide +kernel
theorem dL_law_1248 : decode cL_law 1248 = .ok (.aload_n 2, 1) := by decide +kernel
theorem dL_law_1249 : decode cL_law 1249 = .ok (.invokevirtual 123, 3) := by decide +kernel
theorem dL_law_1252 : decode cL_law 1252 = .ok (.iload 5, 2) := by decide +kernel
theorem dL_law_1254 : decode cL_law 1254 = .ok (.if_icmp .eq 5, 3) := by decide +kernel
theorem dL_law_1257 : decode cL_law 1257 = .ok (.iconst 0, 1) := by decide +kernel
theorem dL_law_1258 : decode cL_law 1258 = .ok (.ireturn, 1) := by decide +kernel
theorem dL_law_1259 : decode cL_law 1259 = .ok (.iload 5, 2) := by decide +kernel
theorem dL_law_1261 : decode cL_law 1261 = .ok (.ifCond .ne 15, 3) := by decide +kernel
theorem dL_law_1264 : decode cL_law 1264 = .ok (.aload_n 3, 1) := by decide +kernel
theorem dL_law_1265 : decode cL_law 1265 = .ok (.iconst 0, 1) := by decide +kernel
theorem dL_law_1266 : decode cL_law 1266 = .ok (.laload, 1) := by decide +kernel
theorem dL_law_1267 : decode cL_law 1267 = .ok (.iload 6, 2) := by decide +kernel
theorem dL_law_1269 : decode cL_law 1269 = .ok (.i2l, 1) := by decide +kernel
theorem dL_law_1270 : decode cL_law 1270 = .ok (.lcmp, 1) := by decide +kernel
theorem dL_law_1271 : decode cL_law 1271 = .ok (.ifCond .eq 5, 3) := by decide +kernel
theorem dL_law_1274 : decode cL_law 1274 = .ok (.iconst 0, 1) := by decide +kernel
theorem dL_law_1275 : decode cL_law 1275 = .ok (.ireturn, 1) := by decide +kernel
theorem dL_law_1276 : decode cL_law 1276 = .ok (.goto 870, 3) := by decide +kernel
theorem dL_law_1279 : decode cL_law 1279 = .ok (.aload_n 1, 1) := by decide +kernel
theorem dL_law_1280 : decode cL_law 1280 = .ok (.aload_n 0, 1) := by decide +kernel
theorem dL_law_1281 : decode cL_law 1281 = .ok (.iload 4, 2) := by decide +kernel
theorem dL_law_1283 : decode cL_law 1283 = .ok (.iconst 1, 1) := by decide +kernel
theorem dL_law_1284 : decode cL_law 1284 = .ok (.iadd, 1) := by decide +kernel
theorem dL_law_1285 : decode cL_law 1285 = .ok (.iaload, 1) := by decide +kernel
theorem dL_law_1286 : decode cL_law 1286 = .ok (.aload_n 3, 1) := by decide +kernel
theorem dL_law_1287 : decode cL_law 1287 = .ok (.invokestatic 190, 3) := by decide +kernel
theorem dL_law_1290 : decode cL_law 1290 = .ok (.istore 5, 2) := by decide +kernel
theorem dL_law_1292 : decode cL_law 1292 = .ok (.aload_n 2, 1) := by decide +kernel
theorem dL_law_1293 : decode cL_law 1293 = .ok (.aload_n 0, 1) := by decide +kernel
theorem dL_law_1294 : decode cL_law 1294 = .ok (.iload 4, 2) := by decide +kernel
theorem dL_law_1296 : decode cL_law 1296 = .ok (.iconst 1, 1) := by decide +kernel
theorem dL_law_1297 : decode cL_law 1297 = .ok (.iadd, 1) := by decide +kernel
theorem dL_law_1298 : decode cL_law 1298 = .ok (.iaload, 1) := by decide +kernel
theorem dL_law_1299 : decode cL_law 1299 = .ok (.invokevirtual 192, 3) := by decide +kernel
theorem dL_law_1302 : decode cL_law 1302 = .ok (.istore 6, 2) := by decide +kernel
theorem dL_law_1304 : decode cL_law 1304 = .ok (.aload_n 2, 1) := by decide +kernel
theorem dL_law_1305 : decode cL_law 1305 = .ok (.invokevirtual 123, 3) := by decide +kernel
theorem dL_law_1308 : decode cL_law 1308 = .ok (.iload 5, 2) := by decide +kernel
theorem dL_law_1310 : decode cL_law 1310 = .ok (.if_icmp .eq 5, 3) := by decide +kernel
theorem dL_law_1313 : decode cL_law 1313 = .ok (.iconst 0, 1) := by decide +kernel
theorem dL_law_1314 : decode cL_law 1314 = .ok (.ireturn, 1) := by decide +kernel
theorem dL_law_1315 : decode cL_law 1315 = .ok (.iload 5, 2) := by decide +kernel
theorem dL_law_1317 : decode cL_law 1317 = .ok (.ifCond .ne 15, 3) := by decide +kernel
theorem dL_law_1320 : decode cL_law 1320 = .ok (.aload_n 3, 1) := by decide +kernel
theorem dL_law_1321 : decode cL_law 1321 = .ok (.iconst 0, 1) := by decide +kernel
theorem dL_law_1322 : decode cL_law 1322 = .ok (.laload, 1) := by decide +kernel
theorem dL_law_1323 : decode cL_law 1323 = .ok (.iload 6, 2) := by decide +kernel
theorem dL_law_1325 : decode cL_law 1325 = .ok (.i2l, 1) := by decide +kernel
theorem dL_law_1326 : decode cL_law 1326 = .ok (.lcmp, 1) := by decide +kernel
theorem dL_law_1327 : decode cL_law 1327 = .ok (.ifCond .eq 5, 3) := by decide +kernel
theorem dL_law_1330 : decode cL_law 1330 = .ok (.iconst 0, 1) := by decide +kernel
theorem dL_law_1331 : decode cL_law 1331 = .ok (.ireturn, 1) := by decide +kernel
theorem dL_law_1332 : decode cL_law 1332 = .ok (.goto 814, 3) := by decide +kernel
theorem dL_law_1335 : decode cL_law 1335 = .ok (.aload_n 1, 1) := by decide +kernel
theorem dL_law_1336 : decode cL_law 1336 = .ok (.aload_n 0, 1) := by decide +kernel
theorem dL_law_1337 : decode cL_law 1337 = .ok (.iload 4, 2) := by decide +kernel
theorem dL_law_1339 : decode cL_law 1339 = .ok (.iconst 1, 1) := by decide +kernel
theorem dL_law_1340 : decode cL_law 1340 = .ok (.iadd, 1) := by decide +kernel
theorem dL_law_1341 : decode cL_law 1341 = .ok (.iaload, 1) := by decide +kernel
theorem dL_law_1342 : decode cL_law 1342 = .ok (.aload_n 0, 1) := by decide +kernel
theorem dL_law_1343 : decode cL_law 1343 = .ok (.iload 4, 2) := by decide +kernel
theorem dL_law_1345 : decode cL_law 1345 = .ok (.iconst 2, 1) := by decide +kernel
theorem dL_law_1346 : decode cL_law 1346 = .ok (.iadd, 1) := by decide +kernel
theorem dL_law_1347 : decode cL_law 1347 = .ok (.iaload, 1) := by decide +kernel
theorem dL_law_1348 : decode cL_law 1348 = .ok (.aload_n 3, 1) := by decide +kernel
theorem dL_law_1349 : decode cL_law 1349 = .ok (.invokestatic 193, 3) := by decide +kernel
theorem dL_law_1352 : decode cL_law 1352 = .ok (.istore 5, 2) := by decide +kernel
theorem dL_law_1354 : decode cL_law 1354 = .ok (.aload_n 2, 1) := by decide +kernel
theorem dL_law_1355 : decode cL_law 1355 = .ok (.aload_n 0, 1) := by decide +kernel
theorem dL_law_1356 : decode cL_law 1356 = .ok (.iload 4, 2) := by decide +kernel
theorem dL_law_1358 : decode cL_law 1358 = .ok (.iconst 1, 1) := by decide +kernel
theorem dL_law_1359 : decode cL_law 1359 = .ok (.iadd, 1) := by decide +kernel
theorem dL_law_1360 : decode cL_law 1360 = .ok (.iaload, 1) := by decide +kernel
theorem dL_law_1361 : decode cL_law 1361 = .ok (.aload_n 0, 1) := by decide +kernel
theorem dL_law_1362 : decode cL_law 1362 = .ok (.iload 4, 2) := by decide +kernel
theorem dL_law_1364 : decode cL_law 1364 = .ok (.iconst 2, 1) := by decide +kernel
theorem dL_law_1365 : decode cL_law 1365 = .ok (.iadd, 1) := by decide +kernel
theorem dL_law_1366 : decode cL_law 1366 = .ok (.iaload, 1) := by decide +kernel
theorem dL_law_1367 : decode cL_law 1367 = .ok (.invokevirtual 195, 3) := by decide +kernel
theorem dL_law_1370 : decode cL_law 1370 = .ok (.istore 6, 2) := by decide +kernel
theorem dL_law_1372 : decode cL_law 1372 = .ok (.aload_n 2, 1) := by decide +kernel
theorem dL_law_1373 : decode cL_law 1373 = .ok (.invokevirtual 123, 3) := by decide +kernel
theorem dL_law_1376 : decode cL_law 1376 = .ok (.iload 5, 2) := by decide +kernel
theorem dL_law_1378 : decode cL_law 1378 = .ok (.if_icmp .eq 5, 3) := by decide +kernel
theorem dL_law_1381 : decode cL_law 1381 = .ok (.iconst 0, 1) := by decide +kernel
theorem dL_law_1382 : decode cL_law 1382 = .ok (.ireturn, 1) := by decide +kernel
theorem dL_law_1383 : decode cL_law 1383 = .ok (.iload 5, 2) := by decide +kernel
theorem dL_law_1385 : decode cL_law 1385 = .ok (.ifCond .ne 15, 3) := by decide +kernel
theorem dL_law_1388 : decode cL_law 1388 = .ok (.aload_n 3, 1) := by decide +kernel
theorem dL_law_1389 : decode cL_law 1389 = .ok (.iconst 0, 1) := by decide +kernel
theorem dL_law_1390 : decode cL_law 1390 = .ok (.laload, 1) := by decide +kernel
theorem dL_law_1391 : decode cL_law 1391 = .ok (.iload 6, 2) := by decide +kernel
theorem dL_law_1393 : decode cL_law 1393 = .ok (.i2l, 1) := by decide +kernel
theorem dL_law_1394 : decode cL_law 1394 = .ok (.lcmp, 1) := by decide +kernel
theorem dL_law_1395 : decode cL_law 1395 = .ok (.ifCond .eq 5, 3) := by decide +kernel
theorem dL_law_1398 : decode cL_law 1398 = .ok (.iconst 0, 1) := by decide +kernel
theorem dL_law_1399 : decode cL_law 1399 = .ok (.ireturn, 1) := by decide +kernel
theorem dL_law_1400 : decode cL_law 1400 = .ok (.goto 746, 3) := by decide +kernel
theorem dL_law_1403 : decode cL_law 1403 = .ok (.aload_n 1, 1) := by decide +kernel
theorem dL_law_1404 : decode cL_law 1404 = .ok (.aload_n 0, 1) := by decide +kernel
theorem dL_law_1405 : decode cL_law 1405 = .ok (.iload 4, 2) := by decide +kernel
theorem dL_law_1407 : decode cL_law 1407 = .ok (.iconst 1, 1) := by decide +kernel
theorem dL_law_1408 : decode cL_law 1408 = .ok (.iadd, 1) := by decide +kernel
theorem dL_law_1409 : decode cL_law 1409 = .ok (.iaload, 1) := by decide +kernel
theorem dL_law_1410 : decode cL_law 1410 = .ok (.aload_n 3, 1) := by decide +kernel
theorem dL_law_1411 : decode cL_law 1411 = .ok (.invokestatic 196, 3) := by decide +kernel
theorem dL_law_1414 : decode cL_law 1414 = .ok (.istore 5, 2) := by decide +kernel
theorem dL_law_1416 : decode cL_law 1416 = .ok (.aload_n 2, 1) := by decide +kernel
theorem dL_law_1417 : decode cL_law 1417 = .ok (.aload_n 0, 1) := by decide +kernel
theorem dL_law_1418 : decode cL_law 1418 = .ok (.iload 4, 2) := by decide +kernel
theorem dL_law_1420 : decode cL_law 1420 = .ok (.iconst 1, 1) := by decide +kernel
theorem dL_law_1421 : decode cL_law 1421 = .ok (.iadd, 1) := by decide +kernel
theorem dL_law_1422 : decode cL_law 1422 = .ok (.iaload, 1) := by decide +kernel
theorem dL_law_1423 : decode cL_law 1423 = .ok (.invokevirtual 198, 3) := by decide +kernel
theorem dL_law_1426 : decode cL_law 1426 = .ok (.istore 6, 2) := by decide +kernel
theorem dL_law_1428 : decode cL_law 1428 = .ok (.aload_n 2, 1) := by decide +kernel
theorem dL_law_1429 : decode cL_law 1429 = .ok (.invokevirtual 123, 3) := by decide +kernel
theorem dL_law_1432 : decode cL_law 1432 = .ok (.iload 5, 2) := by decide +kernel
theorem dL_law_1434 : decode cL_law 1434 = .ok (.if_icmp .eq 5, 3) := by decide +kernel
theorem dL_law_1437 : decode cL_law 1437 = .ok (.iconst 0, 1) := by decide +kernel
theorem dL_law_1438 : decode cL_law 1438 = .ok (.ireturn, 1) := by decide +kernel
theorem dL_law_1439 : decode cL_law 1439 = .ok (.iload 5, 2) := by decide +kernel
theorem dL_law_1441 : decode cL_law 1441 = .ok (.ifCond .ne 15, 3) := by decide +kernel
theorem dL_law_1444 : decode cL_law 1444 = .ok (.aload_n 3, 1) := by decide +kernel
theorem dL_law_1445 : decode cL_law 1445 = .ok (.iconst 0, 1) := by decide +kernel
theorem dL_law_1446 : decode cL_law 1446 = .ok (.laload, 1) := by decide +kernel
theorem dL_law_1447 : decode cL_law 1447 = .ok (.iload 6, 2) := by decide +kernel
theorem dL_law_1449 : decode cL_law 1449 = .ok (.i2l, 1) := by decide +kernel
theorem dL_law_1450 : decode cL_law 1450 = .ok (.lcmp, 1) := by decide +kernel
theorem dL_law_1451 : decode cL_law 1451 = .ok (.ifCond .eq 5, 3) := by decide +kernel
theorem dL_law_1454 : decode cL_law 1454 = .ok (.iconst 0, 1) := by decide +kernel
theorem dL_law_1455 : decode cL_law 1455 = .ok (.ireturn, 1) := by decide +kernel
theorem dL_law_1456 : decode cL_law 1456 = .ok (.goto 690, 3) := by decide +kernel
theorem dL_law_1459 : decode cL_law 1459 = .ok (.aload_n 1, 1) := by decide +kernel
theorem dL_law_1460 : decode cL_law 1460 = .ok (.aload_n 0, 1) := by decide +kernel
theorem dL_law_1461 : decode cL_law 1461 = .ok (.iload 4, 2) := by decide +kernel
theorem dL_law_1463 : decode cL_law 1463 = .ok (.iconst 1, 1) := by decide +kernel
theorem dL_law_1464 : decode cL_law 1464 = .ok (.iadd, 1) := by decide +kernel
theorem dL_law_1465 : decode cL_law 1465 = .ok (.iaload, 1) := by decide +kernel
theorem dL_law_1466 : decode cL_law 1466 = .ok (.aload_n 3, 1) := by decide +kernel
theorem dL_law_1467 : decode cL_law 1467 = .ok (.invokestatic 199, 3) := by decide +kernel
theorem dL_law_1470 : decode cL_law 1470 = .ok (.istore 5, 2) := by decide +kernel
theorem dL_law_1472 : decode cL_law 1472 = .ok (.aload_n 2, 1) := by decide +kernel
theorem dL_law_1473 : decode cL_law 1473 = .ok (.aload_n 0, 1) := by decide +kernel
theorem dL_law_1474 : decode cL_law 1474 = .ok (.iload 4, 2) := by decide +kernel
theorem dL_law_1476 : decode cL_law 1476 = .ok (.iconst 1, 1) := by decide +kernel
theorem dL_law_1477 : decode cL_law 1477 = .ok (.iadd, 1) := by decide +kernel
theorem dL_law_1478 : decode cL_law 1478 = .ok (.iaload, 1) := by decide +kernel
theorem dL_law_1479 : decode cL_law 1479 = .ok (.invokevirtual 201, 3) := by decide +kernel
theorem dL_law_1482 : decode cL_law 1482 = .ok (.istore 6, 2) := by decide +kernel
theorem dL_law_1484 : decode cL_law 1484 = .ok (.aload_n 2, 1) := by decide +kernel
theorem dL_law_1485 : decode cL_law 1485 = .ok (.invokevirtual 123, 3) := by decide +kernel
theorem dL_law_1488 : decode cL_law 1488 = .ok (.iload 5, 2) := by decide +kernel
theorem dL_law_1490 : decode cL_law 1490 = .ok (.if_icmp .eq 5, 3) := by decide +kernel
theorem dL_law_1493 : decode cL_law 1493 = .ok (.iconst 0, 1) := by decide +kernel
theorem dL_law_1494 : decode cL_law 1494 = .ok (.ireturn, 1) := by decide +kernel
theorem dL_law_1495 : decode cL_law 1495 = .ok (.iload 5, 2) := by decide +kernel
theorem dL_law_1497 : decode cL_law 1497 = .ok (.ifCond .ne 15, 3) := by decide +kernel
theorem dL_law_1500 : decode cL_law 1500 = .ok (.aload_n 3, 1) := by decide +kernel
theorem dL_law_1501 : decode cL_law 1501 = .ok (.iconst 0, 1) := by decide +kernel
theorem dL_law_1502 : decode cL_law 1502 = .ok (.laload, 1) := by decide +kernel
theorem dL_law_1503 : decode cL_law 1503 = .ok (.iload 6, 2) := by decide +kernel
theorem dL_law_1505 : decode cL_law 1505 = .ok (.i2l, 1) := by decide +kernel
theorem dL_law_1506 : decode cL_law 1506 = .ok (.lcmp, 1) := by decide +kernel
theorem dL_law_1507 : decode cL_law 1507 = .ok (.ifCond .eq 5, 3) := by decide +kernel
theorem dL_law_1510 : decode cL_law 1510 = .ok (.iconst 0, 1) := by decide +kernel
theorem dL_law_1511 : decode cL_law 1511 = .ok (.ireturn, 1) := by decide +kernel
theorem dL_law_1512 : decode cL_law 1512 = .ok (.goto 634, 3) := by decide +kernel
theorem dL_law_1515 : decode cL_law 1515 = .ok (.aload_n 1, 1) := by decide +kernel
theorem dL_law_1516 : decode cL_law 1516 = .ok (.aload_n 0, 1) := by decide +kernel
theorem dL_law_1517 : decode cL_law 1517 = .ok (.iload 4, 2) := by decide +kernel
theorem dL_law_1519 : decode cL_law 1519 = .ok (.iconst 1, 1) := by decide +kernel
theorem dL_law_1520 : decode cL_law 1520 = .ok (.iadd, 1) := by decide +kernel
theorem dL_law_1521 : decode cL_law 1521 = .ok (.iaload, 1) := by decide +kernel
theorem dL_law_1522 : decode cL_law 1522 = .ok (.aload_n 3, 1) := by decide +kernel
theorem dL_law_1523 : decode cL_law 1523 = .ok (.invokestatic 202, 3) := by decide +kernel
theorem dL_law_1526 : decode cL_law 1526 = .ok (.istore 5, 2) := by decide +kernel
theorem dL_law_1528 : decode cL_law 1528 = .ok (.aload_n 2, 1) := by decide +kernel
theorem dL_law_1529 : decode cL_law 1529 = .ok (.aload_n 0, 1) := by decide +kernel
theorem dL_law_1530 : decode cL_law 1530 = .ok (.iload 4, 2) := by decide +kernel
theorem dL_law_1532 : decode cL_law 1532 = .ok (.iconst 1, 1) := by decide +kernel
theorem dL_law_1533 : decode cL_law 1533 = .ok (.iadd, 1) := by decide +kernel
theorem dL_law_1534 : decode cL_law 1534 = .ok (.iaload, 1) := by decide +kernel
theorem dL_law_1535 : decode cL_law 1535 = .ok (.invokevirtual 204, 3) := by decide +kernel
theorem dL_law_1538 : decode cL_law 1538 = .ok (.istore 6, 2) := by decide +kernel
theorem dL_law_1540 : decode cL_law 1540 = .ok (.aload_n 2, 1) := by decide +kernel
theorem dL_law_1541 : decode cL_law 1541 = .ok (.invokevirtual 123, 3) := by decide +kernel
theorem dL_law_1544 : decode cL_law 1544 = .ok (.iload 5, 2) := by decide +kernel
theorem dL_law_1546 : decode cL_law 1546 = .ok (.if_icmp .eq 5, 3) := by decide +kernel
theorem dL_law_1549 : decode cL_law 1549 = .ok (.iconst 0, 1) := by decide +kernel
theorem dL_law_1550 : decode cL_law 1550 = .ok (.ireturn, 1) := by decide +kernel
theorem dL_law_1551 : decode cL_law 1551 = .ok (.iload 5, 2) := by decide +kernel
theorem dL_law_1553 : decode cL_law 1553 = .ok (.ifCond .ne 15, 3) := by decide +kernel
theorem dL_law_1556 : decode cL_law 1556 = .ok (.aload_n 3, 1) := by decide +kernel
theorem dL_law_1557 : decode cL_law 1557 = .ok (.iconst 0, 1) := by decide +kernel
theorem dL_law_1558 : decode cL_law 1558 = .ok (.laload, 1) := by decide +kernel
theorem dL_law_1559 : decode cL_law 1559 = .ok (.iload 6, 2) := by decide +kernel
theorem dL_law_1561 : decode cL_law 1561 = .ok (.i2l, 1) := by decide +kernel
theorem dL_law_1562 : decode cL_law 1562 = .ok (.lcmp, 1) := by decide +kernel
theorem dL_law_1563 : decode cL_law 1563 = .ok (.ifCond .eq 5, 3) := by decide +kernel
theorem dL_law_1566 : decode cL_law 1566 = .ok (.iconst 0, 1) := by decide +kernel
theorem dL_law_1567 : decode cL_law 1567 = .ok (.ireturn, 1) := by decide +kernel
theorem dL_law_1568 : decode cL_law 1568 = .ok (.goto 578, 3) := by decide +kernel
theorem dL_law_1571 : decode cL_law 1571 = .ok (.aload_n 1, 1) := by decide +kernel
theorem dL_law_1572 : decode cL_law 1572 = .ok (.aload_n 0, 1) := by decide +kernel
theorem dL_law_1573 : decode cL_law 1573 = .ok (.iload 4, 2) := by decide +kernel
theorem dL_law_1575 : decode cL_law 1575 = .ok (.iconst 1, 1) := by decide +kernel
theorem dL_law_1576 : decode cL_law 1576 = .ok (.iadd, 1) := by decide +kernel
theorem dL_law_1577 : decode cL_law 1577 = .ok (.iaload, 1) := by decide +kernel
theorem dL_law_1578 : decode cL_law 1578 = .ok (.aload_n 0, 1) := by decide +kernel
theorem dL_law_1579 : decode cL_law 1579 = .ok (.iload 4, 2) := by decide +kernel
theorem dL_law_1581 : decode cL_law 1581 = .ok (.iconst 2, 1) := by decide +kernel
theorem dL_law_1582 : decode cL_law 1582 = .ok (.iadd, 1) := by decide +kernel
theorem dL_law_1583 : decode cL_law 1583 = .ok (.iaload, 1) := by decide +kernel
theorem dL_law_1584 : decode cL_law 1584 = .ok (.aload_n 3, 1) := by decide +kernel
theorem dL_law_1585 : decode cL_law 1585 = .ok (.invokestatic 205, 3) := by decide +kernel
theorem dL_law_1588 : decode cL_law 1588 = .ok (.istore 5, 2) := by decide +kernel
theorem dL_law_1590 : decode cL_law 1590 = .ok (.aload_n 2, 1) := by decide +kernel
theorem dL_law_1591 : decode cL_law 1591 = .ok (.aload_n 0, 1) := by decide +kernel
theorem dL_law_1592 : decode cL_law 1592 = .ok (.iload 4, 2) := by decide +kernel
theorem dL_law_1594 : decode cL_law 1594 = .ok (.iconst 1, 1) := by decide +kernel
theorem dL_law_1595 : decode cL_law 1595 = .ok (.iadd, 1) := by decide +kernel
theorem dL_law_1596 : decode cL_law 1596 = .ok (.iaload, 1) := by decide +kernel
theorem dL_law_1597 : decode cL_law 1597 = .ok (.aload_n 0, 1) := by decide +kernel
theorem dL_law_1598 : decode cL_law 1598 = .ok (.iload 4, 2) := by decide +kernel
theorem dL_law_1600 : decode cL_law 1600 = .ok (.iconst 2, 1) := by decide +kernel
theorem dL_law_1601 : decode cL_law 1601 = .ok (.iadd, 1) := by decide +kernel
theorem dL_law_1602 : decode cL_law 1602 = .ok (.iaload, 1) := by decide +kernel
theorem dL_law_1603 : decode cL_law 1603 = .ok (.invokevirtual 207, 3) := by decide +kernel
theorem dL_law_1606 : decode cL_law 1606 = .ok (.istore 6, 2) := by decide +kernel
theorem dL_law_1608 : decode cL_law 1608 = .ok (.aload_n 2, 1) := by decide +kernel
theorem dL_law_1609 : decode cL_law 1609 = .ok (.invokevirtual 123, 3) := by decide +kernel
theorem dL_law_1612 : decode cL_law 1612 = .ok (.iload 5, 2) := by decide +kernel
theorem dL_law_1614 : decode cL_law 1614 = .ok (.if_icmp .eq 5, 3) := by decide +kernel
theorem dL_law_1617 : decode cL_law 1617 = .ok (.iconst 0, 1) := by decide +kernel
theorem dL_law_1618 : decode cL_law 1618 = .ok (.ireturn, 1) := by decide +kernel
theorem dL_law_1619 : decode cL_law 1619 = .ok (.iload 5, 2) := by decide +kernel
theorem dL_law_1621 : decode cL_law 1621 = .ok (.ifCond .ne 15, 3) := by decide +kernel
theorem dL_law_1624 : decode cL_law 1624 = .ok (.aload_n 3, 1) := by decide +kernel
theorem dL_law_1625 : decode cL_law 1625 = .ok (.iconst 0, 1) := by decide +kernel
theorem dL_law_1626 : decode cL_law 1626 = .ok (.laload, 1) := by decide +kernel
theorem dL_law_1627 : decode cL_law 1627 = .ok (.iload 6, 2) := by decide +kernel
theorem dL_law_1629 : decode cL_law 1629 = .ok (.i2l, 1) := by decide +kernel
theorem dL_law_1630 : decode cL_law 1630 = .ok (.lcmp, 1) := by decide +kernel
theorem dL_law_1631 : decode cL_law 1631 = .ok (.ifCond .eq 5, 3) := by decide +kernel
theorem dL_law_1634 : decode cL_law 1634 = .ok (.iconst 0, 1) := by decide +kernel
theorem dL_law_1635 : decode cL_law 1635 = .ok (.ireturn, 1) := by decide +kernel
theorem dL_law_1636 : decode cL_law 1636 = .ok (.goto 510, 3) := by decide +kernel
theorem dL_law_1639 : decode cL_law 1639 = .ok (.aload_n 1, 1) := by decide +kernel
theorem dL_law_1640 : decode cL_law 1640 = .ok (.aload_n 0, 1) := by decide +kernel
theorem dL_law_1641 : decode cL_law 1641 = .ok (.iload 4, 2) := by decide +kernel
theorem dL_law_1643 : decode cL_law 1643 = .ok (.iconst 1, 1) := by decide +kernel
theorem dL_law_1644 : decode cL_law 1644 = .ok (.iadd, 1) := by decide +kernel
theorem dL_law_1645 : decode cL_law 1645 = .ok (.iaload, 1) := by decide +kernel
theorem dL_law_1646 : decode cL_law 1646 = .ok (.aload_n 0, 1) := by decide +kernel
theorem dL_law_1647 : decode cL_law 1647 = .ok (.iload 4, 2) := by decide +kernel
theorem dL_law_1649 : decode cL_law 1649 = .ok (.iconst 2, 1) := by decide +kernel
theorem dL_law_1650 : decode cL_law 1650 = .ok (.iadd, 1) := by decide +kernel
theorem dL_law_1651 : decode cL_law 1651 = .ok (.iaload, 1) := by decide +kernel
theorem dL_law_1652 : decode cL_law 1652 = .ok (.aload_n 3, 1) := by decide +kernel
theorem dL_law_1653 : decode cL_law 1653 = .ok (.invokestatic 208, 3) := by decide +kernel
theorem dL_law_1656 : decode cL_law 1656 = .ok (.istore 5, 2) := by decide +kernel
theorem dL_law_1658 : decode cL_law 1658 = .ok (.aload_n 2, 1) := by decide +kernel
theorem dL_law_1659 : decode cL_law 1659 = .ok (.aload_n 0, 1) := by decide +kernel
theorem dL_law_1660 : decode cL_law 1660 = .ok (.iload 4, 2) := by decide +kernel
theorem dL_law_1662 : decode cL_law 1662 = .ok (.iconst 1, 1) := by decide +kernel
theorem dL_law_1663 : decode cL_law 1663 = .ok (.iadd, 1) := by decide +kernel
theorem dL_law_1664 : decode cL_law 1664 = .ok (.iaload, 1) := by decide +kernel
theorem dL_law_1665 : decode cL_law 1665 = .ok (.aload_n 0, 1) := by decide +kernel
theorem dL_law_1666 : decode cL_law 1666 = .ok (.iload 4, 2) := by decide +kernel
theorem dL_law_1668 : decode cL_law 1668 = .ok (.iconst 2, 1) := by decide +kernel
theorem dL_law_1669 : decode cL_law 1669 = .ok (.iadd, 1) := by decide +kernel
theorem dL_law_1670 : decode cL_law 1670 = .ok (.iaload, 1) := by decide +kernel
theorem dL_law_1671 : decode cL_law 1671 = .ok (.invokevirtual 210, 3) := by decide +kernel
theorem dL_law_1674 : decode cL_law 1674 = .ok (.istore 6, 2) := by decide +kernel
theorem dL_law_1676 : decode cL_law 1676 = .ok (.aload_n 2, 1) := by decide +kernel
theorem dL_law_1677 : decode cL_law 1677 = .ok (.invokevirtual 123, 3) := by decide +kernel
theorem dL_law_1680 : decode cL_law 1680 = .ok (.iload 5, 2) := by decide +kernel
theorem dL_law_1682 : decode cL_law 1682 = .ok (.if_icmp .eq 5, 3) := by decide +kernel
theorem dL_law_1685 : decode cL_law 1685 = .ok (.iconst 0, 1) := by decide +kernel
theorem dL_law_1686 : decode cL_law 1686 = .ok (.ireturn, 1) := by decide +kernel
theorem dL_law_1687 : decode cL_law 1687 = .ok (.iload 5, 2) := by decide +kernel
theorem dL_law_1689 : decode cL_law 1689 = .ok (.ifCond .ne 15, 3) := by decide +kernel
theorem dL_law_1692 : decode cL_law 1692 = .ok (.aload_n 3, 1) := by decide +kernel
theorem dL_law_1693 : decode cL_law 1693 = .ok (.iconst 0, 1) := by decide +kernel
theorem dL_law_1694 : decode cL_law 1694 = .ok (.laload, 1) := by decide +kernel
theorem dL_law_1695 : decode cL_law 1695 = .ok (.iload 6, 2) := by decide +kernel
theorem dL_law_1697 : decode cL_law 1697 = .ok (.i2l, 1) := by decide +kernel
theorem dL_law_1698 : decode cL_law 1698 = .ok (.lcmp, 1) := by decide +kernel
theorem dL_law_1699 : decode cL_law 1699 = .ok (.ifCond .eq 5, 3) := by decide +kernel
theorem dL_law_1702 : decode cL_law 1702 = .ok (.iconst 0, 1) := by decide +kernel
theorem dL_law_1703 : decode cL_law 1703 = .ok (.ireturn, 1) := by decide +kernel
theorem dL_law_1704 : decode cL_law 1704 = .ok (.goto 442, 3) := by decide +kernel
theorem dL_law_1707 : decode cL_law 1707 = .ok (.aload_n 1, 1) := by decide +kernel
theorem dL_law_1708 : decode cL_law 1708 = .ok (.aload_n 0, 1) := by decide +kernel
theorem dL_law_1709 : decode cL_law 1709 = .ok (.iload 4, 2) := by decide +kernel
theorem dL_law_1711 : decode cL_law 1711 = .ok (.iconst 1, 1) := by decide +kernel
theorem dL_law_1712 : decode cL_law 1712 = .ok (.iadd, 1) := by decide +kernel
theorem dL_law_1713 : decode cL_law 1713 = .ok (.iaload, 1) := by decide +kernel
theorem dL_law_1714 : decode cL_law 1714 = .ok (.aload_n 3, 1) := by decide +kernel
theorem dL_law_1715 : decode cL_law 1715 = .ok (.invokestatic 211, 3) := by decide +kernel
theorem dL_law_1718 : decode cL_law 1718 = .ok (.istore 5, 2) := by decide +kernel
theorem dL_law_1720 : decode cL_law 1720 = .ok (.aload_n 2, 1) := by decide +kernel
theorem dL_law_1721 : decode cL_law 1721 = .ok (.aload_n 0, 1) := by decide +kernel
theorem dL_law_1722 : decode cL_law 1722 = .ok (.iload 4, 2) := by decide +kernel
theorem dL_law_1724 : decode cL_law 1724 = .ok (.iconst 1, 1) := by decide +kernel
theorem dL_law_1725 : decode cL_law 1725 = .ok (.iadd, 1) := by decide +kernel
theorem dL_law_1726 : decode cL_law 1726 = .ok (.iaload, 1) := by decide +kernel
theorem dL_law_1727 : decode cL_law 1727 = .ok (.invokevirtual 213, 3) := by decide +kernel
theorem dL_law_1730 : decode cL_law 1730 = .ok (.istore 6, 2) := by decide +kernel
theorem dL_law_1732 : decode cL_law 1732 = .ok (.aload_n 2, 1) := by decide +kernel
theorem dL_law_1733 : decode cL_law 1733 = .ok (.invokevirtual 123, 3) := by decide +kernel
theorem dL_law_1736 : decode cL_law 1736 = .ok (.iload 5, 2) := by decide +kernel
theorem dL_law_1738 : decode cL_law 1738 = .ok (.if_icmp .eq 5, 3) := by decide +kernel
theorem dL_law_1741 : decode cL_law 1741 = .ok (.iconst 0, 1) := by decide +kernel
theorem dL_law_1742 : decode cL_law 1742 = .ok (.ireturn, 1) := by decide +kernel
theorem dL_law_1743 : decode cL_law 1743 = .ok (.iload 5, 2) := by decide +kernel
theorem dL_law_1745 : decode cL_law 1745 = .ok (.ifCond .ne 15, 3) := by decide +kernel
theorem dL_law_1748 : decode cL_law 1748 = .ok (.aload_n 3, 1) := by decide +kernel
theorem dL_law_1749 : decode cL_law 1749 = .ok (.iconst 0, 1) := by decide +kernel
theorem dL_law_1750 : decode cL_law 1750 = .ok (.laload, 1) := by decide +kernel
theorem dL_law_1751 : decode cL_law 1751 = .ok (.iload 6, 2) := by decide +kernel
theorem dL_law_1753 : decode cL_law 1753 = .ok (.i2l, 1) := by decide +kernel
theorem dL_law_1754 : decode cL_law 1754 = .ok (.lcmp, 1) := by decide +kernel
theorem dL_law_1755 : decode cL_law 1755 = .ok (.ifCond .eq 5, 3) := by decide +kernel
theorem dL_law_1758 : decode cL_law 1758 = .ok (.iconst 0, 1) := by decide +kernel
theorem dL_law_1759 : decode cL_law 1759 = .ok (.ireturn, 1) := by decide +kernel
theorem dL_law_1760 : decode cL_law 1760 = .ok (.goto 386, 3) := by decide +kernel
theorem dL_law_1763 : decode cL_law 1763 = .ok (.aload_n 1, 1) := by decide +kernel
theorem dL_law_1764 : decode cL_law 1764 = .ok (.aload_n 0, 1) := by decide +kernel
theorem dL_law_1765 : decode cL_law 1765 = .ok (.iload 4, 2) := by decide +kernel
theorem dL_law_1767 : decode cL_law 1767 = .ok (.iconst 1, 1) := by decide +kernel
theorem dL_law_1768 : decode cL_law 1768 = .ok (.iadd, 1) := by decide +kernel
theorem dL_law_1769 : decode cL_law 1769 = .ok (.iaload, 1) := by decide +kernel
theorem dL_law_1770 : decode cL_law 1770 = .ok (.aload_n 3, 1) := by decide +kernel
theorem dL_law_1771 : decode cL_law 1771 = .ok (.invokestatic 214, 3) := by decide +kernel
theorem dL_law_1774 : decode cL_law 1774 = .ok (.istore 5, 2) := by decide +kernel
theorem dL_law_1776 : decode cL_law 1776 = .ok (.aload_n 2, 1) := by decide +kernel
theorem dL_law_1777 : decode cL_law 1777 = .ok (.aload_n 0, 1) := by decide +kernel
theorem dL_law_1778 : decode cL_law 1778 = .ok (.iload 4, 2) := by decide +kernel
theorem dL_law_1780 : decode cL_law 1780 = .ok (.iconst 1, 1) := by decide +kernel
theorem dL_law_1781 : decode cL_law 1781 = .ok (.iadd, 1) := by decide +kernel
theorem dL_law_1782 : decode cL_law 1782 = .ok (.iaload, 1) := by decide +kernel
theorem dL_law_1783 : decode cL_law 1783 = .ok (.invokevirtual 216, 3) := by decide +kernel
theorem dL_law_1786 : decode cL_law 1786 = .ok (.istore 6, 2) := by decide +kernel
theorem dL_law_1788 : decode cL_law 1788 = .ok (.aload_n 2, 1) := by decide +kernel
theorem dL_law_1789 : decode cL_law 1789 = .ok (.invokevirtual 123, 3) := by decide +kernel
theorem dL_law_1792 : decode cL_law 1792 = .ok (.iload 5, 2) := by decide +kernel
theorem dL_law_1794 : decode cL_law 1794 = .ok (.if_icmp .eq 5, 3) := by decide +kernel
theorem dL_law_1797 : decode cL_law 1797 = .ok (.iconst 0, 1) := by decide +kernel
theorem dL_law_1798 : decode cL_law 1798 = .ok (.ireturn, 1) := by decide +kernel
theorem dL_law_1799 : decode cL_law 1799 = .ok (.iload 5, 2) := by decide +kernel
theorem dL_law_1801 : decode cL_law 1801 = .ok (.ifCond .ne 15, 3) := by decide +kernel
theorem dL_law_1804 : decode cL_law 1804 = .ok (.aload_n 3, 1) := by decide +kernel
theorem dL_law_1805 : decode cL_law 1805 = .ok (.iconst 0, 1) := by decide +kernel
theorem dL_law_1806 : decode cL_law 1806 = .ok (.laload, 1) := by decide +kernel
theorem dL_law_1807 : decode cL_law 1807 = .ok (.iload 6, 2) := by decide +kernel
theorem dL_law_1809 : decode cL_law 1809 = .ok (.i2l, 1) := by decide +kernel
theorem dL_law_1810 : decode cL_law 1810 = .ok (.lcmp, 1) := by decide +kernel
theorem dL_law_1811 : decode cL_law 1811 = .ok (.ifCond .eq 5, 3) := by decide +kernel
theorem dL_law_1814 : decode cL_law 1814 = .ok (.iconst 0, 1) := by decide +kernel
theorem dL_law_1815 : decode cL_law 1815 = .ok (.ireturn, 1) := by decide +kernel
theorem dL_law_1816 : decode cL_law 1816 = .ok (.goto 330, 3) := by decide +kernel
theorem dL_law_1819 : decode cL_law 1819 = .ok (.aload_n 1, 1) := by decide +kernel
theorem dL_law_1820 : decode cL_law 1820 = .ok (.invokevirtual 217, 3) := by decide +kernel
theorem dL_law_1823 : decode cL_law 1823 = .ok (.aload_n 2, 1) := by decide +kernel
theorem dL_law_1824 : decode cL_law 1824 = .ok (.invokevirtual 220, 3) := by decide +kernel
theorem dL_law_1827 : decode cL_law 1827 = .ok (.if_icmp .eq 319, 3) := by decide +kernel
theorem dL_law_1830 : decode cL_law 1830 = .ok (.iconst 0, 1) := by decide +kernel
theorem dL_law_1831 : decode cL_law 1831 = .ok (.ireturn, 1) := by decide +kernel
theorem dL_law_1832 : decode cL_law 1832 = .ok (.aload_n 1, 1) := by decide +kernel
theorem dL_law_1833 : decode cL_law 1833 = .ok (.aload_n 0, 1) := by decide +kernel
theorem dL_law_1834 : decode cL_law 1834 = .ok (.iload 4, 2) := by decide +kernel
theorem dL_law_1836 : decode cL_law 1836 = .ok (.iconst 1, 1) := by decide +kernel
theorem dL_law_1837 : decode cL_law 1837 = .ok (.iadd, 1) := by decide +kernel
theorem dL_law_1838 : decode cL_law 1838 = .ok (.iaload, 1) := by decide +kernel
theorem dL_law_1839 : decode cL_law 1839 = .ok (.aload_n 3, 1) := by decide +kernel
theorem dL_law_1840 : decode cL_law 1840 = .ok (.invokestatic 221, 3) := by decide +kernel
theorem dL_law_1843 : decode cL_law 1843 = .ok (.istore 5, 2) := by decide +kernel
theorem dL_law_1845 : decode cL_law 1845 = .ok (.aload_n 2, 1) := by decide +kernel
theorem dL_law_1846 : decode cL_law 1846 = .ok (.aload_n 0, 1) := by decide +kernel
theorem dL_law_1847 : decode cL_law 1847 = .ok (.iload 4, 2) := by decide +kernel
theorem dL_law_1849 : decode cL_law 1849 = .ok (.iconst 1, 1) := by decide +kernel
theorem dL_law_1850 : decode cL_law 1850 = .ok (.iadd, 1) := by decide +kernel
theorem dL_law_1851 : decode cL_law 1851 = .ok (.iaload, 1) := by decide +kernel
theorem dL_law_1852 : decode cL_law 1852 = .ok (.invokevirtual 223, 3) := by decide +kernel
theorem dL_law_1855 : decode cL_law 1855 = .ok (.lstore 6, 2) := by decide +kernel
theorem dL_law_1857 : decode cL_law 1857 = .ok (.aload_n 2, 1) := by decide +kernel
theorem dL_law_1858 : decode cL_law 1858 = .ok (.invokevirtual 123, 3) := by decide +kernel
theorem dL_law_1861 : decode cL_law 1861 = .ok (.iload 5, 2) := by decide +kernel
theorem dL_law_1863 : decode cL_law 1863 = .ok (.if_icmp .eq 5, 3) := by decide +kernel
theorem dL_law_1866 : decode cL_law 1866 = .ok (.iconst 0, 1) := by decide +kernel
theorem dL_law_1867 : decode cL_law 1867 = .ok (.ireturn, 1) := by decide +kernel
theorem dL_law_1868 : decode cL_law 1868 = .ok (.iload 5, 2) := by decide +kernel
theorem dL_law_1870 : decode cL_law 1870 = .ok (.ifCond .ne 14, 3) := by decide +kernel
theorem dL_law_1873 : decode cL_law 1873 = .ok (.aload_n 3, 1) := by decide +kernel
theorem dL_law_1874 : decode cL_law 1874 = .ok (.iconst 0, 1) := by decide +kernel
theorem dL_law_1875 : decode cL_law 1875 = .ok (.laload, 1) := by decide +kernel
theorem dL_law_1876 : decode cL_law 1876 = .ok (.lload 6, 2) := by decide +kernel
theorem dL_law_1878 : decode cL_law 1878 = .ok (.lcmp, 1) := by decide +kernel
theorem dL_law_1879 : decode cL_law 1879 = .ok (.ifCond .eq 5, 3) := by decide +kernel
theorem dL_law_1882 : decode cL_law 1882 = .ok (.iconst 0, 1) := by decide +kernel
theorem dL_law_1883 : decode cL_law 1883 = .ok (.ireturn, 1) := by decide +kernel
theorem dL_law_1884 : decode cL_law 1884 = .ok (.goto 262, 3) := by decide +kernel
theorem dL_law_1887 : decode cL_law 1887 = .ok (.aload_n 1, 1) := by decide +kernel
theorem dL_law_1888 : decode cL_law 1888 = .ok (.aload_n 0, 1) := by decide +kernel
theorem dL_law_1889 : decode cL_law 1889 = .ok (.iload 4, 2) := by decide +kernel
theorem dL_law_1891 : decode cL_law 1891 = .ok (.iconst 1, 1) := by decide +kernel
theorem dL_law_1892 : decode cL_law 1892 = .ok (.iadd, 1) := by decide +kernel
theorem dL_law_1893 : decode cL_law 1893 = .ok (.iaload, 1) := by decide +kernel
theorem dL_law_1894 : decode cL_law 1894 = .ok (.aload_n 3, 1) := by decide +kernel
theorem dL_law_1895 : decode cL_law 1895 = .ok (.invokestatic 224, 3) := by decide +kernel
theorem dL_law_1898 : decode cL_law 1898 = .ok (.istore 5, 2) := by decide +kernel
theorem dL_law_1900 : decode cL_law 1900 = .ok (.aload_n 2, 1) := by decide +kernel
theorem dL_law_1901 : decode cL_law 1901 = .ok (.aload_n 0, 1) := by decide +kernel
theorem dL_law_1902 : decode cL_law 1902 = .ok (.iload 4, 2) := by decide +kernel
theorem dL_law_1904 : decode cL_law 1904 = .ok (.iconst 1, 1) := by decide +kernel
theorem dL_law_1905 : decode cL_law 1905 = .ok (.iadd, 1) := by decide +kernel
theorem dL_law_1906 : decode cL_law 1906 = .ok (.iaload, 1) := by decide +kernel
theorem dL_law_1907 : decode cL_law 1907 = .ok (.invokevirtual 226, 3) := by decide +kernel
theorem dL_law_1910 : decode cL_law 1910 = .ok (.lstore 6, 2) := by decide +kernel
theorem dL_law_1912 : decode cL_law 1912 = .ok (.aload_n 2, 1) := by decide +kernel
theorem dL_law_1913 : decode cL_law 1913 = .ok (.invokevirtual 123, 3) := by decide +kernel
theorem dL_law_1916 : decode cL_law 1916 = .ok (.iload 5, 2) := by decide +kernel
theorem dL_law_1918 : decode cL_law 1918 = .ok (.if_icmp .eq 5, 3) := by decide +kernel
theorem dL_law_1921 : decode cL_law 1921 = .ok (.iconst 0, 1) := by decide +kernel
theorem dL_law_1922 : decode cL_law 1922 = .ok (.ireturn, 1) := by decide +kernel
theorem dL_law_1923 : decode cL_law 1923 = .ok (.iload 5, 2) := by decide +kernel
theorem dL_law_1925 : decode cL_law 1925 = .ok (.ifCond .ne 14, 3) := by decide +kernel
theorem dL_law_1928 : decode cL_law 1928 = .ok (.aload_n 3, 1) := by decide +kernel
theorem dL_law_1929 : decode cL_law 1929 = .ok (.iconst 0, 1) := by decide +kernel
theorem dL_law_1930 : decode cL_law 1930 = .ok (.laload, 1) := by decide +kernel
theorem dL_law_1931 : decode cL_law 1931 = .ok (.lload 6, 2) := by decide +kernel
theorem dL_law_1933 : decode cL_law 1933 = .ok (.lcmp, 1) := by decide +kernel
theorem dL_law_1934 : decode cL_law 1934 = .ok (.ifCond .eq 5, 3) := by decide +kernel
theorem dL_law_1937 : decode cL_law 1937 = .ok (.iconst 0, 1) := by decide +kernel
theorem dL_law_1938 : decode cL_law 1938 = .ok (.ireturn, 1) := by decide +kernel
theorem dL_law_1939 : decode cL_law 1939 = .ok (.goto 207, 3) := by decide +kernel
theorem dL_law_1942 : decode cL_law 1942 = .ok (.aload_n 1, 1) := by decide +kernel
theorem dL_law_1943 : decode cL_law 1943 = .ok (.aload_n 0, 1) := by decide +kernel
theorem dL_law_1944 : decode cL_law 1944 = .ok (.iload 4, 2) := by decide +kernel
theorem dL_law_1946 : decode cL_law 1946 = .ok (.iconst 1, 1) := by decide +kernel
theorem dL_law_1947 : decode cL_law 1947 = .ok (.iadd, 1) := by decide +kernel
theorem dL_law_1948 : decode cL_law 1948 = .ok (.iaload, 1) := by decide +kernel
theorem dL_law_1949 : decode cL_law 1949 = .ok (.aload_n 0, 1) := by decide +kernel
theorem dL_law_1950 : decode cL_law 1950 = .ok (.iload 4, 2) := by decide +kernel
theorem dL_law_1952 : decode cL_law 1952 = .ok (.iconst 2, 1) := by decide +kernel
theorem dL_law_1953 : decode cL_law 1953 = .ok (.iadd, 1) := by decide +kernel
theorem dL_law_1954 : decode cL_law 1954 = .ok (.iaload, 1) := by decide +kernel
theorem dL_law_1955 : decode cL_law 1955 = .ok (.aload_n 0, 1) := by decide +kernel
theorem dL_law_1956 : decode cL_law 1956 = .ok (.iload 4, 2) := by decide +kernel
theorem dL_law_1958 : decode cL_law 1958 = .ok (.iconst 3, 1) := by decide +kernel
theorem dL_law_1959 : decode cL_law 1959 = .ok (.iadd, 1) := by decide +kernel
theorem dL_law_1960 : decode cL_law 1960 = .ok (.iaload, 1) := by decide +kernel
theorem dL_law_1961 : decode cL_law 1961 = .ok (.aload_n 3, 1) := by decide +kernel
theorem dL_law_1962 : decode cL_law 1962 = .ok (.invokestatic 227, 3) := by decide +kernel
theorem dL_law_1965 : decode cL_law 1965 = .ok (.istore 5, 2) := by decide +kernel
theorem dL_law_1967 : decode cL_law 1967 = .ok (.aload_n 2, 1) := by decide +kernel
theorem dL_law_1968 : decode cL_law 1968 = .ok (.aload_n 0, 1) := by decide +kernel
theorem dL_law_1969 : decode cL_law 1969 = .ok (.iload 4, 2) := by decide +kernel
theorem dL_law_1971 : decode cL_law 1971 = .ok (.iconst 1, 1) := by decide +kernel
theorem dL_law_1972 : decode cL_law 1972 = .ok (.iadd, 1) := by decide +kernel
theorem dL_law_1973 : decode cL_law 1973 = .ok (.iaload, 1) := by decide +kernel
theorem dL_law_1974 : decode cL_law 1974 = .ok (.aload_n 0, 1) := by decide +kernel
theorem dL_law_1975 : decode cL_law 1975 = .ok (.iload 4, 2) := by decide +kernel
theorem dL_law_1977 : decode cL_law 1977 = .ok (.iconst 2, 1) := by decide +kernel
theorem dL_law_1978 : decode cL_law 1978 = .ok (.iadd, 1) := by decide +kernel
theorem dL_law_1979 : decode cL_law 1979 = .ok (.iaload, 1) := by decide +kernel
theorem dL_law_1980 : decode cL_law 1980 = .ok (.aload_n 0, 1) := by decide +kernel
theorem dL_law_1981 : decode cL_law 1981 = .ok (.iload 4, 2) := by decide +kernel
theorem dL_law_1983 : decode cL_law 1983 = .ok (.iconst 3, 1) := by decide +kernel
theorem dL_law_1984 : decode cL_law 1984 = .ok (.iadd, 1) := by decide +kernel
theorem dL_law_1985 : decode cL_law 1985 = .ok (.iaload, 1) := by decide +kernel
theorem dL_law_1986 : decode cL_law 1986 = .ok (.invokevirtual 229, 3) := by decide +kernel
theorem dL_law_1989 : decode cL_law 1989 = .ok (.istore 6, 2) := by decide +kernel
theorem dL_law_1991 : decode cL_law 1991 = .ok (.aload_n 2, 1) := by decide +kernel
theorem dL_law_1992 : decode cL_law 1992 = .ok (.invokevirtual 123, 3) := by decide +kernel
theorem dL_law_1995 : decode cL_law 1995 = .ok (.iload 5, 2) := by decide +kernel
theorem dL_law_1997 : decode cL_law 1997 = .ok (.if_icmp .eq 5, 3) := by decide +kernel
theorem dL_law_2000 : decode cL_law 2000 = .ok (.iconst 0, 1) := by decide +kernel
theorem dL_law_2001 : decode cL_law 2001 = .ok (.ireturn, 1) := by decide +kernel
theorem dL_law_2002 : decode cL_law 2002 = .ok (.iload 5, 2) := by decide +kernel
theorem dL_law_2004 : decode cL_law 2004 = .ok (.ifCond .ne 15, 3) := by decide +kernel
theorem dL_law_2007 : decode cL_law 2007 = .ok (.aload_n 3, 1) := by decide +kernel
theorem dL_law_2008 : decode cL_law 2008 = .ok (.iconst 0, 1) := by decide +kernel
theorem dL_law_2009 : decode cL_law 2009 = .ok (.laload, 1) := by decide +kernel
theorem dL_law_2010 : decode cL_law 2010 = .ok (.iload 6, 2) := by decide +kernel
theorem dL_law_2012 : decode cL_law 2012 = .ok (.i2l, 1) := by decide +kernel
theorem dL_law_2013 : decode cL_law 2013 = .ok (.lcmp, 1) := by decide +kernel
theorem dL_law_2014 : decode cL_law 2014 = .ok (.ifCond .eq 5, 3) := by decide +kernel
theorem dL_law_2017 : decode cL_law 2017 = .ok (.iconst 0, 1) := by decide +kernel
theorem dL_law_2018 : decode cL_law 2018 = .ok (.ireturn, 1) := by decide +kernel
theorem dL_law_2019 : decode cL_law 2019 = .ok (.goto 127, 3) := by decide +kernel
theorem dL_law_2022 : decode cL_law 2022 = .ok (.aload_n 1, 1) := by decide +kernel
theorem dL_law_2023 : decode cL_law 2023 = .ok (.aload_n 0, 1) := by decide +kernel
theorem dL_law_2024 : decode cL_law 2024 = .ok (.iload 4, 2) := by decide +kernel
theorem dL_law_2026 : decode cL_law 2026 = .ok (.iconst 1, 1) := by decide +kernel
theorem dL_law_2027 : decode cL_law 2027 = .ok (.iadd, 1) := by decide +kernel
theorem dL_law_2028 : decode cL_law 2028 = .ok (.iaload, 1) := by decide +kernel
theorem dL_law_2029 : decode cL_law 2029 = .ok (.aload_n 0, 1) := by decide +kernel
theorem dL_law_2030 : decode cL_law 2030 = .ok (.iload 4, 2) := by decide +kernel
theorem dL_law_2032 : decode cL_law 2032 = .ok (.iconst 2, 1) := by decide +kernel
theorem dL_law_2033 : decode cL_law 2033 = .ok (.iadd, 1) := by decide +kernel
theorem dL_law_2034 : decode cL_law 2034 = .ok (.iaload, 1) := by decide +kernel
theorem dL_law_2035 : decode cL_law 2035 = .ok (.aload_n 3, 1) := by decide +kernel
theorem dL_law_2036 : decode cL_law 2036 = .ok (.invokestatic 230, 3) := by decide +kernel
theorem dL_law_2039 : decode cL_law 2039 = .ok (.istore 5, 2) := by decide +kernel
theorem dL_law_2041 : decode cL_law 2041 = .ok (.aload_n 2, 1) := by decide +kernel
theorem dL_law_2042 : decode cL_law 2042 = .ok (.aload_n 0, 1) := by decide +kernel
theorem dL_law_2043 : decode cL_law 2043 = .ok (.iload 4, 2) := by decide +kernel
theorem dL_law_2045 : decode cL_law 2045 = .ok (.iconst 1, 1) := by decide +kernel
theorem dL_law_2046 : decode cL_law 2046 = .ok (.iadd, 1) := by decide +kernel
theorem dL_law_2047 : decode cL_law 2047 = .ok (.iaload, 1) := by decide +kernel
theorem dL_law_2048 : decode cL_law 2048 = .ok (.aload_n 0, 1) := by decide +kernel
theorem dL_law_2049 : decode cL_law 2049 = .ok (.iload 4, 2) := by decide +kernel
theorem dL_law_2051 : decode cL_law 2051 = .ok (.iconst 2, 1) := by decide +kernel
theorem dL_law_2052 : decode cL_law 2052 = .ok (.iadd, 1) := by decide +kernel
theorem dL_law_2053 : decode cL_law 2053 = .ok (.iaload, 1) := by decide +kernel
theorem dL_law_2054 : decode cL_law 2054 = .ok (.invokevirtual 232, 3) := by decide +kernel
theorem dL_law_2057 : decode cL_law 2057 = .ok (.istore 6, 2) := by decide +kernel
theorem dL_law_2059 : decode cL_law 2059 = .ok (.aload_n 2, 1) := by decide +kernel
theorem dL_law_2060 : decode cL_law 2060 = .ok (.invokevirtual 123, 3) := by decide +kernel
theorem dL_law_2063 : decode cL_law 2063 = .ok (.iload 5, 2) := by decide +kernel
theorem dL_law_2065 : decode cL_law 2065 = .ok (.if_icmp .eq 5, 3) := by decide +kernel
theorem dL_law_2068 : decode cL_law 2068 = .ok (.iconst 0, 1) := by decide +kernel
theorem dL_law_2069 : decode cL_law 2069 = .ok (.ireturn, 1) := by decide +kernel
theorem dL_law_2070 : decode cL_law 2070 = .ok (.iload 5, 2) := by decide +kernel
theorem dL_law_2072 : decode cL_law 2072 = .ok (.ifCond .ne 15, 3) := by decide +kernel
theorem dL_law_2075 : decode cL_law 2075 = .ok (.aload_n 3, 1) := by decide +kernel
theorem dL_law_2076 : decode cL_law 2076 = .ok (.iconst 0, 1) := by decide +kernel
theorem dL_law_2077 : decode cL_law 2077 = .ok (.laload, 1) := by decide +kernel
theorem dL_law_2078 : decode cL_law 2078 = .ok (.iload 6, 2) := by decide +kernel
theorem dL_law_2080 : decode cL_law 2080 = .ok (.i2l, 1) := by decide +kernel
theorem dL_law_2081 : decode cL_law 2081 = .ok (.lcmp, 1) := by decide +kernel
theorem dL_law_2082 : decode cL_law 2082 = .ok (.ifCond .eq 5, 3) := by decide +kernel
theorem dL_law_2085 : decode cL_law 2085 = .ok (.iconst 0, 1) := by decide +kernel
theorem dL_law_2086 : decode cL_law 2086 = .ok (.ireturn, 1) := by decide +kernel
theorem dL_law_2087 : decode cL_law 2087 = .ok (.goto 59, 3) := by decide +kernel
theorem dL_law_2090 : decode cL_law 2090 = .ok (.aload_n 1, 1) := by decide +kernel
theorem dL_law_2091 : decode cL_law 2091 = .ok (.aload_n 0, 1) := by decide +kernel
theorem dL_law_2092 : decode cL_law 2092 = .ok (.iload 4, 2) := by decide +kernel
theorem dL_law_2094 : decode cL_law 2094 = .ok (.iconst 1, 1) := by decide +kernel
theorem dL_law_2095 : decode cL_law 2095 = .ok (.iadd, 1) := by decide +kernel
theorem dL_law_2096 : decode cL_law 2096 = .ok (.iaload, 1) := by decide +kernel
theorem dL_law_2097 : decode cL_law 2097 = .ok (.aload_n 3, 1) := by decide +kernel
theorem dL_law_2098 : decode cL_law 2098 = .ok (.invokestatic 233, 3) := by decide +kernel
theorem dL_law_2101 : decode cL_law 2101 = .ok (.istore 5, 2) := by decide +kernel
theorem dL_law_2103 : decode cL_law 2103 = .ok (.aload_n 2, 1) := by decide +kernel
theorem dL_law_2104 : decode cL_law 2104 = .ok (.aload_n 0, 1) := by decide +kernel
theorem dL_law_2105 : decode cL_law 2105 = .ok (.iload 4, 2) := by decide +kernel
theorem dL_law_2107 : decode cL_law 2107 = .ok (.iconst 1, 1) := by decide +kernel
theorem dL_law_2108 : decode cL_law 2108 = .ok (.iadd, 1) := by decide +kernel
theorem dL_law_2109 : decode cL_law 2109 = .ok (.iaload, 1) := by decide +kernel
theorem dL_law_2110 : decode cL_law 2110 = .ok (.invokevirtual 235, 3) := by decide +kernel
theorem dL_law_2113 : decode cL_law 2113 = .ok (.istore 6, 2) := by decide +kernel
theorem dL_law_2115 : decode cL_law 2115 = .ok (.aload_n 2, 1) := by decide +kernel
theorem dL_law_2116 : decode cL_law 2116 = .ok (.invokevirtual 123, 3) := by decide +kernel
theorem dL_law_2119 : decode cL_law 2119 = .ok (.iload 5, 2) := by decide +kernel
theorem dL_law_2121 : decode cL_law 2121 = .ok (.if_icmp .eq 5, 3) := by decide +kernel
theorem dL_law_2124 : decode cL_law 2124 = .ok (.iconst 0, 1) := by decide +kernel
theorem dL_law_2125 : decode cL_law 2125 = .ok (.ireturn, 1) := by decide +kernel
theorem dL_law_2126 : decode cL_law 2126 = .ok (.iload 5, 2) := by decide +kernel
theorem dL_law_2128 : decode cL_law 2128 = .ok (.ifCond .ne 15, 3) := by decide +kernel
theorem dL_law_2131 : decode cL_law 2131 = .ok (.aload_n 3, 1) := by decide +kernel
theorem dL_law_2132 : decode cL_law 2132 = .ok (.iconst 0, 1) := by decide +kernel
theorem dL_law_2133 : decode cL_law 2133 = .ok (.laload, 1) := by decide +kernel
theorem dL_law_2134 : decode cL_law 2134 = .ok (.iload 6, 2) := by decide +kernel
theorem dL_law_2136 : decode cL_law 2136 = .ok (.i2l, 1) := by decide +kernel
theorem dL_law_2137 : decode cL_law 2137 = .ok (.lcmp, 1) := by decide +kernel
theorem dL_law_2138 : decode cL_law 2138 = .ok (.ifCond .eq 5, 3) := by decide +kernel
theorem dL_law_2141 : decode cL_law 2141 = .ok (.iconst 0, 1) := by decide +kernel
theorem dL_law_2142 : decode cL_law 2142 = .ok (.ireturn, 1) := by decide +kernel
theorem dL_law_2143 : decode cL_law 2143 = .ok (.goto 3, 3) := by decide +kernel
theorem dL_law_2146 : decode cL_law 2146 = .ok (.iinc 4 4, 3) := by decide +kernel
theorem dL_law_2149 : decode cL_law 2149 = .ok (.goto (-2126), 3) := by decide +kernel
theorem dL_law_2152 : decode cL_law 2152 = .ok (.iconst 1, 1) := by decide +kernel
theorem dL_law_2153 : decode cL_law 2153 = .ok (.ireturn, 1) := by decide +kernel
end
section
/-! the abstract heap: a kind, a length, ints, longs and references by address and place; the next address -/
abbrev KV : Type := Int32 ⊕ (Int64 ⊕ Option Nat)
abbrev KH : Type := (Nat → Nat) × (Nat → Nat) × (Nat → Nat → Int32) × (Nat → Nat → Int64) × (Nat → Nat → Option Nat) × Nat
abbrev KO (α : Type) : Type := Option ((Nat ⊕ α) × KH)
def kmk (d : Nat → Nat) (n : Nat → Nat) (i : Nat → Nat → Int32) (l : Nat → Nat → Int64) (r : Nat → Nat → Option Nat) (x : Nat) : KH := (d, n, i, l, r, x)
def kd (h : KH) : Nat → Nat := h.1
def kn (h : KH) : Nat → Nat := h.2.1
def kI (h : KH) : Nat → Nat → Int32 := h.2.2.1
def kL (h : KH) : Nat → Nat → Int64 := h.2.2.2.1
def kR (h : KH) : Nat → Nat → Option Nat := h.2.2.2.2.1
def kx (h : KH) : Nat := h.2.2.2.2.2
def sI (h : KH) (a k : Nat) (v : Int32) : KH := kmk (kd h) (kn h) (fun b j => if b = a ∧ j = k then v else kI h b j) (kL h) (kR h) (kx h)
def sL (h : KH) (a k : Nat) (v : Int64) : KH := kmk (kd h) (kn h) (kI h) (fun b j => if b = a ∧ j = k then v else kL h b j) (kR h) (kx h)
def sR (h : KH) (a k : Nat) (v : Option Nat) : KH := kmk (kd h) (kn h) (kI h) (kL h) (fun b j => if b = a ∧ j = k then v else kR h b j) (kx h)
def sX (h : KH) (x : Nat) : KH := kmk (kd h) (kn h) (kI h) (kL h) (kR h) x
def al (h : KH) (c n : Nat) : KH := kmk (fun b => if b = kx h then c else kd h b) (fun b => if b = kx h then n else kn h b) (fun b j => if b = kx h then 0 else kI h b j) (fun b j => if b = kx h then 0 else kL h b j) (fun b j => if b = kx h then none else kR h b j) (kx h + 1)
/-! the kinds: 1 to 11 the classes of vwCl, 21 on the arrays -/
def kTy (c : Nat) : Option FieldType := match c with
  | 21 => some .int
  | 22 => some .long
  | 23 => some .boolean
  | 24 => some (.array .int)
  | 25 => some (.object "Tollkeeper$Plate")
  | 26 => some (.object "Tollkeeper$Reading")
  | 27 => some (.object "Tollkeeper$Warrant")
  | 28 => some (.object "Tollkeeper$Answer")
  | _ => none
def kFt (ci k : Nat) : FieldType := match ci with
  | 0 => tyX0 k
  | 1 => tyX1 k
  | 2 => tyX2 k
  | 3 => tyX3 k
  | 4 => tyX4 k
  | 5 => tyX5 k
  | 6 => tyX6 k
  | 7 => tyX7 k
  | 8 => tyX8 k
  | 9 => tyX9 k
  | _ => tyX10 k
def ksrt (t : FieldType) : Nat := match t with
  | .long => 1
  | .object _ => 2
  | .array _ => 2
  | _ => 0
/-! what a step answers: nothing (a fault), an exception by its number, or a value; and the heap -/
def kret {α : Type} (v : α) (h : KH) : KO α := some (.inr v, h)
def kthrow {α : Type} (e : Nat) (h : KH) : KO α := some (.inl e, h)
def kbind {α β : Type} (x : KO α) (k : α → KH → KO β) : KO β := match x with
  | some (.inr v, h) => k v h
  | some (.inl e, h) => some (.inl e, h)
  | none => none
/-- a call under a catch -/
def kcatch {α β : Type} (x : KO α) (c : Nat → KH → KO β) (k : α → KH → KO β) : KO β := match x with
  | some (.inr v, h) => k v h
  | some (.inl e, h) => c e h
  | none => none
def kg {α : Type} (c : Prop) [Decidable c] (x : KO α) : KO α := if c then x else none
def kmay {α β : Type} (o : Option α) (k : α → KO β) : KO β := match o with
  | some a => k a
  | none => none
def knul {α β : Type} (o : Option α) (x : KO β) (k : α → KO β) : KO β := match o with
  | none => x
  | some a => k a
def kix (i : Int32) (n : Nat) : Prop := ¬ (i < 0 ∨ n ≤ i.toNatClampNeg)
def kif {α : Type} (c : Prop) [Decidable c] (x y : KO α) : KO α := if c then x else y
/-- fuel of a loop -/
def kF : Nat := 1000
/-! reads and writes with their guards -/
def gI {α : Type} (h : KH) (a c k : Nat) (f : Int32 → KO α) : KO α := if kd h a = c then f (kI h a k) else none
def gR {α : Type} (h : KH) (a c k : Nat) (f : Option Nat → KO α) : KO α := if kd h a = c then f (kR h a k) else none
def gN {α : Type} (h : KH) (a c k : Nat) (f : Nat → KO α) : KO α := if kd h a = c then kmay (kR h a k) f else none
def pI {α : Type} (h : KH) (a c k : Nat) (v : Int32) (f : KH → KO α) : KO α := if kd h a = c then f (sI h a k v) else none
def pR {α : Type} (h : KH) (a c k : Nat) (v : Option Nat) (f : KH → KO α) : KO α := if kd h a = c then f (sR h a k v) else none
def gAI {α : Type} (h : KH) (a c : Nat) (i : Int32) (f : Int32 → KO α) : KO α := if kd h a = c ∧ ¬ (i < 0 ∨ kn h a ≤ i.toNatClampNeg) then f (kI h a i.toNatClampNeg) else none
def gAL {α : Type} (h : KH) (a c : Nat) (i : Int32) (f : Int64 → KO α) : KO α := if kd h a = c ∧ ¬ (i < 0 ∨ kn h a ≤ i.toNatClampNeg) then f (kL h a i.toNatClampNeg) else none
def gAN {α : Type} (h : KH) (a c : Nat) (i : Int32) (f : Nat → KO α) : KO α := if kd h a = c ∧ ¬ (i < 0 ∨ kn h a ≤ i.toNatClampNeg) then kmay (kR h a i.toNatClampNeg) f else none
def pAI {α : Type} (h : KH) (a c : Nat) (i : Int32) (v : Int32) (f : KH → KO α) : KO α := if kd h a = c ∧ ¬ (i < 0 ∨ kn h a ≤ i.toNatClampNeg) then f (sI h a i.toNatClampNeg v) else none
def pAZ {α : Type} (h : KH) (a c : Nat) (i : Int32) (v : Int32) (f : KH → KO α) : KO α := if kd h a = c ∧ ¬ (i < 0 ∨ kn h a ≤ i.toNatClampNeg) ∧ (v = 0 ∨ v = 1) then f (sI h a i.toNatClampNeg v) else none
def pAL {α : Type} (h : KH) (a c : Nat) (i : Int32) (v : Int64) (f : KH → KO α) : KO α := if kd h a = c ∧ ¬ (i < 0 ∨ kn h a ≤ i.toNatClampNeg) then f (sL h a i.toNatClampNeg v) else none
def pAN {α : Type} (h : KH) (a c cv : Nat) (i : Int32) (v : Nat) (f : KH → KO α) : KO α := if kd h a = c ∧ ¬ (i < 0 ∨ kn h a ≤ i.toNatClampNeg) ∧ kd h v = cv then f (sR h a i.toNatClampNeg (some v)) else none
def nw {α : Type} (h : KH) (c n : Nat) (f : Nat → KH → KO α) : KO α := if kd h (kx h) = 0 then f (kx h) (al h c n) else none
def kretZ (v : Int32) (h : KH) : KO Int32 := if v = 0 ∨ v = 1 then some (.inr v, h) else none
def kretC (v : Int32) (h : KH) : KO Int32 := if (v.toUInt32 % 65536).toInt32 = v then some (.inr v, h) else none
/-- a division by what isn't 0 -/
def kdv {α : Type} (y : Int32) (f : KO α) : KO α := if y = 0 then none else f
/-! plain facts -/
theorem kd_mk (d n i l r x) : kd (kmk d n i l r x) = d := rfl
theorem kn_mk (d n i l r x) : kn (kmk d n i l r x) = n := rfl
theorem kI_mk (d n i l r x) : kI (kmk d n i l r x) = i := rfl
theorem kL_mk (d n i l r x) : kL (kmk d n i l r x) = l := rfl
theorem kR_mk (d n i l r x) : kR (kmk d n i l r x) = r := rfl
theorem kx_mk (d n i l r x) : kx (kmk d n i l r x) = x := rfl
theorem kd_sI (h : KH) (a k v) : kd (sI h a k v) = kd h := rfl
theorem kn_sI (h : KH) (a k v) : kn (sI h a k v) = kn h := rfl
theorem kL_sI (h : KH) (a k v) : kL (sI h a k v) = kL h := rfl
theorem kR_sI (h : KH) (a k v) : kR (sI h a k v) = kR h := rfl
theorem kx_sI (h : KH) (a k v) : kx (sI h a k v) = kx h := rfl
theorem kI_sI (h : KH) (a k : Nat) (v : Int32) (b j : Nat) : kI (sI h a k v) b j = if b = a ∧ j = k then v else kI h b j := rfl
theorem kd_sL (h : KH) (a k v) : kd (sL h a k v) = kd h := rfl
theorem kn_sL (h : KH) (a k v) : kn (sL h a k v) = kn h := rfl
theorem kI_sL (h : KH) (a k v) : kI (sL h a k v) = kI h := rfl
theorem kR_sL (h : KH) (a k v) : kR (sL h a k v) = kR h := rfl
theorem kx_sL (h : KH) (a k v) : kx (sL h a k v) = kx h := rfl
theorem kL_sL (h : KH) (a k : Nat) (v : Int64) (b j : Nat) : kL (sL h a k v) b j = if b = a ∧ j = k then v else kL h b j := rfl
theorem kd_sR (h : KH) (a k v) : kd (sR h a k v) = kd h := rfl
theorem kn_sR (h : KH) (a k v) : kn (sR h a k v) = kn h := rfl
theorem kI_sR (h : KH) (a k v) : kI (sR h a k v) = kI h := rfl
theorem kL_sR (h : KH) (a k v) : kL (sR h a k v) = kL h := rfl
theorem kx_sR (h : KH) (a k v) : kx (sR h a k v) = kx h := rfl
theorem kR_sR (h : KH) (a k : Nat) (v : Option Nat) (b j : Nat) : kR (sR h a k v) b j = if b = a ∧ j = k then v else kR h b j := rfl
theorem kd_sX (h : KH) (x) : kd (sX h x) = kd h := rfl
theorem kn_sX (h : KH) (x) : kn (sX h x) = kn h := rfl
theorem kI_sX (h : KH) (x) : kI (sX h x) = kI h := rfl
theorem kL_sX (h : KH) (x) : kL (sX h x) = kL h := rfl
theorem kR_sX (h : KH) (x) : kR (sX h x) = kR h := rfl
theorem kx_sX (h : KH) (x) : kx (sX h x) = x := rfl
theorem kd_al (h : KH) (c n b : Nat) : kd (al h c n) b = if b = kx h then c else kd h b := rfl
theorem kn_al (h : KH) (c n b : Nat) : kn (al h c n) b = if b = kx h then n else kn h b := rfl
theorem kI_al (h : KH) (c n b j : Nat) : kI (al h c n) b j = if b = kx h then 0 else kI h b j := rfl
theorem kL_al (h : KH) (c n b j : Nat) : kL (al h c n) b j = if b = kx h then 0 else kL h b j := rfl
theorem kR_al (h : KH) (c n b j : Nat) : kR (al h c n) b j = if b = kx h then none else kR h b j := rfl
theorem kx_al (h : KH) (c n : Nat) : kx (al h c n) = kx h + 1 := rfl
theorem kbind_ret {α β : Type} (v : α) (h : KH) (k : α → KH → KO β) : kbind (kret v h) k = k v h := rfl
theorem kbind_throw {α β : Type} (e : Nat) (h : KH) (k : α → KH → KO β) : kbind (kthrow e h) k = kthrow e h := rfl
theorem kbind_none {α β : Type} (k : α → KH → KO β) : kbind none k = none := rfl
theorem kmay_some {α β : Type} (a : α) (k : α → KO β) : kmay (some a) k = k a := rfl
theorem knul_some {α β : Type} (a : α) (x : KO β) (k : α → KO β) : knul (some a) x k = k a := rfl
theorem knul_none {α β : Type} (x : KO β) (k : α → KO β) : knul none x k = x := rfl
end
section
/-! the words: those of the tables that every later state keeps -/
def kT : List Cond := lw_tbl.filter goodWord
theorem kT_of {w : Cond} (i : Nat) (h : lw_tbl[i]? = some w) (hg : goodWord w = true) : w ∈ kT := List.mem_filter.mpr ⟨List.mem_of_getElem? h, hg⟩
theorem kT_good : GoodIn kT kT := fun w h => ⟨h, good_of_word (List.mem_filter.mp h).2⟩
theorem kT_goodc {w : Cond} (h : w ∈ kT) : GoodIn kT (w :: kT) := fun w' h' => by
  rcases List.mem_cons.mp h' with rfl | h'
  · exact kT_good _ h
  · exact kT_good _ h'
abbrev KG : Type := va_G × (Nat → ClassId)
def ktr (ρ : Nat → Nat) (v : KV) : Value := match v with
  | .inl x => .int x
  | .inr (.inl x) => .long x
  | .inr (.inr o) => va_rf (o.map ρ)
def kcat (v : KV) : Nat := match v with
  | .inr (.inl _) => 2
  | _ => 1
theorem kcat_ok (ρ : Nat → Nat) (v : KV) : (ktr ρ v).category = kcat v := by
  rcases v with x | x | _ | a <;> rfl
theorem kcat_sum (ρ : Nat → Nat) (st : List KV) : ((st.map (ktr ρ)).map fun v => v.category).sum = (st.map kcat).sum := by
  rw [List.map_map]
  congr 1
  exact List.map_congr_left fun v _ => kcat_ok ρ v
def kV (ρ : Nat → Nat) (h : KH) (a k s : Nat) : Value := match s with
  | 0 => .int (kI h a k)
  | 1 => .long (kL h a k)
  | _ => va_rf ((kR h a k).map ρ)
def kAt (G : KG) (ρ : Nat → Nat) (h : KH) (a : Nat) (H : Heap) : Prop :=
  (∀ (ci : Nat) (q : vw_C), vwCl[ci]? = some q → kd h a = ci + 1 → t_OB (ρ a) (G.1.1 ci) q.2.2 (G.1.2 ci) H (fun k => kV ρ h a k (ksrt (kFt ci k)))) ∧
  (∀ ty, kTy (kd h a) = some ty → H[ρ a]? = some (arrV (G.2 (kd h a)) (kn h a) (fun k => kV ρ h a k (ksrt ty))))
def kRep (G : KG) (ρ : Nat → Nat) (h : KH) (H : Heap) : Prop :=
  (∀ a, kd h a ≠ 0 → ρ a < H.size ∧ kAt G ρ h a H) ∧ (∀ a b, kd h a ≠ 0 → kd h b ≠ 0 → ρ a = ρ b → a = b) ∧ ∀ a k b, kd h a ≠ 0 → kR h a k = some b → kd h b ≠ 0
theorem kTy_obj {ci : Nat} {q : vw_C} (h : vwCl[ci]? = some q) : kTy (ci + 1) = none := by
  have h1 : ci < 11 := (List.getElem?_eq_some_iff.mp h).1
  have h2 : ∀ i, i < 11 → (kTy (i + 1)).isNone = true := by decide
  exact Option.isNone_iff_eq_none.mp (h2 ci h1)
theorem kTy_arr {c : Nat} {ty : FieldType} (h : kTy c = some ty) : 21 ≤ c := by
  unfold kTy at h
  split at h
  all_goals first
    | (cases h; done)
    | omega
theorem kCl_lt {ci : Nat} {q : vw_C} (h : vwCl[ci]? = some q) : ci < 11 := (List.getElem?_eq_some_iff.mp h).1
theorem kAt.same {G : KG} {ρ ρ' : Nat → Nat} {h h' : KH} {a : Nat} {H H' : Heap} (hA : kAt G ρ h a H) (e0 : ρ' a = ρ a) (e1 : kd h' a = kd h a) (e2 : kn h' a = kn h a) (e3 : ∀ k s, kV ρ' h' a k s = kV ρ h a k s) (e4 : H'[ρ a]? = H[ρ a]?) : kAt G ρ' h' a H' := by
  refine ⟨fun ci q hq hk => ?_, fun ty hty => ?_⟩
  · rw [e0]
    exact ((hA.1 ci q hq (by rw [← e1]; exact hk)).kept e4).to (fun k _ => (e3 k _).symm)
  · rw [e0, e4, hA.2 ty (by rw [← e1]; exact hty), e1, e2]
    congr 2
    funext k
    exact (e3 k _).symm
/-- one cell is written -/
theorem kRep.upd {G : KG} {ρ : Nat → Nat} {h h' : KH} {H H' : Heap} (hr : kRep G ρ h H) (a : Nat) (ha : kd h a ≠ 0) (e1 : kd h' = kd h) (e2 : ∀ b, b ≠ a → kn h' b = kn h b ∧ kI h' b = kI h b ∧ kL h' b = kL h b ∧ kR h' b = kR h b)
    (hz : H'.size = H.size) (ho : ∀ q : Nat, q ≠ ρ a → H'[q]? = H[q]?) (hat : kAt G ρ h' a H') (hok : ∀ k b, kR h' a k = some b → kd h b ≠ 0) : kRep G ρ h' H' := by
  obtain ⟨r1, r2, r3⟩ := hr
  refine ⟨fun b hb => ?_, fun b d hb hd => r2 b d (by rw [← e1]; exact hb) (by rw [← e1]; exact hd), fun b k d hb hk => ?_⟩
  · rw [e1] at hb
    refine ⟨by rw [hz]; exact (r1 b hb).1, ?_⟩
    by_cases hba : b = a
    · subst hba
      exact hat
    · obtain ⟨f1, f2, f3, f4⟩ := e2 b hba
      refine (r1 b hb).2.same rfl (by rw [e1]) f1 (fun k s => ?_) (ho _ fun e => hba (r2 b a hb ha e))
      unfold kV
      rw [f2, f3, f4]
  · rw [e1] at hb ⊢
    by_cases hba : b = a
    · subst hba
      exact hok k d hk
    · rw [(e2 b hba).2.2.2] at hk
      exact r3 b k d hb hk
/-- a value put at a place -/
def kset (h : KH) (a k : Nat) (v : KV) : KH := match v with
  | .inl x => sI h a k x
  | .inr (.inl x) => sL h a k x
  | .inr (.inr o) => sR h a k o
def ksrtV (v : KV) : Nat := match v with
  | .inl _ => 0
  | .inr (.inl _) => 1
  | .inr (.inr _) => 2
def kOk (h : KH) (v : KV) : Prop := ∀ a, v = .inr (.inr (some a)) → kd h a ≠ 0
theorem kset_kd (h : KH) (a k : Nat) (v : KV) : kd (kset h a k v) = kd h := by rcases v with x | x | o <;> rfl
theorem kset_ne (h : KH) (a k : Nat) (v : KV) {b : Nat} (hb : b ≠ a) : kn (kset h a k v) b = kn h b ∧ kI (kset h a k v) b = kI h b ∧ kL (kset h a k v) b = kL h b ∧ kR (kset h a k v) b = kR h b := by
  rcases v with x | x | o <;> refine ⟨rfl, ?_, ?_, ?_⟩ <;> first | rfl | (funext j; simp [kset, kI_sI, kL_sL, kR_sR, hb])
theorem kset_n (h : KH) (a k : Nat) (v : KV) : kn (kset h a k v) = kn h := by rcases v with x | x | o <;> rfl
/-- what is read behind a write, of places of the same sort -/
theorem kset_V (ρ : Nat → Nat) (h : KH) (a k : Nat) (v : KV) (j s : Nat) (hs : j = k → s = ksrtV v) : kV ρ (kset h a k v) a j s = updV (fun j => kV ρ h a j s) k (ktr ρ v) j := by
  unfold updV
  by_cases hj : j = k
  · rw [if_pos hj]
    subst hj
    rw [hs rfl]
    rcases v with x | x | o <;> simp [kV, kset, ksrtV, ktr, kI_sI, kL_sL, kR_sR]
  · rw [if_neg hj]
    rcases v with x | x | o <;> unfold kV kset <;> split <;> simp [kI_sI, kL_sL, kR_sR, kI_sL, kI_sR, kL_sI, kL_sR, kR_sI, kR_sL, hj]
theorem kset_R (h : KH) (a k : Nat) (v : KV) (hv : kOk h v) (hr : ∀ k b, kR h a k = some b → kd h b ≠ 0) : ∀ j b, kR (kset h a k v) a j = some b → kd h b ≠ 0 := by
  intro j b hb
  rcases v with x | x | o
  · exact hr j b hb
  · exact hr j b hb
  · rw [show kset h a k (.inr (.inr o)) = sR h a k o from rfl, kR_sR] at hb
    by_cases hj : j = k
    · rw [if_pos ⟨rfl, hj⟩] at hb
      subst hb
      exact hv b rfl
    · rw [if_neg (fun q => hj q.2)] at hb
      exact hr j b hb
/-! what the tables say of the classes -/
def kNest : List Cond := lw_tbl.filter (fun w => match w with
  | .methodLinkNest .. => true
  | .fieldLinkNest .. => true
  | .castable .. => true
  | .declares .. => true
  | _ => false)
def kExs : List String := ["java/lang/IllegalArgumentException", "java/lang/IllegalStateException", "java/lang/IndexOutOfBoundsException", "java/util/NoSuchElementException"]
def kArr : List String := ["Tollkeeper$Plate", "Tollkeeper$Reading", "Tollkeeper$Warrant", "Tollkeeper$Answer"]
def kK (G : KG) (U : State) : Prop :=
  (∀ (ci : Nat) (q : vw_C), vwCl[ci]? = some q → u_Kn U q.1 q.2.1 q.2.2 (G.1.1 ci) (G.1.2 ci)) ∧
  (∀ (t : Nat) (ty : FieldType), kTy t = some ty → ArrOfT U (G.2 t) ty ∧ va_RA U (G.2 t) ty) ∧
  (∀ w ∈ kNest, va_Nw w U) ∧ (∀ C ∈ kArr, va_AO C U) ∧ (Cond.arrayOver (.array .int)).before #[] U = true ∧
  (∀ (own : String) (k : Nat) (tx : String), Cond.stringRef own k tx ∈ lw_tbl → ∃ a, vk_R own k tx a U) ∧
  (∀ C ∈ kExs, ∀ D ∈ kExs, C ≠ D → va_Nc C D U)
def kZ (A : Nat → Prop) (U : State) (H : Heap) : Prop := vx_Zq Bundle.tN "UNASSIGNED_STACK" Bundle.steD A U H ∧ vx_Zq Bundle.tN "SUPPRESSED_SENTINEL" Bundle.listD A U H
def kOks (h : KH) (L : List (Nat × KV)) (st : List KV) : Prop := (∀ q ∈ L, kOk h q.2) ∧ ∀ v ∈ st, kOk h v
def kEx (e : Nat) : String := match e with
  | 1 => "java/lang/IllegalArgumentException"
  | 2 => "java/lang/IllegalStateException"
  | 3 => "java/lang/IndexOutOfBoundsException"
  | _ => "java/util/NoSuchElementException"
def kEnd (G : KG) (A : Nat → Prop) (h0 : KH) (ρ0 : Nat → Nat) (h' : KH) (ρ' : Nat → Nat) (st t : State) : Prop :=
  kRep G ρ' h' t.heap ∧ (∀ a, kd h0 a ≠ 0 → kd h' a = kd h0 a ∧ ρ' a = ρ0 a) ∧ (∀ a, kd h' a ≠ 0 → kd h0 a = 0 → st.heap.size ≤ ρ' a) ∧ va_F A st t
def kQc {α : Type} (enc : α → Option KV) (G : KG) (A : Nat → Prop) (h0 : KH) (ρ0 : Nat → Nat) (r : Nat ⊕ α) (h' : KH) : Array Value → State → Outcome → State → Prop := fun _ st o t =>
  ∃ (v : α) (ρ' : Nat → Nat), r = .inr v ∧ o = .returned ((enc v).map (ktr ρ')) ∧ (∀ u, enc v = some u → kOk h' u) ∧ kEnd G A h0 ρ0 h' ρ' st t
def kXC {α : Type} (G : KG) (A : Nat → Prop) (h0 : KH) (ρ0 : Nat → Nat) (r : Nat ⊕ α) (h' : KH) : String → State → State → Prop := fun E st t =>
  ∃ (e : Nat) (ρ' : Nat → Nat), r = .inl e ∧ E = kEx e ∧ kEnd G A h0 ρ0 h' ρ' st t
/-! a point of a method's walk -/
abbrev KX : Type := Program × Launch × Env × Room × State × MethodId × Array Value × List Frame × Method × Code × KG × (Nat → Prop) × KH × (Nat → Nat) × Nat × Nat × Nat
abbrev xp (X : KX) : Program := X.1
abbrev xl (X : KX) : Launch := X.2.1
abbrev xe (X : KX) : Env := X.2.2.1
abbrev xR (X : KX) : Room := X.2.2.2.1
abbrev xs (X : KX) : State := X.2.2.2.2.1
abbrev xm (X : KX) : MethodId := X.2.2.2.2.2.1
abbrev xar (X : KX) : Array Value := X.2.2.2.2.2.2.1
abbrev xbe (X : KX) : List Frame := X.2.2.2.2.2.2.2.1
abbrev xme (X : KX) : Method := X.2.2.2.2.2.2.2.2.1
abbrev xc (X : KX) : Code := X.2.2.2.2.2.2.2.2.2.1
abbrev xG (X : KX) : KG := X.2.2.2.2.2.2.2.2.2.2.1
abbrev xA (X : KX) : Nat → Prop := X.2.2.2.2.2.2.2.2.2.2.2.1
abbrev xh (X : KX) : KH := X.2.2.2.2.2.2.2.2.2.2.2.2.1
abbrev xr (X : KX) : Nat → Nat := X.2.2.2.2.2.2.2.2.2.2.2.2.2.1
abbrev xmc (X : KX) : Nat := X.2.2.2.2.2.2.2.2.2.2.2.2.2.2.1
abbrev xms (X : KX) : Nat := X.2.2.2.2.2.2.2.2.2.2.2.2.2.2.2.1
abbrev xD (X : KX) : Nat := X.2.2.2.2.2.2.2.2.2.2.2.2.2.2.2.2
def kC (X : KX) (own : String) (cc : ByteArray) (nL : Nat) (ret : Option FieldType) : Prop :=
  (xp X).tables.exec = Jvm.exec ∧ (xc X).code = cc ∧ (xc X).maxLocals = nL ∧ (xme X).sig.returnType = ret ∧ (xme X).locks = false ∧ (xs X).vm.findClass own = some (xm X).cls ∧
  (∀ w ∈ kT, w.before (xar X) (xs X) = true) ∧ kK (xG X) (xs X) ∧ kZ (xA X) (xs X) (xs X).heap ∧ (xl X).stackTraces = false ∧ (∀ q, (xs X).heap.size ≤ q → (xA X) q) ∧
  ((xD X) ≤ (xR X).frames ∧ 30 * (xD X) ≤ (xR X).locals ∧ (xmc X) ≤ (xR X).cells ∧ (xms X) ≤ (xR X).slots)
def kInv (X : KX) (ρ : Nat → Nat) (h : KH) (H : Heap) (locs : List Loc) : Prop :=
  kRep (xG X) ρ h H ∧ va_S (xA X) (xs X).heap H locs ∧ (∀ a, kd h a ≠ 0 → (xA X) (ρ a)) ∧ (∀ a, kd (xh X) a ≠ 0 → kd h a = kd (xh X) a ∧ ρ a = (xr X) a) ∧ (∀ a, kd h a ≠ 0 → kd (xh X) a = 0 → (xs X).heap.size ≤ ρ a)
def kFin {α : Type} (X : KX) (enc : α → Option KV) (r : Nat ⊕ α) (h' : KH) : State → Prop :=
  vx_MQ (xbe X) (kQc enc (xG X) (xA X) (xh X) (xr X) r h') (kXC (xG X) (xA X) (xh X) (xr X) r h') (xar X) (xs X) (xmc X) (xms X) (xA X)
def klv (ρ : Nat → Nat) (L : List (Nat × KV)) : List (Nat × Value) := L.map (fun q => (q.1, ktr ρ q.2))
abbrev kW {α : Type} (X : KX) (enc : α → Option KV) (cells slots : Nat) (r : Nat ⊕ α) (h' : KH) (H : Heap) (locs : List Loc) (g : JFrame) : Prop :=
  W (xp X) (xl X) (xe X) (xR X) (xs X) (xm X) (xar X) (xbe X) (xme X) (xc X) H locs cells slots (kFin X enc r h') g
def kJ {α : Type} (X : KX) (enc : α → Option KV) (nL cells slots : Nat) (L : List (Nat × KV)) (st : List KV) (pc : Nat) (h : KH) (w : KO α) : Prop :=
  ∀ (r : Nat ⊕ α) (h' : KH), w = some (r, h') → ∀ (ρ : Nat → Nat) (H : Heap) (locs : List Loc) (ls : Array Slot), kInv X ρ h H locs → lv_has ls nL (klv ρ L) → kOks h L st →
    kW X enc cells slots r h' H locs (F0 (xm X) pc ls (st.map (ktr ρ)))
theorem kOks.push {h : KH} {L : List (Nat × KV)} {st : List KV} {v : KV} (hk : kOks h L st) (hv : kOk h v) : kOks h L (v :: st) := ⟨hk.1, fun u hu => by
  rcases List.mem_cons.mp hu with rfl | hu
  · exact hv
  · exact hk.2 u hu⟩
theorem kOks.tail {h : KH} {L : List (Nat × KV)} {st : List KV} {v : KV} (hk : kOks h L (v :: st)) : kOks h L st := ⟨hk.1, fun u hu => hk.2 u (List.mem_cons_of_mem _ hu)⟩
theorem kOks.head {h : KH} {L : List (Nat × KV)} {st : List KV} {v : KV} (hk : kOks h L (v :: st)) : kOk h v := hk.2 v List.mem_cons_self
theorem kOks.loc {h : KH} {L : List (Nat × KV)} {st : List KV} {k i : Nat} {v : KV} (hk : kOks h L st) (hl : L[k]? = some (i, v)) : kOk h v := hk.1 (i, v) (List.mem_of_getElem? hl)
theorem kOk_i (h : KH) (x : Int32) : kOk h (.inl x) := fun _ q => by cases q
theorem kOk_l (h : KH) (x : Int64) : kOk h (.inr (.inl x)) := fun _ q => by cases q
theorem kOk_n (h : KH) : kOk h (.inr (.inr none)) := fun _ q => by cases q
theorem kOk_r {h : KH} {a : Nat} (ha : kd h a ≠ 0) : kOk h (.inr (.inr (some a))) := fun b q => by cases q; exact ha
theorem kOk.mono {h h' : KH} {v : KV} (hv : kOk h v) (hk : ∀ a, kd h a ≠ 0 → kd h' a ≠ 0) : kOk h' v := fun a q => hk a (hv a q)
theorem kOks.mono {h h' : KH} {L : List (Nat × KV)} {st : List KV} (hs : kOks h L st) (hk : ∀ a, kd h a ≠ 0 → kd h' a ≠ 0) : kOks h' L st := ⟨fun q hq => (hs.1 q hq).mono hk, fun v hv => (hs.2 v hv).mono hk⟩
theorem kOks.eq {h h' : KH} {L : List (Nat × KV)} {st : List KV} (hs : kOks h L st) (hk : kd h' = kd h) : kOks h' L st := hs.mono (fun a q => by rw [hk]; exact q)
theorem klv_at {ρ : Nat → Nat} {L : List (Nat × KV)} {k i : Nat} {v : KV} (h : L[k]? = some (i, v)) : (klv ρ L)[k]? = some (i, ktr ρ v) := by
  unfold klv
  rw [List.getElem?_map, h]
  rfl
/-- a place of the locals is written -/
def kst (L : List (Nat × KV)) (i : Nat) (v : KV) : List (Nat × KV) := (i, v) :: L.filter (fun q => !(q.1 == i) && !(q.1 + 1 == i && kcat q.2 == 2))
def kst2 (L : List (Nat × KV)) (i : Nat) (v : KV) : List (Nat × KV) := (i, v) :: L.filter (fun q => !(q.1 == i) && (!(q.1 == i + 1) && !(q.1 + 1 == i && kcat q.2 == 2)))
theorem kst_ok (ρ : Nat → Nat) (L : List (Nat × KV)) (i : Nat) (v : KV) : (i, ktr ρ v) :: (klv ρ L).filter (fun q => !(q.1 == i) && !(q.1 + 1 == i && q.2.category == 2)) = klv ρ (kst L i v) := by
  unfold klv kst
  rw [List.map_cons, List.filter_map]
  congr 2
  apply List.filter_congr
  intro q _
  simp [kcat_ok]
theorem kst2_ok (ρ : Nat → Nat) (L : List (Nat × KV)) (i : Nat) (v : KV) : (i, ktr ρ v) :: (klv ρ L).filter (fun q => !(q.1 == i) && (!(q.1 == i + 1) && !(q.1 + 1 == i && q.2.category == 2))) = klv ρ (kst2 L i v) := by
  unfold klv kst2
  rw [List.map_cons, List.filter_map]
  congr 2
  apply List.filter_congr
  intro q _
  simp [kcat_ok]
theorem kOks.st {h : KH} {L : List (Nat × KV)} {st : List KV} {v : KV} {i : Nat} (hk : kOks h L (v :: st)) : kOks h (kst L i v) st := ⟨fun q hq => by
  rcases List.mem_cons.mp hq with rfl | hq
  · exact hk.head
  · exact hk.1 q (List.mem_filter.mp hq).1, hk.tail.2⟩
theorem kOks.st2 {h : KH} {L : List (Nat × KV)} {st : List KV} {v : KV} {i : Nat} (hk : kOks h L (v :: st)) : kOks h (kst2 L i v) st := ⟨fun q hq => by
  rcases List.mem_cons.mp hq with rfl | hq
  · exact hk.head
  · exact hk.1 q (List.mem_filter.mp hq).1, hk.tail.2⟩
end
section
section KROWS
variable {α β : Type} {X : KX} {enc : α → Option KV} {encb : β → Option KV} {own : String} {cc : ByteArray} {nL : Nat} {ret : Option FieldType} {cells slots : Nat} {L : List (Nat × KV)} {st : List KV} {pc : Nat} {h : KH} {w : KO α}
/-! constants -/
theorem kj_iconst (hC : kC X own cc nL ret) {n : Int} {v : Int32} (hd : decode cc pc = .ok (.iconst n, 1)) (hv : Int32.ofInt n = v) (k : kJ X enc nL cells slots L (.inl v :: st) (pc + 1) h w) : kJ X enc nL cells slots L st pc h w := by
  intro r h' hw ρ H locs ls hI hl hk
  exact lv_iconst hC.1 hC.2.1 hd hv (k r h' hw ρ H locs ls hI hl (hk.push (kOk_i _ _)))
theorem kj_bipush (hC : kC X own cc nL ret) {n : Int} {v : Int32} (hd : decode cc pc = .ok (.bipush n, 2)) (hv : (Int8.ofInt n).toInt32 = v) (k : kJ X enc nL cells slots L (.inl v :: st) (pc + 2) h w) : kJ X enc nL cells slots L st pc h w := by
  intro r h' hw ρ H locs ls hI hl hk
  exact lv_bipush hC.1 hC.2.1 hd hv (k r h' hw ρ H locs ls hI hl (hk.push (kOk_i _ _)))
theorem kj_sipush (hC : kC X own cc nL ret) {n : Int} {v : Int32} (hd : decode cc pc = .ok (.sipush n, 3)) (hv : (Int16.ofInt n).toInt32 = v) (k : kJ X enc nL cells slots L (.inl v :: st) (pc + 3) h w) : kJ X enc nL cells slots L st pc h w := by
  intro r h' hw ρ H locs ls hI hl hk
  exact lv_sipush hC.1 hC.2.1 hd hv (k r h' hw ρ H locs ls hI hl (hk.push (kOk_i _ _)))
theorem kj_ldc (hC : kC X own cc nL ret) {i : Nat} {v : Int32} (hd : decode cc pc = .ok (.ldc i, 2)) (hv : Cond.constant own i v ∈ kT) (k : kJ X enc nL cells slots L (.inl v :: st) (pc + 2) h w) : kJ X enc nL cells slots L st pc h w := by
  intro r h' hw ρ H locs ls hI hl hk
  exact lv_ldc hC.1 hC.2.1 hC.2.2.2.2.2.1 (hC.2.2.2.2.2.2.1 _ hv) hd (k r h' hw ρ H locs ls hI hl (hk.push (kOk_i _ _)))
theorem kj_lconst (hC : kC X own cc nL ret) {n : Fin 2} {v : Int64} (hd : decode cc pc = .ok (.lconst n, 1)) (hv : Int64.ofNat (n : Nat) = v) (k : kJ X enc nL cells slots L (.inr (.inl v) :: st) (pc + 1) h w) : kJ X enc nL cells slots L st pc h w := by
  intro r h' hw ρ H locs ls hI hl hk
  exact lv_lconst hC.1 hC.2.1 hd hv (k r h' hw ρ H locs ls hI hl (hk.push (kOk_l _ _)))
theorem kj_null (hC : kC X own cc nL ret) (hd : decode cc pc = .ok (.aconst_null, 1)) (k : kJ X enc nL cells slots L (.inr (.inr none) :: st) (pc + 1) h w) : kJ X enc nL cells slots L st pc h w := by
  intro r h' hw ρ H locs ls hI hl hk
  exact lv_null hC.1 hC.2.1 hd (k r h' hw ρ H locs ls hI hl (hk.push (kOk_n _)))
/-! loads -/
theorem kj_iloadn (hC : kC X own cc nL ret) {k : Fin 4} {i : Nat} {x : Int32} (q : Nat) (hd : decode cc pc = .ok (.iload_n k, 1)) (hi : (k : Nat) = i) (hq : L[q]? = some (i, .inl x)) (kk : kJ X enc nL cells slots L (.inl x :: st) (pc + 1) h w) : kJ X enc nL cells slots L st pc h w := by
  intro r h' hw ρ H locs ls hI hl hk
  exact lv_iload_n hC.1 hC.2.1 hd hi (lv_at hl q (klv_at hq)) (kk r h' hw ρ H locs ls hI hl (hk.push (kOk_i _ _)))
theorem kj_iload (hC : kC X own cc nL ret) {i : Nat} {x : Int32} (q : Nat) (hd : decode cc pc = .ok (.iload i, 2)) (hq : L[q]? = some (i, .inl x)) (kk : kJ X enc nL cells slots L (.inl x :: st) (pc + 2) h w) : kJ X enc nL cells slots L st pc h w := by
  intro r h' hw ρ H locs ls hI hl hk
  exact lv_iload hC.1 hC.2.1 hd (lv_at hl q (klv_at hq)) (kk r h' hw ρ H locs ls hI hl (hk.push (kOk_i _ _)))
theorem kj_lloadn (hC : kC X own cc nL ret) {k : Fin 4} {i : Nat} {x : Int64} (q : Nat) (hd : decode cc pc = .ok (.lload_n k, 1)) (hi : (k : Nat) = i) (hq : L[q]? = some (i, .inr (.inl x))) (kk : kJ X enc nL cells slots L (.inr (.inl x) :: st) (pc + 1) h w) : kJ X enc nL cells slots L st pc h w := by
  intro r h' hw ρ H locs ls hI hl hk
  exact lv_lload_n hC.1 hC.2.1 hd hi (lv_at hl q (klv_at hq)) (kk r h' hw ρ H locs ls hI hl (hk.push (kOk_l _ _)))
theorem kj_lload (hC : kC X own cc nL ret) {i : Nat} {x : Int64} (q : Nat) (hd : decode cc pc = .ok (.lload i, 2)) (hq : L[q]? = some (i, .inr (.inl x))) (kk : kJ X enc nL cells slots L (.inr (.inl x) :: st) (pc + 2) h w) : kJ X enc nL cells slots L st pc h w := by
  intro r h' hw ρ H locs ls hI hl hk
  exact lv_lload hC.1 hC.2.1 hd (lv_at hl q (klv_at hq)) (kk r h' hw ρ H locs ls hI hl (hk.push (kOk_l _ _)))
theorem kj_aloadn (hC : kC X own cc nL ret) {k : Fin 4} {i : Nat} {o : Option Nat} (q : Nat) (hd : decode cc pc = .ok (.aload_n k, 1)) (hi : (k : Nat) = i) (hq : L[q]? = some (i, .inr (.inr o))) (kk : kJ X enc nL cells slots L (.inr (.inr o) :: st) (pc + 1) h w) : kJ X enc nL cells slots L st pc h w := by
  intro r h' hw ρ H locs ls hI hl hk
  have hg := kk r h' hw ρ H locs ls hI hl (hk.push (hk.loc hq))
  cases o with
  | none => exact lv_aload_nN hC.1 hC.2.1 hd hi (lv_at hl q (klv_at hq)) hg
  | some a => exact lv_aload_n hC.1 hC.2.1 hd hi (lv_at hl q (klv_at hq)) hg
theorem kj_aload (hC : kC X own cc nL ret) {i : Nat} {o : Option Nat} (q : Nat) (hd : decode cc pc = .ok (.aload i, 2)) (hq : L[q]? = some (i, .inr (.inr o))) (kk : kJ X enc nL cells slots L (.inr (.inr o) :: st) (pc + 2) h w) : kJ X enc nL cells slots L st pc h w := by
  intro r h' hw ρ H locs ls hI hl hk
  have hg := kk r h' hw ρ H locs ls hI hl (hk.push (hk.loc hq))
  cases o with
  | none => exact lv_aloadN hC.1 hC.2.1 hd (lv_at hl q (klv_at hq)) hg
  | some a => exact lv_aload hC.1 hC.2.1 hd (lv_at hl q (klv_at hq)) hg
/-! stores -/
theorem kj_istoren (hC : kC X own cc nL ret) {k : Fin 4} {i : Nat} {x : Int32} {L' : List (Nat × KV)} (hd : decode cc pc = .ok (.istore_n k, 1)) (hi : (k : Nat) = i) (hn : i < nL) (hL : kst L i (.inl x) = L') (kk : kJ X enc nL cells slots L' st (pc + 1) h w) : kJ X enc nL cells slots L (.inl x :: st) pc h w := by
  subst hL
  intro r h' hw ρ H locs ls hI hl hk
  exact lv_istore_n hC.1 hC.2.1 hd hi hl hn (kst_ok ρ L i (.inl x)) (fun ls' hl' => kk r h' hw ρ H locs ls' hI hl' hk.st)
theorem kj_istore (hC : kC X own cc nL ret) {i : Nat} {x : Int32} {L' : List (Nat × KV)} (hd : decode cc pc = .ok (.istore i, 2)) (hn : i < nL) (hL : kst L i (.inl x) = L') (kk : kJ X enc nL cells slots L' st (pc + 2) h w) : kJ X enc nL cells slots L (.inl x :: st) pc h w := by
  subst hL
  intro r h' hw ρ H locs ls hI hl hk
  exact lv_istore hC.1 hC.2.1 hd hl hn (kst_ok ρ L i (.inl x)) (fun ls' hl' => kk r h' hw ρ H locs ls' hI hl' hk.st)
theorem kj_lstoren (hC : kC X own cc nL ret) {k : Fin 4} {i : Nat} {x : Int64} {L' : List (Nat × KV)} (hd : decode cc pc = .ok (.lstore_n k, 1)) (hi : (k : Nat) = i) (hn : i + 1 < nL) (hL : kst2 L i (.inr (.inl x)) = L') (kk : kJ X enc nL cells slots L' st (pc + 1) h w) : kJ X enc nL cells slots L (.inr (.inl x) :: st) pc h w := by
  subst hL
  intro r h' hw ρ H locs ls hI hl hk
  exact lv_lstore_n hC.1 hC.2.1 hd hi hl hn (kst2_ok ρ L i (.inr (.inl x))) (fun ls' hl' => kk r h' hw ρ H locs ls' hI hl' hk.st2)
theorem kj_lstore (hC : kC X own cc nL ret) {i : Nat} {x : Int64} {L' : List (Nat × KV)} (hd : decode cc pc = .ok (.lstore i, 2)) (hn : i + 1 < nL) (hL : kst2 L i (.inr (.inl x)) = L') (kk : kJ X enc nL cells slots L' st (pc + 2) h w) : kJ X enc nL cells slots L (.inr (.inl x) :: st) pc h w := by
  subst hL
  intro r h' hw ρ H locs ls hI hl hk
  exact lv_lstore hC.1 hC.2.1 hd hl hn (kst2_ok ρ L i (.inr (.inl x))) (fun ls' hl' => kk r h' hw ρ H locs ls' hI hl' hk.st2)
theorem kj_astoren (hC : kC X own cc nL ret) {k : Fin 4} {i : Nat} {o : Option Nat} {L' : List (Nat × KV)} (hd : decode cc pc = .ok (.astore_n k, 1)) (hi : (k : Nat) = i) (hn : i < nL) (hL : kst L i (.inr (.inr o)) = L') (kk : kJ X enc nL cells slots L' st (pc + 1) h w) : kJ X enc nL cells slots L (.inr (.inr o) :: st) pc h w := by
  subst hL
  intro r h' hw ρ H locs ls hI hl hk
  have e := kst_ok ρ L i (.inr (.inr o))
  have hg := fun (ls' : Array Slot) (hl' : lv_has ls' nL (klv ρ (kst L i (.inr (.inr o))))) => kk r h' hw ρ H locs ls' hI hl' hk.st
  cases o with
  | none => exact lv_astore_nN hC.1 hC.2.1 hd hi hl hn e hg
  | some a => exact lv_astore_n hC.1 hC.2.1 hd hi hl hn e hg
theorem kj_astore (hC : kC X own cc nL ret) {i : Nat} {o : Option Nat} {L' : List (Nat × KV)} (hd : decode cc pc = .ok (.astore i, 2)) (hn : i < nL) (hL : kst L i (.inr (.inr o)) = L') (kk : kJ X enc nL cells slots L' st (pc + 2) h w) : kJ X enc nL cells slots L (.inr (.inr o) :: st) pc h w := by
  subst hL
  intro r h' hw ρ H locs ls hI hl hk
  have e := kst_ok ρ L i (.inr (.inr o))
  have hg := fun (ls' : Array Slot) (hl' : lv_has ls' nL (klv ρ (kst L i (.inr (.inr o))))) => kk r h' hw ρ H locs ls' hI hl' hk.st
  cases o with
  | none => exact lv_astoreN hC.1 hC.2.1 hd hl hn e hg
  | some a => exact lv_astore hC.1 hC.2.1 hd hl hn e hg
theorem kj_iinc (hC : kC X own cc nL ret) {i : Nat} {n : Int} {x v : Int32} {L' : List (Nat × KV)} (q : Nat) (hd : decode cc pc = .ok (.iinc i n, 3)) (hq : L[q]? = some (i, .inl x)) (hv : x + Int32.ofInt n = v) (hn : i < nL) (hL : kst L i (.inl v) = L') (kk : kJ X enc nL cells slots L' st (pc + 3) h w) : kJ X enc nL cells slots L st pc h w := by
  subst hL
  intro r h' hw ρ H locs ls hI hl hk
  exact lv_iinc hC.1 hC.2.1 hd hl (klv_at hq) hv hn (kst_ok ρ L i (.inl v)) (fun ls' hl' => kk r h' hw ρ H locs ls' hI hl' (hk.push (kOk_i _ _)).st)
/-- fewer locals -/
theorem kj_sub {L' : List (Nat × KV)} (ks : List Nat) (hL : ks.filterMap (fun i => L[i]?) = L') (kk : kJ X enc nL cells slots L' st pc h w) : kJ X enc nL cells slots L st pc h w := by
  subst hL
  intro r h' hw ρ H locs ls hI hl hk
  refine kk r h' hw ρ H locs ls hI (lv_sub hl ks ?_) ⟨fun q hq => ?_, hk.2⟩
  · unfold lv_pick klv
    rw [List.map_filterMap]
    congr 1
    funext i
    rw [List.getElem?_map]
  · obtain ⟨i, -, hi⟩ := List.mem_filterMap.mp hq
    exact hk.1 q (List.mem_of_getElem? hi)
/-! arithmetic -/
theorem kj_iadd (hC : kC X own cc nL ret) {x y : Int32} (hd : decode cc pc = .ok (.iadd, 1)) (k : kJ X enc nL cells slots L (.inl (x + y) :: st) (pc + 1) h w) : kJ X enc nL cells slots L (.inl y :: .inl x :: st) pc h w := by
  intro r h' hw ρ H locs ls hI hl hk
  exact lv_iadd hC.1 hC.2.1 hd (k r h' hw ρ H locs ls hI hl (hk.tail.tail.push (kOk_i _ _)))
theorem kj_isub (hC : kC X own cc nL ret) {x y : Int32} (hd : decode cc pc = .ok (.isub, 1)) (k : kJ X enc nL cells slots L (.inl (x - y) :: st) (pc + 1) h w) : kJ X enc nL cells slots L (.inl y :: .inl x :: st) pc h w := by
  intro r h' hw ρ H locs ls hI hl hk
  exact lv_isub hC.1 hC.2.1 hd (k r h' hw ρ H locs ls hI hl (hk.tail.tail.push (kOk_i _ _)))
theorem kj_imul (hC : kC X own cc nL ret) {x y : Int32} (hd : decode cc pc = .ok (.imul, 1)) (k : kJ X enc nL cells slots L (.inl (x * y) :: st) (pc + 1) h w) : kJ X enc nL cells slots L (.inl y :: .inl x :: st) pc h w := by
  intro r h' hw ρ H locs ls hI hl hk
  exact lv_imul hC.1 hC.2.1 hd (k r h' hw ρ H locs ls hI hl (hk.tail.tail.push (kOk_i _ _)))
theorem kj_iand (hC : kC X own cc nL ret) {x y : Int32} (hd : decode cc pc = .ok (.iand, 1)) (k : kJ X enc nL cells slots L (.inl (x &&& y) :: st) (pc + 1) h w) : kJ X enc nL cells slots L (.inl y :: .inl x :: st) pc h w := by
  intro r h' hw ρ H locs ls hI hl hk
  exact lv_iand hC.1 hC.2.1 hd (k r h' hw ρ H locs ls hI hl (hk.tail.tail.push (kOk_i _ _)))
theorem kj_ixor (hC : kC X own cc nL ret) {x y : Int32} (hd : decode cc pc = .ok (.ixor, 1)) (k : kJ X enc nL cells slots L (.inl (x ^^^ y) :: st) (pc + 1) h w) : kJ X enc nL cells slots L (.inl y :: .inl x :: st) pc h w := by
  intro r h' hw ρ H locs ls hI hl hk
  exact lv_ixor hC.1 hC.2.1 hd (k r h' hw ρ H locs ls hI hl (hk.tail.tail.push (kOk_i _ _)))
theorem kj_ishl (hC : kC X own cc nL ret) {x y : Int32} (hd : decode cc pc = .ok (.ishl, 1)) (k : kJ X enc nL cells slots L (.inl (x <<< (y &&& 31)) :: st) (pc + 1) h w) : kJ X enc nL cells slots L (.inl y :: .inl x :: st) pc h w := by
  intro r h' hw ρ H locs ls hI hl hk
  exact lv_ishl hC.1 hC.2.1 hd (k r h' hw ρ H locs ls hI hl (hk.tail.tail.push (kOk_i _ _)))
theorem kj_ishr (hC : kC X own cc nL ret) {x y : Int32} (hd : decode cc pc = .ok (.ishr, 1)) (k : kJ X enc nL cells slots L (.inl (x >>> (y &&& 31)) :: st) (pc + 1) h w) : kJ X enc nL cells slots L (.inl y :: .inl x :: st) pc h w := by
  intro r h' hw ρ H locs ls hI hl hk
  exact lv_ishr hC.1 hC.2.1 hd (k r h' hw ρ H locs ls hI hl (hk.tail.tail.push (kOk_i _ _)))
theorem kj_irem (hC : kC X own cc nL ret) {x y : Int32} (hd : decode cc pc = .ok (.irem, 1)) (k : kJ X enc nL cells slots L (.inl (x - x / y * y) :: st) (pc + 1) h w) : kJ X enc nL cells slots L (.inl y :: .inl x :: st) pc h (kdv y w) := by
  intro r h' hw ρ H locs ls hI hl hk
  unfold kdv at hw
  split at hw
  · cases hw
  · rename_i hy
    exact lv_irem hC.1 hC.2.1 hd hy (k r h' hw ρ H locs ls hI hl (hk.tail.tail.push (kOk_i _ _)))
theorem kj_idiv (hC : kC X own cc nL ret) {x y : Int32} (hd : decode cc pc = .ok (.idiv, 1)) (k : kJ X enc nL cells slots L (.inl (x / y) :: st) (pc + 1) h w) : kJ X enc nL cells slots L (.inl y :: .inl x :: st) pc h (kdv y w) := by
  intro r h' hw ρ H locs ls hI hl hk
  unfold kdv at hw
  split at hw
  · cases hw
  · rename_i hy
    exact lv_idiv hC.1 hC.2.1 hd hy (k r h' hw ρ H locs ls hI hl (hk.tail.tail.push (kOk_i _ _)))
theorem kj_ladd (hC : kC X own cc nL ret) {x y : Int64} (hd : decode cc pc = .ok (.ladd, 1)) (k : kJ X enc nL cells slots L (.inr (.inl (x + y)) :: st) (pc + 1) h w) : kJ X enc nL cells slots L (.inr (.inl y) :: .inr (.inl x) :: st) pc h w := by
  intro r h' hw ρ H locs ls hI hl hk
  exact lv_ladd hC.1 hC.2.1 hd (k r h' hw ρ H locs ls hI hl (hk.tail.tail.push (kOk_l _ _)))
theorem kj_lsub (hC : kC X own cc nL ret) {x y : Int64} (hd : decode cc pc = .ok (.lsub, 1)) (k : kJ X enc nL cells slots L (.inr (.inl (x - y)) :: st) (pc + 1) h w) : kJ X enc nL cells slots L (.inr (.inl y) :: .inr (.inl x) :: st) pc h w := by
  intro r h' hw ρ H locs ls hI hl hk
  exact lv_lsub hC.1 hC.2.1 hd (k r h' hw ρ H locs ls hI hl (hk.tail.tail.push (kOk_l _ _)))
theorem kj_lneg (hC : kC X own cc nL ret) {x : Int64} (hd : decode cc pc = .ok (.lneg, 1)) (k : kJ X enc nL cells slots L (.inr (.inl (-x)) :: st) (pc + 1) h w) : kJ X enc nL cells slots L (.inr (.inl x) :: st) pc h w := by
  intro r h' hw ρ H locs ls hI hl hk
  exact lv_lneg hC.1 hC.2.1 hd (k r h' hw ρ H locs ls hI hl (hk.tail.push (kOk_l _ _)))
theorem kj_lcmp (hC : kC X own cc nL ret) {x y : Int64} (hd : decode cc pc = .ok (.lcmp, 1)) (k : kJ X enc nL cells slots L (.inl (lg_cmp x y) :: st) (pc + 1) h w) : kJ X enc nL cells slots L (.inr (.inl y) :: .inr (.inl x) :: st) pc h w := by
  intro r h' hw ρ H locs ls hI hl hk
  exact W.lcmp hC.1 hC.2.1 hd (k r h' hw ρ H locs ls hI hl (hk.tail.tail.push (kOk_i _ _)))
theorem kj_i2l (hC : kC X own cc nL ret) {x : Int32} (hd : decode cc pc = .ok (.i2l, 1)) (k : kJ X enc nL cells slots L (.inr (.inl x.toInt64) :: st) (pc + 1) h w) : kJ X enc nL cells slots L (.inl x :: st) pc h w := by
  intro r h' hw ρ H locs ls hI hl hk
  exact lv_i2l hC.1 hC.2.1 hd rfl (k r h' hw ρ H locs ls hI hl (hk.tail.push (kOk_l _ _)))
theorem kj_l2i (hC : kC X own cc nL ret) {x : Int64} (hd : decode cc pc = .ok (.l2i, 1)) (k : kJ X enc nL cells slots L (.inl x.toInt32 :: st) (pc + 1) h w) : kJ X enc nL cells slots L (.inr (.inl x) :: st) pc h w := by
  intro r h' hw ρ H locs ls hI hl hk
  exact lv_l2i hC.1 hC.2.1 hd rfl (k r h' hw ρ H locs ls hI hl (hk.tail.push (kOk_i _ _)))
theorem kj_i2c (hC : kC X own cc nL ret) {x : Int32} (hd : decode cc pc = .ok (.i2c, 1)) (k : kJ X enc nL cells slots L (.inl (x.toUInt32 % 65536).toInt32 :: st) (pc + 1) h w) : kJ X enc nL cells slots L (.inl x :: st) pc h w := by
  intro r h' hw ρ H locs ls hI hl hk
  exact lv_i2c hC.1 hC.2.1 hd rfl (k r h' hw ρ H locs ls hI hl (hk.tail.push (kOk_i _ _)))
theorem kj_dup (hC : kC X own cc nL ret) {v : KV} (hd : decode cc pc = .ok (.dup, 1)) (hv : kcat v = 1) (k : kJ X enc nL cells slots L (v :: v :: st) (pc + 1) h w) : kJ X enc nL cells slots L (v :: st) pc h w := by
  intro r h' hw ρ H locs ls hI hl hk
  exact lv_dup hC.1 hC.2.1 hd (by rw [kcat_ok]; exact hv) (k r h' hw ρ H locs ls hI hl (hk.push hk.head))
theorem kj_pop (hC : kC X own cc nL ret) {v : KV} (hd : decode cc pc = .ok (.pop, 1)) (hv : kcat v = 1) (k : kJ X enc nL cells slots L st (pc + 1) h w) : kJ X enc nL cells slots L (v :: st) pc h w := by
  intro r h' hw ρ H locs ls hI hl hk
  exact lv_pop hC.1 hC.2.1 hd (by rw [kcat_ok]; exact hv) (k r h' hw ρ H locs ls hI hl hk.tail)
theorem kj_dup2 (hC : kC X own cc nL ret) {v u : KV} (hd : decode cc pc = .ok (.dup2, 1)) (hv : kcat v = 1) (hu : kcat u = 1) (k : kJ X enc nL cells slots L (v :: u :: v :: u :: st) (pc + 1) h w) : kJ X enc nL cells slots L (v :: u :: st) pc h w := by
  intro r h' hw ρ H locs ls hI hl hk
  exact lv_dup2_11 hC.1 hC.2.1 hd (by rw [kcat_ok]; exact hv) (by rw [kcat_ok]; exact hu) (k r h' hw ρ H locs ls hI hl ((hk.push hk.tail.head).push hk.head))
theorem kj_dup2l (hC : kC X own cc nL ret) {v : KV} (hd : decode cc pc = .ok (.dup2, 1)) (hv : kcat v = 2) (k : kJ X enc nL cells slots L (v :: v :: st) (pc + 1) h w) : kJ X enc nL cells slots L (v :: st) pc h w := by
  intro r h' hw ρ H locs ls hI hl hk
  exact lv_dup2_2 hC.1 hC.2.1 hd (by rw [kcat_ok]; exact hv) (k r h' hw ρ H locs ls hI hl (hk.push hk.head))
/-! branches -/
theorem kj_goto (hC : kC X own cc nL ret) {off : Int} {tgt : Nat} (hd : decode cc pc = .ok (.goto off, 3)) (ht : (pc : Int) + off = (tgt : Int)) (k : kJ X enc nL cells slots L st tgt h w) : kJ X enc nL cells slots L st pc h w := by
  intro r h' hw ρ H locs ls hI hl hk
  exact lv_goto hC.1 hC.2.1 hd ht (k r h' hw ρ H locs ls hI hl hk)
theorem kj_if_eq (hC : kC X own cc nL ret) {x : Int32} {off : Int} {tgt : Nat} {w1 w2 : KO α} (hd : decode cc pc = .ok (.ifCond .eq off, 3)) (ht : (pc : Int) + off = (tgt : Int)) (k1 : x = 0 → kJ X enc nL cells slots L st tgt h w1) (k2 : ¬ x = 0 → kJ X enc nL cells slots L st (pc + 3) h w2) : kJ X enc nL cells slots L (.inl x :: st) pc h (kif (x = 0) w1 w2) := by
  intro r h' hw ρ H locs ls hI hl hk
  unfold kif at hw
  exact lv_if_eq hC.1 hC.2.1 hd ht (fun q => k1 q r h' (by rw [if_pos q] at hw; exact hw) ρ H locs ls hI hl hk.tail) (fun q => k2 q r h' (by rw [if_neg q] at hw; exact hw) ρ H locs ls hI hl hk.tail)
theorem kj_if_lt (hC : kC X own cc nL ret) {x : Int32} {off : Int} {tgt : Nat} {w1 w2 : KO α} (hd : decode cc pc = .ok (.ifCond .lt off, 3)) (ht : (pc : Int) + off = (tgt : Int)) (k1 : x < 0 → kJ X enc nL cells slots L st tgt h w1) (k2 : ¬ x < 0 → kJ X enc nL cells slots L st (pc + 3) h w2) : kJ X enc nL cells slots L (.inl x :: st) pc h (kif (x < 0) w1 w2) := by
  intro r h' hw ρ H locs ls hI hl hk
  unfold kif at hw
  exact lv_if_lt hC.1 hC.2.1 hd ht (fun q => k1 q r h' (by rw [if_pos q] at hw; exact hw) ρ H locs ls hI hl hk.tail) (fun q => k2 q r h' (by rw [if_neg q] at hw; exact hw) ρ H locs ls hI hl hk.tail)
theorem kj_if_ge (hC : kC X own cc nL ret) {x : Int32} {off : Int} {tgt : Nat} {w1 w2 : KO α} (hd : decode cc pc = .ok (.ifCond .ge off, 3)) (ht : (pc : Int) + off = (tgt : Int)) (k1 : 0 ≤ x → kJ X enc nL cells slots L st tgt h w1) (k2 : ¬ 0 ≤ x → kJ X enc nL cells slots L st (pc + 3) h w2) : kJ X enc nL cells slots L (.inl x :: st) pc h (kif (0 ≤ x) w1 w2) := by
  intro r h' hw ρ H locs ls hI hl hk
  unfold kif at hw
  exact lv_if_ge hC.1 hC.2.1 hd ht (fun q => k1 q r h' (by rw [if_pos q] at hw; exact hw) ρ H locs ls hI hl hk.tail) (fun q => k2 q r h' (by rw [if_neg q] at hw; exact hw) ρ H locs ls hI hl hk.tail)
theorem kj_if_gt (hC : kC X own cc nL ret) {x : Int32} {off : Int} {tgt : Nat} {w1 w2 : KO α} (hd : decode cc pc = .ok (.ifCond .gt off, 3)) (ht : (pc : Int) + off = (tgt : Int)) (k1 : 0 < x → kJ X enc nL cells slots L st tgt h w1) (k2 : ¬ 0 < x → kJ X enc nL cells slots L st (pc + 3) h w2) : kJ X enc nL cells slots L (.inl x :: st) pc h (kif (0 < x) w1 w2) := by
  intro r h' hw ρ H locs ls hI hl hk
  unfold kif at hw
  exact lv_if_gt hC.1 hC.2.1 hd ht (fun q => k1 q r h' (by rw [if_pos q] at hw; exact hw) ρ H locs ls hI hl hk.tail) (fun q => k2 q r h' (by rw [if_neg q] at hw; exact hw) ρ H locs ls hI hl hk.tail)
theorem kj_if_le (hC : kC X own cc nL ret) {x : Int32} {off : Int} {tgt : Nat} {w1 w2 : KO α} (hd : decode cc pc = .ok (.ifCond .le off, 3)) (ht : (pc : Int) + off = (tgt : Int)) (k1 : x ≤ 0 → kJ X enc nL cells slots L st tgt h w1) (k2 : ¬ x ≤ 0 → kJ X enc nL cells slots L st (pc + 3) h w2) : kJ X enc nL cells slots L (.inl x :: st) pc h (kif (x ≤ 0) w1 w2) := by
  intro r h' hw ρ H locs ls hI hl hk
  unfold kif at hw
  exact lv_if_le hC.1 hC.2.1 hd ht (fun q => k1 q r h' (by rw [if_pos q] at hw; exact hw) ρ H locs ls hI hl hk.tail) (fun q => k2 q r h' (by rw [if_neg q] at hw; exact hw) ρ H locs ls hI hl hk.tail)
theorem kj_if_ne (hC : kC X own cc nL ret) {x : Int32} {off : Int} {tgt : Nat} {w1 w2 : KO α} (hd : decode cc pc = .ok (.ifCond .ne off, 3)) (ht : (pc : Int) + off = (tgt : Int)) (k1 : x = 0 → kJ X enc nL cells slots L st (pc + 3) h w1) (k2 : ¬ x = 0 → kJ X enc nL cells slots L st tgt h w2) : kJ X enc nL cells slots L (.inl x :: st) pc h (kif (x = 0) w1 w2) := by
  intro r h' hw ρ H locs ls hI hl hk
  unfold kif at hw
  exact lv_if_ne hC.1 hC.2.1 hd ht (fun q => k2 q r h' (by rw [if_neg q] at hw; exact hw) ρ H locs ls hI hl hk.tail) (fun q => k1 q r h' (by rw [if_pos q] at hw; exact hw) ρ H locs ls hI hl hk.tail)
theorem kj_icmp_eq (hC : kC X own cc nL ret) {x y : Int32} {off : Int} {tgt : Nat} {w1 w2 : KO α} (hd : decode cc pc = .ok (.if_icmp .eq off, 3)) (ht : (pc : Int) + off = (tgt : Int)) (k1 : x = y → kJ X enc nL cells slots L st tgt h w1) (k2 : ¬ x = y → kJ X enc nL cells slots L st (pc + 3) h w2) : kJ X enc nL cells slots L (.inl y :: .inl x :: st) pc h (kif (x = y) w1 w2) := by
  intro r h' hw ρ H locs ls hI hl hk
  unfold kif at hw
  exact lv_icmp_eq hC.1 hC.2.1 hd ht (fun q => k1 q r h' (by rw [if_pos q] at hw; exact hw) ρ H locs ls hI hl hk.tail.tail) (fun q => k2 q r h' (by rw [if_neg q] at hw; exact hw) ρ H locs ls hI hl hk.tail.tail)
theorem kj_icmp_lt (hC : kC X own cc nL ret) {x y : Int32} {off : Int} {tgt : Nat} {w1 w2 : KO α} (hd : decode cc pc = .ok (.if_icmp .lt off, 3)) (ht : (pc : Int) + off = (tgt : Int)) (k1 : x < y → kJ X enc nL cells slots L st tgt h w1) (k2 : ¬ x < y → kJ X enc nL cells slots L st (pc + 3) h w2) : kJ X enc nL cells slots L (.inl y :: .inl x :: st) pc h (kif (x < y) w1 w2) := by
  intro r h' hw ρ H locs ls hI hl hk
  unfold kif at hw
  exact lv_icmp_lt hC.1 hC.2.1 hd ht (fun q => k1 q r h' (by rw [if_pos q] at hw; exact hw) ρ H locs ls hI hl hk.tail.tail) (fun q => k2 q r h' (by rw [if_neg q] at hw; exact hw) ρ H locs ls hI hl hk.tail.tail)
theorem kj_icmp_ge (hC : kC X own cc nL ret) {x y : Int32} {off : Int} {tgt : Nat} {w1 w2 : KO α} (hd : decode cc pc = .ok (.if_icmp .ge off, 3)) (ht : (pc : Int) + off = (tgt : Int)) (k1 : y ≤ x → kJ X enc nL cells slots L st tgt h w1) (k2 : ¬ y ≤ x → kJ X enc nL cells slots L st (pc + 3) h w2) : kJ X enc nL cells slots L (.inl y :: .inl x :: st) pc h (kif (y ≤ x) w1 w2) := by
  intro r h' hw ρ H locs ls hI hl hk
  unfold kif at hw
  exact lv_icmp_ge hC.1 hC.2.1 hd ht (fun q => k1 q r h' (by rw [if_pos q] at hw; exact hw) ρ H locs ls hI hl hk.tail.tail) (fun q => k2 q r h' (by rw [if_neg q] at hw; exact hw) ρ H locs ls hI hl hk.tail.tail)
theorem kj_icmp_gt (hC : kC X own cc nL ret) {x y : Int32} {off : Int} {tgt : Nat} {w1 w2 : KO α} (hd : decode cc pc = .ok (.if_icmp .gt off, 3)) (ht : (pc : Int) + off = (tgt : Int)) (k1 : y < x → kJ X enc nL cells slots L st tgt h w1) (k2 : ¬ y < x → kJ X enc nL cells slots L st (pc + 3) h w2) : kJ X enc nL cells slots L (.inl y :: .inl x :: st) pc h (kif (y < x) w1 w2) := by
  intro r h' hw ρ H locs ls hI hl hk
  unfold kif at hw
  exact lv_icmp_gt hC.1 hC.2.1 hd ht (fun q => k1 q r h' (by rw [if_pos q] at hw; exact hw) ρ H locs ls hI hl hk.tail.tail) (fun q => k2 q r h' (by rw [if_neg q] at hw; exact hw) ρ H locs ls hI hl hk.tail.tail)
theorem kj_icmp_le (hC : kC X own cc nL ret) {x y : Int32} {off : Int} {tgt : Nat} {w1 w2 : KO α} (hd : decode cc pc = .ok (.if_icmp .le off, 3)) (ht : (pc : Int) + off = (tgt : Int)) (k1 : x ≤ y → kJ X enc nL cells slots L st tgt h w1) (k2 : ¬ x ≤ y → kJ X enc nL cells slots L st (pc + 3) h w2) : kJ X enc nL cells slots L (.inl y :: .inl x :: st) pc h (kif (x ≤ y) w1 w2) := by
  intro r h' hw ρ H locs ls hI hl hk
  unfold kif at hw
  exact lv_icmp_le hC.1 hC.2.1 hd ht (fun q => k1 q r h' (by rw [if_pos q] at hw; exact hw) ρ H locs ls hI hl hk.tail.tail) (fun q => k2 q r h' (by rw [if_neg q] at hw; exact hw) ρ H locs ls hI hl hk.tail.tail)
theorem kj_icmp_ne (hC : kC X own cc nL ret) {x y : Int32} {off : Int} {tgt : Nat} {w1 w2 : KO α} (hd : decode cc pc = .ok (.if_icmp .ne off, 3)) (ht : (pc : Int) + off = (tgt : Int)) (k1 : x = y → kJ X enc nL cells slots L st (pc + 3) h w1) (k2 : ¬ x = y → kJ X enc nL cells slots L st tgt h w2) : kJ X enc nL cells slots L (.inl y :: .inl x :: st) pc h (kif (x = y) w1 w2) := by
  intro r h' hw ρ H locs ls hI hl hk
  unfold kif at hw
  exact lv_icmp_ne hC.1 hC.2.1 hd ht (fun q => k2 q r h' (by rw [if_neg q] at hw; exact hw) ρ H locs ls hI hl hk.tail.tail) (fun q => k1 q r h' (by rw [if_pos q] at hw; exact hw) ρ H locs ls hI hl hk.tail.tail)
theorem kj_ifnull (hC : kC X own cc nL ret) {o : Option Nat} {off : Int} {tgt : Nat} {w1 : KO α} {w2 : Nat → KO α} (hd : decode cc pc = .ok (.ifnull off, 3)) (ht : (pc : Int) + off = (tgt : Int)) (k1 : o = none → kJ X enc nL cells slots L st tgt h w1) (k2 : ∀ a, o = some a → kJ X enc nL cells slots L st (pc + 3) h (w2 a)) : kJ X enc nL cells slots L (.inr (.inr o) :: st) pc h (knul o w1 w2) := by
  intro r h' hw ρ H locs ls hI hl hk
  cases o with
  | none => exact lv_ifnullN hC.1 hC.2.1 hd ht (k1 rfl r h' hw ρ H locs ls hI hl hk.tail)
  | some a => exact lv_ifnull hC.1 hC.2.1 hd (k2 a rfl r h' hw ρ H locs ls hI hl hk.tail)
theorem kj_ifnonnull (hC : kC X own cc nL ret) {o : Option Nat} {off : Int} {tgt : Nat} {w1 : KO α} {w2 : Nat → KO α} (hd : decode cc pc = .ok (.ifnonnull off, 3)) (ht : (pc : Int) + off = (tgt : Int)) (k1 : o = none → kJ X enc nL cells slots L st (pc + 3) h w1) (k2 : ∀ a, o = some a → kJ X enc nL cells slots L st tgt h (w2 a)) : kJ X enc nL cells slots L (.inr (.inr o) :: st) pc h (knul o w1 w2) := by
  intro r h' hw ρ H locs ls hI hl hk
  cases o with
  | none => exact lv_ifnonnullN hC.1 hC.2.1 hd (k1 rfl r h' hw ρ H locs ls hI hl hk.tail)
  | some a => exact lv_ifnonnull hC.1 hC.2.1 hd ht (k2 a rfl r h' hw ρ H locs ls hI hl hk.tail)
/-- a reference that must not be null is used behind this -/
theorem kj_may {o : Option Nat} {f : Nat → KO α} (k : ∀ a, o = some a → kJ X enc nL cells slots L st pc h (f a)) : kJ X enc nL cells slots L st pc h (kmay o f) := by
  intro r h' hw ρ H locs ls hI hl hk
  cases o with
  | none => cases hw
  | some a => exact k a rfl r h' hw ρ H locs ls hI hl hk
theorem kj_kg {c : Prop} [Decidable c] (k : c → kJ X enc nL cells slots L st pc h w) : kJ X enc nL cells slots L st pc h (kg c w) := by
  intro r h' hw ρ H locs ls hI hl hk
  unfold kg at hw
  split at hw
  · rename_i q
    exact k q r h' hw ρ H locs ls hI hl hk
  · cases hw
theorem kj_eq {w1 : KO α} (e : w = w1) (k : kJ X enc nL cells slots L st pc h w1) : kJ X enc nL cells slots L st pc h w := e ▸ k
theorem kj_none : kJ X enc nL cells slots L st pc h (none : KO α) := fun r h' hw => by cases hw
theorem kj_widen {k n : Nat} (h1 : cells ≤ k) (h2 : slots ≤ n) (kk : kJ X enc nL k n L st pc h w) : kJ X enc nL cells slots L st pc h w := by
  intro r h' hw ρ H locs ls hI hl hk
  exact W.widen h1 h2 (kk r h' hw ρ H locs ls hI hl hk)
/-! fields -/
def kFL (own : String) (idx ci k : Nat) : Prop := ∃ q : vw_C, vwCl[ci]? = some q ∧ k < q.2.2 ∧ Cond.fieldLink own idx (q.2.1 k).1 (q.2.1 k).2.1 (q.2.1 k).2.2.1 ∈ kT
theorem kcls_in : ∀ ci, ci < 11 → ∀ q, vwCl[ci]? = some q → ∀ w ∈ u_ws q.1 q.2.1 q.2.2, w ∈ kT := by
  have h : ∀ ci, ci < 11 → ((vwCl[ci]?).all fun q => (u_ws q.1 q.2.1 q.2.2).all fun w => decide (w ∈ lw_tbl) && goodWord w) = true := by decide +kernel
  intro ci hci q hq w hw
  have h1 := h ci hci
  rw [hq] at h1
  have h2 := List.all_eq_true.mp h1 w hw
  simp only [Bool.and_eq_true, decide_eq_true_eq] at h2
  exact List.mem_filter.mpr h2
theorem kcls_ty : ∀ ci, ci < 11 → ∀ q, vwCl[ci]? = some q → ∀ k, k < q.2.2 → parseFieldDescriptor (q.2.1 k).2.2.1 = some (kFt ci k) := by
  have h : ∀ ci, ci < 11 → ((vwCl[ci]?).all fun q => (List.range q.2.2).all fun k => decide (parseFieldDescriptor (q.2.1 k).2.2.1 = some (kFt ci k))) = true := by decide +kernel
  intro ci hci q hq k hk
  have h1 := h ci hci
  rw [hq] at h1
  have h2 := List.all_eq_true.mp h1 k (List.mem_range.mpr hk)
  exact of_decide_eq_true h2
theorem kcls_nm : ∀ ci, ci < 11 → ∀ q, vwCl[ci]? = some q → ∀ a, a < q.2.2 → ∀ b, b < q.2.2 → a ≠ b → (q.2.1 a).2.1 ≠ (q.2.1 b).2.1 := by
  have h : ∀ ci, ci < 11 → ((vwCl[ci]?).all fun q => (List.range q.2.2).all fun a => (List.range q.2.2).all fun b => decide (a ≠ b → (q.2.1 a).2.1 ≠ (q.2.1 b).2.1)) = true := by decide +kernel
  intro ci hci q hq a ha b hb
  have h1 := h ci hci
  rw [hq] at h1
  have h2 := List.all_eq_true.mp (List.all_eq_true.mp h1 a (List.mem_range.mpr ha)) b (List.mem_range.mpr hb)
  exact of_decide_eq_true h2
theorem kcls_own : ∀ ci, ci < 11 → ∀ q, vwCl[ci]? = some q → ∀ k, k < q.2.2 → (q.2.1 k).1 = q.1 := by
  have h : ∀ ci, ci < 11 → ((vwCl[ci]?).all fun q => (List.range q.2.2).all fun k => decide ((q.2.1 k).1 = q.1)) = true := by decide +kernel
  intro ci hci q hq k hk
  have h1 := h ci hci
  rw [hq] at h1
  have h2 := List.all_eq_true.mp h1 k (List.mem_range.mpr hk)
  exact of_decide_eq_true h2
/-- a field is read: what the object's cell holds -/
theorem kj_getK (hC : kC X own cc nL ret) {idx ci k a : Nat} (hd : decode cc pc = .ok (.getfield idx, 3)) (hf : kFL own idx ci k) {r : Nat ⊕ α} {h' : KH} {ρ : Nat → Nat} {H : Heap} {locs : List Loc} {ls : Array Slot} {rest : List Value} (hI : kInv X ρ h H locs) (ha : kd h a = ci + 1)
    (kk : kW X enc cells slots r h' H locs (F0 (xm X) (pc + 3) ls (kV ρ h a k (ksrt (kFt ci k)) :: rest))) : kW X enc cells slots r h' H locs (F0 (xm X) pc ls (.ref (ρ a) :: rest)) := by
  obtain ⟨q, hq, hk, hl⟩ := hf
  have hci := kCl_lt hq
  obtain ⟨cell, q1, q2, q3, q4⟩ := (hI.1.1 a (by rw [ha]; exact Nat.succ_ne_zero _)).2.1 ci q hq ha
  obtain ⟨hS, hfc, kC, hkC, hkind⟩ := hC.2.2.2.2.2.2.2.1.1 ci q hq
  obtain ⟨cf, kf, fi, f, hi, hsl⟩ := hS k hk
  have hts : ∀ w ∈ kT, w.before (xar X) (xs X) = true := hC.2.2.2.2.2.2.1
  refine W.getf hC.1 hC.2.1 hC.2.2.2.2.2.1 (hts _ hl) hi (u_facts hfc hkC (u_lays hts (kcls_in ci hci q hq) hk) hi).1 q1 (by rw [q3]; exact fun h => by cases h) (v := kV ρ h a k (ksrt (kFt ci k))) ?_ rfl rfl hd kk
  rw [hsl, q4 k hk]
theorem kj_gI (hC : kC X own cc nL ret) {idx ci k a : Nat} {f : Int32 → KO α} (hd : decode cc pc = .ok (.getfield idx, 3)) (hf : kFL own idx ci k) (hs : ksrt (kFt ci k) = 0) (kk : ∀ x, kJ X enc nL cells slots L (.inl x :: st) (pc + 3) h (f x)) : kJ X enc nL cells slots L (.inr (.inr (some a)) :: st) pc h (gI h a (ci + 1) k f) := by
  intro r h' hw ρ H locs ls hI hl hk
  unfold gI at hw
  split at hw
  · rename_i ha
    refine kj_getK hC hd hf hI ha ?_
    rw [hs]
    exact kk _ r h' hw ρ H locs ls hI hl (hk.tail.push (kOk_i _ _))
  · cases hw
theorem kj_gR (hC : kC X own cc nL ret) {idx ci k a : Nat} {f : Option Nat → KO α} (hd : decode cc pc = .ok (.getfield idx, 3)) (hf : kFL own idx ci k) (hs : ksrt (kFt ci k) = 2) (kk : ∀ o, kJ X enc nL cells slots L (.inr (.inr o) :: st) (pc + 3) h (f o)) : kJ X enc nL cells slots L (.inr (.inr (some a)) :: st) pc h (gR h a (ci + 1) k f) := by
  intro r h' hw ρ H locs ls hI hl hk
  unfold gR at hw
  split at hw
  · rename_i ha
    refine kj_getK hC hd hf hI ha ?_
    rw [hs]
    exact kk _ r h' hw ρ H locs ls hI hl (hk.tail.push (fun b hb => hI.1.2.2 a k b (by rw [ha]; exact Nat.succ_ne_zero _) (Sum.inr.inj (Sum.inr.inj hb))))
  · cases hw
theorem kj_gN (hC : kC X own cc nL ret) {idx ci k a : Nat} {f : Nat → KO α} (hd : decode cc pc = .ok (.getfield idx, 3)) (hf : kFL own idx ci k) (hs : ksrt (kFt ci k) = 2) (kk : ∀ b, kJ X enc nL cells slots L (.inr (.inr (some b)) :: st) (pc + 3) h (f b)) : kJ X enc nL cells slots L (.inr (.inr (some a)) :: st) pc h (gN h a (ci + 1) k f) := by
  refine kj_gR hC (f := fun o => kmay o f) hd hf hs (fun o => ?_)
  refine kj_may (fun b e => ?_)
  subst e
  exact kk b

theorem kfit_ref {ty : FieldType} (h : ksrt ty = 2) (o : Option Nat) : narrow ty (va_rf o) = va_rf o ∧ fits ty (va_rf o) = true := by
  cases ty <;> first | (cases h; done) | (cases o <;> exact ⟨rfl, rfl⟩)
/-- a field is written -/
theorem kj_putK (hC : kC X own cc nL ret) {idx ci k a : Nat} (hd : decode cc pc = .ok (.putfield idx, 3)) (hf : kFL own idx ci k) (hfin : (∀ q : vw_C, vwCl[ci]? = some q → (q.2.1 k).2.2.2 = false) ∨ ((xme X).name = "<init>" ∧ ∀ q : vw_C, vwCl[ci]? = some q → (q.2.1 k).2.2.2 = true ∧ q.1 = own)) {v : KV} (hs : ksrtV v = ksrt (kFt ci k)) (hv : ∀ ρ, narrow (kFt ci k) (ktr ρ v) = ktr ρ v ∧ fits (kFt ci k) (ktr ρ v) = true)
    (kk : kJ X enc nL cells slots L st (pc + 3) (kset h a k v) w) (ha : kd h a = ci + 1) : kJ X enc nL cells slots L (v :: .inr (.inr (some a)) :: st) pc h w := by
  intro r h' hw ρ H locs ls hI hl hko
  obtain ⟨q, hq, hk, hlk⟩ := hf
  have hci := kCl_lt hq
  have ha0 : kd h a ≠ 0 := by rw [ha]; exact Nat.succ_ne_zero _
  obtain ⟨cell, q1, q2, q3, q4⟩ := (hI.1.1 a ha0).2.1 ci q hq ha
  obtain ⟨hS, hfc, kC0, hkC, hkind⟩ := hC.2.2.2.2.2.2.2.1.1 ci q hq
  obtain ⟨cf, kf, fi, f, hi, hsl⟩ := hS k hk
  have hts : ∀ w ∈ kT, w.before (xar X) (xs X) = true := hC.2.2.2.2.2.2.1
  have hin := kcls_in ci hci q hq
  have hty := kcls_ty ci hci q hq
  have hap := va_apart (own := own) (cl := vwCl) (D := (xG X).1) (s := xs X) (args := xar X) (tys := []) hts hin (kFt ci) hty (kcls_nm ci hci q hq) ⟨hC.2.2.2.2.2.2.2.1.1, fun k q h => by simp at h⟩ hq
  have hlay := hts _ (hin _ (u_in_lay hk))
  have hst := (u_facts hfc hkC (u_lays hts hin hk) hi).1
  obtain ⟨hn, hfit⟩ := hv ρ
  have hkd : ∀ q, q < (xs X).heap.size → True := fun _ _ => trivial
  have key : ∀ H' : Heap, H'[ρ a]? = some (cell.setSlot (((xG X).1.2 ci) k) (ktr ρ v)) → H'.size = H.size → (∀ q, q ≠ ρ a → H'[q]? = H[q]?) → kW X enc cells slots r h' H' (locs ++ [⟨ρ a, ((xG X).1.2 ci) k⟩]) (F0 (xm X) (pc + 3) ls (st.map (ktr ρ))) := by
    intro H' e1 e2 e3
    obtain ⟨i1, i2, i3, i4, i5⟩ := hI
    have hkds : kd (kset h a k v) = kd h := kset_kd h a k v
    refine kk r h' hw ρ H' _ ls ⟨i1.upd a ha0 hkds (fun b hb => kset_ne h a k v hb) e2 e3 ⟨fun ci' q' hq' hk' => ?_, fun ty hty' => ?_⟩ (kset_R h a k v hko.head (fun k b => i1.2.2 a k b ha0)), i2.put e2 e3 (i3 a ha0), fun b hb => i3 b (by rw [← hkds]; exact hb), fun b hb => by rw [hkds]; exact i4 b hb, fun b hb hb0 => i5 b (by rw [← hkds]; exact hb) hb0⟩ hl (hko.tail.tail.eq hkds)
    · rw [hkds, ha] at hk'
      have hcc : ci' = ci := by omega
      subst hcc
      have hqq : q' = q := Option.some.inj (hq'.symm.trans hq)
      subst hqq
      have h9 : t_OB (ρ a) ((xG X).1.1 ci') q'.2.2 ((xG X).1.2 ci') H' (updV (fun j => kV ρ h a j (ksrt (kFt ci' j))) k (ktr ρ v)) := ⟨_, e1, q2, q3, t_set q4 hap hk (ktr ρ v)⟩
      refine h9.to (fun j hj => ?_)
      rw [kset_V ρ h a k v j _ (fun e => by rw [e]; exact hs.symm)]
      rfl
    · rw [hkds, ha] at hty'
      rw [kTy_obj hq] at hty'
      cases hty'
  rcases hfin with hfin | ⟨hinit, hfin⟩
  · have hf0 := hfin q hq
    unfold u_lay at hlay
    rw [if_neg (by rw [hf0]; decide)] at hlay
    have h6 := u_store hfc hkC hkind hlay hi (hty k hk) hn hfit
    refine W.putK hC.1 hC.2.1 (f := f) ⟨hC.2.2.2.2.2.1, hts _ hlk, ⟨_, _, _, hi⟩, hst⟩ (by rw [q2]; exact h6) q1 q3 (by rw [hsl]; exact k2_hasslot (q4 k hk)) rfl rfl hd fun H' e1 e2 e3 => ?_
    rw [hsl] at e1 ⊢
    exact key H' e1 e2 e3
  · obtain ⟨hf0, hqo⟩ := hfin q hq
    unfold u_lay at hlay
    rw [if_pos hf0] at hlay
    have hcf : (xm X).cls = cf := by
      obtain ⟨_, _, c', _, _, _, -, -, hf', -, -, -, hown2, -⟩ := Cond.laysFinal_spec hlay
      have e1 : c' = cf := by have := hi.symm.trans hf'; simp at this; exact this.1.symm
      rw [kcls_own ci hci q hq k hk, hqo] at hown2
      rw [← e1]; exact Option.some.inj (hC.2.2.2.2.2.1.symm.trans hown2)
    have h6 := u_fits hfc hkC hkind (Or.inr hlay) hi (hty k hk) hn hfit
    refine W.putFinK hC.1 hC.2.1 hC.2.2.2.2.2.1 (hts _ hlk) hi hst hcf hinit (by rw [q2]; exact h6) q1 q3 (by rw [hsl]; exact k2_hasslot (q4 k hk)) rfl rfl hd fun H' e1 e2 e3 => ?_
    rw [hsl] at e1 ⊢
    exact key H' e1 e2 e3
def kNF (ci k : Nat) : Prop := ∀ q : vw_C, vwCl[ci]? = some q → (q.2.1 k).2.2.2 = false
def kFF (own : String) (ci k : Nat) : Prop := ∀ q : vw_C, vwCl[ci]? = some q → (q.2.1 k).2.2.2 = true ∧ q.1 = own
theorem kj_pI (hC : kC X own cc nL ret) {idx ci k a : Nat} {v : Int32} {f : KH → KO α} (hd : decode cc pc = .ok (.putfield idx, 3)) (hf : kFL own idx ci k) (hfin : kNF ci k ∨ ((xme X).name = "<init>" ∧ kFF own ci k)) (hs : ksrt (kFt ci k) = 0) (hv : narrow (kFt ci k) (.int v) = .int v ∧ fits (kFt ci k) (.int v) = true)
    (kk : ∀ h1, kJ X enc nL cells slots L st (pc + 3) h1 (f h1)) : kJ X enc nL cells slots L (.inl v :: .inr (.inr (some a)) :: st) pc h (pI h a (ci + 1) k v f) := by
  unfold pI
  by_cases ha : kd h a = ci + 1
  · rw [if_pos ha]
    exact kj_putK hC hd hf hfin (v := .inl v) hs.symm (fun ρ => hv) (kk _) ha
  · rw [if_neg ha]
    exact kj_none
theorem kj_pR (hC : kC X own cc nL ret) {idx ci k a : Nat} {v : Option Nat} {f : KH → KO α} (hd : decode cc pc = .ok (.putfield idx, 3)) (hf : kFL own idx ci k) (hfin : kNF ci k ∨ ((xme X).name = "<init>" ∧ kFF own ci k)) (hs : ksrt (kFt ci k) = 2)
    (kk : ∀ h1, kJ X enc nL cells slots L st (pc + 3) h1 (f h1)) : kJ X enc nL cells slots L (.inr (.inr v) :: .inr (.inr (some a)) :: st) pc h (pR h a (ci + 1) k v f) := by
  unfold pR
  by_cases ha : kd h a = ci + 1
  · rw [if_pos ha]
    exact kj_putK hC hd hf hfin (v := .inr (.inr v)) hs.symm (fun ρ => kfit_ref hs _) (kk _) ha
  · rw [if_neg ha]
    exact kj_none
/-! arrays -/
theorem karr_len (cA : ClassId) (n : Nat) (f : Nat → Value) {i : Int32} (hin : ¬ (i < 0 ∨ n ≤ i.toNatClampNeg)) : ¬ (i < 0 ∨ (arrV cA n f).slots.size ≤ i.toNatClampNeg) := by
  rw [arrV_size]; exact hin
theorem karr_at (cA : ClassId) (n : Nat) (f : Nat → Value) {i : Int32} (hin : ¬ (i < 0 ∨ n ≤ i.toNatClampNeg)) : (arrV cA n f).slots[i.toNatClampNeg]? = some (f i.toNatClampNeg) := arrV_read _ _ (Nat.not_le.mp fun q => hin (Or.inr q))
theorem kj_gAI (hC : kC X own cc nL ret) {a : Nat} {i : Int32} {f : Int32 → KO α} (hd : decode cc pc = .ok (.iaload, 1)) (kk : ∀ x, kJ X enc nL cells slots L (.inl x :: st) (pc + 1) h (f x)) : kJ X enc nL cells slots L (.inl i :: .inr (.inr (some a)) :: st) pc h (gAI h a 21 i f) := by
  intro r h' hw ρ H locs ls hI hl hk
  unfold gAI at hw
  split at hw
  · rename_i hg
    obtain ⟨ha, hin⟩ := hg
    have hc := (hI.1.1 a (by rw [ha]; decide)).2.2 .int (by rw [ha]; rfl)
    rw [ha] at hc
    exact W.iald hC.1 hC.2.1 hc ((hC.2.2.2.2.2.2.2.1.2.1 21 .int rfl).1 _ _) (fun q => by cases q) (karr_len _ _ _ hin) (karr_at _ _ _ hin) rfl rfl hd (kk _ r h' hw ρ H locs ls hI hl (hk.tail.tail.push (kOk_i _ _)))
  · cases hw
theorem kj_gAZ (hC : kC X own cc nL ret) {a : Nat} {i : Int32} {f : Int32 → KO α} (hd : decode cc pc = .ok (.baload, 1)) (kk : ∀ x, kJ X enc nL cells slots L (.inl x :: st) (pc + 1) h (f x)) : kJ X enc nL cells slots L (.inl i :: .inr (.inr (some a)) :: st) pc h (gAI h a 23 i f) := by
  intro r h' hw ρ H locs ls hI hl hk
  unfold gAI at hw
  split at hw
  · rename_i hg
    obtain ⟨ha, hin⟩ := hg
    have hc := (hI.1.1 a (by rw [ha]; decide)).2.2 .boolean (by rw [ha]; rfl)
    rw [ha] at hc
    exact W.zald hC.1 hC.2.1 hc ((hC.2.2.2.2.2.2.2.1.2.1 23 .boolean rfl).1 _ _) (fun q => by cases q) (karr_len _ _ _ hin) (karr_at _ _ _ hin) rfl rfl hd (kk _ r h' hw ρ H locs ls hI hl (hk.tail.tail.push (kOk_i _ _)))
  · cases hw
theorem kj_gAL (hC : kC X own cc nL ret) {a : Nat} {i : Int32} {f : Int64 → KO α} (hd : decode cc pc = .ok (.laload, 1)) (kk : ∀ x, kJ X enc nL cells slots L (.inr (.inl x) :: st) (pc + 1) h (f x)) : kJ X enc nL cells slots L (.inl i :: .inr (.inr (some a)) :: st) pc h (gAL h a 22 i f) := by
  intro r h' hw ρ H locs ls hI hl hk
  unfold gAL at hw
  split at hw
  · rename_i hg
    obtain ⟨ha, hin⟩ := hg
    have hc := (hI.1.1 a (by rw [ha]; decide)).2.2 .long (by rw [ha]; rfl)
    rw [ha] at hc
    exact W.lald hC.1 hC.2.1 hc ((hC.2.2.2.2.2.2.2.1.2.1 22 .long rfl).1 _ _) (fun q => by cases q) (karr_len _ _ _ hin) (karr_at _ _ _ hin) rfl rfl hd (kk _ r h' hw ρ H locs ls hI hl (hk.tail.tail.push (kOk_l _ _)))
  · cases hw
theorem kj_gAN (hC : kC X own cc nL ret) {a c : Nat} {ty : FieldType} {i : Int32} {f : Nat → KO α} (hd : decode cc pc = .ok (.aaload, 1)) (hty : kTy c = some ty) (hr : ty.isReference = true ∧ ksrt ty = 2) (kk : ∀ b, kJ X enc nL cells slots L (.inr (.inr (some b)) :: st) (pc + 1) h (f b)) : kJ X enc nL cells slots L (.inl i :: .inr (.inr (some a)) :: st) pc h (gAN h a c i f) := by
  intro r h' hw ρ H locs ls hI hl hk
  unfold gAN at hw
  split at hw
  · rename_i hg
    obtain ⟨ha, hin⟩ := hg
    have ha0 : kd h a ≠ 0 := by rw [ha]; have := kTy_arr hty; omega
    have hc := (hI.1.1 a ha0).2.2 ty (by rw [ha]; exact hty)
    rw [ha] at hc
    cases ho : kR h a i.toNatClampNeg with
    | none => rw [ho] at hw; cases hw
    | some b =>
      rw [ho] at hw
      refine W.aald hC.1 hC.2.1 hc ((hC.2.2.2.2.2.2.2.1.2.1 c ty hty).1 _ _) hr.1 (fun q => by cases q) (karr_len _ _ _ hin) (karr_at _ _ _ hin) rfl rfl hd ?_
      rw [hr.2, show kV ρ h a i.toNatClampNeg 2 = va_rf ((kR h a i.toNatClampNeg).map ρ) from rfl, ho]
      exact kk b r h' hw ρ H locs ls hI hl (hk.tail.tail.push (kOk_r (hI.1.2.2 a _ b ha0 ho)))
  · cases hw
/-- an array's place is written -/
theorem kj_putA {c a : Nat} {ty : FieldType} {j : Nat} {v : KV} (hty : kTy c = some ty) (ha : kd h a = c) (hs : ksrtV v = ksrt ty) (hv : kOk h v) {ρ : Nat → Nat} {H H' : Heap} {locs : List Loc} (hI : kInv X ρ h H locs)
    (e1 : H'[ρ a]? = some ((arrV ((xG X).2 c) (kn h a) (fun k => kV ρ h a k (ksrt ty))).setSlot j (ktr ρ v))) (e2 : H'.size = H.size) (e3 : ∀ q, q ≠ ρ a → H'[q]? = H[q]?) : kInv X ρ (kset h a j v) H' (locs ++ [⟨ρ a, j⟩]) := by
  have ha0 : kd h a ≠ 0 := by rw [ha]; have := kTy_arr hty; omega
  obtain ⟨i1, i2, i3, i4, i5⟩ := hI
  have hkds : kd (kset h a j v) = kd h := kset_kd h a j v
  refine ⟨i1.upd a ha0 hkds (fun b hb => kset_ne h a j v hb) e2 e3 ⟨fun ci' q' hq' hk' => ?_, fun ty' hty' => ?_⟩ (kset_R h a j v hv (fun k b => i1.2.2 a k b ha0)), i2.put e2 e3 (i3 a ha0), fun b hb => i3 b (by rw [← hkds]; exact hb), fun b hb => by rw [hkds]; exact i4 b hb, fun b hb hb0 => i5 b (by rw [← hkds]; exact hb) hb0⟩
  · rw [hkds, ha] at hk'
    rw [hk', kTy_obj hq'] at hty
    cases hty
  · rw [hkds, ha] at hty'
    have htt : ty' = ty := Option.some.inj (hty'.symm.trans hty)
    subst htt
    rw [e1, arrV_store, hkds, ha, kset_n]
    congr 2
    funext k
    rw [kset_V ρ h a j v k _ (fun _ => hs.symm)]
theorem kj_pAI (hC : kC X own cc nL ret) {a : Nat} {i x : Int32} {f : KH → KO α} (hd : decode cc pc = .ok (.iastore, 1)) (kk : ∀ h1, kJ X enc nL cells slots L st (pc + 1) h1 (f h1)) : kJ X enc nL cells slots L (.inl x :: .inl i :: .inr (.inr (some a)) :: st) pc h (pAI h a 21 i x f) := by
  intro r h' hw ρ H locs ls hI hl hk
  unfold pAI at hw
  split at hw
  · rename_i hg
    obtain ⟨ha, hin⟩ := hg
    have hc := (hI.1.1 a (by rw [ha]; decide)).2.2 .int (by rw [ha]; rfl)
    rw [ha] at hc
    refine W.iast hC.1 hC.2.1 hc ((hC.2.2.2.2.2.2.2.1.2.1 21 .int rfl).1 _ _) (fun q => by cases q) (karr_len _ _ _ hin) rfl rfl hd (fun H' e1 e2 e3 => ?_)
    exact kk _ r h' hw ρ H' _ ls (kj_putA (v := .inl x) (ty := .int) (c := 21) rfl ha rfl (kOk_i _ _) hI e1 e2 e3) hl (hk.tail.tail.tail.eq rfl)
  · cases hw
theorem kj_pAZ (hC : kC X own cc nL ret) {a : Nat} {i x : Int32} {f : KH → KO α} (hd : decode cc pc = .ok (.bastore, 1)) (kk : ∀ h1, kJ X enc nL cells slots L st (pc + 1) h1 (f h1)) : kJ X enc nL cells slots L (.inl x :: .inl i :: .inr (.inr (some a)) :: st) pc h (pAZ h a 23 i x f) := by
  intro r h' hw ρ H locs ls hI hl hk
  unfold pAZ at hw
  split at hw
  · rename_i hg
    obtain ⟨ha, hin, hx⟩ := hg
    have hc := (hI.1.1 a (by rw [ha]; decide)).2.2 .boolean (by rw [ha]; rfl)
    rw [ha] at hc
    have hnx : narrow .boolean (.int x) = .int x := by rcases hx with rfl | rfl <;> rfl
    refine W.zast hC.1 hC.2.1 hc ((hC.2.2.2.2.2.2.2.1.2.1 23 .boolean rfl).1 _ _) (fun q => by cases q) (karr_len _ _ _ hin) rfl rfl hd (fun H' e1 e2 e3 => ?_)
    rw [hnx] at e1
    exact kk _ r h' hw ρ H' _ ls (kj_putA (v := .inl x) (ty := .boolean) (c := 23) rfl ha rfl (kOk_i _ _) hI e1 e2 e3) hl (hk.tail.tail.tail.eq rfl)
  · cases hw
theorem kj_pAL (hC : kC X own cc nL ret) {a : Nat} {i : Int32} {x : Int64} {f : KH → KO α} (hd : decode cc pc = .ok (.lastore, 1)) (kk : ∀ h1, kJ X enc nL cells slots L st (pc + 1) h1 (f h1)) : kJ X enc nL cells slots L (.inr (.inl x) :: .inl i :: .inr (.inr (some a)) :: st) pc h (pAL h a 22 i x f) := by
  intro r h' hw ρ H locs ls hI hl hk
  unfold pAL at hw
  split at hw
  · rename_i hg
    obtain ⟨ha, hin⟩ := hg
    have hc := (hI.1.1 a (by rw [ha]; decide)).2.2 .long (by rw [ha]; rfl)
    rw [ha] at hc
    refine W.last hC.1 hC.2.1 hc ((hC.2.2.2.2.2.2.2.1.2.1 22 .long rfl).1 _ _) (fun q => by cases q) (karr_len _ _ _ hin) rfl rfl hd (fun H' e1 e2 e3 => ?_)
    exact kk _ r h' hw ρ H' _ ls (kj_putA (v := .inr (.inl x)) (ty := .long) (c := 22) rfl ha rfl (kOk_l _ _) hI e1 e2 e3) hl (hk.tail.tail.tail.eq rfl)
  · cases hw
theorem kj_pAN (hC : kC X own cc nL ret) {a c ci : Nat} {q : vw_C} {i : Int32} {v : Nat} {f : KH → KO α} (hd : decode cc pc = .ok (.aastore, 1)) (hq : vwCl[ci]? = some q) (hty : kTy c = some (.object q.1)) (kk : ∀ h1, kJ X enc nL cells slots L st (pc + 1) h1 (f h1)) : kJ X enc nL cells slots L (.inr (.inr (some v)) :: .inl i :: .inr (.inr (some a)) :: st) pc h (pAN h a c (ci + 1) i v f) := by
  intro r h' hw ρ H locs ls hI hl hk
  unfold pAN at hw
  split at hw
  · rename_i hg
    obtain ⟨ha, hin, hv⟩ := hg
    have ha0 : kd h a ≠ 0 := by rw [ha]; have := kTy_arr hty; omega
    have hv0 : kd h v ≠ 0 := by rw [hv]; exact Nat.succ_ne_zero _
    have hc := (hI.1.1 a ha0).2.2 _ (by rw [ha]; exact hty)
    rw [ha] at hc
    have hlt : i.toNatClampNeg < kn h a := Nat.not_le.mp fun q => hin (Or.inr q)
    obtain ⟨cellV, g1, g2, g3, -⟩ := (hI.1.1 v hv0).2.1 ci q hq hv
    have hcls := (hC.2.2.2.2.2.2.2.1.1 ci q hq).2
    obtain ⟨kA, comp, k1, k2, k3, -⟩ := (hC.2.2.2.2.2.2.2.1.2.1 c _ hty).2
    have hcomp : comp = (xG X).1.1 ci := Option.some.inj (k3.symm.trans hcls.1)
    subst hcomp
    obtain ⟨kC, hkC, -⟩ := hcls.2
    refine W.aast hC.1 hC.2.1 hc (fun q h => by cases h) (fun h => by cases h) k1 k2 rfl hkC ⟨fun q => hin (Or.inl q), by rw [arrV_size]; exact hlt⟩ g1 (fun q h => by rw [g3] at h; cases h) (by rw [g2]; exact hkC) (by rw [g2]; exact va_assign hcls) rfl rfl hd fun H' e1 e2 e3 => ?_
    exact kk _ r h' hw ρ H' _ ls (kj_putA (v := .inr (.inr (some v))) (ty := .object q.1) (c := c) hty ha rfl (kOk_r hv0) hI e1 e2 e3) hl (hk.tail.tail.tail.eq rfl)
  · cases hw
/-! returns -/
theorem kFin_of {r : Nat ⊕ α} {h' : KH} {v : α} (hr : r = .inr v) {g : JFrame} {ρ : Nat → Nat} {H : Heap} {locs : List Loc} (hI : kInv X ρ h' H locs) (hv : ∀ u, enc v = some u → kOk h' u) : ∀ t : State, t.heap = H → (xs X).WarmedH t.vm → kQc enc (xG X) (xA X) (xh X) (xr X) r h' (xar X) (xs X) (.returned ((enc v).map (ktr ρ))) t :=
  fun t ht _ => ⟨v, ρ, hr, rfl, hv, by rw [ht]; exact hI.1, hI.2.2.2.1, hI.2.2.2.2, hI.2.1.F ht⟩
theorem kj_ireturn {X : KX} {own : String} {cc : ByteArray} {nL : Nat} {L : List (Nat × KV)} {pc : Nat} {h : KH} (hC : kC X own cc nL (some .int)) {x : Int32} (hd : decode cc pc = .ok (.ireturn, 1)) : kJ X (fun x : Int32 => some (.inl x)) nL (xmc X) (xms X) L [.inl x] pc h (kret x h) := by
  intro r h' hw ρ H locs ls hI hl hk
  cases hw
  exact vx_ret (W.iret hC.1 hC.2.1 hC.2.2.2.1 (kFin_of (enc := fun x : Int32 => some (.inl x)) (g := F0 (xm X) pc ls []) rfl hI (fun u hu => by cases hu; exact kOk_i _ _)) hI.2.1.2.2 hd hC.2.2.2.2.1)
theorem kj_zreturn {X : KX} {own : String} {cc : ByteArray} {nL : Nat} {L : List (Nat × KV)} {pc : Nat} {h : KH} (hC : kC X own cc nL (some .boolean)) {x : Int32} (hd : decode cc pc = .ok (.ireturn, 1)) : kJ X (fun x : Int32 => some (.inl x)) nL (xmc X) (xms X) L [.inl x] pc h (kretZ x h) := by
  intro r h' hw ρ H locs ls hI hl hk
  unfold kretZ at hw
  split at hw
  · rename_i hx
    cases hw
    exact vx_ret (W.zret hC.1 hC.2.1 hC.2.2.2.1 (by rcases hx with rfl | rfl <;> rfl) (kFin_of (enc := fun x : Int32 => some (.inl x)) (g := F0 (xm X) pc ls []) rfl hI (fun u hu => by cases hu; exact kOk_i _ _)) hI.2.1.2.2 hd hC.2.2.2.2.1)
  · cases hw
theorem kj_creturn {X : KX} {own : String} {cc : ByteArray} {nL : Nat} {L : List (Nat × KV)} {pc : Nat} {h : KH} (hC : kC X own cc nL (some .char)) {x : Int32} (hd : decode cc pc = .ok (.ireturn, 1)) : kJ X (fun x : Int32 => some (.inl x)) nL (xmc X) (xms X) L [.inl x] pc h (kretC x h) := by
  intro r h' hw ρ H locs ls hI hl hk
  unfold kretC at hw
  split at hw
  · rename_i hx
    cases hw
    exact vx_ret (W.zret hC.1 hC.2.1 hC.2.2.2.1 (by have h9 := pk_nc x; rw [hx] at h9; exact h9) (kFin_of (enc := fun x : Int32 => some (.inl x)) (g := F0 (xm X) pc ls []) rfl hI (fun u hu => by cases hu; exact kOk_i _ _)) hI.2.1.2.2 hd hC.2.2.2.2.1)
  · cases hw
theorem kj_lreturn {X : KX} {own : String} {cc : ByteArray} {nL : Nat} {L : List (Nat × KV)} {pc : Nat} {h : KH} (hC : kC X own cc nL (some .long)) {x : Int64} (hd : decode cc pc = .ok (.lreturn, 1)) : kJ X (fun x : Int64 => some (.inr (.inl x))) nL (xmc X) (xms X) L [.inr (.inl x)] pc h (kret x h) := by
  intro r h' hw ρ H locs ls hI hl hk
  cases hw
  exact vx_ret (W.lret hC.1 hC.2.1 hC.2.2.2.1 (kFin_of (enc := fun x : Int64 => some (.inr (.inl x))) (g := F0 (xm X) pc ls []) rfl hI (fun u hu => by cases hu; exact kOk_l _ _)) hI.2.1.2.2 hd hC.2.2.2.2.1)
theorem kj_return {X : KX} {own : String} {cc : ByteArray} {nL : Nat} {L : List (Nat × KV)} {pc : Nat} {h : KH} (hC : kC X own cc nL none) (hd : decode cc pc = .ok (.return_, 1)) : kJ X (fun _ : Unit => none) nL (xmc X) (xms X) L [] pc h (kret () h) := by
  intro r h' hw ρ H locs ls hI hl hk
  cases hw
  exact vx_ret (W.vret hC.1 hC.2.1 hC.2.2.2.1 (kFin_of (enc := fun _ : Unit => none) (g := F0 (xm X) pc ls []) rfl hI (fun u hu => by cases hu)) hI.2.1.2.2 hd hC.2.2.2.2.1)
theorem kj_areturn {X : KX} {own : String} {cc : ByteArray} {nL : Nat} {L : List (Nat × KV)} {pc : Nat} {h : KH} {nm : String} (hC : kC X own cc nL (some (.object nm))) {o : Option Nat} (hd : decode cc pc = .ok (.areturn, 1)) : kJ X (fun o : Option Nat => some (.inr (.inr o))) nL (xmc X) (xms X) L [.inr (.inr o)] pc h (kret o h) := by
  intro r h' hw ρ H locs ls hI hl hk
  cases hw
  exact vx_ret (W.aret hC.1 hC.2.1 hC.2.2.2.1 (Or.inl ⟨_, rfl⟩) (by cases o with | none => exact Or.inl rfl | some a => exact Or.inr ⟨_, rfl⟩) (kFin_of (enc := fun o : Option Nat => some (.inr (.inr o))) (g := F0 (xm X) pc ls []) rfl hI (fun u hu => by cases hu; exact hk.head)) hI.2.1.2.2 hd hC.2.2.2.2.1)
theorem kj_areturnN {X : KX} {own : String} {cc : ByteArray} {nL : Nat} {L : List (Nat × KV)} {pc : Nat} {h : KH} {nm : String} (hC : kC X own cc nL (some (.object nm))) {a : Nat} (hd : decode cc pc = .ok (.areturn, 1)) : kJ X (fun a : Nat => some (.inr (.inr (some a)))) nL (xmc X) (xms X) L [.inr (.inr (some a))] pc h (kret a h) := by
  intro r h' hw ρ H locs ls hI hl hk
  cases hw
  exact vx_ret (W.aret hC.1 hC.2.1 hC.2.2.2.1 (Or.inl ⟨_, rfl⟩) (Or.inr ⟨_, rfl⟩) (kFin_of (enc := fun a : Nat => some (.inr (.inr (some a)))) (g := F0 (xm X) pc ls []) rfl hI (fun u hu => by cases hu; exact hk.head)) hI.2.1.2.2 hd hC.2.2.2.2.1)
end KROWS
end
section
theorem kNw_decl {x : MethodName} {s U : State} (hW : s.WarmedH U.vm) (hz : va_Nw (.declares x) s) : va_Nw (.declares x) U := va_tabs rfl (rfl : (s.setVm U.vm).vm = U.vm) (by rw [Cond.declares_setVm hW.alike]; exact hz)
theorem kK.warm {G : KG} {s U : State} (hW : s.WarmedH U.vm) (h : kK G s) : kK G U := by
  obtain ⟨h1, h2, h3, h4, h5, h6, h7⟩ := h
  refine ⟨fun ci q hq => u_Kn_moved hW.alike (h1 ci q hq), fun t ty ht => ⟨arrOfT_moved hW.alike (h2 t ty ht).1, (h2 t ty ht).2.moved hW.alike⟩, fun w hw => ?_, fun C hC => (h4 C hC).moved hW.alike, ?_, fun own k tx hm => ?_, fun C hC D hD hn => (h7 C hC D hD hn).moved hW.alike⟩
  · have hw2 := (List.mem_filter.mp hw).2
    have hz := h3 w hw
    cases w <;> first
      | (cases hw2; done)
      | exact va_Nw.warmM hW hz
      | exact va_Nw.warmF hW hz
      | exact va_Nw.warmC hW hz
      | exact kNw_decl hW hz
  · obtain ⟨comp, c, k, g1, g2, g3, g4, g5⟩ := arrayOverA_spec h5
    obtain ⟨k', hk', he⟩ := hW.alike.2.2 _ _ g3
    have hi : (U.vm.classes.findIdx? fun (x : Class) => match x.kind with | .array component _ => component == comp | _ => false) = some c := by
      rw [hW.alike.findIdx?_eq _ (fun _ => rfl)]
      exact g2
    have hkind : k'.kind = .array comp (.array .int) := by rw [he]; exact g4
    have f1 : U.vm.findClass (FieldType.array .int).toString = some comp := by rw [hW.alike.findClass]; exact g1
    have f2 : U.vm.findClass ("[" ++ (FieldType.array .int).toString) = some c := by rw [hW.alike.findClass]; exact g5
    unfold Cond.before Cond.holds
    simp only [Cond.value]
    rw [f1, Option.bind_some]
    refine (congrArg (fun o : Option Nat => (o.bind (fun c => (U.vm.classes[c]?).map fun (k : Class) => match k.kind with | .array _ ty => decide (ty = FieldType.array .int) && decide (U.vm.findClass ("[" ++ (FieldType.array .int).toString) = some c) | _ => false) == some true)) hi).trans ?_
    simp [hk', hkind, f2]
  · obtain ⟨a, ha⟩ := h6 own k tx hm
    exact ⟨a, ha.warm hW⟩
/-- which cells a method may change: the abstract heap's, and those that come from sz on -/
def kA (h : KH) (ρ : Nat → Nat) (sz : Nat) : Nat → Prop := fun q => (∃ a, kd h a ≠ 0 ∧ ρ a = q) ∨ sz ≤ q
/-- a method's contract: where w is defined, the machine comes to it -/
def kM {α : Type} (y : MethodName) (bytes : ByteArray) (maxL : Nat) (ret : Option FieldType) (D mc ms : Nat) (enc : α → Option KV) (as : List KV) (h : KH) (w : KO α) : Prop :=
  ∀ (l : Launch) (G : KG) (ρ : Nat → Nat) (sz : Nat) (r : Nat ⊕ α) (h' : KH), l.stackTraces = false → w = some (r, h') → (∀ v ∈ as, kOk h v) →
    vx_Met l y (Cond.code y bytes maxL ret :: kT) { frames := D, cells := mc, slots := ms, locals := 30 * D }
      (va_Pc (as.map (ktr ρ)) (fun U => U.heap.size = sz ∧ kRep G ρ h U.heap ∧ kK G U ∧ kZ (kA h ρ sz) U U.heap))
      (kQc enc G (kA h ρ sz) h ρ r h') (kXC G (kA h ρ sz) h ρ r h') mc ms (kA h ρ sz)
def kT0 (X : KX) : Prop := ∀ x ∈ (xc X).exceptionTable.toList, False
def kargs : Nat → List KV → List (Nat × KV)
  | _, [] => []
  | i, v :: vs => (i, v) :: kargs (if kcat v = 2 then i + 2 else i + 1) vs
theorem kargs_ok (ρ : Nat → Nat) : ∀ (vs : List KV) (i : Nat), klv ρ (kargs i vs) = lv_args i (vs.map (ktr ρ))
  | [], _ => rfl
  | v :: vs, i => by
    show (i, ktr ρ v) :: klv ρ (kargs _ vs) = (i, ktr ρ v) :: lv_args _ (vs.map (ktr ρ))
    rw [kargs_ok ρ vs, kcat_ok]
theorem kargs_mem : ∀ (vs : List KV) (i : Nat) (q : Nat × KV), q ∈ kargs i vs → q.2 ∈ vs
  | [], _, _, h => absurd h List.not_mem_nil
  | v :: vs, i, q, h => by
    rcases List.mem_cons.mp h with rfl | h
    · exact List.mem_cons_self
    · exact List.mem_cons_of_mem _ (kargs_mem vs _ q h)
theorem klg (ρ : Nat → Nat) : ∀ vs : List KV, (lg_sl (vs.map (ktr ρ))).length = (vs.map kcat).sum
  | [] => rfl
  | v :: vs => by
    have h := klg ρ vs
    rcases v with x | x | o <;> simp [lg_sl, ktr, kcat, Value.category] at h ⊢
    all_goals first
      | (cases o <;> simp [va_rf, Value.category, lg_sl] at h ⊢ <;> omega)
      | omega
theorem kM_of {α : Type} {y : MethodName} {bytes : ByteArray} {maxL : Nat} {ret : Option FieldType} {D mc ms : Nat} {enc : α → Option KV} {as : List KV} {h : KH} {w : KO α} (own : String) (hy : plainName y.cls = true) (ho : y.cls = own) (hlen : (as.map kcat).sum ≤ maxL) (L : List (Nat × KV)) (hL : kargs 0 as = L)
    (body : ∀ X : KX, kC X own bytes maxL ret → (xme X).name = y.name → kT0 X → xmc X = mc → xms X = ms → xD X = D → kJ X enc maxL 0 0 L [] 0 h w) : kM y bytes maxL ret D mc ms enc as h w := by
  subst hL
  subst ho
  intro l G ρ sz r h' hl hw hok
  refine vx_ofW (cc := bytes) (maxL := maxL) (ret := ret) hy rfl ?_
  intro p e s m args below meth c s₁ B hml hnt hv
  obtain ⟨rfl, hsz, hrep, hK, hZ⟩ := hv
  subst hsz
  have hts := atoms_spec (ws := Cond.code y bytes maxL ret :: kT) B.pre
  have hown : s.vm.findClass y.cls = some m.cls := findClass_of_methodNamed B.named
  let X : KX := (p, l, e, { frames := D, cells := mc, slots := ms, locals := 30 * D }, s, m, ((as.map (ktr ρ)).toArray), below, meth, c, G, kA h ρ s.heap.size, h, ρ, mc, ms, D)
  have hC : kC X y.cls bytes maxL ret := ⟨B.exec, B.bytes, hml, B.returns, B.notSynchronized, hown, fun w hw => hts w (List.mem_cons_of_mem _ hw), hK, hZ, hl, fun q hq => Or.inr hq, Nat.le_refl _, Nat.le_refl _, Nat.le_refl _, Nat.le_refl _⟩
  have hJ := body X hC (name_of_methodNamed B.named B.method).1 hnt rfl rfl rfl
  have hlv := lv_entry (as.map (ktr ρ)) (n := maxL) (by rw [klg]; exact hlen)
  rw [lg_entry_eq]
  rw [← kargs_ok] at hlv
  exact hJ r h' hw ρ s.heap [] _ ⟨hrep, va_S.rf, fun a ha => Or.inl ⟨a, ha, rfl⟩, fun a _ => ⟨rfl, rfl⟩, fun a h1 h2 => absurd h2 h1⟩ hlv ⟨fun q hq => hok _ (kargs_mem _ _ _ hq), fun v hv => by cases hv⟩
section KCALLS
variable {α β : Type} {X : KX} {enc : α → Option KV} {encb : β → Option KV} {own : String} {cc : ByteArray} {nL : Nat} {ret : Option FieldType} {cells slots : Nat} {L : List (Nat × KV)} {st : List KV} {pc : Nat} {h : KH} {w : KO α}
theorem kmapeq {ρ ρ' : Nat → Nat} {h : KH} {st : List KV} (hk : ∀ v ∈ st, kOk h v) (he : ∀ a, kd h a ≠ 0 → ρ' a = ρ a) : st.map (ktr ρ') = st.map (ktr ρ) := by
  apply List.map_congr_left
  intro v hv
  have := hk v hv
  rcases v with x | x | _ | a
  · rfl
  · rfl
  · rfl
  · show va_rf ((some a).map ρ') = va_rf ((some a).map ρ)
    rw [Option.map_some, Option.map_some, he a (this a rfl)]
theorem klveq {ρ ρ' : Nat → Nat} {h : KH} {L : List (Nat × KV)} (hk : ∀ q ∈ L, kOk h q.2) (he : ∀ a, kd h a ≠ 0 → ρ' a = ρ a) : klv ρ' L = klv ρ L := by
  apply List.map_congr_left
  intro q hq
  have := hk q hq
  obtain ⟨i, v⟩ := q
  rcases v with x | x | _ | a
  · rfl
  · rfl
  · rfl
  · show (i, va_rf ((some a).map ρ')) = (i, va_rf ((some a).map ρ))
    rw [Option.map_some, Option.map_some, he a (this a rfl)]
/-- the invariant behind a call -/
theorem kInv.back {ρ ρ' : Nat → Nat} {hc : KH} {H : Heap} {locs Lc : List Loc} {st₀ t T' : State} (hC : kC X own cc nL ret) (hI : kInv X ρ h H locs) (h0 : st₀.heap = H) (e1 : T'.heap = t.heap) (hE : kEnd (xG X) (kA h ρ H.size) h ρ hc ρ' st₀ t) (hL : ∀ q ∈ Lc, kA h ρ H.size q.base) : kInv X ρ' hc T'.heap (locs ++ Lc) := by
  obtain ⟨i1, i2, i3, i4, i5⟩ := hI
  obtain ⟨j1, j2, j3, j4, j5⟩ := hE
  have hA : ∀ q, (xs X).heap.size ≤ q → (xA X) q := hC.2.2.2.2.2.2.2.2.2.2.1
  have hsub : ∀ q, kA h ρ H.size q → (xA X) q := by
    intro q hq
    rcases hq with ⟨a, ha, rfl⟩ | hq
    · exact i3 a ha
    · exact hA q (Nat.le_trans i2.1 hq)
  rw [h0] at j3 j4 j5
  refine ⟨by rw [e1]; exact j1, ⟨Nat.le_trans i2.1 (by rw [e1]; exact j4), fun q h1 h2 => ?_, fun q hq => ?_⟩, fun a ha => ?_, fun a ha => ?_, fun a ha hb => ?_⟩
  · rw [e1, j5 q (Nat.lt_of_lt_of_le h1 i2.1) (fun z => h2 (hsub q z))]
    exact i2.2.1 q h1 h2
  · rcases List.mem_append.mp hq with h1 | h1
    · exact i2.2.2 q h1
    · exact hsub _ (hL q h1)
  · by_cases hb : kd h a = 0
    · exact hA _ (Nat.le_trans i2.1 (j3 a ha hb))
    · rw [(j2 a hb).2]
      exact i3 a hb
  · obtain ⟨k1, k2⟩ := i4 a ha
    have hb : kd h a ≠ 0 := by rw [k1]; exact ha
    exact ⟨(j2 a hb).1.trans k1, (j2 a hb).2.trans k2⟩
  · by_cases hd : kd h a = 0
    · exact Nat.le_trans i2.1 (j3 a ha hd)
    · rw [(j2 a hd).2]
      exact i5 a hd hb
/-- a call that may throw, in a method without a table -/
theorem kj_callK (hC : kC X own cc nL ret) (hT : kT0 X) {mcc msc : Nat} {rc : Nat ⊕ β} {hc h' : KH} {r : Nat ⊕ α} {cont : β → KH → KO α} {ρ : Nat → Nat} {H : Heap} {locs : List Loc} {ls : Array Slot} {st0 : List Value} {rest : List KV} {va : Array Value}
    (hr : vx_Run (xp X) (xl X) (xe X) (xR X) (xs X) (xm X) (xar X) (xbe X) (xme X) (xc X) H locs cells slots mcc msc (F0 (xm X) pc ls st0) (rest.map (ktr ρ)) (kQc encb (xG X) (kA h ρ H.size) h ρ rc hc va) (kXC (xG X) (kA h ρ H.size) h ρ rc hc) (kA h ρ H.size))
    (hI : kInv X ρ h H locs) (hl : lv_has ls nL (klv ρ L)) (hk : kOks h L rest) (hb : cells + mcc ≤ xmc X ∧ slots + msc ≤ xms X) (hw : kbind (some (rc, hc)) cont = some (r, h'))
    (kk : ∀ v, rc = .inr v → kJ X enc nL (cells + mcc) (slots + msc) L ((encb v).toList ++ rest) (pc + 3) hc (cont v hc)) : kW X enc cells slots r h' H locs (F0 (xm X) pc ls st0) := by
  intro T hT0 Xs
  rcases hr T hT0 Xs with ⟨v, st₀, t, T', Lc, h0, X', hL, e1, e2, ⟨u, ρ', hu, hv, hok, hE⟩, stp⟩ | ⟨q, st₀, t, T', Lc, E, ce, h0, X', hL, e1, e2, ⟨e, ρ', he, hEx, hE⟩, hce, hcv, hcl, stp⟩
  · cases hv
    subst hu
    have hI' := hI.back hC h0 e1 hE hL
    have hkd : ∀ a, kd h a ≠ 0 → kd hc a ≠ 0 := fun a ha => by rw [(hE.2.1 a ha).1]; exact ha
    have hag : ∀ a, kd h a ≠ 0 → ρ' a = ρ a := fun a ha => (hE.2.1 a ha).2
    have hk' : kOks hc L ((encb u).toList ++ rest) := ⟨fun q hq => (hk.1 q hq).mono hkd, fun x hx => by
      rcases List.mem_append.mp hx with hx | hx
      · exact hok x (by simpa using hx)
      · exact (hk.2 x hx).mono hkd⟩
    have hg := kk u rfl r h' hw ρ' T'.heap (locs ++ Lc) ls hI' (by rw [klveq hk.1 hag]; exact hl) hk'
    obtain ⟨t2, a1, b1⟩ := hg T' rfl X'
    refine ⟨t2, stp t2 ?_, b1⟩
    have hst : (((encb u).map (ktr ρ')).toList ++ rest.map (ktr ρ)) = ((encb u).toList ++ rest).map (ktr ρ') := by
      rw [List.map_append, kmapeq hk.2 hag]
      cases encb u <;> rfl
    have hst2 : ({ (F0 (xm X) pc ls st0) with pc := (F0 (xm X) pc ls st0).pc + 3, stack := ((encb u).map (ktr ρ')).toList ++ rest.map (ktr ρ) } : JFrame) = F0 (xm X) (pc + 3) ls (((encb u).toList ++ rest).map (ktr ρ')) := by
      rw [hst]
    rw [hst2]
    exact a1
  · subst he
    have hI' := hI.back hC h0 e1 hE hL
    cases hw
    have hout := vx_out (p := xp X) (l := xl X) (e := xe X) (R := xR X) (s := xs X) (m := xm X) (args := xar X) (below := xbe X) (meth := xme X) (c := xc X) (H := T'.heap) (locs := locs ++ Lc) (cells := cells + mcc) (slots := slots + msc) (ls := ls) (rest := rest.map (ktr ρ)) (Qc := kQc enc (xG X) (xA X) (xh X) (xr X) (.inl e) hc) (XC := kXC (xG X) (xA X) (xh X) (xr X) (.inl e : Nat ⊕ α) hc) (free := xA X)
      (pc := pc) (E := E) (ce := ce) (q := q) (mc := xmc X) (ms := xms X) (fun x hx => (hT x hx).elim) hC.2.2.2.2.1 (by rw [e1]; exact hce) hcv hcl
      (fun t9 ht9 _ => ⟨e, ρ', rfl, hEx, by rw [ht9]; exact hI'.1, hI'.2.2.2.1, hI'.2.2.2.2, hI'.2.1.F ht9⟩) (fun z hz => hI'.2.1.2.2 z hz) hb.1 hb.2
    obtain ⟨t2, a1, b1⟩ := hout T' rfl X'
    exact ⟨t2, stp.trans a1, b1⟩
/-- a call that doesn't throw -/
def kbinI {α β : Type} (x : KO α) (k : α → KH → KO β) : KO β := match x with
  | some (.inr v, h) => k v h
  | _ => none
theorem kMet_of {l : Launch} {y : MethodName} {ws : List Cond} {rm : Room} {Pc : Array Value → State → Prop} {Qc : Array Value → State → Outcome → State → Prop} {XC : String → State → State → Prop} {mc ms : Nat} {free : Addr → Prop} (h : vx_Met l y ws rm Pc Qc XC mc ms free) (hx : ∀ E s t, ¬ XC E s t) : Met l y ws rm Pc Qc mc ms free := by
  intro p e ha hcas hclk s m args below hfr happ hP hK
  obtain ⟨n, o, h1, h2, h3, h4⟩ := h p e ha hcas hclk s m args below hfr happ hP hK
  refine ⟨n, o, h1, h2, h3, ?_⟩
  rcases h4 with h4 | ⟨q, -, E, ce, L, h5, -⟩
  · exact h4
  · exact (hx E _ _ h5).elim
theorem kRun_of {p : Program} {l : Launch} {e : Env} {R : Room} {s : State} {m : MethodId} {args : Array Value} {below : List Frame} {meth : Method} {c : Code} {H : Heap} {locs : List Loc} {cells slots mc ms : Nat} {g : JFrame} {rest : List Value} {Qa : State → Outcome → State → Prop} {XC : String → State → State → Prop} {free : Addr → Prop} (h : va_Run p l e R s m args below meth c H locs cells slots mc ms g rest Qa free) : vx_Run p l e R s m args below meth c H locs cells slots mc ms g rest Qa XC free :=
  fun T hT X => Or.inl (h T hT X)
/-- the callee's start, out of the caller's point -/
theorem kPre {D mcc msc maxL : Nat} {ρ : Nat → Nat} {H : Heap} {locs : List Loc} {as : List KV} (hC : kC X own cc nL ret) (hI : kInv X ρ h H locs) : FrameBlind (va_Pc (as.map (ktr ρ)) (fun U => U.heap.size = H.size ∧ kRep (xG X) ρ h U.heap ∧ kK (xG X) U ∧ kZ (kA h ρ H.size) U U.heap)) ∧ ∀ U : State, U.heap = H → (xs X).WarmedH U.vm → va_Pc (as.map (ktr ρ)) (fun U => U.heap.size = H.size ∧ kRep (xG X) ρ h U.heap ∧ kK (xG X) U ∧ kZ (kA h ρ H.size) U U.heap) (as.map (ktr ρ)).toArray U := by
  have hA : ∀ q, (xs X).heap.size ≤ q → (xA X) q := hC.2.2.2.2.2.2.2.2.2.2.1
  have hsub : ∀ q, kA h ρ H.size q → (xA X) q := by
    intro q hq
    rcases hq with ⟨a, ha, rfl⟩ | hq
    · exact hI.2.2.1 a ha
    · exact hA q (Nat.le_trans hI.2.1.1 hq)
  refine ⟨fun a U g mk q => ?_, fun U hU hW => ?_⟩
  · obtain ⟨q0, q1, q2, q3, q4, q5⟩ := q
    exact ⟨q0, q1, q2, q3.warm (U := U.calling g mk a) (State.WarmedH.refl U), vx_Zq.moved (u := U) (U := U.calling g mk a) (Vm.Alike.refl U.vm) q4, vx_Zq.moved (u := U) (U := U.calling g mk a) (Vm.Alike.refl U.vm) q5⟩
  · obtain ⟨z1, z2⟩ := hC.2.2.2.2.2.2.2.2.1
    have hK := hC.2.2.2.2.2.2.2.1.warm hW
    have hkept : ∀ a : Nat, a < (xs X).heap.size → ¬ (xA X) a → H[a]? = (xs X).heap[a]? := fun a h1 h2 => hI.2.1.2.1 a h1 h2
    refine ⟨rfl, by rw [hU], by rw [hU]; exact hI.1, hK, ?_, ?_⟩
    · rw [hU]
      exact vx_Zq.moved hW.alike ((vx_Zq.kept z1 hkept).narrow hsub)
    · rw [hU]
      exact vx_Zq.moved hW.alike ((vx_Zq.kept z2 hkept).narrow hsub)
end KCALLS
end
section
def kYok (y : MethodName) (bytes : ByteArray) (maxL : Nat) (rt : Option FieldType) (n : Nat) : Prop := Cond.initialized y.cls ∈ kT ∧ Cond.code y bytes maxL rt ∈ kT ∧ y.cls ≠ "java/lang/invoke/MethodHandle" ∧ y.cls ≠ "java/lang/invoke/VarHandle" ∧ (parseMethodDescriptor y.desc).map (fun d => d.parameters.length) = some n
def kcallV {α β : Type} (c b : Nat) (h : KH) (x : KO α) (k : α → KH → KO β) : KO β := if kd h b = c then kbind x k else none
section KINV
variable {α β : Type} {X : KX} {enc : α → Option KV} {encb : β → Option KV} {own : String} {cc : ByteArray} {nL : Nat} {ret : Option FieldType} {cells slots : Nat} {L : List (Nat × KV)} {st rest as : List KV} {pc : Nat} {h : KH} {w : KO α}
variable {index maxL n D mcc msc b ci : Nat} {y : MethodName} {bytes : ByteArray} {rt : Option FieldType} {q : vw_C} {wc : KO β} {cont : β → KH → KO α}
theorem kcallB (hC : kC X own cc nL ret) (hl : Cond.methodLink own index y ∈ kT) (hy : kYok y bytes maxL rt n) (hroom : D + 1 ≤ xD X ∧ 19 + maxL ≤ 30) : CallB (xR X) (xs X) (xar X) own index y bytes maxL rt (Cond.code y bytes maxL rt :: kT) { frames := D, cells := mcc, slots := msc, locals := 30 * D } mcc msc n := by
  obtain ⟨h1, h2, h3, h4, h5⟩ := hy
  have hts : ∀ w ∈ kT, w.before (xar X) (xs X) = true := hC.2.2.2.2.2.2.1
  obtain ⟨r1, r2, -, -⟩ := hC.2.2.2.2.2.2.2.2.2.2.2
  exact callB_of (ws' := kT) n hts (kT_goodc h2) rfl rfl rfl (hts _ h1) (hts _ hl) ⟨h3, h4, h5⟩ ⟨Nat.le_trans hroom.1 r1, by show 8 + (maxL + 11) + 30 * D ≤ _; omega⟩
theorem kFix (hC : kC X own cc nL ret) : CallFix (xp X) (xm X) (xc X) cc nL (xs X) (xar X) kT own := ⟨hC.1, hC.2.1, hC.2.2.1, hC.2.2.2.2.2.1, hC.2.2.2.2.2.2.1⟩
theorem kfits (hC : kC X own cc nL ret) (hb : cells + mcc ≤ xmc X ∧ slots + msc ≤ xms X) : cells + mcc ≤ (xR X).cells ∧ slots + msc ≤ (xR X).slots := by
  obtain ⟨-, -, r3, r4⟩ := hC.2.2.2.2.2.2.2.2.2.2.2
  exact ⟨Nat.le_trans hb.1 r3, Nat.le_trans hb.2 r4⟩
theorem kbind_some {x : KO β} {k : β → KH → KO α} {u : (Nat ⊕ α) × KH} (hw : kbind x k = some u) : ∃ rc hc, x = some (rc, hc) := by
  rcases x with _ | ⟨e | v, hc⟩
  · cases hw
  · exact ⟨_, _, rfl⟩
  · exact ⟨_, _, rfl⟩
theorem kbinI_some {x : KO β} {k : β → KH → KO α} {u : (Nat ⊕ α) × KH} (hw : kbinI x k = some u) : ∃ v hc, x = some (.inr v, hc) ∧ k v hc = some u := by
  rcases x with _ | ⟨e | v, hc⟩
  · cases hw
  · cases hw
  · exact ⟨_, _, rfl, hw⟩
theorem krev (ρ : Nat → Nat) (as : List KV) : (as.reverse).map (ktr ρ) = (as.map (ktr ρ)).reverse := List.map_reverse
theorem kj_invV (hC : kC X own cc nL ret) (hT : kT0 X) (hd : decode cc pc = .ok (.invokevirtual index, 3)) (hl : Cond.methodLink own index y ∈ kT) (hy : kYok y bytes maxL rt n) (hy2 : Cond.instanceMethod y ∈ kT ∧ Cond.selects y.cls y y ∈ kT) (hq : vwCl[ci]? = some q) (hqc : q.1 = y.cls)
    (hM : kM y bytes maxL rt D mcc msc encb (.inr (.inr (some b)) :: as) h wc) (hn : as.length = n) (hst : as.reverse ++ .inr (.inr (some b)) :: rest = st) (hcat : (rest.map kcat).sum ≤ 8) (hroom : D + 1 ≤ xD X ∧ 19 + maxL ≤ 30) (hb : cells + mcc ≤ xmc X ∧ slots + msc ≤ xms X)
    (kk : ∀ v h1, kJ X enc nL (cells + mcc) (slots + msc) L ((encb v).toList ++ rest) (pc + 3) h1 (cont v h1)) : kJ X enc nL cells slots L st pc h (kcallV (ci + 1) b h wc cont) := by
  subst hst
  intro r h' hw ρ H locs ls hI hlv hk
  unfold kcallV at hw
  split at hw
  · rename_i ha
    obtain ⟨rc, hc, hwc⟩ := kbind_some hw
    rw [hwc] at hw
    have hts : ∀ w ∈ kT, w.before (xar X) (xs X) = true := hC.2.2.2.2.2.2.1
    have hok : ∀ v ∈ (.inr (.inr (some b)) :: as : List KV), kOk h v := fun v hv => hk.2 v (by
      rcases List.mem_cons.mp hv with rfl | hv
      · exact List.mem_append_right _ List.mem_cons_self
      · exact List.mem_append_left _ (List.mem_reverse.mpr hv))
    have hMl := hM (xl X) (xG X) ρ H.size rc hc hC.2.2.2.2.2.2.2.2.2.1 hwc hok
    obtain ⟨cell, q1, q2, q3, -⟩ := (hI.1.1 b (by rw [ha]; exact Nat.succ_ne_zero _)).2.1 ci q hq ha
    have hfc := (hC.2.2.2.2.2.2.2.1.1 ci q hq).2.1
    obtain ⟨p1, p2⟩ := kPre (as := .inr (.inr (some b)) :: as) (D := 0) (mcc := 0) (msc := 0) (maxL := 0) hC hI
    have hr := vx_runV (p := xp X) (l := xl X) (e := xe X) (R := xR X) (s := xs X) (m := xm X) (args := xar X) (below := xbe X) (meth := xme X) (c := xc X) (H := H) (locs := locs) (cells := cells) (slots := slots) (b := ρ b) (As := as.map (ktr ρ)) (rest := rest.map (ktr ρ)) (g := F0 (xm X) pc ls (((as.reverse ++ .inr (.inr (some b)) :: rest)).map (ktr ρ)))
      (kFix hC) hMl (C := y.cls) ⟨kcallB (n := n) hC hl hy hroom, hts _ hy2.1, hts _ hy2.2⟩ ⟨p1, ⟨cell, q1, by rw [q3]; rfl, by rw [q2, ← hqc]; exact hfc⟩, p2⟩ rfl (by rw [List.length_map]; exact hn) hlv.1 (by
        show ((as.reverse ++ .inr (.inr (some b)) :: rest)).map (ktr ρ) = _
        rw [List.map_append, krev]; rfl) (lv_room (by rw [kcat_sum]; exact hcat)) hd (kfits hC hb)
    exact kj_callK hC hT hr hI hlv ⟨hk.1, fun v hv => hk.2 v (List.mem_append_right _ (List.mem_cons_of_mem _ hv))⟩ hb hw (fun v hv => kk v hc)
  · cases hw
theorem kj_invS (hC : kC X own cc nL ret) (hT : kT0 X) (hd : decode cc pc = .ok (.invokestatic index, 3)) (hl : Cond.methodLink own index y ∈ kT) (hy : kYok y bytes maxL rt n) (hy2 : Cond.static y ∈ kT)
    (hM : kM y bytes maxL rt D mcc msc encb as h wc) (hn : as.length = n) (hst : as.reverse ++ rest = st) (hcat : (rest.map kcat).sum ≤ 8) (hroom : D + 1 ≤ xD X ∧ 19 + maxL ≤ 30) (hb : cells + mcc ≤ xmc X ∧ slots + msc ≤ xms X)
    (kk : ∀ v h1, kJ X enc nL (cells + mcc) (slots + msc) L ((encb v).toList ++ rest) (pc + 3) h1 (cont v h1)) : kJ X enc nL cells slots L st pc h (kbind wc cont) := by
  subst hst
  intro r h' hw ρ H locs ls hI hlv hk
  obtain ⟨rc, hc, hwc⟩ := kbind_some hw
  rw [hwc] at hw
  have hts : ∀ w ∈ kT, w.before (xar X) (xs X) = true := hC.2.2.2.2.2.2.1
  have hok : ∀ v ∈ as, kOk h v := fun v hv => hk.2 v (List.mem_append_left _ (List.mem_reverse.mpr hv))
  have hMl := hM (xl X) (xG X) ρ H.size rc hc hC.2.2.2.2.2.2.2.2.2.1 hwc hok
  have hr := vx_runS (p := xp X) (l := xl X) (e := xe X) (R := xR X) (s := xs X) (m := xm X) (args := xar X) (below := xbe X) (meth := xme X) (c := xc X) (H := H) (locs := locs) (cells := cells) (slots := slots) (As := as.map (ktr ρ)) (rest := rest.map (ktr ρ)) (g := F0 (xm X) pc ls (((as.reverse ++ rest)).map (ktr ρ)))
    (kFix hC) hMl ⟨kcallB (n := n) hC hl hy hroom, hts _ hy2⟩ (kPre (as := as) (D := 0) (mcc := 0) (msc := 0) (maxL := 0) hC hI) rfl (by rw [List.length_map]; exact hn) hlv.1 (by
      show ((as.reverse ++ rest)).map (ktr ρ) = _
      rw [List.map_append, krev]) (lv_room (by rw [kcat_sum]; exact hcat)) hd (kfits hC hb)
  exact kj_callK hC hT hr hI hlv ⟨hk.1, fun v hv => hk.2 v (List.mem_append_right _ hv)⟩ hb hw (fun v hv => kk v hc)
theorem kXC_no {G : KG} {A : Nat → Prop} {ρ : Nat → Nat} {v : β} {hc : KH} : ∀ E s t, ¬ kXC (α := β) G A h ρ (.inr v) hc E s t := fun E s t q => by
  obtain ⟨e, ρ', h1, -⟩ := q
  cases h1
theorem kj_invI (hC : kC X own cc nL ret) (hT : kT0 X) (hd : decode cc pc = .ok (.invokespecial index, 3)) (hl : Cond.methodLink own index y ∈ kT) (hy : kYok y bytes maxL none n) (hy2 : Cond.instanceMethod y ∈ kT) (hy3 : y.name = "<init>")
    (hM : kM y bytes maxL none D mcc msc encb (.inr (.inr (some b)) :: as) h wc) (hn : as.length = n) (hst : as.reverse ++ .inr (.inr (some b)) :: rest = st) (hcat : (rest.map kcat).sum ≤ 8) (hroom : D + 1 ≤ xD X ∧ 19 + maxL ≤ 30) (hb : cells + mcc ≤ xmc X ∧ slots + msc ≤ xms X)
    (kk : ∀ v h1, kJ X enc nL (cells + mcc) (slots + msc) L ((encb v).toList ++ rest) (pc + 3) h1 (cont v h1)) : kJ X enc nL cells slots L st pc h (kbinI wc cont) := by
  subst hst
  intro r h' hw ρ H locs ls hI hlv hk
  obtain ⟨v, hc, hwc, hw⟩ := kbinI_some hw
  have hts : ∀ w ∈ kT, w.before (xar X) (xs X) = true := hC.2.2.2.2.2.2.1
  have hok : ∀ v ∈ (.inr (.inr (some b)) :: as : List KV), kOk h v := fun v hv => hk.2 v (by
    rcases List.mem_cons.mp hv with rfl | hv
    · exact List.mem_append_right _ List.mem_cons_self
    · exact List.mem_append_left _ (List.mem_reverse.mpr hv))
  have hMl := kMet_of (hM (xl X) (xG X) ρ H.size (.inr v) hc hC.2.2.2.2.2.2.2.2.2.1 hwc hok) kXC_no
  have hr := va_runI (p := xp X) (l := xl X) (e := xe X) (R := xR X) (s := xs X) (m := xm X) (args := xar X) (below := xbe X) (meth := xme X) (c := xc X) (H := H) (locs := locs) (cells := cells) (slots := slots) (b := ρ b) (As := as.map (ktr ρ)) (rest := rest.map (ktr ρ)) (g := F0 (xm X) pc ls (((as.reverse ++ .inr (.inr (some b)) :: rest)).map (ktr ρ)))
    (kFix hC) hMl ⟨kcallB (n := n) hC hl hy hroom, hy3, hts _ hy2⟩ (kPre (as := .inr (.inr (some b)) :: as) (D := 0) (mcc := 0) (msc := 0) (maxL := 0) hC hI) rfl (by rw [List.length_map]; exact hn) hlv.1 (by
      show ((as.reverse ++ .inr (.inr (some b)) :: rest)).map (ktr ρ) = _
      rw [List.map_append, krev]; rfl) (lv_room (by rw [kcat_sum]; exact hcat)) hd (kfits hC hb)
  exact kj_callK (rc := .inr v) (cont := cont) hC hT (kRun_of hr) hI hlv ⟨hk.1, fun v hv => hk.2 v (List.mem_append_right _ (List.mem_cons_of_mem _ hv))⟩ hb hw (fun v hv => kk v hc)
/-! nest mates -/
theorem kcallN (hC : kC X own cc nL ret) {host : String} (hl : Cond.methodLinkNest own index y host ∈ kNest) (hy : kYok y bytes maxL rt n) (hroom : D + 1 ≤ xD X ∧ 19 + maxL ≤ 30) : va_CN (xR X) (xs X) (xar X) own index y host bytes maxL rt (Cond.code y bytes maxL rt :: kT) { frames := D, cells := mcc, slots := msc, locals := 30 * D } mcc msc n := by
  obtain ⟨h1, h2, h3, h4, h5⟩ := hy
  have hts : ∀ w ∈ kT, w.before (xar X) (xs X) = true := hC.2.2.2.2.2.2.1
  obtain ⟨r1, r2, -, -⟩ := hC.2.2.2.2.2.2.2.2.2.2.2
  exact va_cnB (ws' := kT) n hts (kT_goodc h2) rfl rfl rfl (hC.2.2.2.2.2.2.2.1.2.2.1 _ hl) (hts _ h1) ⟨h3, h4, h5⟩ ⟨Nat.le_trans hroom.1 r1, by show 8 + (maxL + 11) + 30 * D ≤ _; omega⟩
theorem kj_invIN (hC : kC X own cc nL ret) (hT : kT0 X) {host : String} (hd : decode cc pc = .ok (.invokespecial index, 3)) (hl : Cond.methodLinkNest own index y host ∈ kNest) (hy : kYok y bytes maxL none n) (hy2 : Cond.instanceMethod y ∈ kT) (hy3 : y.name = "<init>")
    (hM : kM y bytes maxL none D mcc msc encb (.inr (.inr (some b)) :: as) h wc) (hn : as.length = n) (hst : as.reverse ++ .inr (.inr (some b)) :: rest = st) (hcat : (rest.map kcat).sum ≤ 8) (hroom : D + 1 ≤ xD X ∧ 19 + maxL ≤ 30) (hb : cells + mcc ≤ xmc X ∧ slots + msc ≤ xms X)
    (kk : ∀ v h1, kJ X enc nL (cells + mcc) (slots + msc) L ((encb v).toList ++ rest) (pc + 3) h1 (cont v h1)) : kJ X enc nL cells slots L st pc h (kbinI wc cont) := by
  subst hst
  intro r h' hw ρ H locs ls hI hlv hk
  obtain ⟨v, hc, hwc, hw⟩ := kbinI_some hw
  have hts : ∀ w ∈ kT, w.before (xar X) (xs X) = true := hC.2.2.2.2.2.2.1
  have hok : ∀ v ∈ (.inr (.inr (some b)) :: as : List KV), kOk h v := fun v hv => hk.2 v (by
    rcases List.mem_cons.mp hv with rfl | hv
    · exact List.mem_append_right _ List.mem_cons_self
    · exact List.mem_append_left _ (List.mem_reverse.mpr hv))
  have hMl := kMet_of (hM (xl X) (xG X) ρ H.size (.inr v) hc hC.2.2.2.2.2.2.2.2.2.1 hwc hok) kXC_no
  have hr := va_runIN (p := xp X) (l := xl X) (e := xe X) (R := xR X) (s := xs X) (m := xm X) (args := xar X) (below := xbe X) (meth := xme X) (c := xc X) (H := H) (locs := locs) (cells := cells) (slots := slots) (b := ρ b) (As := as.map (ktr ρ)) (rest := rest.map (ktr ρ)) (g := F0 (xm X) pc ls (((as.reverse ++ .inr (.inr (some b)) :: rest)).map (ktr ρ)))
    (kFix hC) hMl ⟨kcallN (n := n) hC hl hy hroom, hy3, hts _ hy2⟩ (kPre (as := .inr (.inr (some b)) :: as) (D := 0) (mcc := 0) (msc := 0) (maxL := 0) hC hI) rfl (by rw [List.length_map]; exact hn) hlv.1 (by
      show ((as.reverse ++ .inr (.inr (some b)) :: rest)).map (ktr ρ) = _
      rw [List.map_append, krev]; rfl) (lv_room (by rw [kcat_sum]; exact hcat)) hd (kfits hC hb)
  exact kj_callK (rc := .inr v) (cont := cont) hC hT (kRun_of hr) hI hlv ⟨hk.1, fun v hv => hk.2 v (List.mem_append_right _ (List.mem_cons_of_mem _ hv))⟩ hb hw (fun v hv => kk v hc)
theorem kj_invSN (hC : kC X own cc nL ret) (hT : kT0 X) {host : String} (hd : decode cc pc = .ok (.invokestatic index, 3)) (hl : Cond.methodLinkNest own index y host ∈ kNest) (hy : kYok y bytes maxL rt n) (hy2 : Cond.static y ∈ kT)
    (hM : kM y bytes maxL rt D mcc msc encb as h wc) (hn : as.length = n) (hst : as.reverse ++ rest = st) (hcat : (rest.map kcat).sum ≤ 8) (hroom : D + 1 ≤ xD X ∧ 19 + maxL ≤ 30) (hb : cells + mcc ≤ xmc X ∧ slots + msc ≤ xms X)
    (kk : ∀ v h1, kJ X enc nL (cells + mcc) (slots + msc) L ((encb v).toList ++ rest) (pc + 3) h1 (cont v h1)) : kJ X enc nL cells slots L st pc h (kbinI wc cont) := by
  subst hst
  intro r h' hw ρ H locs ls hI hlv hk
  obtain ⟨v, hc, hwc, hw⟩ := kbinI_some hw
  have hts : ∀ w ∈ kT, w.before (xar X) (xs X) = true := hC.2.2.2.2.2.2.1
  have hok : ∀ v ∈ as, kOk h v := fun v hv => hk.2 v (List.mem_append_left _ (List.mem_reverse.mpr hv))
  have hMl := kMet_of (hM (xl X) (xG X) ρ H.size (.inr v) hc hC.2.2.2.2.2.2.2.2.2.1 hwc hok) kXC_no
  have hr := va_runSN (p := xp X) (l := xl X) (e := xe X) (R := xR X) (s := xs X) (m := xm X) (args := xar X) (below := xbe X) (meth := xme X) (c := xc X) (H := H) (locs := locs) (cells := cells) (slots := slots) (As := as.map (ktr ρ)) (rest := rest.map (ktr ρ)) (g := F0 (xm X) pc ls (((as.reverse ++ rest)).map (ktr ρ)))
    (kFix hC) hMl ⟨kcallN (n := n) hC hl hy hroom, hts _ hy2, trivial⟩ (kPre (as := as) (D := 0) (mcc := 0) (msc := 0) (maxL := 0) hC hI) rfl (by rw [List.length_map]; exact hn) hlv.1 (by
      show ((as.reverse ++ rest)).map (ktr ρ) = _
      rw [List.map_append, krev]) (lv_room (by rw [kcat_sum]; exact hcat)) hd (kfits hC hb)
  exact kj_callK (rc := .inr v) (cont := cont) hC hT (kRun_of hr) hI hlv ⟨hk.1, fun v hv => hk.2 v (List.mem_append_right _ hv)⟩ hb hw (fun v hv => kk v hc)
theorem kj_gNN (hC : kC X own cc nL ret) {idx ci k a : Nat} {host : String} {q : vw_C} {f : Nat → KO α} (hd : decode cc pc = .ok (.getfield idx, 3)) (hq : vwCl[ci]? = some q) (hk0 : k < q.2.2) (hf : Cond.fieldLinkNest own idx (q.2.1 k).1 (q.2.1 k).2.1 (q.2.1 k).2.2.1 host ∈ kNest) (hs : ksrt (kFt ci k) = 2) (kk : ∀ b, kJ X enc nL cells slots L (.inr (.inr (some b)) :: st) (pc + 3) h (f b)) : kJ X enc nL cells slots L (.inr (.inr (some a)) :: st) pc h (gN h a (ci + 1) k f) := by
  intro r h' hw ρ H locs ls hI hl hk
  unfold gN at hw
  split at hw
  · rename_i ha
    have hci := kCl_lt hq
    have ha0 : kd h a ≠ 0 := by rw [ha]; exact Nat.succ_ne_zero _
    obtain ⟨cell, q1, q2, q3, q4⟩ := (hI.1.1 a ha0).2.1 ci q hq ha
    obtain ⟨hS, hfc, kC, hkC, hkind⟩ := hC.2.2.2.2.2.2.2.1.1 ci q hq
    obtain ⟨cf, kf, fi, f0, hi, hsl⟩ := hS k hk0
    have hts : ∀ w ∈ kT, w.before (xar X) (xs X) = true := hC.2.2.2.2.2.2.1
    have hlk : (Cond.fieldLinkNest own idx (q.2.1 k).1 (q.2.1 k).2.1 (q.2.1 k).2.2.1 host).before (xar X) (xs X) = true := va_Nw.use rfl (hC.2.2.2.2.2.2.2.1.2.2.1 _ hf)
    cases ho : kR h a k with
    | none => rw [ho] at hw; cases hw
    | some b =>
      rw [ho] at hw
      refine va_Wgetf hC.1 hC.2.1 hC.2.2.2.2.2.1 hlk hi (u_facts hfc hkC (u_lays hts (kcls_in ci hci q hq) hk0) hi).1 q1 (by rw [q3]; exact fun h => by cases h) (v := kV ρ h a k (ksrt (kFt ci k))) (by rw [hsl, q4 k hk0]) rfl rfl hd ?_
      rw [hs, show kV ρ h a k 2 = va_rf ((kR h a k).map ρ) from rfl, ho]
      exact kk b r h' hw ρ H locs ls hI hl (hk.tail.push (kOk_r (hI.1.2.2 a k b ha0 ho)))
  · cases hw
end KINV
end
section
/-! new cells -/
def kext (ρ : Nat → Nat) (o N sz : Nat) : Nat → Nat := fun a => if o ≤ a ∧ a < o + N then sz + (a - o) else ρ a
theorem kext_in {ρ : Nat → Nat} {o N sz a : Nat} (h : o ≤ a ∧ a < o + N) : kext ρ o N sz a = sz + (a - o) := if_pos h
theorem kext_out {ρ : Nat → Nat} {o N sz a : Nat} (h : ¬ (o ≤ a ∧ a < o + N)) : kext ρ o N sz a = ρ a := if_neg h
section KALLOC
variable {α β : Type} {X : KX} {enc : α → Option KV} {own : String} {cc : ByteArray} {nL : Nat} {ret : Option FieldType} {cells slots : Nat} {L : List (Nat × KV)} {st : List KV} {pc : Nat} {h : KH} {w : KO α}
theorem kInv.alloc {ρ : Nat → Nat} {h1 : KH} {H H1 : Heap} {locs : List Loc} {o N : Nat} (hC : kC X own cc nL ret) (hI : kInv X ρ h H locs) (hfree : ∀ a, o ≤ a ∧ a < o + N → kd h a = 0) (hsame : ∀ a, ¬ (o ≤ a ∧ a < o + N) → kd h1 a = kd h a ∧ kn h1 a = kn h a ∧ kI h1 a = kI h a ∧ kL h1 a = kL h a ∧ kR h1 a = kR h a)
    (hz : H1.size = H.size + N) (ho : ∀ q : Nat, q < H.size → H1[q]? = H[q]?) (hat : ∀ a, o ≤ a ∧ a < o + N → kAt (xG X) (kext ρ o N H.size) h1 a H1) (hr : ∀ a k b, o ≤ a ∧ a < o + N → kR h1 a k = some b → kd h1 b ≠ 0) :
    kInv X (kext ρ o N H.size) h1 H1 locs ∧ (∀ a, kd h a ≠ 0 → kd h1 a = kd h a ∧ kext ρ o N H.size a = ρ a) := by
  obtain ⟨⟨r1, r2, r3⟩, i2, i3, i4, i5⟩ := hI
  have hA : ∀ q, (xs X).heap.size ≤ q → (xA X) q := hC.2.2.2.2.2.2.2.2.2.2.1
  have hout : ∀ a, kd h a ≠ 0 → ¬ (o ≤ a ∧ a < o + N) := fun a ha hb => ha (hfree a hb)
  have hold : ∀ a, kd h a ≠ 0 → kd h1 a = kd h a ∧ kext ρ o N H.size a = ρ a := fun a ha => ⟨(hsame a (hout a ha)).1, kext_out (hout a ha)⟩
  refine ⟨⟨⟨fun a ha => ?_, fun a b ha hb hab => ?_, fun a k b ha hk => ?_⟩, ⟨Nat.le_trans i2.1 (by omega), fun q h1 h2 => (ho q (Nat.lt_of_lt_of_le h1 i2.1)).trans (i2.2.1 q h1 h2), i2.2.2⟩, fun a ha => ?_, fun a ha => ?_, fun a ha hb => ?_⟩, hold⟩
  · by_cases hin : o ≤ a ∧ a < o + N
    · exact ⟨by rw [kext_in hin]; omega, hat a hin⟩
    · obtain ⟨e1, e2, e3, e4, e5⟩ := hsame a hin
      rw [e1] at ha
      refine ⟨by rw [kext_out hin]; exact Nat.lt_of_lt_of_le (r1 a ha).1 (by omega), (r1 a ha).2.same (kext_out hin) e1 e2 (fun k s => ?_) (ho _ (r1 a ha).1)⟩
      unfold kV
      rw [e3, e4, e5]
      split
      · rfl
      · rfl
      · congr 1
        cases hb : kR h a k with
        | none => rfl
        | some b =>
          rw [Option.map_some, Option.map_some, (hold b (r3 a k b ha hb)).2]
  · by_cases h2 : o ≤ a ∧ a < o + N <;> by_cases h3 : o ≤ b ∧ b < o + N
    · rw [kext_in h2, kext_in h3] at hab
      omega
    · rw [kext_in h2, kext_out h3] at hab
      have := (r1 b (by rw [← (hsame b h3).1]; exact hb)).1
      omega
    · rw [kext_out h2, kext_in h3] at hab
      have := (r1 a (by rw [← (hsame a h2).1]; exact ha)).1
      omega
    · rw [kext_out h2, kext_out h3] at hab
      exact r2 a b (by rw [← (hsame a h2).1]; exact ha) (by rw [← (hsame b h3).1]; exact hb) hab
  · by_cases hin : o ≤ a ∧ a < o + N
    · exact hr a k b hin hk
    · obtain ⟨e1, e2, e3, e4, e5⟩ := hsame a hin
      rw [e1] at ha
      rw [e5] at hk
      have hb := r3 a k b ha hk
      rw [(hold b hb).1]
      exact hb
  · by_cases hin : o ≤ a ∧ a < o + N
    · rw [kext_in hin]
      exact hA _ (Nat.le_trans i2.1 (by omega))
    · rw [kext_out hin]
      exact i3 a (by rw [← (hsame a hin).1]; exact ha)
  · obtain ⟨k1, k2⟩ := i4 a ha
    have hb : kd h a ≠ 0 := by rw [k1]; exact ha
    exact ⟨(hold a hb).1.trans k1, (hold a hb).2.trans k2⟩
  · by_cases hin : o ≤ a ∧ a < o + N
    · rw [kext_in hin]
      exact Nat.le_trans i2.1 (by omega)
    · rw [kext_out hin]
      exact i5 a (by rw [← (hsame a hin).1]; exact ha) hb
theorem kgo {ρ : Nat → Nat} {h1 h' : KH} {H H1 : Heap} {locs : List Loc} {ls : Array Slot} {o N : Nat} {r : Nat ⊕ α} {w1 : KO α} (hN : 0 < N) (hn : kInv X (kext ρ o N H.size) h1 H1 locs ∧ (∀ a, kd h a ≠ 0 → kd h1 a = kd h a ∧ kext ρ o N H.size a = ρ a)) (ho : kd h1 o ≠ 0) (hl : lv_has ls nL (klv ρ L)) (hk : kOks h L st) (hw : w1 = some (r, h'))
    (kk : kJ X enc nL cells slots L (.inr (.inr (some o)) :: st) pc h1 w1) : kW X enc cells slots r h' H1 locs (F0 (xm X) pc ls (.ref H.size :: st.map (ktr ρ))) := by
  have hag : ∀ a, kd h a ≠ 0 → kext ρ o N H.size a = ρ a := fun a ha => (hn.2 a ha).2
  have hm : kOks h1 L st := hk.mono (fun a ha => by rw [(hn.2 a ha).1]; exact ha)
  have hg := kk r h' hw (kext ρ o N H.size) H1 locs ls hn.1 (by rw [klveq hk.1 hag]; exact hl) (hm.push (kOk_r ho))
  have e : (.inr (.inr (some o)) :: st : List KV).map (ktr (kext ρ o N H.size)) = .ref H.size :: st.map (ktr ρ) := by
    rw [List.map_cons, kmapeq hk.2 hag]
    show va_rf (some (kext ρ o N H.size o)) :: _ = _
    rw [kext_in ⟨Nat.le_refl _, by omega⟩, Nat.sub_self]
    rfl
  rw [e] at hg
  exact hg
theorem kal_same (h : KH) (c n a : Nat) (ha : ¬ (kx h ≤ a ∧ a < kx h + 1)) : kd (al h c n) a = kd h a ∧ kn (al h c n) a = kn h a ∧ kI (al h c n) a = kI h a ∧ kL (al h c n) a = kL h a ∧ kR (al h c n) a = kR h a := by
  have hne : ¬ a = kx h := fun e => ha ⟨Nat.le_of_eq e.symm, by omega⟩
  refine ⟨by rw [kd_al, if_neg hne], by rw [kn_al, if_neg hne], ?_, ?_, ?_⟩ <;> funext j
  · rw [kI_al, if_neg hne]
  · rw [kL_al, if_neg hne]
  · rw [kR_al, if_neg hne]
theorem kal_V (ρ : Nat → Nat) (h : KH) (c n k s : Nat) : kV ρ (al h c n) (kx h) k s = (match s with | 0 => .int 0 | 1 => .long 0 | _ => .null) := by
  unfold kV
  split <;> simp [kI_al, kL_al, kR_al, va_rf]
def kdef (s : Nat) : Value := match s with
  | 0 => .int 0
  | 1 => .long 0
  | _ => .null
theorem kdef_cls : ∀ ci, ci < 11 → ∀ q, vwCl[ci]? = some q → ∀ k, k < q.2.2 → defaultValue (kFt ci k) = kdef (ksrt (kFt ci k)) := by
  have h : ∀ ci, ci < 11 → ((vwCl[ci]?).all fun q => (List.range q.2.2).all fun k => decide (defaultValue (kFt ci k) = kdef (ksrt (kFt ci k)))) = true := by decide +kernel
  intro ci hci q hq k hk
  have h1 := h ci hci
  rw [hq] at h1
  exact of_decide_eq_true (List.all_eq_true.mp h1 k (List.mem_range.mpr hk))
theorem kdef_arr {c : Nat} {ty : FieldType} (h : kTy c = some ty) : defaultValue ty = kdef (ksrt ty) := by
  unfold kTy at h
  split at h <;> cases h <;> rfl
theorem kj_new (hC : kC X own cc nL ret) {idx ci : Nat} {q : vw_C} {f : Nat → KH → KO α} (hd : decode cc pc = .ok (.new idx, 3)) (hq : vwCl[ci]? = some q) (hcl : Cond.classLink own idx q.1 ∈ kT) (hins : Cond.instantiable q.1 q.2.2 ∈ kT) (hini : Cond.initialized q.1 ∈ kT) (hb : cells + 1 ≤ xmc X ∧ slots + q.2.2 ≤ xms X)
    (kk : ∀ a h1, kJ X enc nL (cells + 1) (slots + q.2.2) L (.inr (.inr (some a)) :: st) (pc + 3) h1 (f a h1)) : kJ X enc nL cells slots L st pc h (nw h (ci + 1) 0 f) := by
  intro r h' hw ρ H locs ls hI hl hk
  unfold nw at hw
  split at hw
  · rename_i hfree
    have hts : ∀ w ∈ kT, w.before (xar X) (xs X) = true := hC.2.2.2.2.2.2.1
    have hci := kCl_lt hq
    have hKn := hC.2.2.2.2.2.2.2.1.1 ci q hq
    obtain ⟨-, -, r3, r4⟩ := hC.2.2.2.2.2.2.2.2.2.2.2
    refine W.newcK hC.1 hC.2.1 hC.2.2.2.2.2.1 (hts _ hcl) (hts _ hins) (hts _ hini) rfl hd (Nat.le_trans hb.1 r3) (Nat.le_trans hb.2 r4) hKn.2.1 rfl fun H1 kC0 hkC e1 z1 o1 => ?_
    have hborn := u_born (kFt ci) hts (kcls_in ci hci q hq) hKn hkC e1 (kcls_ty ci hci q hq)
    have hkd : kd (al h (ci + 1) 0) (kx h) = ci + 1 := by rw [kd_al, if_pos rfl]
    refine kgo (N := 1) (by omega) (hI.alloc (h1 := al h (ci + 1) 0) (o := kx h) (N := 1) hC (fun a ha => ?_) (fun a ha => kal_same h _ _ a ha) z1 o1 (fun a ha => ?_) (fun a k b ha hb => ?_)) (by rw [hkd]; exact Nat.succ_ne_zero _) hl hk hw (kk _ _)
    · rw [show a = kx h by omega]; exact hfree
    · have ea : a = kx h := by omega
      subst ea
      refine ⟨fun ci' q' hq' hk' => ?_, fun ty hty => ?_⟩
      · rw [hkd] at hk'
        have hcc : ci' = ci := by omega
        subst hcc
        have hqq : q' = q := Option.some.inj (hq'.symm.trans hq)
        subst hqq
        rw [kext_in ha, Nat.sub_self, Nat.add_zero]
        exact hborn.to (fun k hk => by rw [kdef_cls ci' hci q' hq k hk]; exact (kal_V _ h _ _ k _).symm)
      · rw [hkd, kTy_obj hq] at hty
        cases hty
    · rw [show a = kx h by omega, kR_al, if_pos rfl] at hb
      cases hb
  · cases hw
/-- an array comes -/
theorem kInv.allocA {ρ : Nat → Nat} {H H1 : Heap} {locs : List Loc} {c N : Nat} {ty : FieldType} (hC : kC X own cc nL ret) (hI : kInv X ρ h H locs) (hfree : kd h (kx h) = 0) (hty : kTy c = some ty) (hz : H1.size = H.size + 1) (ho : ∀ q : Nat, q < H.size → H1[q]? = H[q]?) (he : H1[H.size]? = some (arrV ((xG X).2 c) N (fun _ => defaultValue ty))) :
    kInv X (kext ρ (kx h) 1 H.size) (al h c N) H1 locs ∧ (∀ a, kd h a ≠ 0 → kd (al h c N) a = kd h a ∧ kext ρ (kx h) 1 H.size a = ρ a) := by
  have hkd : kd (al h c N) (kx h) = c := by rw [kd_al, if_pos rfl]
  refine hI.alloc hC (fun a ha => ?_) (fun a ha => kal_same h _ _ a ha) hz ho (fun a ha => ?_) (fun a k b ha hb => ?_)
  · rw [show a = kx h by omega]; exact hfree
  · have ea : a = kx h := by omega
    subst ea
    refine ⟨fun ci' q' hq' hk' => ?_, fun ty' hty' => ?_⟩
    · rw [hkd] at hk'
      rw [hk', kTy_obj hq'] at hty
      cases hty
    · rw [hkd] at hty'
      have htt : ty' = ty := Option.some.inj (hty'.symm.trans hty)
      subst htt
      rw [kext_in ha, Nat.sub_self, Nat.add_zero, he, hkd, kn_al, if_pos rfl]
      congr 2
      funext k
      rw [kdef_arr hty]
      exact (kal_V _ h _ _ k _).symm
  · rw [show a = kx h by omega, kR_al, if_pos rfl] at hb
    cases hb
theorem kj_newa (hC : kC X own cc nL ret) {atype : ArrayType} {c N : Nat} {n : Int32} {ty : FieldType} {f : Nat → KH → KO α} (hd : decode cc pc = .ok (.newarray atype, 2)) (hty : kTy c = some ty) (hat : newarray.typeOf atype = ty) (hra : ∀ U cA, va_RA U cA ty = (U.vm.findClass ("[" ++ ty.toString) = some cA)) (harr : Cond.arrayClass ty ∈ kT) (hn : ¬ n < 0 ∧ n.toNatClampNeg = N ∧ N * componentBytes ty ≤ 536870912) (hb : cells + 1 ≤ xmc X ∧ slots + N ≤ xms X)
    (kk : ∀ a h1, kJ X enc nL (cells + 1) (slots + N) L (.inr (.inr (some a)) :: st) (pc + 2) h1 (f a h1)) : kJ X enc nL cells slots L (.inl n :: st) pc h (nw h c N f) := by
  subst hat
  intro r h' hw ρ H locs ls hI hl hk
  unfold nw at hw
  split at hw
  · rename_i hfree
    have hts : ∀ w ∈ kT, w.before (xar X) (xs X) = true := hC.2.2.2.2.2.2.1
    obtain ⟨-, -, r3, r4⟩ := hC.2.2.2.2.2.2.2.2.2.2.2
    refine va_newaK hC.1 hC.2.1 (hts _ harr) rfl hd rfl hn.1 hn.2.1 hn.2.2 (Nat.le_trans hb.1 r3) (Nat.le_trans hb.2 r4) rfl fun H1 cA e1 z1 o1 hAr hNm => ?_
    have hcA : cA = (xG X).2 c := by
      have h9 := (hC.2.2.2.2.2.2.2.1.2.1 c _ hty).2
      rw [hra] at h9
      exact Option.some.inj (hNm.symm.trans h9)
    subst hcA
    exact kgo (N := 1) (by omega) (hI.allocA hC hfree hty z1 o1 e1) (by rw [kd_al, if_pos rfl]; have := kTy_arr hty; omega) hl hk.tail hw (kk _ _)
  · cases hw
theorem kj_newo (hC : kC X own cc nL ret) {idx c N : Nat} {n : Int32} {C : String} {f : Nat → KH → KO α} (hd : decode cc pc = .ok (.anewarray idx, 3)) (hty : kTy c = some (.object C)) (hin : C ∈ kArr) (hcl : Cond.classLink own idx C ∈ kT) (hn : ¬ n < 0 ∧ n.toNatClampNeg = N ∧ N * 4 ≤ 536870912) (hb : cells + 1 ≤ xmc X ∧ slots + N ≤ xms X)
    (kk : ∀ a h1, kJ X enc nL (cells + 1) (slots + N) L (.inr (.inr (some a)) :: st) (pc + 3) h1 (f a h1)) : kJ X enc nL cells slots L (.inl n :: st) pc h (nw h c N f) := by
  obtain ⟨hn0, rfl, hn2⟩ := hn
  intro r h' hw ρ H locs ls hI hl hk
  unfold nw at hw
  split at hw
  · rename_i hfree
    have hts : ∀ w ∈ kT, w.before (xar X) (xs X) = true := hC.2.2.2.2.2.2.1
    obtain ⟨-, -, r3, r4⟩ := hC.2.2.2.2.2.2.2.2.2.2.2
    refine W.anew hC.1 hC.2.1 hC.2.2.2.2.2.1 (hts _ hcl) (va_AO.use (hC.2.2.2.2.2.2.2.1.2.2.2.1 C hin)) rfl hd rfl hn0 hn2 (Nat.le_trans hb.1 r3) (Nat.le_trans hb.2 r4) fun cA kA comp f1 f2 f3 f4 => ?_
    generalize hH1 : H.push ({ cls := cA, slots := Array.replicate n.toNatClampNeg .null, vm := .none } : Cell) = H1
    have z1 : H1.size = H.size + 1 := by rw [← hH1, Array.size_push]
    have e1 : H1[H.size]? = some (arrV cA n.toNatClampNeg (fun _ => .null)) := by rw [← hH1, Array.getElem?_push_size, ← arrV_new]
    have o1 : ∀ q : Nat, q < H.size → H1[q]? = H[q]? := fun q hq => by rw [← hH1, Array.getElem?_push, if_neg (Nat.ne_of_lt hq)]
    have hcA : cA = (xG X).2 c := by
      obtain ⟨kA9, comp9, g1, g2, g3, g4⟩ := (hC.2.2.2.2.2.2.2.1.2.1 c _ hty).2
      exact Option.some.inj (f1.symm.trans g4)
    subst hcA
    exact kgo (N := 1) (by omega) (hI.allocA hC hfree hty z1 o1 e1) (by rw [kd_al, if_pos rfl]; have := kTy_arr hty; omega) hl hk.tail hw (kk _ _)
  · cases hw
/-- an array of arrays of ints -/
def alM (h : KH) (n k : Nat) : KH := kmk (fun b => if b = kx h then 24 else if kx h < b ∧ b ≤ kx h + n then 21 else kd h b) (fun b => if b = kx h then n else if kx h < b ∧ b ≤ kx h + n then k else kn h b) (fun b j => if kx h ≤ b ∧ b ≤ kx h + n then 0 else kI h b j) (fun b j => if kx h ≤ b ∧ b ≤ kx h + n then 0 else kL h b j)
  (fun b j => if b = kx h then (if j < n then some (kx h + 1 + j) else none) else if kx h < b ∧ b ≤ kx h + n then none else kR h b j) (kx h + 1 + n)
def nwM {α : Type} (h : KH) (n k : Nat) (f : Nat → KH → KO α) : KO α := if (List.range (1 + n)).all (fun i => decide (kd h (kx h + i) = 0)) = true then f (kx h) (alM h n k) else none
theorem kj_newm (hC : kC X own cc nL ret) {idx N K : Nat} {n k : Int32} {f : Nat → KH → KO α} (hd : decode cc pc = .ok (.multianewarray idx 2, 4)) (hcl : Cond.classLink own idx ("[" ++ (FieldType.array .int).toString) ∈ kT) (harr : Cond.arrayClass .int ∈ kT) (hn : ¬ n < 0 ∧ n.toNatClampNeg = N ∧ N * 4 ≤ 536870912) (hk0 : ¬ k < 0 ∧ k.toNatClampNeg = K ∧ K * 4 ≤ 536870912) (hb : cells + 1 + N ≤ xmc X ∧ slots + N + N * K ≤ xms X)
    (kk : ∀ a h1, kJ X enc nL (cells + 1 + N) (slots + N + N * K) L (.inr (.inr (some a)) :: st) (pc + 4) h1 (f a h1)) : kJ X enc nL cells slots L (.inl k :: .inl n :: st) pc h (nwM h N K f) := by
  obtain ⟨hn0, rfl, hn2⟩ := hn
  obtain ⟨hk1, rfl, hk2⟩ := hk0
  intro r h' hw ρ H locs ls hI hl hk
  unfold nwM at hw
  split at hw
  · rename_i hfree
    have hfree : ∀ i, i < 1 + n.toNatClampNeg → kd h (kx h + i) = 0 := fun i hi => of_decide_eq_true (List.all_eq_true.mp hfree i (List.mem_range.mpr hi))
    have hts : ∀ w ∈ kT, w.before (xar X) (xs X) = true := hC.2.2.2.2.2.2.1
    obtain ⟨-, -, r3, r4⟩ := hC.2.2.2.2.2.2.2.2.2.2.2
    intro T hT Xs
    obtain ⟨vm₁, cA, comp, -, fA, fC, hO, -, X', step⟩ := Xs.multianewarray2F hC.1 hC.2.2.2.2.2.1 (hts _ hcl) (hC.2.2.2.2.2.2.2.1.2.2.2.2.1) (hts _ harr) (g := F0 (xm X) pc ls ((.inl k :: .inl n :: st : List KV).map (ktr ρ))) rfl (by rw [hC.2.1]; exact hd) rfl hn0 hk1 hn2 (by show k.toNatClampNeg * 4 ≤ _; exact hk2) (by omega) rfl rfl (by omega) (by omega)
    have ecA : cA = (xG X).2 24 := Option.some.inj (fA.symm.trans (hC.2.2.2.2.2.2.2.1.2.1 24 _ rfl).2)
    have ecI : comp = (xG X).2 21 := Option.some.inj (fC.symm.trans (hC.2.2.2.2.2.2.2.1.2.1 21 _ rfl).2)
    subst ecA
    subst ecI
    generalize hF : Jvm.Free.Multi.fill (T.setVm vm₁) ((xG X).2 24) ((xG X).2 21) n.toNatClampNeg k.toNatClampNeg (defaultValue .int) n.toNatClampNeg = F at X' step
    have hTh : (T.setVm vm₁).heap = H := hT
    obtain ⟨f1, f2, -, -⟩ := Jvm.Free.Multi.fill_facts (T.setVm vm₁) ((xG X).2 24) ((xG X).2 21) n.toNatClampNeg k.toNatClampNeg (defaultValue .int) n.toNatClampNeg
    rw [hF, hTh] at f1 f2
    have hold : ∀ x : Nat, x < H.size → F.heap[x]? = H[x]? := fun x hx => by
      have := Jvm.Free.Multi.fill_old (T.setVm vm₁) ((xG X).2 24) ((xG X).2 21) n.toNatClampNeg k.toNatClampNeg (defaultValue .int) (a := x) (by rw [hTh]; exact hx) n.toNatClampNeg
      rw [hF, hTh] at this
      exact this
    have hrow : ∀ j : Nat, j < n.toNatClampNeg → F.heap[H.size + 1 + j]? = some (arrV ((xG X).2 21) k.toNatClampNeg (fun _ => .int 0)) := fun j hj => by
      have := Jvm.Free.Multi.fill_inner (T.setVm vm₁) ((xG X).2 24) ((xG X).2 21) n.toNatClampNeg k.toNatClampNeg (defaultValue .int) n.toNatClampNeg j hj
      rw [hF, hTh] at this
      rw [this]
      show some ({ cls := _, slots := Array.replicate _ _, vm := .none } : Cell) = _
      rw [arrV_new]
      rfl
    rw [vr_outer] at f2
    have hsz : F.heap.size = H.size + (1 + n.toNatClampNeg) := by rw [f1]; omega
    have hn' : kInv X (kext ρ (kx h) (1 + n.toNatClampNeg) H.size) (alM h n.toNatClampNeg k.toNatClampNeg) F.heap locs ∧ (∀ a, kd h a ≠ 0 → kd (alM h n.toNatClampNeg k.toNatClampNeg) a = kd h a ∧ kext ρ (kx h) (1 + n.toNatClampNeg) H.size a = ρ a) := by
      refine hI.alloc hC (fun a ha => ?_) (fun a ha => ?_) hsz hold (fun a ha => ?_) (fun a j b ha hb => ?_)
      · have := hfree (a - kx h) (by omega)
        rwa [show kx h + (a - kx h) = a by omega] at this
      · have h1 : ¬ a = kx h := by omega
        have h2 : ¬ (kx h < a ∧ a ≤ kx h + n.toNatClampNeg) := by omega
        have h3 : ¬ (kx h ≤ a ∧ a ≤ kx h + n.toNatClampNeg) := by omega
        refine ⟨?_, ?_, ?_, ?_, ?_⟩
        · show (if _ then _ else _) = _
          rw [if_neg h1, if_neg h2]
        · show (if _ then _ else _) = _
          rw [if_neg h1, if_neg h2]
        · funext j
          show (if _ then _ else _) = _
          rw [if_neg h3]
        · funext j
          show (if _ then _ else _) = _
          rw [if_neg h3]
        · funext j
          show (if _ then _ else _) = _
          rw [if_neg h1, if_neg h2]
      · by_cases h1 : a = kx h
        · subst h1
          have hkd : kd (alM h n.toNatClampNeg k.toNatClampNeg) (kx h) = 24 := by show (if _ then _ else _) = _; rw [if_pos rfl]
          refine ⟨fun ci' q' hq' hk' => ?_, fun ty' hty' => ?_⟩
          · have := kCl_lt hq'
            omega
          · rw [hkd] at hty' ⊢
            have htt : ty' = .array .int := (Option.some.inj hty').symm
            subst htt
            rw [kext_in ha, Nat.sub_self, Nat.add_zero, f2]
            have hkn : kn (alM h n.toNatClampNeg k.toNatClampNeg) (kx h) = n.toNatClampNeg := by show (if _ then _ else _) = _; rw [if_pos rfl]
            rw [hkn]
            congr 2
            funext j
            show _ = va_rf ((kR (alM h n.toNatClampNeg k.toNatClampNeg) (kx h) j).map _)
            have hkr : kR (alM h n.toNatClampNeg k.toNatClampNeg) (kx h) j = if j < n.toNatClampNeg then some (kx h + 1 + j) else none := by show (if _ then _ else _) = _; rw [if_pos rfl]
            rw [hkr]
            by_cases hj : j < n.toNatClampNeg
            · rw [if_pos hj, if_pos hj, Option.map_some, kext_in ⟨by omega, by omega⟩]
              congr 2
              omega
            · rw [if_neg hj, if_neg hj]
              rfl
        · have h2 : kx h < a ∧ a ≤ kx h + n.toNatClampNeg := by omega
          have hkd : kd (alM h n.toNatClampNeg k.toNatClampNeg) a = 21 := by show (if _ then _ else _) = _; rw [if_neg h1, if_pos h2]
          refine ⟨fun ci' q' hq' hk' => ?_, fun ty' hty' => ?_⟩
          · have := kCl_lt hq'
            omega
          · rw [hkd] at hty' ⊢
            have htt : ty' = .int := (Option.some.inj hty').symm
            subst htt
            have hr := hrow (a - kx h - 1) (by omega)
            rw [kext_in ha, show H.size + (a - kx h) = H.size + 1 + (a - kx h - 1) by omega, hr]
            have hkn : kn (alM h n.toNatClampNeg k.toNatClampNeg) a = k.toNatClampNeg := by show (if _ then _ else _) = _; rw [if_neg h1, if_pos h2]
            rw [hkn]
            congr 2
            funext j
            have hki : kI (alM h n.toNatClampNeg k.toNatClampNeg) a j = 0 := by show (if _ then _ else _) = _; rw [if_pos ⟨by omega, h2.2⟩]
            show _ = Value.int (kI (alM h n.toNatClampNeg k.toNatClampNeg) a j)
            rw [hki]
      · by_cases h1 : a = kx h
        · subst h1
          have hkr : kR (alM h n.toNatClampNeg k.toNatClampNeg) (kx h) j = if j < n.toNatClampNeg then some (kx h + 1 + j) else none := by show (if _ then _ else _) = _; rw [if_pos rfl]
          rw [hkr] at hb
          by_cases hj : j < n.toNatClampNeg
          · rw [if_pos hj] at hb
            cases hb
            show (if _ then _ else _) ≠ _
            rw [if_neg (by omega), if_pos ⟨by omega, by omega⟩]
            decide
          · rw [if_neg hj] at hb
            cases hb
        · have h2 : kx h < a ∧ a ≤ kx h + n.toNatClampNeg := by omega
          have hkr : kR (alM h n.toNatClampNeg k.toNatClampNeg) a j = none := by show (if _ then _ else _) = _; rw [if_neg h1, if_pos h2]
          rw [hkr] at hb
          cases hb
    have hko : kd (alM h n.toNatClampNeg k.toNatClampNeg) (kx h) ≠ 0 := by
      show (if _ then _ else _) ≠ _
      rw [if_pos rfl]
      decide
    have hg := kgo (X := X) (enc := enc) (cells := cells + 1 + n.toNatClampNeg) (slots := slots + n.toNatClampNeg + n.toNatClampNeg * k.toNatClampNeg) (N := 1 + n.toNatClampNeg) (by omega) hn' hko hl hk.tail.tail hw (kk _ _)
    obtain ⟨t2, a1, b1⟩ := hg F rfl X'
    refine ⟨t2, step t2 ?_, b1⟩
    rw [hT]
    exact a1
  · cases hw
theorem kj_objInit (hC : kC X own cc nL ret) {idx a : Nat} (hd : decode cc pc = .ok (.invokespecial idx, 3)) (hl0 : Cond.methodLink own idx Lib.objectInit ∈ kT) (hi : Cond.instanceMethod Lib.objectInit ∈ kT) (hc : Cond.code Lib.objectInit ⟨#[0xb1]⟩ 1 none ∈ kT) (hcat : (st.map kcat).sum ≤ 8) (hD : 1 ≤ xD X) (kk : kJ X enc nL cells slots L st (pc + 3) h w) : kJ X enc nL cells slots L (.inr (.inr (some a)) :: st) pc h w := by
  intro r h' hw ρ H locs ls hI hl hk
  have hts : ∀ w ∈ kT, w.before (xar X) (xs X) = true := hC.2.2.2.2.2.2.1
  obtain ⟨r1, r2, -, -⟩ := hC.2.2.2.2.2.2.2.2.2.2.2
  refine W.objInit hC.1 hC.2.1 hC.2.2.2.2.2.1 (hts _ hl0) (hts _ hi) (hts _ hc) rfl (by rw [hC.2.2.1]; exact hl.1) rfl hd (Nat.le_trans hD r1) ?_ (kk r h' hw ρ H locs ls hI hl hk.tail)
  have h9 := lv_room (m := xm X) (pc := pc) (ls := ls) (rest := (.inr (.inr (some a)) :: st : List KV).map (ktr ρ)) (st := st.map (ktr ρ)) (by rw [kcat_sum]; exact hcat)
  show 2 * (F0 (xm X) pc ls ((.inr (.inr (some a)) :: st : List KV).map (ktr ρ))).monitorRoom + ((st.map (ktr ρ)).map fun v => v.category).sum + 12 ≤ _
  omega
theorem kj_min (hC : kC X own cc nL ret) {idx : Nat} {x y : Int32} (hd : decode cc pc = .ok (.invokestatic idx, 3)) (hl0 : Cond.methodLink own idx Lib.Math.min.name ∈ kT) (hs : Cond.static Lib.Math.min.name ∈ kT) (hi : Cond.initialized "java/lang/Math" ∈ kT) (hc : Cond.code Lib.Math.min.name Lib.Math.min.code 2 (some .int) ∈ kT) (hcat : (st.map kcat).sum ≤ 8) (hD : 1 ≤ xD X) (hcs : cells ≤ xmc X ∧ slots ≤ xms X) (kk : kJ X enc nL cells slots L (.inl (if y < x then y else x) :: st) (pc + 3) h w) : kJ X enc nL cells slots L (.inl y :: .inl x :: st) pc h w := by
  intro r h' hw ρ H locs ls hI hl hk
  have hts : ∀ w ∈ kT, w.before (xar X) (xs X) = true := hC.2.2.2.2.2.2.1
  obtain ⟨r1, r2, r3, r4⟩ := hC.2.2.2.2.2.2.2.2.2.2.2
  exact va_mmin hC.1 hC.2.1 (by rw [hC.2.2.1]; exact hl.1.symm) hC.2.2.2.2.2.1 (hts _ hl0) (hts _ hs) (hts _ hi) (hts _ hc) (Nat.le_trans hD r1) (by rw [kcat_sum]; omega) (Nat.le_trans hcs.1 r3) (Nat.le_trans hcs.2 r4) hd (kk r h' hw ρ H locs ls hI hl (hk.tail.tail.push (kOk_i _ _)))
end KALLOC
end
section
/-! exceptions made and thrown, out of a method without a table -/
def kNm : List String := ["java/lang/RuntimeException", "java/lang/Exception"]
def kEx3 : List String := ["java/lang/IllegalArgumentException", "java/lang/IllegalStateException", "java/lang/IndexOutOfBoundsException"]
def kthA (E : String) : List Cond := vx_atS RX9 350 E kNm
theorem kth_in (own : String) (ic : Nat) (E : String) : ∀ w ∈ vx_atS own ic E kNm, w = .methodLink own ic (Bundle.initS E) ∨ w ∈ kthA E := by
  intro w hw
  unfold vx_atS at hw
  obtain ⟨h1, h2⟩ := List.mem_filter.mp hw
  by_cases hm : w = .methodLink own ic (Bundle.initS E)
  · exact Or.inl hm
  · refine Or.inr (List.mem_filter.mpr ⟨?_, h2⟩)
    unfold Bundle.ownAtoms at h1 ⊢
    rcases List.mem_append.mp h1 with h3 | h3
    · exact List.mem_append_left _ h3
    · refine List.mem_append_right _ ?_
      rcases List.mem_cons.mp h3 with rfl | h3
      · exact absurd rfl hm
      · exact List.mem_cons_of_mem _ h3
def kthN (w : Cond) : Bool := match w with
  | .castable .. => true
  | .declares .. => true
  | _ => false
theorem kth_words : ∀ E ∈ kEx3, ∀ w ∈ kthA E, w = .methodLink RX9 350 (Bundle.initS E) ∨ w ∈ kT ∨ w ∈ kNest := by
  have h : (kEx3.all fun E => (kthA E).all fun w => decide (w = .methodLink RX9 350 (Bundle.initS E)) || (decide (w ∈ lw_tbl) && (goodWord w || kthN w))) = true := by decide +kernel
  intro E hE w hw
  have h1 := List.all_eq_true.mp (List.all_eq_true.mp h E hE) w hw
  simp only [Bool.or_eq_true, Bool.and_eq_true, decide_eq_true_eq] at h1
  rcases h1 with h1 | ⟨h1, h2 | h2⟩
  · exact Or.inl h1
  · exact Or.inr (Or.inl (List.mem_filter.mpr ⟨h1, h2⟩))
  · refine Or.inr (Or.inr (List.mem_filter.mpr ⟨h1, ?_⟩))
    cases w <;> first
      | (cases h2; done)
      | rfl
theorem kth_fit : ∀ E ∈ kEx3, Bundle.fit E = true := by decide +kernel
theorem kth_fit2 : ∀ n ∈ kNm, Bundle.fit n = true := by decide +kernel
theorem kth_ot : ∀ E ∈ kEx3, ∀ w ∈ kthA E, vx_ot w = true := by decide +kernel
section KTHROW
variable {α β : Type} {X : KX} {enc : α → Option KV} {own : String} {cc : ByteArray} {nL : Nat} {ret : Option FieldType} {cells slots : Nat} {L : List (Nat × KV)} {st : List KV} {pc : Nat} {h : KH} {w : KO α}
theorem kth_hat (hC : kC X own cc nL ret) {ic : Nat} {E : String} (hE : E ∈ kEx3) (hm : Cond.methodLink own ic (Bundle.initS E) ∈ kT) (ho : own = RX9) : ∀ w ∈ vx_atS own ic E kNm, w.before (xar X) (xs X) = true := by
  intro w hw
  have hts : ∀ w ∈ kT, w.before (xar X) (xs X) = true := hC.2.2.2.2.2.2.1
  rcases kth_in own ic E w hw with rfl | hw'
  · exact hts _ hm
  · by_cases hz : w = .methodLink RX9 350 (Bundle.initS E)
    · subst hz
      subst ho
      unfold vx_atS at hw
      have h1 := (List.mem_filter.mp hw).1
      rcases kth_words E hE _ hw' with _ | h2 | h2
      · by_cases hq : (Cond.methodLink RX9 350 (Bundle.initS E)) = .methodLink RX9 ic (Bundle.initS E)
        · rw [hq]
          exact hts _ hm
        · unfold Bundle.ownAtoms at h1
          rcases List.mem_append.mp h1 with h3 | h3
          · exfalso
            have h4 : ∀ E ∈ kEx3, (Cond.methodLink RX9 350 (Bundle.initS E)) ∉ Bundle.throwableAtoms ++ Bundle.throwableSAtoms ++ Bundle.chainSAtoms E kNm := by decide +kernel
            exact h4 E hE h3
          · exfalso
            rcases List.mem_cons.mp h3 with h5 | h5
            · exact hq h5
            · have h4 : ∀ E ∈ kEx3, (Cond.methodLink RX9 350 (Bundle.initS E)) ∉ ([.instantiable E 6, .castable E E, .selects E Bundle.tFill0 Bundle.tFill0, .selects E Bundle.tFill Bundle.tFill,
   .lays E Bundle.tN "cause" "Ljava/lang/Throwable;", .lays E Bundle.tN "stackTrace" Bundle.steD, .lays E Bundle.tN "suppressedExceptions" Bundle.listD, .lays E Bundle.tN "detailMessage" "Ljava/lang/String;",
   .isRef (.static Bundle.tN "UNASSIGNED_STACK" Bundle.steD), .isRef (.static Bundle.tN "SUPPRESSED_SENTINEL" Bundle.listD),
   .fieldLink Bundle.tN 198 Bundle.tN "backtrace" "Ljava/lang/Object;", .lays Bundle.tN Bundle.tN "backtrace" "Ljava/lang/Object;", .lays E Bundle.tN "backtrace" "Ljava/lang/Object;"] : List Cond) := by decide +kernel
              exact h4 E hE h5
      · exact hts _ h2
      · exact va_Nw.use rfl (hC.2.2.2.2.2.2.2.1.2.2.1 _ h2)
    · rcases kth_words E hE w hw' with h1 | h1 | h1
      · exact absurd h1 hz
      · exact hts _ h1
      · have h2 := hC.2.2.2.2.2.2.2.1.2.2.1 _ h1
        have h3 := (List.mem_filter.mp h1).2
        cases w <;> first
          | (cases h3; done)
          | exact va_Nw.use rfl h2
theorem kth_good {ic ik : Nat} {E : String} (hE : E ∈ kEx3) (hk : Cond.classLink own ik E ∈ kT) (hi : Cond.initialized E ∈ kT) (hm : Cond.methodLink own ic (Bundle.initS E) ∈ kT) : ∀ w ∈ Cond.classLink own ik E :: Cond.initialized E :: vx_atS own ic E kNm, vx_ot w = true := by
  have hg : ∀ w ∈ kT, vx_ot w = true := fun w hw => by
    unfold vx_ot
    rw [(List.mem_filter.mp hw).2, Bool.or_true]
  intro w hw
  rcases List.mem_cons.mp hw with rfl | hw
  · exact hg _ hk
  · rcases List.mem_cons.mp hw with rfl | hw
    · exact hg _ hi
    · rcases kth_in own ic E w hw with rfl | hw
      · exact hg _ hm
      · exact kth_ot E hE w hw
theorem kth_end (hC : kC X own cc nL ret) {ρ : Nat → Nat} {H : Heap} {locs : List Loc} {e : Nat} (hI : kInv X ρ h H locs) {r : Nat ⊕ α} {h' : KH} (hw : (kthrow e h : KO α) = some (r, h')) : ∀ t : State, (xs X).vm.Alike t.vm → H.size ≤ t.heap.size → (∀ q : Nat, q < H.size → t.heap[q]? = H[q]?) → kXC (xG X) (xA X) (xh X) (xr X) r h' (kEx e) (xs X) t := by
  cases hw
  obtain ⟨i1, i2, i3, i4, i5⟩ := hI
  intro t _ hz ho
  refine ⟨e, ρ, rfl, rfl, ⟨fun a ha => ⟨Nat.lt_of_lt_of_le (i1.1 a ha).1 hz, (i1.1 a ha).2.same rfl rfl rfl (fun _ _ => rfl) (ho _ (i1.1 a ha).1)⟩, i1.2.1, i1.2.2⟩, i4, i5, Nat.le_trans i2.1 hz, fun q h1 h2 => ?_⟩
  rw [ho q (Nat.lt_of_lt_of_le h1 i2.1)]
  exact i2.2.1 q h1 h2
theorem kj_throw (hC : kC X own cc nL ret) (hT : kT0 X) {ik is ic e : Nat} {tx : String} (he : kEx e ∈ kEx3) (ho : own = RX9) (hk : Cond.classLink own ik (kEx e) ∈ kT) (hi : Cond.initialized (kEx e) ∈ kT) (hm : Cond.methodLink own ic (Bundle.initS (kEx e)) ∈ kT) (hs : Cond.stringRef own is tx ∈ lw_tbl)
    (d0 : decode cc pc = .ok (.new ik, 3)) (d3 : decode cc (pc + 3) = .ok (.dup, 1)) (d4 : decode cc (pc + 4) = .ok (.ldc is, 2)) (d6 : decode cc (pc + 6) = .ok (.invokespecial ic, 3)) (d9 : decode cc (pc + 9) = .ok (.athrow, 1))
    (hcat : (st.map kcat).sum ≤ 8) (hD : 6 ≤ xD X) (hb : cells + 1 ≤ xmc X ∧ slots + 6 ≤ xms X) : kJ X enc nL cells slots L st pc h (kthrow e h) := by
  intro r h' hw ρ H locs ls hI hl hko
  have hts : ∀ w ∈ kT, w.before (xar X) (xs X) = true := hC.2.2.2.2.2.2.1
  obtain ⟨r1, r2, r3, r4⟩ := hC.2.2.2.2.2.2.2.2.2.2.2
  obtain ⟨z1, z2⟩ := hC.2.2.2.2.2.2.2.2.1
  obtain ⟨sa, hsa⟩ := hC.2.2.2.2.2.2.2.1.2.2.2.2.2.1 own is tx hs
  exact vx_throwS (names := kNm) (sa := sa) (text := tx) hC.1 hC.2.1 hC.2.2.2.2.2.2.2.2.2.1 hC.2.2.2.2.2.1 (kth_fit _ he) kth_fit2 (hts _ hk) (hts _ hi) hsa (kth_hat hC he hm ho) (kth_good he hk hi hm) z1 z2 hI.2.1 (by rw [hC.2.2.1]; exact hl.1) d0 d3 d4 d6 d9 (fun x hx => (hT x hx).elim)
    (by show 2 + 3 < _; omega) (by rw [kcat_sum]; show _ + (13 * (2 + 1) + 43) ≤ _; omega) (Nat.le_trans hb.1 r3) (Nat.le_trans hb.2 r4) hC.2.2.2.2.1 (kth_end hC hI hw) hI.2.1.2.2 hb.1 hb.2
theorem kj_throwW (hC : kC X own cc nL ret) (hT : kT0 X) {ik is ic e : Nat} {tx : String} (he : kEx e ∈ kEx3) (ho : own = RX9) (hk : Cond.classLink own ik (kEx e) ∈ kT) (hi : Cond.initialized (kEx e) ∈ kT) (hm : Cond.methodLink own ic (Bundle.initS (kEx e)) ∈ kT) (hs : Cond.stringRef own is tx ∈ lw_tbl)
    (d0 : decode cc pc = .ok (.new ik, 3)) (d3 : decode cc (pc + 3) = .ok (.dup, 1)) (d4 : decode cc (pc + 4) = .ok (.ldc_w is, 3)) (d6 : decode cc (pc + 7) = .ok (.invokespecial ic, 3)) (d9 : decode cc (pc + 10) = .ok (.athrow, 1))
    (hcat : (st.map kcat).sum ≤ 8) (hD : 6 ≤ xD X) (hb : cells + 1 ≤ xmc X ∧ slots + 6 ≤ xms X) : kJ X enc nL cells slots L st pc h (kthrow e h) := by
  intro r h' hw ρ H locs ls hI hl hko
  have hts : ∀ w ∈ kT, w.before (xar X) (xs X) = true := hC.2.2.2.2.2.2.1
  obtain ⟨r1, r2, r3, r4⟩ := hC.2.2.2.2.2.2.2.2.2.2.2
  obtain ⟨z1, z2⟩ := hC.2.2.2.2.2.2.2.2.1
  obtain ⟨sa, hsa⟩ := hC.2.2.2.2.2.2.2.1.2.2.2.2.2.1 own is tx hs
  exact vx_throwSW (names := kNm) (sa := sa) (text := tx) hC.1 hC.2.1 hC.2.2.2.2.2.2.2.2.2.1 hC.2.2.2.2.2.1 (kth_fit _ he) kth_fit2 (hts _ hk) (hts _ hi) hsa (kth_hat hC he hm ho) (kth_good he hk hi hm) z1 z2 hI.2.1 (by rw [hC.2.2.1]; exact hl.1) d0 d3 d4 d6 d9 (fun x hx => (hT x hx).elim)
    (by show 2 + 3 < _; omega) (by rw [kcat_sum]; show _ + (13 * (2 + 1) + 43) ≤ _; omega) (Nat.le_trans hb.1 r3) (Nat.le_trans hb.2 r4) hC.2.2.2.2.1 (kth_end hC hI hw) hI.2.1.2.2 hb.1 hb.2
end KTHROW
end
